abbrev v_X11_act_0 (r : Option Value) (I' : Nat → Nat → Int32) (L' : Nat → Nat → Int64) (I : Nat → Nat → Int32) (L : Nat → Nat → Int64) (x1 : Int32) (x2 : Int32) (x3 : Int32) : Prop := q_W kX11_act 0 [(0, .ref 0), (1, .int x1), (2, .int x2), (3, .int x3)] [] I L r I' L'
set_option maxRecDepth 20000 in
set_option maxHeartbeats 2000000 in
theorem vc_X11_act_0 {r : Option Value} {I' : Nat → Nat → Int32} {L' : Nat → Nat → Int64} {I : Nat → Nat → Int32} {L : Nat → Nat → Int64} {x1 : Int32} {x2 : Int32} {x3 : Int32} (h : (((I 21 0) < 30 → (∃ I1, q_C kX0_add [.ref 21, .int x1, .int x2, .int x3] I L none I1 L ∧ (∃ I2, q_C kX11_unsettle [.ref 0] I1 L none I2 L ∧ (∃ I3, q_C kX11_settledCourse [.ref 0] I2 L (some (.ref 75)) I3 L ∧ (vp_in (I3 12 1) 13 ∧ (∃ r4, q_C kJ6_bitCount_0f7a4 [.int (I3 76 ((I3 12 1) : Int32).toNatClampNeg)] I3 L (some (.int r4)) I3 L ∧ (r = some (.int r4) ∧ I' = I3 ∧ L' = L))))))) ∧ (¬ (I 21 0) < 30 → (r = some (.int (-5)) ∧ I' = I ∧ L' = L)))) : v_X11_act_0 r I' L' I L x1 x2 x3 := by
  intro w g K
  have K1 := K.1
  refine g_aload_n K1 0 dX11_act_0 rfl ?_
  refine h_getO K1 q_clX11 6 21 lyp_0 fkX11_6 rfl fl_X11_42 dX11_act_1 ?_
  refine h_getI K1 q_clX0 0 lyp_21 fkX0_0 fl_X11_136 dX11_act_4 ?_
  refine g_bipush K1 30 dX11_act_7 rfl ?_
  refine g_icmp_lt K1 15 dX11_act_9 rfl (fun hc => ?_) (fun hc => ?_)
  · replace h := h.1 hc
    refine g_aload_n K1 0 dX11_act_15 rfl ?_
    refine h_getO K1 q_clX11 6 21 lyp_0 fkX11_6 rfl fl_X11_42 dX11_act_16 ?_
    refine g_iload_n K1 1 dX11_act_19 rfl ?_
    refine g_iload_n K1 2 dX11_act_20 rfl ?_
    refine g_iload_n K1 3 dX11_act_21 rfl ?_
    obtain ⟨I1, hct, h⟩ := h
    refine h_callV K1 (st := []) [.int x1, .int x2, .int x3] (hct w (gl g)) q_clX0 lyp_21 rfl ok_X0_add ml_X11_370 ⟨Nat.le_of_ble_eq_true rfl, Nat.le_of_ble_eq_true rfl⟩ (Nat.le_of_ble_eq_true rfl) dX11_act_22 ?_
    show q_Gs w g 25 [(0, .ref 0), (1, .int x1), (2, .int x2), (3, .int x3)] [] (q_mm I1 L)
    refine g_aload_n K1 0 dX11_act_25 rfl ?_
    obtain ⟨I2, hct, h⟩ := h
    refine h_callV K1 (st := []) [] (hct w (gl g)) q_clX11 lyp_0 rfl ok_X11_unsettle ml_X11_139 ⟨Nat.le_of_ble_eq_true rfl, Nat.le_of_ble_eq_true rfl⟩ (Nat.le_of_ble_eq_true rfl) dX11_act_26 ?_
    show q_Gs w g 29 [(0, .ref 0), (1, .int x1), (2, .int x2), (3, .int x3)] [] (q_mm I2 L)
    refine g_aload_n K1 0 dX11_act_29 rfl ?_
    obtain ⟨I3, hct, h⟩ := h
    refine h_callV K1 (st := []) [] (hct w (gl g)) q_clX11 lyp_0 rfl ok_X11_settledCourse ml_X11_179 ⟨Nat.le_of_ble_eq_true rfl, Nat.le_of_ble_eq_true rfl⟩ (Nat.le_of_ble_eq_true rfl) dX11_act_30 ?_
    show q_Gs w g 33 [(0, .ref 0), (1, .int x1), (2, .int x2), (3, .int x3)] [.ref 75] (q_mm I3 L)
    refine h_getO K1 q_clX3 0 76 lyp_75 fkX3_0 rfl fl_X11_183 dX11_act_33 ?_
    refine g_aload_n K1 0 dX11_act_36 rfl ?_
    refine h_getO K1 q_clX11 5 12 lyp_0 fkX11_5 rfl fl_X11_35 dX11_act_37 ?_
    refine h_getI K1 q_clX5 1 lyp_12 fkX5_1 fl_X11_203 dX11_act_40 ?_
    obtain ⟨hg, h⟩ := h
    refine h_iaload K1 lyp_76 hg dX11_act_43 ?_
    obtain ⟨r4, hct, h⟩ := h
    refine h_callS K1 (st := []) [.int (I3 76 ((I3 12 1) : Int32).toNatClampNeg)] (hct w (gl g)) ok_J6_bitCount_0f7a4 ml_X11_292 ⟨Nat.le_of_ble_eq_true rfl, Nat.le_of_ble_eq_true rfl⟩ (Nat.le_of_ble_eq_true rfl) dX11_act_44 ?_
    show q_Gs w g 47 [(0, .ref 0), (1, .int x1), (2, .int x2), (3, .int x3)] [.int r4] (q_mm I3 L)
    obtain ⟨hr, hI, hL⟩ := h
    subst hr hI hL
    exact g_ireturn K rfl dX11_act_47
  · replace h := h.2 hc
    refine g_bipush K1 (-5) dX11_act_12 rfl ?_
    obtain ⟨hr, hI, hL⟩ := h
    subst hr hI hL
    exact g_ireturn K rfl dX11_act_14
theorem c0_X11_act {r : Option Value} {I I' : Nat → Nat → Int32} {L L' : Nat → Nat → Int64} {x1 : Int32} {x2 : Int32} {x3 : Int32} (h : v_X11_act_0 r I' L' I L x1 x2 x3) : q_C kX11_act [.ref 0, .int x1, .int x2, .int x3] I L r I' L' := fun w l => q_ct (by decide) (Nat.le_of_ble_eq_true rfl) (Nat.le_refl _) (fun g _ K => h w g K)
abbrev v_X11_alike_0 (r : Option Value) (I' : Nat → Nat → Int32) (L' : Nat → Nat → Int64) (I : Nat → Nat → Int32) (L : Nat → Nat → Int64) (x1 : Int32) (x2 : Int32) : Prop := q_W kX11_alike 0 [(0, .ref 0), (1, .int x1), (2, .int x2)] [] I L r I' L'
set_option maxRecDepth 20000 in
set_option maxHeartbeats 2000000 in
theorem vc_X11_alike_0 {r : Option Value} {I' : Nat → Nat → Int32} {L' : Nat → Nat → Int64} {I : Nat → Nat → Int32} {L : Nat → Nat → Int64} {x1 : Int32} {x2 : Int32} (h : (∃ r1, q_C kX11_noPew [.ref 0, .int x1] I L (some (.int r1)) I L ∧ ((r1 = 0 → (∃ r2, q_C kX11_noHour [.ref 0, .int x2] I L (some (.int r2)) I L ∧ ((r2 = 0 → (∃ I3, q_C kX11_settledCourse [.ref 0] I L (some (.ref 75)) I3 L ∧ (∃ r4, q_C kX3_sayingSame [.ref 75, .int x1, .int x2] I3 L (some (.int r4)) I3 L ∧ (r = some (.int r4) ∧ I' = I3 ∧ L' = L)))) ∧ (¬ r2 = 0 → (r = some (.int (-2)) ∧ I' = I ∧ L' = L))))) ∧ (¬ r1 = 0 → (r = some (.int (-2)) ∧ I' = I ∧ L' = L))))) : v_X11_alike_0 r I' L' I L x1 x2 := by
  intro w g K
  have K1 := K.1
  refine g_aload_n K1 0 dX11_alike_0 rfl ?_
  refine g_iload_n K1 1 dX11_alike_1 rfl ?_
  obtain ⟨r1, hct, h⟩ := h
  refine h_callV K1 (st := []) [.int x1] (hct w (gl g)) q_clX11 lyp_0 rfl ok_X11_noPew ml_X11_145 ⟨Nat.le_of_ble_eq_true rfl, Nat.le_of_ble_eq_true rfl⟩ (Nat.le_of_ble_eq_true rfl) dX11_alike_2 ?_
  show q_Gs w g 5 [(0, .ref 0), (1, .int x1), (2, .int x2)] [.int r1] (q_mm I L)
  refine g_if_ne K1 16 dX11_alike_5 rfl (fun hc => ?_) (fun hc => ?_)
  · replace h := h.2 hc
    refine g_bipush K1 (-2) dX11_alike_16 rfl ?_
    obtain ⟨hr, hI, hL⟩ := h
    subst hr hI hL
    exact g_ireturn K rfl dX11_alike_18
  · replace h := h.1 hc
    refine g_aload_n K1 0 dX11_alike_8 rfl ?_
    refine g_iload_n K1 2 dX11_alike_9 rfl ?_
    obtain ⟨r2, hct, h⟩ := h
    refine h_callV K1 (st := []) [.int x2] (hct w (gl g)) q_clX11 lyp_0 rfl ok_X11_noHour ml_X11_176 ⟨Nat.le_of_ble_eq_true rfl, Nat.le_of_ble_eq_true rfl⟩ (Nat.le_of_ble_eq_true rfl) dX11_alike_10 ?_
    show q_Gs w g 13 [(0, .ref 0), (1, .int x1), (2, .int x2)] [.int r2] (q_mm I L)
    refine g_if_eq K1 19 dX11_alike_13 rfl (fun hc => ?_) (fun hc => ?_)
    · replace h := h.1 hc
      refine g_aload_n K1 0 dX11_alike_19 rfl ?_
      obtain ⟨I3, hct, h⟩ := h
      refine h_callV K1 (st := []) [] (hct w (gl g)) q_clX11 lyp_0 rfl ok_X11_settledCourse ml_X11_179 ⟨Nat.le_of_ble_eq_true rfl, Nat.le_of_ble_eq_true rfl⟩ (Nat.le_of_ble_eq_true rfl) dX11_alike_20 ?_
      show q_Gs w g 23 [(0, .ref 0), (1, .int x1), (2, .int x2)] [.ref 75] (q_mm I3 L)
      refine g_iload_n K1 1 dX11_alike_23 rfl ?_
      refine g_iload_n K1 2 dX11_alike_24 rfl ?_
      obtain ⟨r4, hct, h⟩ := h
      refine h_callV K1 (st := []) [.int x1, .int x2] (hct w (gl g)) q_clX3 lyp_75 rfl ok_X3_sayingSame ml_X11_224 ⟨Nat.le_of_ble_eq_true rfl, Nat.le_of_ble_eq_true rfl⟩ (Nat.le_of_ble_eq_true rfl) dX11_alike_25 ?_
      show q_Gs w g 28 [(0, .ref 0), (1, .int x1), (2, .int x2)] [.int r4] (q_mm I3 L)
      obtain ⟨hr, hI, hL⟩ := h
      subst hr hI hL
      exact g_ireturn K rfl dX11_alike_28
    · replace h := h.2 hc
      refine g_bipush K1 (-2) dX11_alike_16 rfl ?_
      obtain ⟨hr, hI, hL⟩ := h
      subst hr hI hL
      exact g_ireturn K rfl dX11_alike_18
theorem c0_X11_alike {r : Option Value} {I I' : Nat → Nat → Int32} {L L' : Nat → Nat → Int64} {x1 : Int32} {x2 : Int32} (h : v_X11_alike_0 r I' L' I L x1 x2) : q_C kX11_alike [.ref 0, .int x1, .int x2] I L r I' L' := fun w l => q_ct (by decide) (Nat.le_of_ble_eq_true rfl) (Nat.le_refl _) (fun g _ K => h w g K)
abbrev v_X11_anew_0 (r : Option Value) (I' : Nat → Nat → Int32) (L' : Nat → Nat → Int64) (I : Nat → Nat → Int32) (L : Nat → Nat → Int64)  : Prop := q_W kX11_anew 0 [(0, .ref 0)] [] I L r I' L'
set_option maxRecDepth 20000 in
set_option maxHeartbeats 2000000 in
theorem vc_X11_anew_0 {r : Option Value} {I' : Nat → Nat → Int32} {L' : Nat → Nat → Int64} {I : Nat → Nat → Int32} {L : Nat → Nat → Int64}  (h : (∃ r1, q_C kX11_noNight [.ref 0] I L (some (.int r1)) I L ∧ ((r1 = 0 → (∃ I2, q_C kX11_unsettle [.ref 0] (up2 I 21 0 0) L none I2 L ∧ (r = some (.int (I 21 0)) ∧ I' = I2 ∧ L' = L))) ∧ (¬ r1 = 0 → (r = some (.int (-2)) ∧ I' = I ∧ L' = L))))) : v_X11_anew_0 r I' L' I L  := by
  intro w g K
  have K1 := K.1
  refine g_aload_n K1 0 dX11_anew_0 rfl ?_
  obtain ⟨r1, hct, h⟩ := h
  refine h_callV K1 (st := []) [] (hct w (gl g)) q_clX11 lyp_0 rfl ok_X11_noNight ml_X11_210 ⟨Nat.le_of_ble_eq_true rfl, Nat.le_of_ble_eq_true rfl⟩ (Nat.le_of_ble_eq_true rfl) dX11_anew_1 ?_
  show q_Gs w g 4 [(0, .ref 0)] [.int r1] (q_mm I L)
  refine g_if_eq K1 10 dX11_anew_4 rfl (fun hc => ?_) (fun hc => ?_)
  · replace h := h.1 hc
    refine g_aload_n K1 0 dX11_anew_10 rfl ?_
    refine h_getO K1 q_clX11 6 21 lyp_0 fkX11_6 rfl fl_X11_42 dX11_anew_11 ?_
    refine h_getI K1 q_clX0 0 lyp_21 fkX0_0 fl_X11_136 dX11_anew_14 ?_
    refine g_istore_n K1 dX11_anew_17 rfl (by decide) rfl ?_
    refine g_aload_n K1 1 dX11_anew_18 rfl ?_
    refine h_getO K1 q_clX11 6 21 lyp_0 fkX11_6 rfl fl_X11_42 dX11_anew_19 ?_
    refine g_iconst K1 0 dX11_anew_22 rfl ?_
    refine h_putI K1 q_clX0 0 lyp_21 fkX0_0 fl_X11_136 rfl rfl rfl dX11_anew_23 ?_
    refine g_aload_n K1 1 dX11_anew_26 rfl ?_
    obtain ⟨I2, hct, h⟩ := h
    refine h_callV K1 (st := []) [] (hct w (gl g)) q_clX11 lyp_0 rfl ok_X11_unsettle ml_X11_139 ⟨Nat.le_of_ble_eq_true rfl, Nat.le_of_ble_eq_true rfl⟩ (Nat.le_of_ble_eq_true rfl) dX11_anew_27 ?_
    show q_Gs w g 30 [(1, .int (I 21 0)), (0, .ref 0)] [] (q_mm I2 L)
    refine g_iload_n K1 0 dX11_anew_30 rfl ?_
    obtain ⟨hr, hI, hL⟩ := h
    subst hr hI hL
    exact g_ireturn K rfl dX11_anew_31
  · replace h := h.2 hc
    refine g_bipush K1 (-2) dX11_anew_7 rfl ?_
    obtain ⟨hr, hI, hL⟩ := h
    subst hr hI hL
    exact g_ireturn K rfl dX11_anew_9
theorem c0_X11_anew {r : Option Value} {I I' : Nat → Nat → Int32} {L L' : Nat → Nat → Int64}  (h : v_X11_anew_0 r I' L' I L ) : q_C kX11_anew [.ref 0] I L r I' L' := fun w l => q_ct (by decide) (Nat.le_of_ble_eq_true rfl) (Nat.le_refl _) (fun g _ K => h w g K)
abbrev v_X11_ask_0 (r : Option Value) (I' : Nat → Nat → Int32) (L' : Nat → Nat → Int64) (I : Nat → Nat → Int32) (L : Nat → Nat → Int64) (x1 : Int32) : Prop := q_W kX11_ask 0 [(0, .ref 0), (1, .int x1)] [] I L r I' L'
set_option maxRecDepth 20000 in
set_option maxHeartbeats 2000000 in
theorem vc_X11_ask_0 {r : Option Value} {I' : Nat → Nat → Int32} {L' : Nat → Nat → Int64} {I : Nat → Nat → Int32} {L : Nat → Nat → Int64} {x1 : Int32} (h : (∃ r1, q_C kX11_originRefusal [.ref 0, .int x1] I L (some (.int r1)) I L ∧ ((r1 = 0 → (∃ r2 I3, q_C kX2_origins [.ref 92, .int x1] I L (some (.int r2)) I3 L ∧ (∃ I4, q_C kX2_chooseQuestion [.ref 92, .int r2] I3 L none I4 L ∧ (r = some (.int (I4 92 0)) ∧ I' = I4 ∧ L' = L)))) ∧ (¬ r1 = 0 → (r = some (.int r1) ∧ I' = I ∧ L' = L))))) : v_X11_ask_0 r I' L' I L x1 := by
  intro w g K
  have K1 := K.1
  refine g_aload_n K1 0 dX11_ask_0 rfl ?_
  refine g_iload_n K1 1 dX11_ask_1 rfl ?_
  obtain ⟨r1, hct, h⟩ := h
  refine h_callV K1 (st := []) [.int x1] (hct w (gl g)) q_clX11 lyp_0 rfl ok_X11_originRefusal ml_X11_306 ⟨Nat.le_of_ble_eq_true rfl, Nat.le_of_ble_eq_true rfl⟩ (Nat.le_of_ble_eq_true rfl) dX11_ask_2 ?_
  show q_Gs w g 5 [(0, .ref 0), (1, .int x1)] [.int r1] (q_mm I L)
  refine g_istore_n K1 dX11_ask_5 rfl (by decide) rfl ?_
  refine g_iload_n K1 0 dX11_ask_6 rfl ?_
  refine g_if_eq K1 12 dX11_ask_7 rfl (fun hc => ?_) (fun hc => ?_)
  · replace h := h.1 hc
    refine g_aload_n K1 1 dX11_ask_12 rfl ?_
    refine h_getO K1 q_clX11 16 92 lyp_0 fkX11_16 rfl fl_X11_105 dX11_ask_13 ?_
    refine g_aload_n K1 1 dX11_ask_16 rfl ?_
    refine h_getO K1 q_clX11 16 92 lyp_0 fkX11_16 rfl fl_X11_105 dX11_ask_17 ?_
    refine g_iload_n K1 2 dX11_ask_20 rfl ?_
    obtain ⟨r2, I3, hct, h⟩ := h
    refine h_callV K1 (st := [.ref 92]) [.int x1] (hct w (gl g)) q_clX2 lyp_92 rfl ok_X2_origins ml_X11_309 ⟨Nat.le_of_ble_eq_true rfl, Nat.le_of_ble_eq_true rfl⟩ (Nat.le_of_ble_eq_true rfl) dX11_ask_21 ?_
    show q_Gs w g 24 [(2, .int r1), (0, .ref 0), (1, .int x1)] [.int r2, .ref 92] (q_mm I3 L)
    obtain ⟨I4, hct, h⟩ := h
    refine h_callV K1 (st := []) [.int r2] (hct w (gl g)) q_clX2 lyp_92 rfl ok_X2_chooseQuestion ml_X11_312 ⟨Nat.le_of_ble_eq_true rfl, Nat.le_of_ble_eq_true rfl⟩ (Nat.le_of_ble_eq_true rfl) dX11_ask_24 ?_
    show q_Gs w g 27 [(2, .int r1), (0, .ref 0), (1, .int x1)] [] (q_mm I4 L)
    refine g_aload_n K1 1 dX11_ask_27 rfl ?_
    refine h_getO K1 q_clX11 16 92 lyp_0 fkX11_16 rfl fl_X11_105 dX11_ask_28 ?_
    refine h_getI K1 q_clX2 0 lyp_92 fkX2_0 fl_X11_315 dX11_ask_31 ?_
    obtain ⟨hr, hI, hL⟩ := h
    subst hr hI hL
    exact g_ireturn K rfl dX11_ask_34
  · replace h := h.2 hc
    refine g_iload_n K1 0 dX11_ask_10 rfl ?_
    obtain ⟨hr, hI, hL⟩ := h
    subst hr hI hL
    exact g_ireturn K rfl dX11_ask_11
theorem c0_X11_ask {r : Option Value} {I I' : Nat → Nat → Int32} {L L' : Nat → Nat → Int64} {x1 : Int32} (h : v_X11_ask_0 r I' L' I L x1) : q_C kX11_ask [.ref 0, .int x1] I L r I' L' := fun w l => q_ct (by decide) (Nat.le_of_ble_eq_true rfl) (Nat.le_refl _) (fun g _ K => h w g K)
abbrev v_X11_back_0 (r : Option Value) (I' : Nat → Nat → Int32) (L' : Nat → Nat → Int64) (I : Nat → Nat → Int32) (L : Nat → Nat → Int64) (x1 : Int32) : Prop := q_W kX11_back 0 [(0, .ref 0), (1, .int x1)] [] I L r I' L'
set_option maxRecDepth 20000 in
set_option maxHeartbeats 2000000 in
theorem vc_X11_back_0 {r : Option Value} {I' : Nat → Nat → Int32} {L' : Nat → Nat → Int64} {I : Nat → Nat → Int32} {L : Nat → Nat → Int64} {x1 : Int32} (h : ((x1 < 0 → (r = some (.int (-2)) ∧ I' = I ∧ L' = L)) ∧ (¬ x1 < 0 → ((x1 < 3 → (vp_in x1 3 ∧ (((I 35 x1.toNatClampNeg) = 0 → (r = some (.int (-6)) ∧ I' = I ∧ L' = L)) ∧ (¬ (I 35 x1.toNatClampNeg) = 0 → (vp_in x1 3 ∧ ((x1 = 0 → (∃ I1, q_C kX5_take [.ref 12, .ref 36] I L none I1 L ∧ (vp_in x1 3 ∧ ((x1 = 0 → (∃ I2, q_C kX0_take [.ref 21, .ref 45] I1 L none I2 L ∧ (∃ I3, q_C kX11_unsettle [.ref 0] I2 L none I3 L ∧ (r = some (.int 0) ∧ I' = I3 ∧ L' = L)))) ∧ (x1 = 1 → (∃ I4, q_C kX0_take [.ref 21, .ref 58] I1 L none I4 L ∧ (∃ I5, q_C kX11_unsettle [.ref 0] I4 L none I5 L ∧ (r = some (.int 0) ∧ I' = I5 ∧ L' = L)))) ∧ (x1 = 2 → (∃ I6, q_C kX0_take [.ref 21, .ref 71] I1 L none I6 L ∧ (∃ I7, q_C kX11_unsettle [.ref 0] I6 L none I7 L ∧ (r = some (.int 0) ∧ I' = I7 ∧ L' = L)))))))) ∧ (x1 = 1 → (∃ I8, q_C kX5_take [.ref 12, .ref 49] I L none I8 L ∧ (vp_in x1 3 ∧ ((x1 = 0 → (∃ I9, q_C kX0_take [.ref 21, .ref 45] I8 L none I9 L ∧ (∃ I10, q_C kX11_unsettle [.ref 0] I9 L none I10 L ∧ (r = some (.int 0) ∧ I' = I10 ∧ L' = L)))) ∧ (x1 = 1 → (∃ I11, q_C kX0_take [.ref 21, .ref 58] I8 L none I11 L ∧ (∃ I12, q_C kX11_unsettle [.ref 0] I11 L none I12 L ∧ (r = some (.int 0) ∧ I' = I12 ∧ L' = L)))) ∧ (x1 = 2 → (∃ I13, q_C kX0_take [.ref 21, .ref 71] I8 L none I13 L ∧ (∃ I14, q_C kX11_unsettle [.ref 0] I13 L none I14 L ∧ (r = some (.int 0) ∧ I' = I14 ∧ L' = L)))))))) ∧ (x1 = 2 → (∃ I15, q_C kX5_take [.ref 12, .ref 62] I L none I15 L ∧ (vp_in x1 3 ∧ ((x1 = 0 → (∃ I16, q_C kX0_take [.ref 21, .ref 45] I15 L none I16 L ∧ (∃ I17, q_C kX11_unsettle [.ref 0] I16 L none I17 L ∧ (r = some (.int 0) ∧ I' = I17 ∧ L' = L)))) ∧ (x1 = 1 → (∃ I18, q_C kX0_take [.ref 21, .ref 58] I15 L none I18 L ∧ (∃ I19, q_C kX11_unsettle [.ref 0] I18 L none I19 L ∧ (r = some (.int 0) ∧ I' = I19 ∧ L' = L)))) ∧ (x1 = 2 → (∃ I20, q_C kX0_take [.ref 21, .ref 71] I15 L none I20 L ∧ (∃ I21, q_C kX11_unsettle [.ref 0] I20 L none I21 L ∧ (r = some (.int 0) ∧ I' = I21 ∧ L' = L)))))))))))))) ∧ (¬ x1 < 3 → (r = some (.int (-2)) ∧ I' = I ∧ L' = L)))))) : v_X11_back_0 r I' L' I L x1 := by
  intro w g K
  have K1 := K.1
  refine g_iload_n K1 1 dX11_back_0 rfl ?_
  refine g_if_lt K1 9 dX11_back_1 rfl (fun hc => ?_) (fun hc => ?_)
  · replace h := h.1 hc
    refine g_bipush K1 (-2) dX11_back_9 rfl ?_
    obtain ⟨hr, hI, hL⟩ := h
    subst hr hI hL
    exact g_ireturn K rfl dX11_back_11
  · replace h := h.2 hc
    refine g_iload_n K1 1 dX11_back_4 rfl ?_
    refine g_iconst K1 3 dX11_back_5 rfl ?_
    refine g_icmp_lt K1 12 dX11_back_6 rfl (fun hc => ?_) (fun hc => ?_)
    · replace h := h.1 hc
      refine g_aload_n K1 0 dX11_back_12 rfl ?_
      refine h_getO K1 q_clX11 10 35 lyp_0 fkX11_10 rfl fl_X11_61 dX11_back_13 ?_
      refine g_iload_n K1 1 dX11_back_16 rfl ?_
      obtain ⟨hg, h⟩ := h
      refine h_zaload K1 lyp_35 hg dX11_back_17 ?_
      refine g_if_ne K1 24 dX11_back_18 rfl (fun hc => ?_) (fun hc => ?_)
      · replace h := h.2 hc
        refine g_aload_n K1 0 dX11_back_24 rfl ?_
        refine h_getO K1 q_clX11 5 12 lyp_0 fkX11_5 rfl fl_X11_35 dX11_back_25 ?_
        refine g_aload_n K1 0 dX11_back_28 rfl ?_
        refine h_getO K1 q_clX11 8 33 lyp_0 fkX11_8 rfl fl_X11_53 dX11_back_29 ?_
        refine g_iload_n K1 1 dX11_back_32 rfl ?_
        obtain ⟨hg, h⟩ := h
        rcases vin3 hg with hj | hj | hj
        · replace h := h.1 hj
          refine h_aaloadK K1 36 lyp_33 (by omega) hg (by rw [hj]; rfl) dX11_back_33 ?_
          obtain ⟨I1, hct, h⟩ := h
          refine h_callV K1 (st := []) [.ref 36] (hct w (gl g)) q_clX5 lyp_12 rfl ok_X5_take ml_X11_132 ⟨Nat.le_of_ble_eq_true rfl, Nat.le_of_ble_eq_true rfl⟩ (Nat.le_of_ble_eq_true rfl) dX11_back_34 ?_
          show q_Gs w g 37 [(0, .ref 0), (1, .int x1)] [] (q_mm I1 L)
          refine g_aload_n K1 0 dX11_back_37 rfl ?_
          refine h_getO K1 q_clX11 6 21 lyp_0 fkX11_6 rfl fl_X11_42 dX11_back_38 ?_
          refine g_aload_n K1 0 dX11_back_41 rfl ?_
          refine h_getO K1 q_clX11 9 34 lyp_0 fkX11_9 rfl fl_X11_57 dX11_back_42 ?_
          refine g_iload_n K1 1 dX11_back_45 rfl ?_
          obtain ⟨hg, h⟩ := h
          rcases vin3 hg with hj | hj | hj
          · replace h := h.1 hj
            refine h_aaloadK K1 45 lyp_34 (by omega) hg (by rw [hj]; rfl) dX11_back_46 ?_
            obtain ⟨I2, hct, h⟩ := h
            refine h_callV K1 (st := []) [.ref 45] (hct w (gl g)) q_clX0 lyp_21 rfl ok_X0_take ml_X11_403 ⟨Nat.le_of_ble_eq_true rfl, Nat.le_of_ble_eq_true rfl⟩ (Nat.le_of_ble_eq_true rfl) dX11_back_47 ?_
            show q_Gs w g 50 [(0, .ref 0), (1, .int x1)] [] (q_mm I2 L)
            refine g_aload_n K1 0 dX11_back_50 rfl ?_
            obtain ⟨I3, hct, h⟩ := h
            refine h_callV K1 (st := []) [] (hct w (gl g)) q_clX11 lyp_0 rfl ok_X11_unsettle ml_X11_139 ⟨Nat.le_of_ble_eq_true rfl, Nat.le_of_ble_eq_true rfl⟩ (Nat.le_of_ble_eq_true rfl) dX11_back_51 ?_
            show q_Gs w g 54 [(0, .ref 0), (1, .int x1)] [] (q_mm I3 L)
            refine g_iconst K1 0 dX11_back_54 rfl ?_
            obtain ⟨hr, hI, hL⟩ := h
            subst hr hI hL
            exact g_ireturn K rfl dX11_back_55
          · replace h := h.2.1 hj
            refine h_aaloadK K1 58 lyp_34 (by omega) hg (by rw [hj]; rfl) dX11_back_46 ?_
            obtain ⟨I4, hct, h⟩ := h
            refine h_callV K1 (st := []) [.ref 58] (hct w (gl g)) q_clX0 lyp_21 rfl ok_X0_take ml_X11_403 ⟨Nat.le_of_ble_eq_true rfl, Nat.le_of_ble_eq_true rfl⟩ (Nat.le_of_ble_eq_true rfl) dX11_back_47 ?_
            show q_Gs w g 50 [(0, .ref 0), (1, .int x1)] [] (q_mm I4 L)
            refine g_aload_n K1 0 dX11_back_50 rfl ?_
            obtain ⟨I5, hct, h⟩ := h
            refine h_callV K1 (st := []) [] (hct w (gl g)) q_clX11 lyp_0 rfl ok_X11_unsettle ml_X11_139 ⟨Nat.le_of_ble_eq_true rfl, Nat.le_of_ble_eq_true rfl⟩ (Nat.le_of_ble_eq_true rfl) dX11_back_51 ?_
            show q_Gs w g 54 [(0, .ref 0), (1, .int x1)] [] (q_mm I5 L)
            refine g_iconst K1 0 dX11_back_54 rfl ?_
            obtain ⟨hr, hI, hL⟩ := h
            subst hr hI hL
            exact g_ireturn K rfl dX11_back_55
          · replace h := h.2.2 hj
            refine h_aaloadK K1 71 lyp_34 (by omega) hg (by rw [hj]; rfl) dX11_back_46 ?_
            obtain ⟨I6, hct, h⟩ := h
            refine h_callV K1 (st := []) [.ref 71] (hct w (gl g)) q_clX0 lyp_21 rfl ok_X0_take ml_X11_403 ⟨Nat.le_of_ble_eq_true rfl, Nat.le_of_ble_eq_true rfl⟩ (Nat.le_of_ble_eq_true rfl) dX11_back_47 ?_
            show q_Gs w g 50 [(0, .ref 0), (1, .int x1)] [] (q_mm I6 L)
            refine g_aload_n K1 0 dX11_back_50 rfl ?_
            obtain ⟨I7, hct, h⟩ := h
            refine h_callV K1 (st := []) [] (hct w (gl g)) q_clX11 lyp_0 rfl ok_X11_unsettle ml_X11_139 ⟨Nat.le_of_ble_eq_true rfl, Nat.le_of_ble_eq_true rfl⟩ (Nat.le_of_ble_eq_true rfl) dX11_back_51 ?_
            show q_Gs w g 54 [(0, .ref 0), (1, .int x1)] [] (q_mm I7 L)
            refine g_iconst K1 0 dX11_back_54 rfl ?_
            obtain ⟨hr, hI, hL⟩ := h
            subst hr hI hL
            exact g_ireturn K rfl dX11_back_55
        · replace h := h.2.1 hj
          refine h_aaloadK K1 49 lyp_33 (by omega) hg (by rw [hj]; rfl) dX11_back_33 ?_
          obtain ⟨I8, hct, h⟩ := h
          refine h_callV K1 (st := []) [.ref 49] (hct w (gl g)) q_clX5 lyp_12 rfl ok_X5_take ml_X11_132 ⟨Nat.le_of_ble_eq_true rfl, Nat.le_of_ble_eq_true rfl⟩ (Nat.le_of_ble_eq_true rfl) dX11_back_34 ?_
          show q_Gs w g 37 [(0, .ref 0), (1, .int x1)] [] (q_mm I8 L)
          refine g_aload_n K1 0 dX11_back_37 rfl ?_
          refine h_getO K1 q_clX11 6 21 lyp_0 fkX11_6 rfl fl_X11_42 dX11_back_38 ?_
          refine g_aload_n K1 0 dX11_back_41 rfl ?_
          refine h_getO K1 q_clX11 9 34 lyp_0 fkX11_9 rfl fl_X11_57 dX11_back_42 ?_
          refine g_iload_n K1 1 dX11_back_45 rfl ?_
          obtain ⟨hg, h⟩ := h
          rcases vin3 hg with hj | hj | hj
          · replace h := h.1 hj
            refine h_aaloadK K1 45 lyp_34 (by omega) hg (by rw [hj]; rfl) dX11_back_46 ?_
            obtain ⟨I9, hct, h⟩ := h
            refine h_callV K1 (st := []) [.ref 45] (hct w (gl g)) q_clX0 lyp_21 rfl ok_X0_take ml_X11_403 ⟨Nat.le_of_ble_eq_true rfl, Nat.le_of_ble_eq_true rfl⟩ (Nat.le_of_ble_eq_true rfl) dX11_back_47 ?_
            show q_Gs w g 50 [(0, .ref 0), (1, .int x1)] [] (q_mm I9 L)
            refine g_aload_n K1 0 dX11_back_50 rfl ?_
            obtain ⟨I10, hct, h⟩ := h
            refine h_callV K1 (st := []) [] (hct w (gl g)) q_clX11 lyp_0 rfl ok_X11_unsettle ml_X11_139 ⟨Nat.le_of_ble_eq_true rfl, Nat.le_of_ble_eq_true rfl⟩ (Nat.le_of_ble_eq_true rfl) dX11_back_51 ?_
            show q_Gs w g 54 [(0, .ref 0), (1, .int x1)] [] (q_mm I10 L)
            refine g_iconst K1 0 dX11_back_54 rfl ?_
            obtain ⟨hr, hI, hL⟩ := h
            subst hr hI hL
            exact g_ireturn K rfl dX11_back_55
          · replace h := h.2.1 hj
            refine h_aaloadK K1 58 lyp_34 (by omega) hg (by rw [hj]; rfl) dX11_back_46 ?_
            obtain ⟨I11, hct, h⟩ := h
            refine h_callV K1 (st := []) [.ref 58] (hct w (gl g)) q_clX0 lyp_21 rfl ok_X0_take ml_X11_403 ⟨Nat.le_of_ble_eq_true rfl, Nat.le_of_ble_eq_true rfl⟩ (Nat.le_of_ble_eq_true rfl) dX11_back_47 ?_
            show q_Gs w g 50 [(0, .ref 0), (1, .int x1)] [] (q_mm I11 L)
            refine g_aload_n K1 0 dX11_back_50 rfl ?_
            obtain ⟨I12, hct, h⟩ := h
            refine h_callV K1 (st := []) [] (hct w (gl g)) q_clX11 lyp_0 rfl ok_X11_unsettle ml_X11_139 ⟨Nat.le_of_ble_eq_true rfl, Nat.le_of_ble_eq_true rfl⟩ (Nat.le_of_ble_eq_true rfl) dX11_back_51 ?_
            show q_Gs w g 54 [(0, .ref 0), (1, .int x1)] [] (q_mm I12 L)
            refine g_iconst K1 0 dX11_back_54 rfl ?_
            obtain ⟨hr, hI, hL⟩ := h
            subst hr hI hL
            exact g_ireturn K rfl dX11_back_55
          · replace h := h.2.2 hj
            refine h_aaloadK K1 71 lyp_34 (by omega) hg (by rw [hj]; rfl) dX11_back_46 ?_
            obtain ⟨I13, hct, h⟩ := h
            refine h_callV K1 (st := []) [.ref 71] (hct w (gl g)) q_clX0 lyp_21 rfl ok_X0_take ml_X11_403 ⟨Nat.le_of_ble_eq_true rfl, Nat.le_of_ble_eq_true rfl⟩ (Nat.le_of_ble_eq_true rfl) dX11_back_47 ?_
            show q_Gs w g 50 [(0, .ref 0), (1, .int x1)] [] (q_mm I13 L)
            refine g_aload_n K1 0 dX11_back_50 rfl ?_
            obtain ⟨I14, hct, h⟩ := h
            refine h_callV K1 (st := []) [] (hct w (gl g)) q_clX11 lyp_0 rfl ok_X11_unsettle ml_X11_139 ⟨Nat.le_of_ble_eq_true rfl, Nat.le_of_ble_eq_true rfl⟩ (Nat.le_of_ble_eq_true rfl) dX11_back_51 ?_
            show q_Gs w g 54 [(0, .ref 0), (1, .int x1)] [] (q_mm I14 L)
            refine g_iconst K1 0 dX11_back_54 rfl ?_
            obtain ⟨hr, hI, hL⟩ := h
            subst hr hI hL
            exact g_ireturn K rfl dX11_back_55
        · replace h := h.2.2 hj
          refine h_aaloadK K1 62 lyp_33 (by omega) hg (by rw [hj]; rfl) dX11_back_33 ?_
          obtain ⟨I15, hct, h⟩ := h
          refine h_callV K1 (st := []) [.ref 62] (hct w (gl g)) q_clX5 lyp_12 rfl ok_X5_take ml_X11_132 ⟨Nat.le_of_ble_eq_true rfl, Nat.le_of_ble_eq_true rfl⟩ (Nat.le_of_ble_eq_true rfl) dX11_back_34 ?_
          show q_Gs w g 37 [(0, .ref 0), (1, .int x1)] [] (q_mm I15 L)
          refine g_aload_n K1 0 dX11_back_37 rfl ?_
          refine h_getO K1 q_clX11 6 21 lyp_0 fkX11_6 rfl fl_X11_42 dX11_back_38 ?_
          refine g_aload_n K1 0 dX11_back_41 rfl ?_
          refine h_getO K1 q_clX11 9 34 lyp_0 fkX11_9 rfl fl_X11_57 dX11_back_42 ?_
          refine g_iload_n K1 1 dX11_back_45 rfl ?_
          obtain ⟨hg, h⟩ := h
          rcases vin3 hg with hj | hj | hj
          · replace h := h.1 hj
            refine h_aaloadK K1 45 lyp_34 (by omega) hg (by rw [hj]; rfl) dX11_back_46 ?_
            obtain ⟨I16, hct, h⟩ := h
            refine h_callV K1 (st := []) [.ref 45] (hct w (gl g)) q_clX0 lyp_21 rfl ok_X0_take ml_X11_403 ⟨Nat.le_of_ble_eq_true rfl, Nat.le_of_ble_eq_true rfl⟩ (Nat.le_of_ble_eq_true rfl) dX11_back_47 ?_
            show q_Gs w g 50 [(0, .ref 0), (1, .int x1)] [] (q_mm I16 L)
            refine g_aload_n K1 0 dX11_back_50 rfl ?_
            obtain ⟨I17, hct, h⟩ := h
            refine h_callV K1 (st := []) [] (hct w (gl g)) q_clX11 lyp_0 rfl ok_X11_unsettle ml_X11_139 ⟨Nat.le_of_ble_eq_true rfl, Nat.le_of_ble_eq_true rfl⟩ (Nat.le_of_ble_eq_true rfl) dX11_back_51 ?_
            show q_Gs w g 54 [(0, .ref 0), (1, .int x1)] [] (q_mm I17 L)
            refine g_iconst K1 0 dX11_back_54 rfl ?_
            obtain ⟨hr, hI, hL⟩ := h
            subst hr hI hL
            exact g_ireturn K rfl dX11_back_55
          · replace h := h.2.1 hj
            refine h_aaloadK K1 58 lyp_34 (by omega) hg (by rw [hj]; rfl) dX11_back_46 ?_
            obtain ⟨I18, hct, h⟩ := h
            refine h_callV K1 (st := []) [.ref 58] (hct w (gl g)) q_clX0 lyp_21 rfl ok_X0_take ml_X11_403 ⟨Nat.le_of_ble_eq_true rfl, Nat.le_of_ble_eq_true rfl⟩ (Nat.le_of_ble_eq_true rfl) dX11_back_47 ?_
            show q_Gs w g 50 [(0, .ref 0), (1, .int x1)] [] (q_mm I18 L)
            refine g_aload_n K1 0 dX11_back_50 rfl ?_
            obtain ⟨I19, hct, h⟩ := h
            refine h_callV K1 (st := []) [] (hct w (gl g)) q_clX11 lyp_0 rfl ok_X11_unsettle ml_X11_139 ⟨Nat.le_of_ble_eq_true rfl, Nat.le_of_ble_eq_true rfl⟩ (Nat.le_of_ble_eq_true rfl) dX11_back_51 ?_
            show q_Gs w g 54 [(0, .ref 0), (1, .int x1)] [] (q_mm I19 L)
            refine g_iconst K1 0 dX11_back_54 rfl ?_
            obtain ⟨hr, hI, hL⟩ := h
            subst hr hI hL
            exact g_ireturn K rfl dX11_back_55
          · replace h := h.2.2 hj
            refine h_aaloadK K1 71 lyp_34 (by omega) hg (by rw [hj]; rfl) dX11_back_46 ?_
            obtain ⟨I20, hct, h⟩ := h
            refine h_callV K1 (st := []) [.ref 71] (hct w (gl g)) q_clX0 lyp_21 rfl ok_X0_take ml_X11_403 ⟨Nat.le_of_ble_eq_true rfl, Nat.le_of_ble_eq_true rfl⟩ (Nat.le_of_ble_eq_true rfl) dX11_back_47 ?_
            show q_Gs w g 50 [(0, .ref 0), (1, .int x1)] [] (q_mm I20 L)
            refine g_aload_n K1 0 dX11_back_50 rfl ?_
            obtain ⟨I21, hct, h⟩ := h
            refine h_callV K1 (st := []) [] (hct w (gl g)) q_clX11 lyp_0 rfl ok_X11_unsettle ml_X11_139 ⟨Nat.le_of_ble_eq_true rfl, Nat.le_of_ble_eq_true rfl⟩ (Nat.le_of_ble_eq_true rfl) dX11_back_51 ?_
            show q_Gs w g 54 [(0, .ref 0), (1, .int x1)] [] (q_mm I21 L)
            refine g_iconst K1 0 dX11_back_54 rfl ?_
            obtain ⟨hr, hI, hL⟩ := h
            subst hr hI hL
            exact g_ireturn K rfl dX11_back_55
      · replace h := h.1 hc
        refine g_bipush K1 (-6) dX11_back_21 rfl ?_
        obtain ⟨hr, hI, hL⟩ := h
        subst hr hI hL
        exact g_ireturn K rfl dX11_back_23
    · replace h := h.2 hc
      refine g_bipush K1 (-2) dX11_back_9 rfl ?_
      obtain ⟨hr, hI, hL⟩ := h
      subst hr hI hL
      exact g_ireturn K rfl dX11_back_11
theorem c0_X11_back {r : Option Value} {I I' : Nat → Nat → Int32} {L L' : Nat → Nat → Int64} {x1 : Int32} (h : v_X11_back_0 r I' L' I L x1) : q_C kX11_back [.ref 0, .int x1] I L r I' L' := fun w l => q_ct (by decide) (Nat.le_of_ble_eq_true rfl) (Nat.le_refl _) (fun g _ K => h w g K)
abbrev v_X11_best_0 (r : Option Value) (I' : Nat → Nat → Int32) (L' : Nat → Nat → Int64) (I : Nat → Nat → Int32) (L : Nat → Nat → Int64)  : Prop := q_W kX11_best 0 [(0, .ref 0)] [] I L r I' L'
abbrev v_X11_best_16 (r : Option Value) (I' : Nat → Nat → Int32) (L' : Nat → Nat → Int64) (I : Nat → Nat → Int32) (L : Nat → Nat → Int64) (x1 : Int32) (x2 : Int32) (x3 : Int32) : Prop := q_W kX11_best 16 [(0, .ref 0), (1, .int x1), (2, .int x2), (3, .int x3)] [] I L r I' L'
set_option maxRecDepth 20000 in
set_option maxHeartbeats 2000000 in
theorem vc_X11_best_0 {r : Option Value} {I' : Nat → Nat → Int32} {L' : Nat → Nat → Int64} {I : Nat → Nat → Int32} {L : Nat → Nat → Int64}  (h : (∃ r1, q_C kX11_noNight [.ref 0] I L (some (.int r1)) I L ∧ ((r1 = 0 → (v_X11_best_16 r I' L' I L (-1) (-1) 0)) ∧ (¬ r1 = 0 → (r = some (.int (-2)) ∧ I' = I ∧ L' = L))))) : v_X11_best_0 r I' L' I L  := by
  intro w g K
  have K1 := K.1
  refine g_aload_n K1 0 dX11_best_0 rfl ?_
  obtain ⟨r1, hct, h⟩ := h
  refine h_callV K1 (st := []) [] (hct w (gl g)) q_clX11 lyp_0 rfl ok_X11_noNight ml_X11_210 ⟨Nat.le_of_ble_eq_true rfl, Nat.le_of_ble_eq_true rfl⟩ (Nat.le_of_ble_eq_true rfl) dX11_best_1 ?_
  show q_Gs w g 4 [(0, .ref 0)] [.int r1] (q_mm I L)
  refine g_if_eq K1 10 dX11_best_4 rfl (fun hc => ?_) (fun hc => ?_)
  · replace h := h.1 hc
    refine g_iconst K1 (-1) dX11_best_10 rfl ?_
    refine g_istore_n K1 dX11_best_11 rfl (by decide) rfl ?_
    refine g_iconst K1 (-1) dX11_best_12 rfl ?_
    refine g_istore_n K1 dX11_best_13 rfl (by decide) rfl ?_
    refine g_iconst K1 0 dX11_best_14 rfl ?_
    refine g_istore_n K1 dX11_best_15 rfl (by decide) rfl ?_
    exact g_perm [3, 2, 1, 0] rfl (h w g K)
  · replace h := h.2 hc
    refine g_bipush K1 (-2) dX11_best_7 rfl ?_
    obtain ⟨hr, hI, hL⟩ := h
    subst hr hI hL
    exact g_ireturn K rfl dX11_best_9
set_option maxRecDepth 20000 in
set_option maxHeartbeats 2000000 in
theorem vc_X11_best_16 {r : Option Value} {I' : Nat → Nat → Int32} {L' : Nat → Nat → Int64} {I : Nat → Nat → Int32} {L : Nat → Nat → Int64} {x1 : Int32} {x2 : Int32} {x3 : Int32} (h : (((I 12 4) ≤ x3 → (r = some (.int x1) ∧ I' = I ∧ L' = L)) ∧ (¬ (I 12 4) ≤ x3 → (∃ r1 I2, q_C kX8_worthOf [.ref 88, .int ((1 : Int32) <<< (x3 &&& 31))] I L (some (.int r1)) I2 L ∧ ((r1 ≤ x2 → (v_X11_best_16 r I' L' I2 L x1 x2 (x3 + 1))) ∧ (¬ r1 ≤ x2 → (v_X11_best_16 r I' L' I2 L x3 r1 (x3 + 1)))))))) : v_X11_best_16 r I' L' I L x1 x2 x3 := by
  intro w g K
  have K1 := K.1
  refine g_iload_n K1 3 dX11_best_16 rfl ?_
  refine g_aload_n K1 0 dX11_best_17 rfl ?_
  refine h_getO K1 q_clX11 5 12 lyp_0 fkX11_5 rfl fl_X11_35 dX11_best_18 ?_
  refine h_getI K1 q_clX5 4 lyp_12 fkX5_4 fl_X11_214 dX11_best_21 ?_
  refine g_icmp_ge K1 56 dX11_best_24 rfl (fun hc => ?_) (fun hc => ?_)
  · replace h := h.1 hc
    refine g_iload_n K1 1 dX11_best_56 rfl ?_
    obtain ⟨hr, hI, hL⟩ := h
    subst hr hI hL
    exact g_ireturn K rfl dX11_best_57
  · replace h := h.2 hc
    refine g_aload_n K1 0 dX11_best_27 rfl ?_
    refine h_getO K1 q_clX11 14 88 lyp_0 fkX11_14 rfl fl_X11_89 dX11_best_28 ?_
    refine g_iconst K1 1 dX11_best_31 rfl ?_
    refine g_iload_n K1 3 dX11_best_32 rfl ?_
    refine g_ishl K1 dX11_best_33 ?_
    obtain ⟨r1, I2, hct, h⟩ := h
    refine h_callV K1 (st := []) [.int ((1 : Int32) <<< (x3 &&& 31))] (hct w (gl g)) q_clX8 lyp_88 rfl ok_X8_worthOf ml_X11_273 ⟨Nat.le_of_ble_eq_true rfl, Nat.le_of_ble_eq_true rfl⟩ (Nat.le_of_ble_eq_true rfl) dX11_best_34 ?_
    show q_Gs w g 37 [(0, .ref 0), (1, .int x1), (2, .int x2), (3, .int x3)] [.int r1] (q_mm I2 L)
    refine g_istore K1 dX11_best_37 (by decide) rfl ?_
    refine g_iload K1 0 dX11_best_39 rfl ?_
    refine g_iload_n K1 3 dX11_best_41 rfl ?_
    refine g_icmp_le K1 50 dX11_best_42 rfl (fun hc => ?_) (fun hc => ?_)
    · replace h := h.1 hc
      refine g_iinc K1 (x3 + 1) 4 dX11_best_50 rfl rfl (by decide) rfl ?_
      refine g_goto K1 16 dX11_best_53 rfl ?_
      exact g_perm [2, 3, 4, 0] rfl (h w g K)
    · replace h := h.2 hc
      refine g_iload K1 0 dX11_best_45 rfl ?_
      refine g_istore_n K1 dX11_best_47 rfl (by decide) rfl ?_
      refine g_iload_n K1 4 dX11_best_48 rfl ?_
      refine g_istore_n K1 dX11_best_49 rfl (by decide) rfl ?_
      refine g_iinc K1 (x3 + 1) 4 dX11_best_50 rfl rfl (by decide) rfl ?_
      refine g_goto K1 16 dX11_best_53 rfl ?_
      exact g_perm [4, 1, 2, 0] rfl (h w g K)
theorem c0_X11_best {r : Option Value} {I I' : Nat → Nat → Int32} {L L' : Nat → Nat → Int64}  (h : v_X11_best_0 r I' L' I L ) : q_C kX11_best [.ref 0] I L r I' L' := fun w l => q_ct (by decide) (Nat.le_of_ble_eq_true rfl) (Nat.le_refl _) (fun g _ K => h w g K)
abbrev v_X11_by_0 (r : Option Value) (I' : Nat → Nat → Int32) (L' : Nat → Nat → Int64) (I : Nat → Nat → Int32) (L : Nat → Nat → Int64) (x1 : Int32) : Prop := q_W kX11_by 0 [(0, .ref 0), (1, .int x1)] [] I L r I' L'
set_option maxRecDepth 20000 in
set_option maxHeartbeats 2000000 in
theorem vc_X11_by_0 {r : Option Value} {I' : Nat → Nat → Int32} {L' : Nat → Nat → Int64} {I : Nat → Nat → Int32} {L : Nat → Nat → Int64} {x1 : Int32} (h : (∃ r1, q_C kX11_noNight [.ref 0] I L (some (.int r1)) I L ∧ ((r1 = 0 → ((x1 < 0 → (r = some (.int (-2)) ∧ I' = I ∧ L' = L)) ∧ (¬ x1 < 0 → ((x1 < 4 → (∃ I2, q_C kX3_byLaw [.ref 81, .int x1] I L none I2 L ∧ (∃ r3 I4, q_C kX3_run [.ref 81, .int 0, .int (I2 12 1)] I2 L (some (.int r3)) I4 L ∧ (vp_in (I4 12 1) 13 ∧ (r = some (.int (I4 82 ((I4 12 1) : Int32).toNatClampNeg)) ∧ I' = I4 ∧ L' = L))))) ∧ (¬ x1 < 4 → (r = some (.int (-2)) ∧ I' = I ∧ L' = L)))))) ∧ (¬ r1 = 0 → (r = some (.int (-2)) ∧ I' = I ∧ L' = L))))) : v_X11_by_0 r I' L' I L x1 := by
  intro w g K
  have K1 := K.1
  refine g_aload_n K1 0 dX11_by_0 rfl ?_
  obtain ⟨r1, hct, h⟩ := h
  refine h_callV K1 (st := []) [] (hct w (gl g)) q_clX11 lyp_0 rfl ok_X11_noNight ml_X11_210 ⟨Nat.le_of_ble_eq_true rfl, Nat.le_of_ble_eq_true rfl⟩ (Nat.le_of_ble_eq_true rfl) dX11_by_1 ?_
  show q_Gs w g 4 [(0, .ref 0), (1, .int x1)] [.int r1] (q_mm I L)
  refine g_if_ne K1 16 dX11_by_4 rfl (fun hc => ?_) (fun hc => ?_)
  · replace h := h.2 hc
    refine g_bipush K1 (-2) dX11_by_16 rfl ?_
    obtain ⟨hr, hI, hL⟩ := h
    subst hr hI hL
    exact g_ireturn K rfl dX11_by_18
  · replace h := h.1 hc
    refine g_iload_n K1 1 dX11_by_7 rfl ?_
    refine g_if_lt K1 16 dX11_by_8 rfl (fun hc => ?_) (fun hc => ?_)
    · replace h := h.1 hc
      refine g_bipush K1 (-2) dX11_by_16 rfl ?_
      obtain ⟨hr, hI, hL⟩ := h
      subst hr hI hL
      exact g_ireturn K rfl dX11_by_18
    · replace h := h.2 hc
      refine g_iload_n K1 1 dX11_by_11 rfl ?_
      refine g_iconst K1 4 dX11_by_12 rfl ?_
      refine g_icmp_lt K1 19 dX11_by_13 rfl (fun hc => ?_) (fun hc => ?_)
      · replace h := h.1 hc
        refine g_aload_n K1 0 dX11_by_19 rfl ?_
        refine h_getO K1 q_clX11 12 81 lyp_0 fkX11_12 rfl fl_X11_74 dX11_by_20 ?_
        refine g_iload_n K1 1 dX11_by_23 rfl ?_
        obtain ⟨I2, hct, h⟩ := h
        refine h_callV K1 (st := []) [.int x1] (hct w (gl g)) q_clX3 lyp_81 rfl ok_X3_byLaw ml_X11_330 ⟨Nat.le_of_ble_eq_true rfl, Nat.le_of_ble_eq_true rfl⟩ (Nat.le_of_ble_eq_true rfl) dX11_by_24 ?_
        show q_Gs w g 27 [(0, .ref 0), (1, .int x1)] [] (q_mm I2 L)
        refine g_aload_n K1 0 dX11_by_27 rfl ?_
        refine h_getO K1 q_clX11 12 81 lyp_0 fkX11_12 rfl fl_X11_74 dX11_by_28 ?_
        refine g_iconst K1 0 dX11_by_31 rfl ?_
        refine g_aload_n K1 0 dX11_by_32 rfl ?_
        refine h_getO K1 q_clX11 5 12 lyp_0 fkX11_5 rfl fl_X11_35 dX11_by_33 ?_
        refine h_getI K1 q_clX5 1 lyp_12 fkX5_1 fl_X11_203 dX11_by_36 ?_
        obtain ⟨r3, I4, hct, h⟩ := h
        refine h_callV K1 (st := []) [.int 0, .int (I2 12 1)] (hct w (gl g)) q_clX3 lyp_81 rfl ok_X3_run ml_X11_333 ⟨Nat.le_of_ble_eq_true rfl, Nat.le_of_ble_eq_true rfl⟩ (Nat.le_of_ble_eq_true rfl) dX11_by_39 ?_
        show q_Gs w g 42 [(0, .ref 0), (1, .int x1)] [.int r3] (q_mm I4 L)
        refine g_pop K1 dX11_by_42 rfl ?_
        refine g_aload_n K1 0 dX11_by_43 rfl ?_
        refine h_getO K1 q_clX11 12 81 lyp_0 fkX11_12 rfl fl_X11_74 dX11_by_44 ?_
        refine h_getO K1 q_clX3 0 82 lyp_81 fkX3_0 rfl fl_X11_183 dX11_by_47 ?_
        refine g_aload_n K1 0 dX11_by_50 rfl ?_
        refine h_getO K1 q_clX11 5 12 lyp_0 fkX11_5 rfl fl_X11_35 dX11_by_51 ?_
        refine h_getI K1 q_clX5 1 lyp_12 fkX5_1 fl_X11_203 dX11_by_54 ?_
        obtain ⟨hg, h⟩ := h
        refine h_iaload K1 lyp_82 hg dX11_by_57 ?_
        obtain ⟨hr, hI, hL⟩ := h
        subst hr hI hL
        exact g_ireturn K rfl dX11_by_58
      · replace h := h.2 hc
        refine g_bipush K1 (-2) dX11_by_16 rfl ?_
        obtain ⟨hr, hI, hL⟩ := h
        subst hr hI hL
        exact g_ireturn K rfl dX11_by_18
theorem c0_X11_by {r : Option Value} {I I' : Nat → Nat → Int32} {L L' : Nat → Nat → Int64} {x1 : Int32} (h : v_X11_by_0 r I' L' I L x1) : q_C kX11_by [.ref 0, .int x1] I L r I' L' := fun w l => q_ct (by decide) (Nat.le_of_ble_eq_true rfl) (Nat.le_refl _) (fun g _ K => h w g K)
abbrev v_X11_cell_0 (r : Option Value) (I' : Nat → Nat → Int32) (L' : Nat → Nat → Int64) (I : Nat → Nat → Int32) (L : Nat → Nat → Int64) (x0 : Int32) (x1 : Int32) : Prop := q_W kX11_cell 0 [(0, .int x0), (1, .int x1)] [] I L r I' L'
set_option maxRecDepth 20000 in
set_option maxHeartbeats 2000000 in
theorem vc_X11_cell_0 {r : Option Value} {I' : Nat → Nat → Int32} {L' : Nat → Nat → Int64} {I : Nat → Nat → Int32} {L : Nat → Nat → Int64} {x0 : Int32} {x1 : Int32} (h : (r = some (.int ((x1 * 7) + x0)) ∧ I' = I ∧ L' = L)) : v_X11_cell_0 r I' L' I L x0 x1 := by
  intro w g K
  have K1 := K.1
  refine g_iload_n K1 1 dX11_cell_0 rfl ?_
  refine g_bipush K1 7 dX11_cell_1 rfl ?_
  refine g_imul K1 dX11_cell_3 ?_
  refine g_iload_n K1 0 dX11_cell_4 rfl ?_
  refine g_iadd K1 dX11_cell_5 ?_
  obtain ⟨hr, hI, hL⟩ := h
  subst hr hI hL
  exact g_ireturn K rfl dX11_cell_6
theorem c0_X11_cell {r : Option Value} {I I' : Nat → Nat → Int32} {L L' : Nat → Nat → Int64} {x0 : Int32} {x1 : Int32} (h : v_X11_cell_0 r I' L' I L x0 x1) : q_C kX11_cell [.int x0, .int x1] I L r I' L' := fun w l => q_ct (by decide) (Nat.le_of_ble_eq_true rfl) (Nat.le_refl _) (fun g _ K => h w g K)
abbrev v_X11_chance_0 (r : Option Value) (I' : Nat → Nat → Int32) (L' : Nat → Nat → Int64) (I : Nat → Nat → Int32) (L : Nat → Nat → Int64) (x1 : Int32) (x2 : Int32) (x3 : Int32) : Prop := q_W kX11_chance 0 [(0, .ref 0), (1, .int x1), (2, .int x2), (3, .int x3)] [] I L r I' L'
set_option maxRecDepth 20000 in
set_option maxHeartbeats 2000000 in
theorem vc_X11_chance_0 {r : Option Value} {I' : Nat → Nat → Int32} {L' : Nat → Nat → Int64} {I : Nat → Nat → Int32} {L : Nat → Nat → Int64} {x1 : Int32} {x2 : Int32} {x3 : Int32} (h : (∃ r1, q_C kX11_noPew [.ref 0, .int x1] I L (some (.int r1)) I L ∧ ((r1 = 0 → (∃ r2, q_C kX11_noChanceHour [.ref 0, .int x2] I L (some (.int r2)) I L ∧ ((r2 = 0 → (∃ r3, q_C kX11_noPart [.int x3] I L (some (.int r3)) I L ∧ ((r3 = 0 → (∃ r4 I5, q_C kX1_weighed [.ref 95, .int x2, .int x1] I L (some (.long r4)) I5 L ∧ (∃ r6, q_C kX1_power [.int 10, .int (x2 + 1)] I5 L (some (.long r6)) I5 L ∧ (∃ r7, q_C kX11_lowestPart [.long r4, .long r6, .int x3] I5 L (some (.long r7)) I5 L ∧ (r = some (.long r7) ∧ I' = I5 ∧ L' = L))))) ∧ (¬ r3 = 0 → (r = some (.long (-2)) ∧ I' = I ∧ L' = L))))) ∧ (¬ r2 = 0 → (r = some (.long (-2)) ∧ I' = I ∧ L' = L))))) ∧ (¬ r1 = 0 → (r = some (.long (-2)) ∧ I' = I ∧ L' = L))))) : v_X11_chance_0 r I' L' I L x1 x2 x3 := by
  intro w g K
  have K1 := K.1
  refine g_aload_n K1 0 dX11_chance_0 rfl ?_
  refine g_iload_n K1 1 dX11_chance_1 rfl ?_
  obtain ⟨r1, hct, h⟩ := h
  refine h_callV K1 (st := []) [.int x1] (hct w (gl g)) q_clX11 lyp_0 rfl ok_X11_noPew ml_X11_145 ⟨Nat.le_of_ble_eq_true rfl, Nat.le_of_ble_eq_true rfl⟩ (Nat.le_of_ble_eq_true rfl) dX11_chance_2 ?_
  show q_Gs w g 5 [(0, .ref 0), (1, .int x1), (2, .int x2), (3, .int x3)] [.int r1] (q_mm I L)
  refine g_if_ne K1 23 dX11_chance_5 rfl (fun hc => ?_) (fun hc => ?_)
  · replace h := h.2 hc
    refine g_ldc2_w K1 (-2) dX11_chance_23 cn_X11_358 ?_
    obtain ⟨hr, hI, hL⟩ := h
    subst hr hI hL
    exact g_lreturn K rfl dX11_chance_26
  · replace h := h.1 hc
    refine g_aload_n K1 0 dX11_chance_8 rfl ?_
    refine g_iload_n K1 2 dX11_chance_9 rfl ?_
    obtain ⟨r2, hct, h⟩ := h
    refine h_callV K1 (st := []) [.int x2] (hct w (gl g)) q_clX11 lyp_0 rfl ok_X11_noChanceHour ml_X11_355 ⟨Nat.le_of_ble_eq_true rfl, Nat.le_of_ble_eq_true rfl⟩ (Nat.le_of_ble_eq_true rfl) dX11_chance_10 ?_
    show q_Gs w g 13 [(0, .ref 0), (1, .int x1), (2, .int x2), (3, .int x3)] [.int r2] (q_mm I L)
    refine g_if_ne K1 23 dX11_chance_13 rfl (fun hc => ?_) (fun hc => ?_)
    · replace h := h.2 hc
      refine g_ldc2_w K1 (-2) dX11_chance_23 cn_X11_358 ?_
      obtain ⟨hr, hI, hL⟩ := h
      subst hr hI hL
      exact g_lreturn K rfl dX11_chance_26
    · replace h := h.1 hc
      refine g_iload_n K1 3 dX11_chance_16 rfl ?_
      obtain ⟨r3, hct, h⟩ := h
      refine h_callS K1 (st := []) [.int x3] (hct w (gl g)) ok_X11_noPart ml_X11_276 ⟨Nat.le_of_ble_eq_true rfl, Nat.le_of_ble_eq_true rfl⟩ (Nat.le_of_ble_eq_true rfl) dX11_chance_17 ?_
      show q_Gs w g 20 [(0, .ref 0), (1, .int x1), (2, .int x2), (3, .int x3)] [.int r3] (q_mm I L)
      refine g_if_eq K1 27 dX11_chance_20 rfl (fun hc => ?_) (fun hc => ?_)
      · replace h := h.1 hc
        refine g_aload_n K1 0 dX11_chance_27 rfl ?_
        refine h_getO K1 q_clX11 17 95 lyp_0 fkX11_17 rfl fl_X11_112 dX11_chance_28 ?_
        refine g_iload_n K1 2 dX11_chance_31 rfl ?_
        refine g_iload_n K1 1 dX11_chance_32 rfl ?_
        obtain ⟨r4, I5, hct, h⟩ := h
        refine h_callV K1 (st := []) [.int x2, .int x1] (hct w (gl g)) q_clX1 lyp_95 rfl ok_X1_weighed ml_X11_360 ⟨Nat.le_of_ble_eq_true rfl, Nat.le_of_ble_eq_true rfl⟩ (Nat.le_of_ble_eq_true rfl) dX11_chance_33 ?_
        show q_Gs w g 36 [(0, .ref 0), (1, .int x1), (2, .int x2), (3, .int x3)] [.long r4] (q_mm I5 L)
        refine g_bipush K1 10 dX11_chance_36 rfl ?_
        refine g_iload_n K1 2 dX11_chance_38 rfl ?_
        refine g_iconst K1 1 dX11_chance_39 rfl ?_
        refine g_iadd K1 dX11_chance_40 ?_
        obtain ⟨r6, hct, h⟩ := h
        refine h_callS K1 (st := [.long r4]) [.int 10, .int (x2 + 1)] (hct w (gl g)) ok_X1_power ml_X11_364 ⟨Nat.le_of_ble_eq_true rfl, Nat.le_of_ble_eq_true rfl⟩ (Nat.le_of_ble_eq_true rfl) dX11_chance_41 ?_
        show q_Gs w g 44 [(0, .ref 0), (1, .int x1), (2, .int x2), (3, .int x3)] [.long r6, .long r4] (q_mm I5 L)
        refine g_iload_n K1 3 dX11_chance_44 rfl ?_
        obtain ⟨r7, hct, h⟩ := h
        refine h_callS K1 (st := []) [.long r4, .long r6, .int x3] (hct w (gl g)) ok_X11_lowestPart ml_X11_285 ⟨Nat.le_of_ble_eq_true rfl, Nat.le_of_ble_eq_true rfl⟩ (Nat.le_of_ble_eq_true rfl) dX11_chance_45 ?_
        show q_Gs w g 48 [(0, .ref 0), (1, .int x1), (2, .int x2), (3, .int x3)] [.long r7] (q_mm I5 L)
        obtain ⟨hr, hI, hL⟩ := h
        subst hr hI hL
        exact g_lreturn K rfl dX11_chance_48
      · replace h := h.2 hc
        refine g_ldc2_w K1 (-2) dX11_chance_23 cn_X11_358 ?_
        obtain ⟨hr, hI, hL⟩ := h
        subst hr hI hL
        exact g_lreturn K rfl dX11_chance_26
theorem c0_X11_chance {r : Option Value} {I I' : Nat → Nat → Int32} {L L' : Nat → Nat → Int64} {x1 : Int32} {x2 : Int32} {x3 : Int32} (h : v_X11_chance_0 r I' L' I L x1 x2 x3) : q_C kX11_chance [.ref 0, .int x1, .int x2, .int x3] I L r I' L' := fun w l => q_ct (by decide) (Nat.le_of_ble_eq_true rfl) (Nat.le_refl _) (fun g _ K => h w g K)
abbrev v_X11_clueRefusal_0 (r : Option Value) (I' : Nat → Nat → Int32) (L' : Nat → Nat → Int64) (I : Nat → Nat → Int32) (L : Nat → Nat → Int64) (x1 : Int32) : Prop := q_W kX11_clueRefusal 0 [(0, .ref 0), (1, .int x1)] [] I L r I' L'
set_option maxRecDepth 20000 in
set_option maxHeartbeats 2000000 in
theorem vc_X11_clueRefusal_0 {r : Option Value} {I' : Nat → Nat → Int32} {L' : Nat → Nat → Int64} {I : Nat → Nat → Int32} {L : Nat → Nat → Int64} {x1 : Int32} (h : (∃ r1, q_C kX9_noSlot [.int x1] I L (some (.int r1)) I L ∧ ((r1 = 0 → (∃ r2, q_C kX11_noNight [.ref 0] I L (some (.int r2)) I L ∧ ((r2 = 0 → (∃ r3, q_C kX9_hasRow [.ref 25, .int x1] I L (some (.int r3)) I L ∧ ((r3 = 0 → (r = some (.int (-6)) ∧ I' = I ∧ L' = L)) ∧ (¬ r3 = 0 → (∃ r4, q_C kX2_areSound [.ref 92, .int x1] I L (some (.int r4)) I L ∧ ((r4 = 0 → (r = some (.int (-2)) ∧ I' = I ∧ L' = L)) ∧ (¬ r4 = 0 → (r = some (.int 0) ∧ I' = I ∧ L' = L)))))))) ∧ (¬ r2 = 0 → (r = some (.int (-2)) ∧ I' = I ∧ L' = L))))) ∧ (¬ r1 = 0 → (r = some (.int (-2)) ∧ I' = I ∧ L' = L))))) : v_X11_clueRefusal_0 r I' L' I L x1 := by
  intro w g K
  have K1 := K.1
  refine g_iload_n K1 1 dX11_clueRefusal_0 rfl ?_
  obtain ⟨r1, hct, h⟩ := h
  refine h_callS K1 (st := []) [.int x1] (hct w (gl g)) ok_X9_noSlot ml_X11_264 ⟨Nat.le_of_ble_eq_true rfl, Nat.le_of_ble_eq_true rfl⟩ (Nat.le_of_ble_eq_true rfl) dX11_clueRefusal_1 ?_
  show q_Gs w g 4 [(0, .ref 0), (1, .int x1)] [.int r1] (q_mm I L)
  refine g_if_ne K1 14 dX11_clueRefusal_4 rfl (fun hc => ?_) (fun hc => ?_)
  · replace h := h.2 hc
    refine g_bipush K1 (-2) dX11_clueRefusal_14 rfl ?_
    obtain ⟨hr, hI, hL⟩ := h
    subst hr hI hL
    exact g_ireturn K rfl dX11_clueRefusal_16
  · replace h := h.1 hc
    refine g_aload_n K1 0 dX11_clueRefusal_7 rfl ?_
    obtain ⟨r2, hct, h⟩ := h
    refine h_callV K1 (st := []) [] (hct w (gl g)) q_clX11 lyp_0 rfl ok_X11_noNight ml_X11_210 ⟨Nat.le_of_ble_eq_true rfl, Nat.le_of_ble_eq_true rfl⟩ (Nat.le_of_ble_eq_true rfl) dX11_clueRefusal_8 ?_
    show q_Gs w g 11 [(0, .ref 0), (1, .int x1)] [.int r2] (q_mm I L)
    refine g_if_eq K1 17 dX11_clueRefusal_11 rfl (fun hc => ?_) (fun hc => ?_)
    · replace h := h.1 hc
      refine g_aload_n K1 0 dX11_clueRefusal_17 rfl ?_
      refine h_getO K1 q_clX11 7 25 lyp_0 fkX11_7 rfl fl_X11_49 dX11_clueRefusal_18 ?_
      refine g_iload_n K1 1 dX11_clueRefusal_21 rfl ?_
      obtain ⟨r3, hct, h⟩ := h
      refine h_callV K1 (st := []) [.int x1] (hct w (gl g)) q_clX9 lyp_25 rfl ok_X9_hasRow ml_X11_267 ⟨Nat.le_of_ble_eq_true rfl, Nat.le_of_ble_eq_true rfl⟩ (Nat.le_of_ble_eq_true rfl) dX11_clueRefusal_22 ?_
      show q_Gs w g 25 [(0, .ref 0), (1, .int x1)] [.int r3] (q_mm I L)
      refine g_if_ne K1 31 dX11_clueRefusal_25 rfl (fun hc => ?_) (fun hc => ?_)
      · replace h := h.2 hc
        refine g_aload_n K1 0 dX11_clueRefusal_31 rfl ?_
        refine h_getO K1 q_clX11 16 92 lyp_0 fkX11_16 rfl fl_X11_105 dX11_clueRefusal_32 ?_
        refine g_iload_n K1 1 dX11_clueRefusal_35 rfl ?_
        obtain ⟨r4, hct, h⟩ := h
        refine h_callV K1 (st := []) [.int x1] (hct w (gl g)) q_clX2 lyp_92 rfl ok_X2_areSound ml_X11_327 ⟨Nat.le_of_ble_eq_true rfl, Nat.le_of_ble_eq_true rfl⟩ (Nat.le_of_ble_eq_true rfl) dX11_clueRefusal_36 ?_
        show q_Gs w g 39 [(0, .ref 0), (1, .int x1)] [.int r4] (q_mm I L)
        refine g_if_eq K1 46 dX11_clueRefusal_39 rfl (fun hc => ?_) (fun hc => ?_)
        · replace h := h.1 hc
          refine g_bipush K1 (-2) dX11_clueRefusal_46 rfl ?_
          obtain ⟨hr, hI, hL⟩ := h
          subst hr hI hL
          exact g_ireturn K rfl dX11_clueRefusal_48
        · replace h := h.2 hc
          refine g_iconst K1 0 dX11_clueRefusal_42 rfl ?_
          refine g_goto K1 48 dX11_clueRefusal_43 rfl ?_
          obtain ⟨hr, hI, hL⟩ := h
          subst hr hI hL
          exact g_ireturn K rfl dX11_clueRefusal_48
      · replace h := h.1 hc
        refine g_bipush K1 (-6) dX11_clueRefusal_28 rfl ?_
        obtain ⟨hr, hI, hL⟩ := h
        subst hr hI hL
        exact g_ireturn K rfl dX11_clueRefusal_30
    · replace h := h.2 hc
      refine g_bipush K1 (-2) dX11_clueRefusal_14 rfl ?_
      obtain ⟨hr, hI, hL⟩ := h
      subst hr hI hL
      exact g_ireturn K rfl dX11_clueRefusal_16
theorem c0_X11_clueRefusal {r : Option Value} {I I' : Nat → Nat → Int32} {L L' : Nat → Nat → Int64} {x1 : Int32} (h : v_X11_clueRefusal_0 r I' L' I L x1) : q_C kX11_clueRefusal [.ref 0, .int x1] I L r I' L' := fun w l => q_ct (by decide) (Nat.le_of_ble_eq_true rfl) (Nat.le_refl _) (fun g _ K => h w g K)
abbrev v_X11_count_0 (r : Option Value) (I' : Nat → Nat → Int32) (L' : Nat → Nat → Int64) (I : Nat → Nat → Int32) (L : Nat → Nat → Int64) (x1 : Int32) : Prop := q_W kX11_count 0 [(0, .ref 0), (1, .int x1)] [] I L r I' L'
set_option maxRecDepth 20000 in
set_option maxHeartbeats 2000000 in
theorem vc_X11_count_0 {r : Option Value} {I' : Nat → Nat → Int32} {L' : Nat → Nat → Int64} {I : Nat → Nat → Int32} {L : Nat → Nat → Int64} {x1 : Int32} (h : ((x1 = 0 → (r = some (.int (I 12 1)) ∧ I' = I ∧ L' = L)) ∧ (¬ x1 = 0 → ((x1 = 1 → (r = some (.int (I 12 2)) ∧ I' = I ∧ L' = L)) ∧ (¬ x1 = 1 → ((x1 = 2 → (r = some (.int (I 12 3)) ∧ I' = I ∧ L' = L)) ∧ (¬ x1 = 2 → ((x1 = 3 → (r = some (.int (I 12 4)) ∧ I' = I ∧ L' = L)) ∧ (¬ x1 = 3 → ((x1 = 4 → (r = some (.int (I 12 5)) ∧ I' = I ∧ L' = L)) ∧ (¬ x1 = 4 → ((x1 = 5 → (r = some (.int (I 12 6)) ∧ I' = I ∧ L' = L)) ∧ (¬ x1 = 5 → ((x1 = 6 → (r = some (.int (I 12 7)) ∧ I' = I ∧ L' = L)) ∧ (¬ x1 = 6 → ((x1 = 7 → (r = some (.int (I 21 0)) ∧ I' = I ∧ L' = L)) ∧ (¬ x1 = 7 → ((x1 = 8 → (r = some (.int (I 12 0)) ∧ I' = I ∧ L' = L)) ∧ (¬ x1 = 8 → ((x1 = 9 → (r = some (.int (I 0 1)) ∧ I' = I ∧ L' = L)) ∧ (¬ x1 = 9 → ((x1 = 10 → (∃ r1, q_C kX9_rowsHeld [.ref 25] I L (some (.int r1)) I L ∧ (r = some (.int r1) ∧ I' = I ∧ L' = L))) ∧ (¬ x1 = 10 → (r = some (.int (-1)) ∧ I' = I ∧ L' = L)))))))))))))))))))))))) : v_X11_count_0 r I' L' I L x1 := by
  intro w g K
  have K1 := K.1
  refine g_iload_n K1 1 dX11_count_0 rfl ?_
  by_cases hn0 : x1 = 0
  · replace h := h.1 hn0
    refine g_tabIn K1 60 dX11_count_1 (by rw [hn0]; decide) (by rw [hn0]; decide) (by rw [hn0]; rfl) rfl ?_
    refine g_aload_n K1 0 dX11_count_60 rfl ?_
    refine h_getO K1 q_clX11 5 12 lyp_0 fkX11_5 rfl fl_X11_35 dX11_count_61 ?_
    refine h_getI K1 q_clX5 1 lyp_12 fkX5_1 fl_X11_203 dX11_count_64 ?_
    obtain ⟨hr, hI, hL⟩ := h
    subst hr hI hL
    exact g_ireturn K rfl dX11_count_67
  · replace h := h.2 hn0
    by_cases hn1 : x1 = 1
    · replace h := h.1 hn1
      refine g_tabIn K1 68 dX11_count_1 (by rw [hn1]; decide) (by rw [hn1]; decide) (by rw [hn1]; rfl) rfl ?_
      refine g_aload_n K1 0 dX11_count_68 rfl ?_
      refine h_getO K1 q_clX11 5 12 lyp_0 fkX11_5 rfl fl_X11_35 dX11_count_69 ?_
      refine h_getI K1 q_clX5 2 lyp_12 fkX5_2 fl_X11_388 dX11_count_72 ?_
      obtain ⟨hr, hI, hL⟩ := h
      subst hr hI hL
      exact g_ireturn K rfl dX11_count_75
    · replace h := h.2 hn1
      by_cases hn2 : x1 = 2
      · replace h := h.1 hn2
        refine g_tabIn K1 76 dX11_count_1 (by rw [hn2]; decide) (by rw [hn2]; decide) (by rw [hn2]; rfl) rfl ?_
        refine g_aload_n K1 0 dX11_count_76 rfl ?_
        refine h_getO K1 q_clX11 5 12 lyp_0 fkX11_5 rfl fl_X11_35 dX11_count_77 ?_
        refine h_getI K1 q_clX5 3 lyp_12 fkX5_3 fl_X11_391 dX11_count_80 ?_
        obtain ⟨hr, hI, hL⟩ := h
        subst hr hI hL
        exact g_ireturn K rfl dX11_count_83
      · replace h := h.2 hn2
        by_cases hn3 : x1 = 3
        · replace h := h.1 hn3
          refine g_tabIn K1 84 dX11_count_1 (by rw [hn3]; decide) (by rw [hn3]; decide) (by rw [hn3]; rfl) rfl ?_
          refine g_aload_n K1 0 dX11_count_84 rfl ?_
          refine h_getO K1 q_clX11 5 12 lyp_0 fkX11_5 rfl fl_X11_35 dX11_count_85 ?_
          refine h_getI K1 q_clX5 4 lyp_12 fkX5_4 fl_X11_214 dX11_count_88 ?_
          obtain ⟨hr, hI, hL⟩ := h
          subst hr hI hL
          exact g_ireturn K rfl dX11_count_91
        · replace h := h.2 hn3
          by_cases hn4 : x1 = 4
          · replace h := h.1 hn4
            refine g_tabIn K1 92 dX11_count_1 (by rw [hn4]; decide) (by rw [hn4]; decide) (by rw [hn4]; rfl) rfl ?_
            refine g_aload_n K1 0 dX11_count_92 rfl ?_
            refine h_getO K1 q_clX11 5 12 lyp_0 fkX11_5 rfl fl_X11_35 dX11_count_93 ?_
            refine h_getI K1 q_clX5 5 lyp_12 fkX5_5 fl_X11_394 dX11_count_96 ?_
            obtain ⟨hr, hI, hL⟩ := h
            subst hr hI hL
            exact g_ireturn K rfl dX11_count_99
          · replace h := h.2 hn4
            by_cases hn5 : x1 = 5
            · replace h := h.1 hn5
              refine g_tabIn K1 100 dX11_count_1 (by rw [hn5]; decide) (by rw [hn5]; decide) (by rw [hn5]; rfl) rfl ?_
              refine g_aload_n K1 0 dX11_count_100 rfl ?_
              refine h_getO K1 q_clX11 5 12 lyp_0 fkX11_5 rfl fl_X11_35 dX11_count_101 ?_
              refine h_getI K1 q_clX5 6 lyp_12 fkX5_6 fl_X11_166 dX11_count_104 ?_
              obtain ⟨hr, hI, hL⟩ := h
              subst hr hI hL
              exact g_ireturn K rfl dX11_count_107
            · replace h := h.2 hn5
              by_cases hn6 : x1 = 6
              · replace h := h.1 hn6
                refine g_tabIn K1 108 dX11_count_1 (by rw [hn6]; decide) (by rw [hn6]; decide) (by rw [hn6]; rfl) rfl ?_
                refine g_aload_n K1 0 dX11_count_108 rfl ?_
                refine h_getO K1 q_clX11 5 12 lyp_0 fkX11_5 rfl fl_X11_35 dX11_count_109 ?_
                refine h_getI K1 q_clX5 7 lyp_12 fkX5_7 fl_X11_397 dX11_count_112 ?_
                obtain ⟨hr, hI, hL⟩ := h
                subst hr hI hL
                exact g_ireturn K rfl dX11_count_115
              · replace h := h.2 hn6
                by_cases hn7 : x1 = 7
                · replace h := h.1 hn7
                  refine g_tabIn K1 116 dX11_count_1 (by rw [hn7]; decide) (by rw [hn7]; decide) (by rw [hn7]; rfl) rfl ?_
                  refine g_aload_n K1 0 dX11_count_116 rfl ?_
                  refine h_getO K1 q_clX11 6 21 lyp_0 fkX11_6 rfl fl_X11_42 dX11_count_117 ?_
                  refine h_getI K1 q_clX0 0 lyp_21 fkX0_0 fl_X11_136 dX11_count_120 ?_
                  obtain ⟨hr, hI, hL⟩ := h
                  subst hr hI hL
                  exact g_ireturn K rfl dX11_count_123
                · replace h := h.2 hn7
                  by_cases hn8 : x1 = 8
                  · replace h := h.1 hn8
                    refine g_tabIn K1 124 dX11_count_1 (by rw [hn8]; decide) (by rw [hn8]; decide) (by rw [hn8]; rfl) rfl ?_
                    refine g_aload_n K1 0 dX11_count_124 rfl ?_
                    refine h_getO K1 q_clX11 5 12 lyp_0 fkX11_5 rfl fl_X11_35 dX11_count_125 ?_
                    refine h_getI K1 q_clX5 0 lyp_12 fkX5_0 fl_X11_142 dX11_count_128 ?_
                    obtain ⟨hr, hI, hL⟩ := h
                    subst hr hI hL
                    exact g_ireturn K rfl dX11_count_131
                  · replace h := h.2 hn8
                    by_cases hn9 : x1 = 9
                    · replace h := h.1 hn9
                      refine g_tabIn K1 132 dX11_count_1 (by rw [hn9]; decide) (by rw [hn9]; decide) (by rw [hn9]; rfl) rfl ?_
                      refine g_aload_n K1 0 dX11_count_132 rfl ?_
                      refine h_getI K1 q_clX11 1 lyp_0 fkX11_1 fl_X11_13 dX11_count_133 ?_
                      obtain ⟨hr, hI, hL⟩ := h
                      subst hr hI hL
                      exact g_ireturn K rfl dX11_count_136
                    · replace h := h.2 hn9
                      by_cases hn10 : x1 = 10
                      · replace h := h.1 hn10
                        refine g_tabIn K1 137 dX11_count_1 (by rw [hn10]; decide) (by rw [hn10]; decide) (by rw [hn10]; rfl) rfl ?_
                        refine g_aload_n K1 0 dX11_count_137 rfl ?_
                        refine h_getO K1 q_clX11 7 25 lyp_0 fkX11_7 rfl fl_X11_49 dX11_count_138 ?_
                        obtain ⟨r1, hct, h⟩ := h
                        refine h_callV K1 (st := []) [] (hct w (gl g)) q_clX9 lyp_25 rfl ok_X9_rowsHeld ml_X11_400 ⟨Nat.le_of_ble_eq_true rfl, Nat.le_of_ble_eq_true rfl⟩ (Nat.le_of_ble_eq_true rfl) dX11_count_141 ?_
                        show q_Gs w g 144 [(0, .ref 0), (1, .int x1)] [.int r1] (q_mm I L)
                        obtain ⟨hr, hI, hL⟩ := h
                        subst hr hI hL
                        exact g_ireturn K rfl dX11_count_144
                      · replace h := h.2 hn10
                        refine g_tabOut K1 145 dX11_count_1 (by have := tb_ne hn0 (n := 0) rfl; have := tb_ne hn1 (n := 1) rfl; have := tb_ne hn2 (n := 2) rfl; have := tb_ne hn3 (n := 3) rfl; have := tb_ne hn4 (n := 4) rfl; have := tb_ne hn5 (n := 5) rfl; have := tb_ne hn6 (n := 6) rfl; have := tb_ne hn7 (n := 7) rfl; have := tb_ne hn8 (n := 8) rfl; have := tb_ne hn9 (n := 9) rfl; have := tb_ne hn10 (n := 10) rfl; omega) rfl ?_
                        refine g_iconst K1 (-1) dX11_count_145 rfl ?_
                        obtain ⟨hr, hI, hL⟩ := h
                        subst hr hI hL
                        exact g_ireturn K rfl dX11_count_146
theorem c0_X11_count {r : Option Value} {I I' : Nat → Nat → Int32} {L L' : Nat → Nat → Int64} {x1 : Int32} (h : v_X11_count_0 r I' L' I L x1) : q_C kX11_count [.ref 0, .int x1] I L r I' L' := fun w l => q_ct (by decide) (Nat.le_of_ble_eq_true rfl) (Nat.le_refl _) (fun g _ K => h w g K)
abbrev v_X11_dark_0 (r : Option Value) (I' : Nat → Nat → Int32) (L' : Nat → Nat → Int64) (I : Nat → Nat → Int32) (L : Nat → Nat → Int64)  : Prop := q_W kX11_dark 0 [(0, .ref 0)] [] I L r I' L'
abbrev v_X11_dark_25 (r : Option Value) (I' : Nat → Nat → Int32) (L' : Nat → Nat → Int64) (I : Nat → Nat → Int32) (L : Nat → Nat → Int64) (x2 : Int32) (x3 : Int32) : Prop := q_W kX11_dark 25 [(0, .ref 0), (1, .ref 75), (2, .int x2), (3, .int x3)] [] I L r I' L'
set_option maxRecDepth 20000 in
set_option maxHeartbeats 2000000 in
theorem vc_X11_dark_0 {r : Option Value} {I' : Nat → Nat → Int32} {L' : Nat → Nat → Int64} {I : Nat → Nat → Int32} {L : Nat → Nat → Int64}  (h : (∃ r1, q_C kX11_noNight [.ref 0] I L (some (.int r1)) I L ∧ ((r1 = 0 → (∃ I2, q_C kX11_settledCourse [.ref 0] I L (some (.ref 75)) I2 L ∧ (∃ r3, q_C kX5_allPews [.ref 12] I2 L (some (.int r3)) I2 L ∧ (v_X11_dark_25 r I' L' I2 L r3 0)))) ∧ (¬ r1 = 0 → (r = some (.int (-2)) ∧ I' = I ∧ L' = L))))) : v_X11_dark_0 r I' L' I L  := by
  intro w g K
  have K1 := K.1
  refine g_aload_n K1 0 dX11_dark_0 rfl ?_
  obtain ⟨r1, hct, h⟩ := h
  refine h_callV K1 (st := []) [] (hct w (gl g)) q_clX11 lyp_0 rfl ok_X11_noNight ml_X11_210 ⟨Nat.le_of_ble_eq_true rfl, Nat.le_of_ble_eq_true rfl⟩ (Nat.le_of_ble_eq_true rfl) dX11_dark_1 ?_
  show q_Gs w g 4 [(0, .ref 0)] [.int r1] (q_mm I L)
  refine g_if_eq K1 10 dX11_dark_4 rfl (fun hc => ?_) (fun hc => ?_)
  · replace h := h.1 hc
    refine g_aload_n K1 0 dX11_dark_10 rfl ?_
    obtain ⟨I2, hct, h⟩ := h
    refine h_callV K1 (st := []) [] (hct w (gl g)) q_clX11 lyp_0 rfl ok_X11_settledCourse ml_X11_179 ⟨Nat.le_of_ble_eq_true rfl, Nat.le_of_ble_eq_true rfl⟩ (Nat.le_of_ble_eq_true rfl) dX11_dark_11 ?_
    show q_Gs w g 14 [(0, .ref 0)] [.ref 75] (q_mm I2 L)
    refine g_astore_n K1 dX11_dark_14 rfl (by decide) rfl ?_
    refine g_aload_n K1 1 dX11_dark_15 rfl ?_
    refine h_getO K1 q_clX11 5 12 lyp_0 fkX11_5 rfl fl_X11_35 dX11_dark_16 ?_
    obtain ⟨r3, hct, h⟩ := h
    refine h_callV K1 (st := []) [] (hct w (gl g)) q_clX5 lyp_12 rfl ok_X5_allPews ml_X11_217 ⟨Nat.le_of_ble_eq_true rfl, Nat.le_of_ble_eq_true rfl⟩ (Nat.le_of_ble_eq_true rfl) dX11_dark_19 ?_
    show q_Gs w g 22 [(1, .ref 75), (0, .ref 0)] [.int r3] (q_mm I2 L)
    refine g_istore_n K1 dX11_dark_22 rfl (by decide) rfl ?_
    refine g_iconst K1 0 dX11_dark_23 rfl ?_
    refine g_istore_n K1 dX11_dark_24 rfl (by decide) rfl ?_
    exact g_perm [3, 2, 1, 0] rfl (h w g K)
  · replace h := h.2 hc
    refine g_bipush K1 (-2) dX11_dark_7 rfl ?_
    obtain ⟨hr, hI, hL⟩ := h
    subst hr hI hL
    exact g_ireturn K rfl dX11_dark_9
set_option maxRecDepth 20000 in
set_option maxHeartbeats 2000000 in
theorem vc_X11_dark_25 {r : Option Value} {I' : Nat → Nat → Int32} {L' : Nat → Nat → Int64} {I : Nat → Nat → Int32} {L : Nat → Nat → Int64} {x2 : Int32} {x3 : Int32} (h : (((I 12 1) < x3 → (r = some (.int x2) ∧ I' = I ∧ L' = L)) ∧ (¬ (I 12 1) < x3 → (vp_in x3 13 ∧ (v_X11_dark_25 r I' L' I L (x2 &&& ((I 76 x3.toNatClampNeg) ^^^ (-1))) (x3 + 1)))))) : v_X11_dark_25 r I' L' I L x2 x3 := by
  intro w g K
  have K1 := K.1
  refine g_iload_n K1 3 dX11_dark_25 rfl ?_
  refine g_aload_n K1 0 dX11_dark_26 rfl ?_
  refine h_getO K1 q_clX11 5 12 lyp_0 fkX11_5 rfl fl_X11_35 dX11_dark_27 ?_
  refine h_getI K1 q_clX5 1 lyp_12 fkX5_1 fl_X11_203 dX11_dark_30 ?_
  refine g_icmp_gt K1 53 dX11_dark_33 rfl (fun hc => ?_) (fun hc => ?_)
  · replace h := h.1 hc
    refine g_iload_n K1 2 dX11_dark_53 rfl ?_
    obtain ⟨hr, hI, hL⟩ := h
    subst hr hI hL
    exact g_ireturn K rfl dX11_dark_54
  · replace h := h.2 hc
    refine g_iload_n K1 2 dX11_dark_36 rfl ?_
    refine g_aload_n K1 1 dX11_dark_37 rfl ?_
    refine h_getO K1 q_clX3 0 76 lyp_75 fkX3_0 rfl fl_X11_183 dX11_dark_38 ?_
    refine g_iload_n K1 3 dX11_dark_41 rfl ?_
    obtain ⟨hg, h⟩ := h
    refine h_iaload K1 lyp_76 hg dX11_dark_42 ?_
    refine g_iconst K1 (-1) dX11_dark_43 rfl ?_
    refine g_ixor K1 dX11_dark_44 ?_
    refine g_iand K1 dX11_dark_45 ?_
    refine g_istore_n K1 dX11_dark_46 rfl (by decide) rfl ?_
    refine g_iinc K1 (x3 + 1) 3 dX11_dark_47 rfl rfl (by decide) rfl ?_
    refine g_goto K1 25 dX11_dark_50 rfl ?_
    exact g_perm [2, 3, 1, 0] rfl (h w g K)
theorem c0_X11_dark {r : Option Value} {I I' : Nat → Nat → Int32} {L L' : Nat → Nat → Int64}  (h : v_X11_dark_0 r I' L' I L ) : q_C kX11_dark [.ref 0] I L r I' L' := fun w l => q_ct (by decide) (Nat.le_of_ble_eq_true rfl) (Nat.le_refl _) (fun g _ K => h w g K)
abbrev v_X11_deepest_0 (r : Option Value) (I' : Nat → Nat → Int32) (L' : Nat → Nat → Int64) (I : Nat → Nat → Int32) (L : Nat → Nat → Int64)  : Prop := q_W kX11_deepest 0 [(0, .ref 0)] [] I L r I' L'
abbrev v_X11_deepest_19 (r : Option Value) (I' : Nat → Nat → Int32) (L' : Nat → Nat → Int64) (I : Nat → Nat → Int32) (L : Nat → Nat → Int64) (x2 : Int32) (x3 : Int32) : Prop := q_W kX11_deepest 19 [(0, .ref 0), (1, .ref 75), (2, .int x2), (3, .int x3)] [] I L r I' L'
abbrev v_X11_deepest_33 (r : Option Value) (I' : Nat → Nat → Int32) (L' : Nat → Nat → Int64) (I : Nat → Nat → Int32) (L : Nat → Nat → Int64) (x2 : Int32) (x3 : Int32) (x4 : Int32) : Prop := q_W kX11_deepest 33 [(0, .ref 0), (1, .ref 75), (2, .int x2), (3, .int x3), (4, .int x4)] [] I L r I' L'
set_option maxRecDepth 20000 in
set_option maxHeartbeats 2000000 in
theorem vc_X11_deepest_0 {r : Option Value} {I' : Nat → Nat → Int32} {L' : Nat → Nat → Int64} {I : Nat → Nat → Int32} {L : Nat → Nat → Int64}  (h : (∃ r1, q_C kX11_noNight [.ref 0] I L (some (.int r1)) I L ∧ ((r1 = 0 → (∃ I2, q_C kX11_settledCourse [.ref 0] I L (some (.ref 75)) I2 L ∧ (v_X11_deepest_19 r I' L' I2 L (-1) 0))) ∧ (¬ r1 = 0 → (r = some (.int (-2)) ∧ I' = I ∧ L' = L))))) : v_X11_deepest_0 r I' L' I L  := by
  intro w g K
  have K1 := K.1
  refine g_aload_n K1 0 dX11_deepest_0 rfl ?_
  obtain ⟨r1, hct, h⟩ := h
  refine h_callV K1 (st := []) [] (hct w (gl g)) q_clX11 lyp_0 rfl ok_X11_noNight ml_X11_210 ⟨Nat.le_of_ble_eq_true rfl, Nat.le_of_ble_eq_true rfl⟩ (Nat.le_of_ble_eq_true rfl) dX11_deepest_1 ?_
  show q_Gs w g 4 [(0, .ref 0)] [.int r1] (q_mm I L)
  refine g_if_eq K1 10 dX11_deepest_4 rfl (fun hc => ?_) (fun hc => ?_)
  · replace h := h.1 hc
    refine g_aload_n K1 0 dX11_deepest_10 rfl ?_
    obtain ⟨I2, hct, h⟩ := h
    refine h_callV K1 (st := []) [] (hct w (gl g)) q_clX11 lyp_0 rfl ok_X11_settledCourse ml_X11_179 ⟨Nat.le_of_ble_eq_true rfl, Nat.le_of_ble_eq_true rfl⟩ (Nat.le_of_ble_eq_true rfl) dX11_deepest_11 ?_
    show q_Gs w g 14 [(0, .ref 0)] [.ref 75] (q_mm I2 L)
    refine g_astore_n K1 dX11_deepest_14 rfl (by decide) rfl ?_
    refine g_iconst K1 (-1) dX11_deepest_15 rfl ?_
    refine g_istore_n K1 dX11_deepest_16 rfl (by decide) rfl ?_
    refine g_iconst K1 0 dX11_deepest_17 rfl ?_
    refine g_istore_n K1 dX11_deepest_18 rfl (by decide) rfl ?_
    exact g_perm [3, 2, 1, 0] rfl (h w g K)
  · replace h := h.2 hc
    refine g_bipush K1 (-2) dX11_deepest_7 rfl ?_
    obtain ⟨hr, hI, hL⟩ := h
    subst hr hI hL
    exact g_ireturn K rfl dX11_deepest_9
set_option maxRecDepth 20000 in
set_option maxHeartbeats 2000000 in
theorem vc_X11_deepest_19 {r : Option Value} {I' : Nat → Nat → Int32} {L' : Nat → Nat → Int64} {I : Nat → Nat → Int32} {L : Nat → Nat → Int64} {x2 : Int32} {x3 : Int32} (h : (((I 12 1) < x3 → (r = some (.int x2) ∧ I' = I ∧ L' = L)) ∧ (¬ (I 12 1) < x3 → (v_X11_deepest_33 r I' L' I L x2 x3 0)))) : v_X11_deepest_19 r I' L' I L x2 x3 := by
  intro w g K
  have K1 := K.1
  refine g_iload_n K1 3 dX11_deepest_19 rfl ?_
  refine g_aload_n K1 0 dX11_deepest_20 rfl ?_
  refine h_getO K1 q_clX11 5 12 lyp_0 fkX11_5 rfl fl_X11_35 dX11_deepest_21 ?_
  refine h_getI K1 q_clX5 1 lyp_12 fkX5_1 fl_X11_203 dX11_deepest_24 ?_
  refine g_icmp_gt K1 73 dX11_deepest_27 rfl (fun hc => ?_) (fun hc => ?_)
  · replace h := h.1 hc
    refine g_iload_n K1 2 dX11_deepest_73 rfl ?_
    obtain ⟨hr, hI, hL⟩ := h
    subst hr hI hL
    exact g_ireturn K rfl dX11_deepest_74
  · replace h := h.2 hc
    refine g_iconst K1 0 dX11_deepest_30 rfl ?_
    refine g_istore K1 dX11_deepest_31 (by decide) rfl ?_
    exact g_perm [1, 2, 3, 4, 0] rfl (h w g K)
set_option maxRecDepth 20000 in
set_option maxHeartbeats 2000000 in
theorem vc_X11_deepest_33 {r : Option Value} {I' : Nat → Nat → Int32} {L' : Nat → Nat → Int64} {I : Nat → Nat → Int32} {L : Nat → Nat → Int64} {x2 : Int32} {x3 : Int32} {x4 : Int32} (h : (((I 12 4) ≤ x4 → (v_X11_deepest_19 r I' L' I L x2 (x3 + 1))) ∧ (¬ (I 12 4) ≤ x4 → (∃ r1, q_C kX11_cell [.int x4, .int x3] I L (some (.int r1)) I L ∧ (vp_in r1 91 ∧ ∀ z2 : Int32, z2 = (if x2 < (I 80 r1.toNatClampNeg) then (I 80 r1.toNatClampNeg) else x2) → (v_X11_deepest_33 r I' L' I L z2 x3 (x4 + 1))))))) : v_X11_deepest_33 r I' L' I L x2 x3 x4 := by
  intro w g K
  have K1 := K.1
  refine g_iload K1 4 dX11_deepest_33 rfl ?_
  refine g_aload_n K1 0 dX11_deepest_35 rfl ?_
  refine h_getO K1 q_clX11 5 12 lyp_0 fkX11_5 rfl fl_X11_35 dX11_deepest_36 ?_
  refine h_getI K1 q_clX5 4 lyp_12 fkX5_4 fl_X11_214 dX11_deepest_39 ?_
  refine g_icmp_ge K1 67 dX11_deepest_42 rfl (fun hc => ?_) (fun hc => ?_)
  · replace h := h.1 hc
    refine g_iinc K1 (x3 + 1) 3 dX11_deepest_67 rfl rfl (by decide) rfl ?_
    refine g_goto K1 19 dX11_deepest_70 rfl ?_
    exact g_perm [1, 2, 3, 0] rfl (h w g K)
  · replace h := h.2 hc
    refine g_iload_n K1 2 dX11_deepest_45 rfl ?_
    refine g_aload_n K1 1 dX11_deepest_46 rfl ?_
    refine h_getO K1 q_clX3 4 80 lyp_75 fkX3_4 rfl fl_X11_227 dX11_deepest_47 ?_
    refine g_iload K1 4 dX11_deepest_50 rfl ?_
    refine g_iload_n K1 3 dX11_deepest_52 rfl ?_
    obtain ⟨r1, hct, h⟩ := h
    refine h_callS K1 (st := [.ref 80, .int x2]) [.int x4, .int x3] (hct w (gl g)) ok_X11_cell ml_X11_189 ⟨Nat.le_of_ble_eq_true rfl, Nat.le_of_ble_eq_true rfl⟩ (Nat.le_of_ble_eq_true rfl) dX11_deepest_53 ?_
    show q_Gs w g 56 [(0, .ref 0), (1, .ref 75), (2, .int x2), (3, .int x3), (4, .int x4)] [.int r1, .ref 80, .int x2] (q_mm I L)
    obtain ⟨hg, h⟩ := h
    refine h_iaload K1 lyp_80 hg dX11_deepest_56 ?_
    refine h_mmax K1 (by exact Nat.le_of_ble_eq_true rfl) ⟨Nat.le_of_ble_eq_true rfl, Nat.le_of_ble_eq_true rfl⟩ ml_X11_239 dX11_deepest_57 ?_
    refine g_nameI (fun z2 hz2 => ?_)
    replace h := h z2 hz2
    refine g_istore_n K1 dX11_deepest_60 rfl (by decide) rfl ?_
    refine g_iinc K1 (x4 + 1) 4 dX11_deepest_61 rfl rfl (by decide) rfl ?_
    refine g_goto K1 33 dX11_deepest_64 rfl ?_
    exact g_perm [2, 3, 1, 4, 0] rfl (h w g K)
theorem c0_X11_deepest {r : Option Value} {I I' : Nat → Nat → Int32} {L L' : Nat → Nat → Int64}  (h : v_X11_deepest_0 r I' L' I L ) : q_C kX11_deepest [.ref 0] I L r I' L' := fun w l => q_ct (by decide) (Nat.le_of_ble_eq_true rfl) (Nat.le_refl _) (fun g _ K => h w g K)
abbrev v_X11_depth_0 (r : Option Value) (I' : Nat → Nat → Int32) (L' : Nat → Nat → Int64) (I : Nat → Nat → Int32) (L : Nat → Nat → Int64) (x1 : Int32) (x2 : Int32) : Prop := q_W kX11_depth 0 [(0, .ref 0), (1, .int x1), (2, .int x2)] [] I L r I' L'
set_option maxRecDepth 20000 in
set_option maxHeartbeats 2000000 in
theorem vc_X11_depth_0 {r : Option Value} {I' : Nat → Nat → Int32} {L' : Nat → Nat → Int64} {I : Nat → Nat → Int32} {L : Nat → Nat → Int64} {x1 : Int32} {x2 : Int32} (h : (∃ r1, q_C kX11_noPew [.ref 0, .int x1] I L (some (.int r1)) I L ∧ ((r1 = 0 → (∃ r2, q_C kX11_noHour [.ref 0, .int x2] I L (some (.int r2)) I L ∧ ((r2 = 0 → (∃ I3, q_C kX11_settledCourse [.ref 0] I L (some (.ref 75)) I3 L ∧ (∃ r4, q_C kX11_cell [.int x1, .int x2] I3 L (some (.int r4)) I3 L ∧ (vp_in r4 91 ∧ (r = some (.int (I3 80 r4.toNatClampNeg)) ∧ I' = I3 ∧ L' = L))))) ∧ (¬ r2 = 0 → (r = some (.int (-2)) ∧ I' = I ∧ L' = L))))) ∧ (¬ r1 = 0 → (r = some (.int (-2)) ∧ I' = I ∧ L' = L))))) : v_X11_depth_0 r I' L' I L x1 x2 := by
  intro w g K
  have K1 := K.1
  refine g_aload_n K1 0 dX11_depth_0 rfl ?_
  refine g_iload_n K1 1 dX11_depth_1 rfl ?_
  obtain ⟨r1, hct, h⟩ := h
  refine h_callV K1 (st := []) [.int x1] (hct w (gl g)) q_clX11 lyp_0 rfl ok_X11_noPew ml_X11_145 ⟨Nat.le_of_ble_eq_true rfl, Nat.le_of_ble_eq_true rfl⟩ (Nat.le_of_ble_eq_true rfl) dX11_depth_2 ?_
  show q_Gs w g 5 [(0, .ref 0), (1, .int x1), (2, .int x2)] [.int r1] (q_mm I L)
  refine g_if_ne K1 16 dX11_depth_5 rfl (fun hc => ?_) (fun hc => ?_)
  · replace h := h.2 hc
    refine g_bipush K1 (-2) dX11_depth_16 rfl ?_
    obtain ⟨hr, hI, hL⟩ := h
    subst hr hI hL
    exact g_ireturn K rfl dX11_depth_18
  · replace h := h.1 hc
    refine g_aload_n K1 0 dX11_depth_8 rfl ?_
    refine g_iload_n K1 2 dX11_depth_9 rfl ?_
    obtain ⟨r2, hct, h⟩ := h
    refine h_callV K1 (st := []) [.int x2] (hct w (gl g)) q_clX11 lyp_0 rfl ok_X11_noHour ml_X11_176 ⟨Nat.le_of_ble_eq_true rfl, Nat.le_of_ble_eq_true rfl⟩ (Nat.le_of_ble_eq_true rfl) dX11_depth_10 ?_
    show q_Gs w g 13 [(0, .ref 0), (1, .int x1), (2, .int x2)] [.int r2] (q_mm I L)
    refine g_if_eq K1 19 dX11_depth_13 rfl (fun hc => ?_) (fun hc => ?_)
    · replace h := h.1 hc
      refine g_aload_n K1 0 dX11_depth_19 rfl ?_
      obtain ⟨I3, hct, h⟩ := h
      refine h_callV K1 (st := []) [] (hct w (gl g)) q_clX11 lyp_0 rfl ok_X11_settledCourse ml_X11_179 ⟨Nat.le_of_ble_eq_true rfl, Nat.le_of_ble_eq_true rfl⟩ (Nat.le_of_ble_eq_true rfl) dX11_depth_20 ?_
      show q_Gs w g 23 [(0, .ref 0), (1, .int x1), (2, .int x2)] [.ref 75] (q_mm I3 L)
      refine h_getO K1 q_clX3 4 80 lyp_75 fkX3_4 rfl fl_X11_227 dX11_depth_23 ?_
      refine g_iload_n K1 1 dX11_depth_26 rfl ?_
      refine g_iload_n K1 2 dX11_depth_27 rfl ?_
      obtain ⟨r4, hct, h⟩ := h
      refine h_callS K1 (st := [.ref 80]) [.int x1, .int x2] (hct w (gl g)) ok_X11_cell ml_X11_189 ⟨Nat.le_of_ble_eq_true rfl, Nat.le_of_ble_eq_true rfl⟩ (Nat.le_of_ble_eq_true rfl) dX11_depth_28 ?_
      show q_Gs w g 31 [(0, .ref 0), (1, .int x1), (2, .int x2)] [.int r4, .ref 80] (q_mm I3 L)
      obtain ⟨hg, h⟩ := h
      refine h_iaload K1 lyp_80 hg dX11_depth_31 ?_
      obtain ⟨hr, hI, hL⟩ := h
      subst hr hI hL
      exact g_ireturn K rfl dX11_depth_32
    · replace h := h.2 hc
      refine g_bipush K1 (-2) dX11_depth_16 rfl ?_
      obtain ⟨hr, hI, hL⟩ := h
      subst hr hI hL
      exact g_ireturn K rfl dX11_depth_18
theorem c0_X11_depth {r : Option Value} {I I' : Nat → Nat → Int32} {L L' : Nat → Nat → Int64} {x1 : Int32} {x2 : Int32} (h : v_X11_depth_0 r I' L' I L x1 x2) : q_C kX11_depth [.ref 0, .int x1, .int x2] I L r I' L' := fun w l => q_ct (by decide) (Nat.le_of_ble_eq_true rfl) (Nat.le_refl _) (fun g _ K => h w g K)
abbrev v_X11_draught_0 (r : Option Value) (I' : Nat → Nat → Int32) (L' : Nat → Nat → Int64) (I : Nat → Nat → Int32) (L : Nat → Nat → Int64) (x1 : Int32) (x2 : Int32) : Prop := q_W kX11_draught 0 [(0, .ref 0), (1, .int x1), (2, .int x2)] [] I L r I' L'
set_option maxRecDepth 20000 in
set_option maxHeartbeats 2000000 in
theorem vc_X11_draught_0 {r : Option Value} {I' : Nat → Nat → Int32} {L' : Nat → Nat → Int64} {I : Nat → Nat → Int32} {L : Nat → Nat → Int64} {x1 : Int32} {x2 : Int32} (h : (∃ r1, q_C kX11_noPew [.ref 0, .int x1] I L (some (.int r1)) I L ∧ ((r1 = 0 → (∃ r2, q_C kX11_noHour [.ref 0, .int x2] I L (some (.int r2)) I L ∧ ((r2 = 0 → (∃ r3 I4, q_C kX11_act [.ref 0, .int x1, .int 0, .int x2] I L (some (.int r3)) I4 L ∧ (r = some (.int r3) ∧ I' = I4 ∧ L' = L))) ∧ (¬ r2 = 0 → (r = some (.int (-2)) ∧ I' = I ∧ L' = L))))) ∧ (¬ r1 = 0 → (r = some (.int (-2)) ∧ I' = I ∧ L' = L))))) : v_X11_draught_0 r I' L' I L x1 x2 := by
  intro w g K
  have K1 := K.1
  refine g_aload_n K1 0 dX11_draught_0 rfl ?_
  refine g_iload_n K1 1 dX11_draught_1 rfl ?_
  obtain ⟨r1, hct, h⟩ := h
  refine h_callV K1 (st := []) [.int x1] (hct w (gl g)) q_clX11 lyp_0 rfl ok_X11_noPew ml_X11_145 ⟨Nat.le_of_ble_eq_true rfl, Nat.le_of_ble_eq_true rfl⟩ (Nat.le_of_ble_eq_true rfl) dX11_draught_2 ?_
  show q_Gs w g 5 [(0, .ref 0), (1, .int x1), (2, .int x2)] [.int r1] (q_mm I L)
  refine g_if_ne K1 16 dX11_draught_5 rfl (fun hc => ?_) (fun hc => ?_)
  · replace h := h.2 hc
    refine g_bipush K1 (-2) dX11_draught_16 rfl ?_
    obtain ⟨hr, hI, hL⟩ := h
    subst hr hI hL
    exact g_ireturn K rfl dX11_draught_18
  · replace h := h.1 hc
    refine g_aload_n K1 0 dX11_draught_8 rfl ?_
    refine g_iload_n K1 2 dX11_draught_9 rfl ?_
    obtain ⟨r2, hct, h⟩ := h
    refine h_callV K1 (st := []) [.int x2] (hct w (gl g)) q_clX11 lyp_0 rfl ok_X11_noHour ml_X11_176 ⟨Nat.le_of_ble_eq_true rfl, Nat.le_of_ble_eq_true rfl⟩ (Nat.le_of_ble_eq_true rfl) dX11_draught_10 ?_
    show q_Gs w g 13 [(0, .ref 0), (1, .int x1), (2, .int x2)] [.int r2] (q_mm I L)
    refine g_if_eq K1 19 dX11_draught_13 rfl (fun hc => ?_) (fun hc => ?_)
    · replace h := h.1 hc
      refine g_aload_n K1 0 dX11_draught_19 rfl ?_
      refine g_iload_n K1 1 dX11_draught_20 rfl ?_
      refine g_iconst K1 0 dX11_draught_21 rfl ?_
      refine g_iload_n K1 2 dX11_draught_22 rfl ?_
      obtain ⟨r3, I4, hct, h⟩ := h
      refine h_callV K1 (st := []) [.int x1, .int 0, .int x2] (hct w (gl g)) q_clX11 lyp_0 rfl ok_X11_act ml_X11_367 ⟨Nat.le_of_ble_eq_true rfl, Nat.le_of_ble_eq_true rfl⟩ (Nat.le_of_ble_eq_true rfl) dX11_draught_23 ?_
      show q_Gs w g 26 [(0, .ref 0), (1, .int x1), (2, .int x2)] [.int r3] (q_mm I4 L)
      obtain ⟨hr, hI, hL⟩ := h
      subst hr hI hL
      exact g_ireturn K rfl dX11_draught_26
    · replace h := h.2 hc
      refine g_bipush K1 (-2) dX11_draught_16 rfl ?_
      obtain ⟨hr, hI, hL⟩ := h
      subst hr hI hL
      exact g_ireturn K rfl dX11_draught_18
theorem c0_X11_draught {r : Option Value} {I I' : Nat → Nat → Int32} {L L' : Nat → Nat → Int64} {x1 : Int32} {x2 : Int32} (h : v_X11_draught_0 r I' L' I L x1 x2) : q_C kX11_draught [.ref 0, .int x1, .int x2] I L r I' L' := fun w l => q_ct (by decide) (Nat.le_of_ble_eq_true rfl) (Nat.le_refl _) (fun g _ K => h w g K)
abbrev v_X11_drawn_0 (r : Option Value) (I' : Nat → Nat → Int32) (L' : Nat → Nat → Int64) (I : Nat → Nat → Int32) (L : Nat → Nat → Int64) (x1 : Int32) (x2 : Int32) : Prop := q_W kX11_drawn 0 [(0, .ref 0), (1, .int x1), (2, .int x2)] [] I L r I' L'
set_option maxRecDepth 20000 in
set_option maxHeartbeats 2000000 in
theorem vc_X11_drawn_0 {r : Option Value} {I' : Nat → Nat → Int32} {L' : Nat → Nat → Int64} {I : Nat → Nat → Int32} {L : Nat → Nat → Int64} {x1 : Int32} {x2 : Int32} (h : (∃ r1, q_C kX11_noNight [.ref 0] I L (some (.int r1)) I L ∧ ((r1 = 0 → (∃ r2, q_C kX11_noSeed [.int x1] I L (some (.int r2)) I L ∧ ((r2 = 0 → (∃ r3, q_C kX11_noPart [.int x2] I L (some (.int r3)) I L ∧ ((r3 = 0 → (∃ r4, q_C kX1_silenceDrawn [.ref 95, .long x1.toInt64] I L (some (.int r4)) I L ∧ ((x2 = 0 → (r = some (.int r4) ∧ I' = I ∧ L' = L)) ∧ (¬ x2 = 0 → (∃ r5 I6, q_C kX1_litAfter [.ref 95, .int r4] I L (some (.int r5)) I6 L ∧ (r = some (.int r5) ∧ I' = I6 ∧ L' = L)))))) ∧ (¬ r3 = 0 → (r = some (.int (-2)) ∧ I' = I ∧ L' = L))))) ∧ (¬ r2 = 0 → (r = some (.int (-2)) ∧ I' = I ∧ L' = L))))) ∧ (¬ r1 = 0 → (r = some (.int (-2)) ∧ I' = I ∧ L' = L))))) : v_X11_drawn_0 r I' L' I L x1 x2 := by
  intro w g K
  have K1 := K.1
  refine g_aload_n K1 0 dX11_drawn_0 rfl ?_
  obtain ⟨r1, hct, h⟩ := h
  refine h_callV K1 (st := []) [] (hct w (gl g)) q_clX11 lyp_0 rfl ok_X11_noNight ml_X11_210 ⟨Nat.le_of_ble_eq_true rfl, Nat.le_of_ble_eq_true rfl⟩ (Nat.le_of_ble_eq_true rfl) dX11_drawn_1 ?_
  show q_Gs w g 4 [(0, .ref 0), (1, .int x1), (2, .int x2)] [.int r1] (q_mm I L)
  refine g_if_ne K1 21 dX11_drawn_4 rfl (fun hc => ?_) (fun hc => ?_)
  · replace h := h.2 hc
    refine g_bipush K1 (-2) dX11_drawn_21 rfl ?_
    obtain ⟨hr, hI, hL⟩ := h
    subst hr hI hL
    exact g_ireturn K rfl dX11_drawn_23
  · replace h := h.1 hc
    refine g_iload_n K1 1 dX11_drawn_7 rfl ?_
    obtain ⟨r2, hct, h⟩ := h
    refine h_callS K1 (st := []) [.int x1] (hct w (gl g)) ok_X11_noSeed ml_X11_373 ⟨Nat.le_of_ble_eq_true rfl, Nat.le_of_ble_eq_true rfl⟩ (Nat.le_of_ble_eq_true rfl) dX11_drawn_8 ?_
    show q_Gs w g 11 [(0, .ref 0), (1, .int x1), (2, .int x2)] [.int r2] (q_mm I L)
    refine g_if_ne K1 21 dX11_drawn_11 rfl (fun hc => ?_) (fun hc => ?_)
    · replace h := h.2 hc
      refine g_bipush K1 (-2) dX11_drawn_21 rfl ?_
      obtain ⟨hr, hI, hL⟩ := h
      subst hr hI hL
      exact g_ireturn K rfl dX11_drawn_23
    · replace h := h.1 hc
      refine g_iload_n K1 2 dX11_drawn_14 rfl ?_
      obtain ⟨r3, hct, h⟩ := h
      refine h_callS K1 (st := []) [.int x2] (hct w (gl g)) ok_X11_noPart ml_X11_276 ⟨Nat.le_of_ble_eq_true rfl, Nat.le_of_ble_eq_true rfl⟩ (Nat.le_of_ble_eq_true rfl) dX11_drawn_15 ?_
      show q_Gs w g 18 [(0, .ref 0), (1, .int x1), (2, .int x2)] [.int r3] (q_mm I L)
      refine g_if_eq K1 24 dX11_drawn_18 rfl (fun hc => ?_) (fun hc => ?_)
      · replace h := h.1 hc
        refine g_aload_n K1 0 dX11_drawn_24 rfl ?_
        refine h_getO K1 q_clX11 17 95 lyp_0 fkX11_17 rfl fl_X11_112 dX11_drawn_25 ?_
        refine g_iload_n K1 1 dX11_drawn_28 rfl ?_
        refine g_i2l K1 dX11_drawn_29 ?_
        obtain ⟨r4, hct, h⟩ := h
        refine h_callV K1 (st := []) [.long x1.toInt64] (hct w (gl g)) q_clX1 lyp_95 rfl ok_X1_silenceDrawn ml_X11_376 ⟨Nat.le_of_ble_eq_true rfl, Nat.le_of_ble_eq_true rfl⟩ (Nat.le_of_ble_eq_true rfl) dX11_drawn_30 ?_
        show q_Gs w g 33 [(0, .ref 0), (1, .int x1), (2, .int x2)] [.int r4] (q_mm I L)
        refine g_istore_n K1 dX11_drawn_33 rfl (by decide) rfl ?_
        refine g_iload_n K1 3 dX11_drawn_34 rfl ?_
        refine g_if_ne K1 42 dX11_drawn_35 rfl (fun hc => ?_) (fun hc => ?_)
        · replace h := h.2 hc
          refine g_aload_n K1 1 dX11_drawn_42 rfl ?_
          refine h_getO K1 q_clX11 17 95 lyp_0 fkX11_17 rfl fl_X11_112 dX11_drawn_43 ?_
          refine g_iload_n K1 0 dX11_drawn_46 rfl ?_
          obtain ⟨r5, I6, hct, h⟩ := h
          refine h_callV K1 (st := []) [.int r4] (hct w (gl g)) q_clX1 lyp_95 rfl ok_X1_litAfter ml_X11_380 ⟨Nat.le_of_ble_eq_true rfl, Nat.le_of_ble_eq_true rfl⟩ (Nat.le_of_ble_eq_true rfl) dX11_drawn_47 ?_
          show q_Gs w g 50 [(3, .int r4), (0, .ref 0), (1, .int x1), (2, .int x2)] [.int r5] (q_mm I6 L)
          obtain ⟨hr, hI, hL⟩ := h
          subst hr hI hL
          exact g_ireturn K rfl dX11_drawn_50
        · replace h := h.1 hc
          refine g_iload_n K1 0 dX11_drawn_38 rfl ?_
          refine g_goto K1 50 dX11_drawn_39 rfl ?_
          obtain ⟨hr, hI, hL⟩ := h
          subst hr hI hL
          exact g_ireturn K rfl dX11_drawn_50
      · replace h := h.2 hc
        refine g_bipush K1 (-2) dX11_drawn_21 rfl ?_
        obtain ⟨hr, hI, hL⟩ := h
        subst hr hI hL
        exact g_ireturn K rfl dX11_drawn_23
theorem c0_X11_drawn {r : Option Value} {I I' : Nat → Nat → Int32} {L L' : Nat → Nat → Int64} {x1 : Int32} {x2 : Int32} (h : v_X11_drawn_0 r I' L' I L x1 x2) : q_C kX11_drawn [.ref 0, .int x1, .int x2] I L r I' L' := fun w l => q_ct (by decide) (Nat.le_of_ble_eq_true rfl) (Nat.le_refl _) (fun g _ K => h w g K)
abbrev v_X11_end_0 (r : Option Value) (I' : Nat → Nat → Int32) (L' : Nat → Nat → Int64) (I : Nat → Nat → Int32) (L : Nat → Nat → Int64) (x1 : Int32) : Prop := q_W kX11_end 0 [(0, .ref 0), (1, .int x1)] [] I L r I' L'
set_option maxRecDepth 20000 in
set_option maxHeartbeats 2000000 in
theorem vc_X11_end_0 {r : Option Value} {I' : Nat → Nat → Int32} {L' : Nat → Nat → Int64} {I : Nat → Nat → Int32} {L : Nat → Nat → Int64} {x1 : Int32} (h : ((x1 < 0 → (r = some (.int (-1)) ∧ I' = I ∧ L' = L)) ∧ (¬ x1 < 0 → ((x1 ≤ (I 0 1) → (r = some (.int x1) ∧ I' = (up2 I 0 1 x1) ∧ L' = L)) ∧ (¬ x1 ≤ (I 0 1) → (r = some (.int (-1)) ∧ I' = I ∧ L' = L)))))) : v_X11_end_0 r I' L' I L x1 := by
  intro w g K
  have K1 := K.1
  refine g_iload_n K1 1 dX11_end_0 rfl ?_
  refine g_if_lt K1 12 dX11_end_1 rfl (fun hc => ?_) (fun hc => ?_)
  · replace h := h.1 hc
    refine g_iconst K1 (-1) dX11_end_12 rfl ?_
    obtain ⟨hr, hI, hL⟩ := h
    subst hr hI hL
    exact g_ireturn K rfl dX11_end_13
  · replace h := h.2 hc
    refine g_iload_n K1 1 dX11_end_4 rfl ?_
    refine g_aload_n K1 0 dX11_end_5 rfl ?_
    refine h_getI K1 q_clX11 1 lyp_0 fkX11_1 fl_X11_13 dX11_end_6 ?_
    refine g_icmp_le K1 14 dX11_end_9 rfl (fun hc => ?_) (fun hc => ?_)
    · replace h := h.1 hc
      refine g_aload_n K1 0 dX11_end_14 rfl ?_
      refine g_iload_n K1 1 dX11_end_15 rfl ?_
      refine h_putI K1 q_clX11 1 lyp_0 fkX11_1 fl_X11_13 rfl rfl rfl dX11_end_16 ?_
      refine g_iload_n K1 1 dX11_end_19 rfl ?_
      obtain ⟨hr, hI, hL⟩ := h
      subst hr hI hL
      exact g_ireturn K rfl dX11_end_20
    · replace h := h.2 hc
      refine g_iconst K1 (-1) dX11_end_12 rfl ?_
      obtain ⟨hr, hI, hL⟩ := h
      subst hr hI hL
      exact g_ireturn K rfl dX11_end_13
theorem c0_X11_end {r : Option Value} {I I' : Nat → Nat → Int32} {L L' : Nat → Nat → Int64} {x1 : Int32} (h : v_X11_end_0 r I' L' I L x1) : q_C kX11_end [.ref 0, .int x1] I L r I' L' := fun w l => q_ct (by decide) (Nat.le_of_ble_eq_true rfl) (Nat.le_refl _) (fun g _ K => h w g K)
abbrev v_X11_far_0 (r : Option Value) (I' : Nat → Nat → Int32) (L' : Nat → Nat → Int64) (I : Nat → Nat → Int32) (L : Nat → Nat → Int64) (x1 : Int32) (x2 : Int32) : Prop := q_W kX11_far 0 [(0, .ref 0), (1, .int x1), (2, .int x2)] [] I L r I' L'
abbrev v_X11_far_26 (r : Option Value) (I' : Nat → Nat → Int32) (L' : Nat → Nat → Int64) (I : Nat → Nat → Int32) (L : Nat → Nat → Int64) (x2 : Int32) (x3 : Int32) (x4 : Int32) : Prop := q_W kX11_far 26 [(0, .ref 0), (2, .int x2), (3, .int x3), (4, .int x4)] [] I L r I' L'
set_option maxRecDepth 20000 in
set_option maxHeartbeats 2000000 in
theorem vc_X11_far_0 {r : Option Value} {I' : Nat → Nat → Int32} {L' : Nat → Nat → Int64} {I : Nat → Nat → Int32} {L : Nat → Nat → Int64} {x1 : Int32} {x2 : Int32} (h : (∃ r1, q_C kX11_noPew [.ref 0, .int x1] I L (some (.int r1)) I L ∧ ((r1 = 0 → (∃ r2, q_C kX11_noPew [.ref 0, .int x2] I L (some (.int r2)) I L ∧ ((r2 = 0 → (v_X11_far_26 r I' L' I L x2 ((1 : Int32) <<< (x1 &&& 31)) 0)) ∧ (¬ r2 = 0 → (r = some (.int (-2)) ∧ I' = I ∧ L' = L))))) ∧ (¬ r1 = 0 → (r = some (.int (-2)) ∧ I' = I ∧ L' = L))))) : v_X11_far_0 r I' L' I L x1 x2 := by
  intro w g K
  have K1 := K.1
  refine g_aload_n K1 0 dX11_far_0 rfl ?_
  refine g_iload_n K1 1 dX11_far_1 rfl ?_
  obtain ⟨r1, hct, h⟩ := h
  refine h_callV K1 (st := []) [.int x1] (hct w (gl g)) q_clX11 lyp_0 rfl ok_X11_noPew ml_X11_145 ⟨Nat.le_of_ble_eq_true rfl, Nat.le_of_ble_eq_true rfl⟩ (Nat.le_of_ble_eq_true rfl) dX11_far_2 ?_
  show q_Gs w g 5 [(0, .ref 0), (1, .int x1), (2, .int x2)] [.int r1] (q_mm I L)
  refine g_if_ne K1 16 dX11_far_5 rfl (fun hc => ?_) (fun hc => ?_)
  · replace h := h.2 hc
    refine g_bipush K1 (-2) dX11_far_16 rfl ?_
    obtain ⟨hr, hI, hL⟩ := h
    subst hr hI hL
    exact g_ireturn K rfl dX11_far_18
  · replace h := h.1 hc
    refine g_aload_n K1 0 dX11_far_8 rfl ?_
    refine g_iload_n K1 2 dX11_far_9 rfl ?_
    obtain ⟨r2, hct, h⟩ := h
    refine h_callV K1 (st := []) [.int x2] (hct w (gl g)) q_clX11 lyp_0 rfl ok_X11_noPew ml_X11_145 ⟨Nat.le_of_ble_eq_true rfl, Nat.le_of_ble_eq_true rfl⟩ (Nat.le_of_ble_eq_true rfl) dX11_far_10 ?_
    show q_Gs w g 13 [(0, .ref 0), (1, .int x1), (2, .int x2)] [.int r2] (q_mm I L)
    refine g_if_eq K1 19 dX11_far_13 rfl (fun hc => ?_) (fun hc => ?_)
    · replace h := h.1 hc
      refine g_iconst K1 1 dX11_far_19 rfl ?_
      refine g_iload_n K1 1 dX11_far_20 rfl ?_
      refine g_ishl K1 dX11_far_21 ?_
      refine g_istore_n K1 dX11_far_22 rfl (by decide) rfl ?_
      refine g_iconst K1 0 dX11_far_23 rfl ?_
      refine g_istore K1 dX11_far_24 (by decide) rfl ?_
      exact g_perm [2, 4, 1, 0] rfl (h w g K)
    · replace h := h.2 hc
      refine g_bipush K1 (-2) dX11_far_16 rfl ?_
      obtain ⟨hr, hI, hL⟩ := h
      subst hr hI hL
      exact g_ireturn K rfl dX11_far_18
set_option maxRecDepth 20000 in
set_option maxHeartbeats 2000000 in
theorem vc_X11_far_26 {r : Option Value} {I' : Nat → Nat → Int32} {L' : Nat → Nat → Int64} {I : Nat → Nat → Int32} {L : Nat → Nat → Int64} {x2 : Int32} {x3 : Int32} {x4 : Int32} (h : ((7 ≤ x4 → (r = some (.int (-1)) ∧ I' = I ∧ L' = L)) ∧ (¬ 7 ≤ x4 → ((((x3 >>> (x2 &&& 31)) &&& 1) = 0 → (∃ r1, q_C kX5_nearAny [.ref 12, .int x3] I L (some (.int r1)) I L ∧ (v_X11_far_26 r I' L' I L x2 (x3 ||| r1) (x4 + 1)))) ∧ (¬ ((x3 >>> (x2 &&& 31)) &&& 1) = 0 → (r = some (.int x4) ∧ I' = I ∧ L' = L)))))) : v_X11_far_26 r I' L' I L x2 x3 x4 := by
  intro w g K
  have K1 := K.1
  refine g_iload K1 3 dX11_far_26 rfl ?_
  refine g_bipush K1 7 dX11_far_28 rfl ?_
  refine g_icmp_ge K1 61 dX11_far_30 rfl (fun hc => ?_) (fun hc => ?_)
  · replace h := h.1 hc
    refine g_iconst K1 (-1) dX11_far_61 rfl ?_
    obtain ⟨hr, hI, hL⟩ := h
    subst hr hI hL
    exact g_ireturn K rfl dX11_far_62
  · replace h := h.2 hc
    refine g_iload_n K1 2 dX11_far_33 rfl ?_
    refine g_iload_n K1 1 dX11_far_34 rfl ?_
    refine g_ishr K1 dX11_far_35 ?_
    refine g_iconst K1 1 dX11_far_36 rfl ?_
    refine g_iand K1 dX11_far_37 ?_
    refine g_if_eq K1 44 dX11_far_38 rfl (fun hc => ?_) (fun hc => ?_)
    · replace h := h.1 hc
      refine g_iload_n K1 2 dX11_far_44 rfl ?_
      refine g_aload_n K1 0 dX11_far_45 rfl ?_
      refine h_getO K1 q_clX11 5 12 lyp_0 fkX11_5 rfl fl_X11_35 dX11_far_46 ?_
      refine g_iload_n K1 2 dX11_far_49 rfl ?_
      obtain ⟨r1, hct, h⟩ := h
      refine h_callV K1 (st := [.int x3]) [.int x3] (hct w (gl g)) q_clX5 lyp_12 rfl ok_X5_nearAny ml_X11_162 ⟨Nat.le_of_ble_eq_true rfl, Nat.le_of_ble_eq_true rfl⟩ (Nat.le_of_ble_eq_true rfl) dX11_far_50 ?_
      show q_Gs w g 53 [(0, .ref 0), (2, .int x2), (3, .int x3), (4, .int x4)] [.int r1, .int x3] (q_mm I L)
      refine g_ior K1 dX11_far_53 ?_
      refine g_istore_n K1 dX11_far_54 rfl (by decide) rfl ?_
      refine g_iinc K1 (x4 + 1) 3 dX11_far_55 rfl rfl (by decide) rfl ?_
      refine g_goto K1 26 dX11_far_58 rfl ?_
      exact g_perm [2, 3, 1, 0] rfl (h w g K)
    · replace h := h.2 hc
      refine g_iload K1 3 dX11_far_41 rfl ?_
      obtain ⟨hr, hI, hL⟩ := h
      subst hr hI hL
      exact g_ireturn K rfl dX11_far_43
theorem c0_X11_far {r : Option Value} {I I' : Nat → Nat → Int32} {L L' : Nat → Nat → Int64} {x1 : Int32} {x2 : Int32} (h : v_X11_far_0 r I' L' I L x1 x2) : q_C kX11_far [.ref 0, .int x1, .int x2] I L r I' L' := fun w l => q_ct (by decide) (Nat.le_of_ble_eq_true rfl) (Nat.le_refl _) (fun g _ K => h w g K)
abbrev v_X11_fault_0 (r : Option Value) (I' : Nat → Nat → Int32) (L' : Nat → Nat → Int64) (I : Nat → Nat → Int32) (L : Nat → Nat → Int64) (x1 : Int32) : Prop := q_W kX11_fault 0 [(0, .ref 0), (1, .int x1)] [] I L r I' L'
set_option maxRecDepth 20000 in
set_option maxHeartbeats 2000000 in
theorem vc_X11_fault_0 {r : Option Value} {I' : Nat → Nat → Int32} {L' : Nat → Nat → Int64} {I : Nat → Nat → Int32} {L : Nat → Nat → Int64} {x1 : Int32} (h : ((x1 = 0 → (r = some (.int (I 0 2)) ∧ I' = I ∧ L' = L)) ∧ (¬ x1 = 0 → ((x1 = 1 → (r = some (.int (I 0 3)) ∧ I' = I ∧ L' = L)) ∧ (¬ x1 = 1 → (r = some (.int (-1)) ∧ I' = I ∧ L' = L)))))) : v_X11_fault_0 r I' L' I L x1 := by
  intro w g K
  have K1 := K.1
  refine g_iload_n K1 1 dX11_fault_0 rfl ?_
  refine g_if_ne K1 9 dX11_fault_1 rfl (fun hc => ?_) (fun hc => ?_)
  · replace h := h.2 hc
    refine g_iload_n K1 1 dX11_fault_9 rfl ?_
    refine g_iconst K1 1 dX11_fault_10 rfl ?_
    refine g_icmp_ne K1 21 dX11_fault_11 rfl (fun hc => ?_) (fun hc => ?_)
    · replace h := h.2 hc
      refine g_iconst K1 (-1) dX11_fault_21 rfl ?_
      obtain ⟨hr, hI, hL⟩ := h
      subst hr hI hL
      exact g_ireturn K rfl dX11_fault_22
    · replace h := h.1 hc
      refine g_aload_n K1 0 dX11_fault_14 rfl ?_
      refine h_getI K1 q_clX11 3 lyp_0 fkX11_3 fl_X11_20 dX11_fault_15 ?_
      refine g_goto K1 22 dX11_fault_18 rfl ?_
      obtain ⟨hr, hI, hL⟩ := h
      subst hr hI hL
      exact g_ireturn K rfl dX11_fault_22
  · replace h := h.1 hc
    refine g_aload_n K1 0 dX11_fault_4 rfl ?_
    refine h_getI K1 q_clX11 2 lyp_0 fkX11_2 fl_X11_17 dX11_fault_5 ?_
    obtain ⟨hr, hI, hL⟩ := h
    subst hr hI hL
    exact g_ireturn K rfl dX11_fault_8
theorem c0_X11_fault {r : Option Value} {I I' : Nat → Nat → Int32} {L L' : Nat → Nat → Int64} {x1 : Int32} (h : v_X11_fault_0 r I' L' I L x1) : q_C kX11_fault [.ref 0, .int x1] I L r I' L' := fun w l => q_ct (by decide) (Nat.le_of_ble_eq_true rfl) (Nat.le_refl _) (fun g _ K => h w g K)
abbrev v_X11_feed_0 (r : Option Value) (I' : Nat → Nat → Int32) (L' : Nat → Nat → Int64) (I : Nat → Nat → Int32) (L : Nat → Nat → Int64) (x1 : Int32) (x2 : Int32) (x3 : Int32) (x4 : Int32) (x5 : Int32) : Prop := q_W kX11_feed 0 [(0, .ref 0), (1, .int x1), (2, .int x2), (3, .int x3), (4, .int x4), (5, .int x5)] [] I L r I' L'
set_option maxRecDepth 20000 in
set_option maxHeartbeats 2000000 in
theorem vc_X11_feed_0 {r : Option Value} {I' : Nat → Nat → Int32} {L' : Nat → Nat → Int64} {I : Nat → Nat → Int32} {L : Nat → Nat → Int64} {x1 : Int32} {x2 : Int32} {x3 : Int32} {x4 : Int32} {x5 : Int32} (h : ((((I 0 1) + 20) ≤ 600 → (∃ I1, q_C kX11_putBytes [.ref 0, .int x1] I L none I1 L ∧ (∃ I2, q_C kX11_putBytes [.ref 0, .int x2] I1 L none I2 L ∧ (∃ I3, q_C kX11_putBytes [.ref 0, .int x3] I2 L none I3 L ∧ (∃ I4, q_C kX11_putBytes [.ref 0, .int x4] I3 L none I4 L ∧ (∃ I5, q_C kX11_putBytes [.ref 0, .int x5] I4 L none I5 L ∧ (r = some (.int (I5 0 1)) ∧ I' = I5 ∧ L' = L))))))) ∧ (¬ ((I 0 1) + 20) ≤ 600 → (r = some (.int (-1)) ∧ I' = I ∧ L' = L)))) : v_X11_feed_0 r I' L' I L x1 x2 x3 x4 x5 := by
  intro w g K
  have K1 := K.1
  refine g_aload_n K1 0 dX11_feed_0 rfl ?_
  refine h_getI K1 q_clX11 1 lyp_0 fkX11_1 fl_X11_13 dX11_feed_1 ?_
  refine g_bipush K1 20 dX11_feed_4 rfl ?_
  refine g_iadd K1 dX11_feed_6 ?_
  refine g_sipush K1 600 dX11_feed_7 rfl ?_
  refine g_icmp_le K1 15 dX11_feed_10 rfl (fun hc => ?_) (fun hc => ?_)
  · replace h := h.1 hc
    refine g_aload_n K1 0 dX11_feed_15 rfl ?_
    refine g_iload_n K1 1 dX11_feed_16 rfl ?_
    obtain ⟨I1, hct, h⟩ := h
    refine h_callV K1 (st := []) [.int x1] (hct w (gl g)) q_clX11 lyp_0 rfl ok_X11_putBytes ml_X11_120 ⟨Nat.le_of_ble_eq_true rfl, Nat.le_of_ble_eq_true rfl⟩ (Nat.le_of_ble_eq_true rfl) dX11_feed_17 ?_
    show q_Gs w g 20 [(0, .ref 0), (1, .int x1), (2, .int x2), (3, .int x3), (4, .int x4), (5, .int x5)] [] (q_mm I1 L)
    refine g_aload_n K1 0 dX11_feed_20 rfl ?_
    refine g_iload_n K1 2 dX11_feed_21 rfl ?_
    obtain ⟨I2, hct, h⟩ := h
    refine h_callV K1 (st := []) [.int x2] (hct w (gl g)) q_clX11 lyp_0 rfl ok_X11_putBytes ml_X11_120 ⟨Nat.le_of_ble_eq_true rfl, Nat.le_of_ble_eq_true rfl⟩ (Nat.le_of_ble_eq_true rfl) dX11_feed_22 ?_
    show q_Gs w g 25 [(0, .ref 0), (1, .int x1), (2, .int x2), (3, .int x3), (4, .int x4), (5, .int x5)] [] (q_mm I2 L)
    refine g_aload_n K1 0 dX11_feed_25 rfl ?_
    refine g_iload_n K1 3 dX11_feed_26 rfl ?_
    obtain ⟨I3, hct, h⟩ := h
    refine h_callV K1 (st := []) [.int x3] (hct w (gl g)) q_clX11 lyp_0 rfl ok_X11_putBytes ml_X11_120 ⟨Nat.le_of_ble_eq_true rfl, Nat.le_of_ble_eq_true rfl⟩ (Nat.le_of_ble_eq_true rfl) dX11_feed_27 ?_
    show q_Gs w g 30 [(0, .ref 0), (1, .int x1), (2, .int x2), (3, .int x3), (4, .int x4), (5, .int x5)] [] (q_mm I3 L)
    refine g_aload_n K1 0 dX11_feed_30 rfl ?_
    refine g_iload K1 4 dX11_feed_31 rfl ?_
    obtain ⟨I4, hct, h⟩ := h
    refine h_callV K1 (st := []) [.int x4] (hct w (gl g)) q_clX11 lyp_0 rfl ok_X11_putBytes ml_X11_120 ⟨Nat.le_of_ble_eq_true rfl, Nat.le_of_ble_eq_true rfl⟩ (Nat.le_of_ble_eq_true rfl) dX11_feed_33 ?_
    show q_Gs w g 36 [(0, .ref 0), (1, .int x1), (2, .int x2), (3, .int x3), (4, .int x4), (5, .int x5)] [] (q_mm I4 L)
    refine g_aload_n K1 0 dX11_feed_36 rfl ?_
    refine g_iload K1 5 dX11_feed_37 rfl ?_
    obtain ⟨I5, hct, h⟩ := h
    refine h_callV K1 (st := []) [.int x5] (hct w (gl g)) q_clX11 lyp_0 rfl ok_X11_putBytes ml_X11_120 ⟨Nat.le_of_ble_eq_true rfl, Nat.le_of_ble_eq_true rfl⟩ (Nat.le_of_ble_eq_true rfl) dX11_feed_39 ?_
    show q_Gs w g 42 [(0, .ref 0), (1, .int x1), (2, .int x2), (3, .int x3), (4, .int x4), (5, .int x5)] [] (q_mm I5 L)
    refine g_aload_n K1 0 dX11_feed_42 rfl ?_
    refine h_getI K1 q_clX11 1 lyp_0 fkX11_1 fl_X11_13 dX11_feed_43 ?_
    obtain ⟨hr, hI, hL⟩ := h
    subst hr hI hL
    exact g_ireturn K rfl dX11_feed_46
  · replace h := h.2 hc
    refine g_iconst K1 (-1) dX11_feed_13 rfl ?_
    obtain ⟨hr, hI, hL⟩ := h
    subst hr hI hL
    exact g_ireturn K rfl dX11_feed_14
theorem c0_X11_feed {r : Option Value} {I I' : Nat → Nat → Int32} {L L' : Nat → Nat → Int64} {x1 : Int32} {x2 : Int32} {x3 : Int32} {x4 : Int32} {x5 : Int32} (h : v_X11_feed_0 r I' L' I L x1 x2 x3 x4 x5) : q_C kX11_feed [.ref 0, .int x1, .int x2, .int x3, .int x4, .int x5] I L r I' L' := fun w l => q_ct (by decide) (Nat.le_of_ble_eq_true rfl) (Nat.le_refl _) (fun g _ K => h w g K)
abbrev v_X11_fewest_0 (r : Option Value) (I' : Nat → Nat → Int32) (L' : Nat → Nat → Int64) (I : Nat → Nat → Int32) (L : Nat → Nat → Int64)  : Prop := q_W kX11_fewest 0 [(0, .ref 0)] [] I L r I' L'
set_option maxRecDepth 20000 in
set_option maxHeartbeats 2000000 in
theorem vc_X11_fewest_0 {r : Option Value} {I' : Nat → Nat → Int32} {L' : Nat → Nat → Int64} {I : Nat → Nat → Int32} {L : Nat → Nat → Int64}  (h : (∃ r1, q_C kX11_noNight [.ref 0] I L (some (.int r1)) I L ∧ ((r1 = 0 → (∃ r2 I3, q_C kX8_leastLightingAll [.ref 88] I L (some (.int r2)) I3 L ∧ ((r2 = (-1) → (r = some (.int (-1)) ∧ I' = I3 ∧ L' = L)) ∧ (¬ r2 = (-1) → (∃ r4, q_C kJ6_bitCount_0f7a4 [.int r2] I3 L (some (.int r4)) I3 L ∧ (r = some (.int r4) ∧ I' = I3 ∧ L' = L)))))) ∧ (¬ r1 = 0 → (r = some (.int (-2)) ∧ I' = I ∧ L' = L))))) : v_X11_fewest_0 r I' L' I L  := by
  intro w g K
  have K1 := K.1
  refine g_aload_n K1 0 dX11_fewest_0 rfl ?_
  obtain ⟨r1, hct, h⟩ := h
  refine h_callV K1 (st := []) [] (hct w (gl g)) q_clX11 lyp_0 rfl ok_X11_noNight ml_X11_210 ⟨Nat.le_of_ble_eq_true rfl, Nat.le_of_ble_eq_true rfl⟩ (Nat.le_of_ble_eq_true rfl) dX11_fewest_1 ?_
  show q_Gs w g 4 [(0, .ref 0)] [.int r1] (q_mm I L)
  refine g_if_eq K1 10 dX11_fewest_4 rfl (fun hc => ?_) (fun hc => ?_)
  · replace h := h.1 hc
    refine g_aload_n K1 0 dX11_fewest_10 rfl ?_
    refine h_getO K1 q_clX11 14 88 lyp_0 fkX11_14 rfl fl_X11_89 dX11_fewest_11 ?_
    obtain ⟨r2, I3, hct, h⟩ := h
    refine h_callV K1 (st := []) [] (hct w (gl g)) q_clX8 lyp_88 rfl ok_X8_leastLightingAll ml_X11_289 ⟨Nat.le_of_ble_eq_true rfl, Nat.le_of_ble_eq_true rfl⟩ (Nat.le_of_ble_eq_true rfl) dX11_fewest_14 ?_
    show q_Gs w g 17 [(0, .ref 0)] [.int r2] (q_mm I3 L)
    refine g_istore_n K1 dX11_fewest_17 rfl (by decide) rfl ?_
    refine g_iload_n K1 0 dX11_fewest_18 rfl ?_
    refine g_iconst K1 (-1) dX11_fewest_19 rfl ?_
    refine g_icmp_ne K1 27 dX11_fewest_20 rfl (fun hc => ?_) (fun hc => ?_)
    · replace h := h.2 hc
      refine g_iload_n K1 0 dX11_fewest_27 rfl ?_
      obtain ⟨r4, hct, h⟩ := h
      refine h_callS K1 (st := []) [.int r2] (hct w (gl g)) ok_J6_bitCount_0f7a4 ml_X11_292 ⟨Nat.le_of_ble_eq_true rfl, Nat.le_of_ble_eq_true rfl⟩ (Nat.le_of_ble_eq_true rfl) dX11_fewest_28 ?_
      show q_Gs w g 31 [(1, .int r2), (0, .ref 0)] [.int r4] (q_mm I3 L)
      obtain ⟨hr, hI, hL⟩ := h
      subst hr hI hL
      exact g_ireturn K rfl dX11_fewest_31
    · replace h := h.1 hc
      refine g_iconst K1 (-1) dX11_fewest_23 rfl ?_
      refine g_goto K1 31 dX11_fewest_24 rfl ?_
      obtain ⟨hr, hI, hL⟩ := h
      subst hr hI hL
      exact g_ireturn K rfl dX11_fewest_31
  · replace h := h.2 hc
    refine g_bipush K1 (-2) dX11_fewest_7 rfl ?_
    obtain ⟨hr, hI, hL⟩ := h
    subst hr hI hL
    exact g_ireturn K rfl dX11_fewest_9
theorem c0_X11_fewest {r : Option Value} {I I' : Nat → Nat → Int32} {L L' : Nat → Nat → Int64}  (h : v_X11_fewest_0 r I' L' I L ) : q_C kX11_fewest [.ref 0] I L r I' L' := fun w l => q_ct (by decide) (Nat.le_of_ble_eq_true rfl) (Nat.le_refl _) (fun g _ K => h w g K)
abbrev v_X11_first_0 (r : Option Value) (I' : Nat → Nat → Int32) (L' : Nat → Nat → Int64) (I : Nat → Nat → Int32) (L : Nat → Nat → Int64) (x1 : Int32) (x2 : Int32) (x3 : Int32) : Prop := q_W kX11_first 0 [(0, .ref 0), (1, .int x1), (2, .int x2), (3, .int x3)] [] I L r I' L'
set_option maxRecDepth 20000 in
set_option maxHeartbeats 2000000 in
theorem vc_X11_first_0 {r : Option Value} {I' : Nat → Nat → Int32} {L' : Nat → Nat → Int64} {I : Nat → Nat → Int32} {L : Nat → Nat → Int64} {x1 : Int32} {x2 : Int32} {x3 : Int32} (h : (∃ r1, q_C kX11_hearingRefusal [.ref 0, .int x1, .int x2, .int x3] I L (some (.int r1)) I L ∧ ((r1 = 0 → (∃ r2, q_C kX9_saying [.ref 25, .int x1] I L (some (.int r2)) I L ∧ (∃ I3, q_C kX4_seek [.ref 90, .int r2, .int x2, .int x3] I L none I3 L ∧ (((I3 90 1) = 0 → (r = some (.int (-1)) ∧ I' = I3 ∧ L' = L)) ∧ (¬ (I3 90 1) = 0 → (∃ r4, q_C kX7_size [.int (I3 90 0)] I3 L (some (.int r4)) I3 L ∧ (r = some (.int r4) ∧ I' = I3 ∧ L' = L))))))) ∧ (¬ r1 = 0 → (r = some (.int r1) ∧ I' = I ∧ L' = L))))) : v_X11_first_0 r I' L' I L x1 x2 x3 := by
  intro w g K
  have K1 := K.1
  refine g_aload_n K1 0 dX11_first_0 rfl ?_
  refine g_iload_n K1 1 dX11_first_1 rfl ?_
  refine g_iload_n K1 2 dX11_first_2 rfl ?_
  refine g_iload_n K1 3 dX11_first_3 rfl ?_
  obtain ⟨r1, hct, h⟩ := h
  refine h_callV K1 (st := []) [.int x1, .int x2, .int x3] (hct w (gl g)) q_clX11 lyp_0 rfl ok_X11_hearingRefusal ml_X11_244 ⟨Nat.le_of_ble_eq_true rfl, Nat.le_of_ble_eq_true rfl⟩ (Nat.le_of_ble_eq_true rfl) dX11_first_4 ?_
  show q_Gs w g 7 [(0, .ref 0), (1, .int x1), (2, .int x2), (3, .int x3)] [.int r1] (q_mm I L)
  refine g_istore K1 dX11_first_7 (by decide) rfl ?_
  refine g_iload K1 0 dX11_first_9 rfl ?_
  refine g_if_eq K1 17 dX11_first_11 rfl (fun hc => ?_) (fun hc => ?_)
  · replace h := h.1 hc
    refine g_aload_n K1 1 dX11_first_17 rfl ?_
    refine h_getO K1 q_clX11 15 90 lyp_0 fkX11_15 rfl fl_X11_96 dX11_first_18 ?_
    refine g_aload_n K1 1 dX11_first_21 rfl ?_
    refine h_getO K1 q_clX11 7 25 lyp_0 fkX11_7 rfl fl_X11_49 dX11_first_22 ?_
    refine g_iload_n K1 2 dX11_first_25 rfl ?_
    obtain ⟨r2, hct, h⟩ := h
    refine h_callV K1 (st := [.ref 90]) [.int x1] (hct w (gl g)) q_clX9 lyp_25 rfl ok_X9_saying ml_X11_248 ⟨Nat.le_of_ble_eq_true rfl, Nat.le_of_ble_eq_true rfl⟩ (Nat.le_of_ble_eq_true rfl) dX11_first_26 ?_
    show q_Gs w g 29 [(4, .int r1), (0, .ref 0), (1, .int x1), (2, .int x2), (3, .int x3)] [.int r2, .ref 90] (q_mm I L)
    refine g_iload_n K1 3 dX11_first_29 rfl ?_
    refine g_iload_n K1 4 dX11_first_30 rfl ?_
    obtain ⟨I3, hct, h⟩ := h
    refine h_callV K1 (st := []) [.int r2, .int x2, .int x3] (hct w (gl g)) q_clX4 lyp_90 rfl ok_X4_seek ml_X11_254 ⟨Nat.le_of_ble_eq_true rfl, Nat.le_of_ble_eq_true rfl⟩ (Nat.le_of_ble_eq_true rfl) dX11_first_31 ?_
    show q_Gs w g 34 [(4, .int r1), (0, .ref 0), (1, .int x1), (2, .int x2), (3, .int x3)] [] (q_mm I3 L)
    refine g_aload_n K1 1 dX11_first_34 rfl ?_
    refine h_getO K1 q_clX11 15 90 lyp_0 fkX11_15 rfl fl_X11_96 dX11_first_35 ?_
    refine h_getI K1 q_clX4 1 lyp_90 fkX4_1 fl_X11_258 dX11_first_38 ?_
    refine g_if_ne K1 48 dX11_first_41 rfl (fun hc => ?_) (fun hc => ?_)
    · replace h := h.2 hc
      refine g_aload_n K1 1 dX11_first_48 rfl ?_
      refine h_getO K1 q_clX11 15 90 lyp_0 fkX11_15 rfl fl_X11_96 dX11_first_49 ?_
      refine h_getI K1 q_clX4 0 lyp_90 fkX4_0 fl_X11_261 dX11_first_52 ?_
      obtain ⟨r4, hct, h⟩ := h
      refine h_callS K1 (st := []) [.int (I3 90 0)] (hct w (gl g)) ok_X7_size ml_X11_192 ⟨Nat.le_of_ble_eq_true rfl, Nat.le_of_ble_eq_true rfl⟩ (Nat.le_of_ble_eq_true rfl) dX11_first_55 ?_
      show q_Gs w g 58 [(4, .int r1), (0, .ref 0), (1, .int x1), (2, .int x2), (3, .int x3)] [.int r4] (q_mm I3 L)
      obtain ⟨hr, hI, hL⟩ := h
      subst hr hI hL
      exact g_ireturn K rfl dX11_first_58
    · replace h := h.1 hc
      refine g_iconst K1 (-1) dX11_first_44 rfl ?_
      refine g_goto K1 58 dX11_first_45 rfl ?_
      obtain ⟨hr, hI, hL⟩ := h
      subst hr hI hL
      exact g_ireturn K rfl dX11_first_58
  · replace h := h.2 hc
    refine g_iload K1 0 dX11_first_14 rfl ?_
    obtain ⟨hr, hI, hL⟩ := h
    subst hr hI hL
    exact g_ireturn K rfl dX11_first_16
theorem c0_X11_first {r : Option Value} {I I' : Nat → Nat → Int32} {L L' : Nat → Nat → Int64} {x1 : Int32} {x2 : Int32} {x3 : Int32} (h : v_X11_first_0 r I' L' I L x1 x2 x3) : q_C kX11_first [.ref 0, .int x1, .int x2, .int x3] I L r I' L' := fun w l => q_ct (by decide) (Nat.le_of_ble_eq_true rfl) (Nat.le_refl _) (fun g _ K => h w g K)
abbrev v_X11_fresh_0 (r : Option Value) (I' : Nat → Nat → Int32) (L' : Nat → Nat → Int64) (I : Nat → Nat → Int32) (L : Nat → Nat → Int64) (x1 : Int32) : Prop := q_W kX11_fresh 0 [(0, .ref 0), (1, .int x1)] [] I L r I' L'
abbrev v_X11_fresh_21 (r : Option Value) (I' : Nat → Nat → Int32) (L' : Nat → Nat → Int64) (I : Nat → Nat → Int32) (L : Nat → Nat → Int64) (x1 : Int32) (x3 : Int32) (x4 : Int32) : Prop := q_W kX11_fresh 21 [(0, .ref 0), (1, .int x1), (2, .ref 75), (3, .int x3), (4, .int x4)] [] I L r I' L'
set_option maxRecDepth 20000 in
set_option maxHeartbeats 2000000 in
theorem vc_X11_fresh_0 {r : Option Value} {I' : Nat → Nat → Int32} {L' : Nat → Nat → Int64} {I : Nat → Nat → Int32} {L : Nat → Nat → Int64} {x1 : Int32} (h : (∃ r1, q_C kX11_noHour [.ref 0, .int x1] I L (some (.int r1)) I L ∧ ((r1 = 0 → (∃ I2, q_C kX11_settledCourse [.ref 0] I L (some (.ref 75)) I2 L ∧ (v_X11_fresh_21 r I' L' I2 L x1 0 0))) ∧ (¬ r1 = 0 → (r = some (.int (-2)) ∧ I' = I ∧ L' = L))))) : v_X11_fresh_0 r I' L' I L x1 := by
  intro w g K
  have K1 := K.1
  refine g_aload_n K1 0 dX11_fresh_0 rfl ?_
  refine g_iload_n K1 1 dX11_fresh_1 rfl ?_
  obtain ⟨r1, hct, h⟩ := h
  refine h_callV K1 (st := []) [.int x1] (hct w (gl g)) q_clX11 lyp_0 rfl ok_X11_noHour ml_X11_176 ⟨Nat.le_of_ble_eq_true rfl, Nat.le_of_ble_eq_true rfl⟩ (Nat.le_of_ble_eq_true rfl) dX11_fresh_2 ?_
  show q_Gs w g 5 [(0, .ref 0), (1, .int x1)] [.int r1] (q_mm I L)
  refine g_if_eq K1 11 dX11_fresh_5 rfl (fun hc => ?_) (fun hc => ?_)
  · replace h := h.1 hc
    refine g_aload_n K1 0 dX11_fresh_11 rfl ?_
    obtain ⟨I2, hct, h⟩ := h
    refine h_callV K1 (st := []) [] (hct w (gl g)) q_clX11 lyp_0 rfl ok_X11_settledCourse ml_X11_179 ⟨Nat.le_of_ble_eq_true rfl, Nat.le_of_ble_eq_true rfl⟩ (Nat.le_of_ble_eq_true rfl) dX11_fresh_12 ?_
    show q_Gs w g 15 [(0, .ref 0), (1, .int x1)] [.ref 75] (q_mm I2 L)
    refine g_astore_n K1 dX11_fresh_15 rfl (by decide) rfl ?_
    refine g_iconst K1 0 dX11_fresh_16 rfl ?_
    refine g_istore_n K1 dX11_fresh_17 rfl (by decide) rfl ?_
    refine g_iconst K1 0 dX11_fresh_18 rfl ?_
    refine g_istore K1 dX11_fresh_19 (by decide) rfl ?_
    exact g_perm [3, 4, 2, 1, 0] rfl (h w g K)
  · replace h := h.2 hc
    refine g_bipush K1 (-2) dX11_fresh_8 rfl ?_
    obtain ⟨hr, hI, hL⟩ := h
    subst hr hI hL
    exact g_ireturn K rfl dX11_fresh_10
set_option maxRecDepth 20000 in
set_option maxHeartbeats 2000000 in
theorem vc_X11_fresh_21 {r : Option Value} {I' : Nat → Nat → Int32} {L' : Nat → Nat → Int64} {I : Nat → Nat → Int32} {L : Nat → Nat → Int64} {x1 : Int32} {x3 : Int32} {x4 : Int32} (h : (((I 12 4) ≤ x4 → (r = some (.int x3) ∧ I' = I ∧ L' = L)) ∧ (¬ (I 12 4) ≤ x4 → (∃ r1, q_C kX11_cell [.int x4, .int x1] I L (some (.int r1)) I L ∧ (vp_in r1 91 ∧ (((I 79 r1.toNatClampNeg) = x1 → (v_X11_fresh_21 r I' L' I L x1 (x3 ||| ((1 : Int32) <<< (x4 &&& 31))) (x4 + 1))) ∧ (¬ (I 79 r1.toNatClampNeg) = x1 → (v_X11_fresh_21 r I' L' I L x1 x3 (x4 + 1))))))))) : v_X11_fresh_21 r I' L' I L x1 x3 x4 := by
  intro w g K
  have K1 := K.1
  refine g_iload K1 4 dX11_fresh_21 rfl ?_
  refine g_aload_n K1 0 dX11_fresh_23 rfl ?_
  refine h_getO K1 q_clX11 5 12 lyp_0 fkX11_5 rfl fl_X11_35 dX11_fresh_24 ?_
  refine h_getI K1 q_clX5 4 lyp_12 fkX5_4 fl_X11_214 dX11_fresh_27 ?_
  refine g_icmp_ge K1 61 dX11_fresh_30 rfl (fun hc => ?_) (fun hc => ?_)
  · replace h := h.1 hc
    refine g_iload_n K1 3 dX11_fresh_61 rfl ?_
    obtain ⟨hr, hI, hL⟩ := h
    subst hr hI hL
    exact g_ireturn K rfl dX11_fresh_62
  · replace h := h.2 hc
    refine g_aload_n K1 2 dX11_fresh_33 rfl ?_
    refine h_getO K1 q_clX3 3 79 lyp_75 fkX3_3 rfl fl_X11_200 dX11_fresh_34 ?_
    refine g_iload K1 4 dX11_fresh_37 rfl ?_
    refine g_iload_n K1 1 dX11_fresh_39 rfl ?_
    obtain ⟨r1, hct, h⟩ := h
    refine h_callS K1 (st := [.ref 79]) [.int x4, .int x1] (hct w (gl g)) ok_X11_cell ml_X11_189 ⟨Nat.le_of_ble_eq_true rfl, Nat.le_of_ble_eq_true rfl⟩ (Nat.le_of_ble_eq_true rfl) dX11_fresh_40 ?_
    show q_Gs w g 43 [(0, .ref 0), (1, .int x1), (2, .ref 75), (3, .int x3), (4, .int x4)] [.int r1, .ref 79] (q_mm I L)
    obtain ⟨hg, h⟩ := h
    refine h_iaload K1 lyp_79 hg dX11_fresh_43 ?_
    refine g_iload_n K1 1 dX11_fresh_44 rfl ?_
    refine g_icmp_ne K1 55 dX11_fresh_45 rfl (fun hc => ?_) (fun hc => ?_)
    · replace h := h.2 hc
      refine g_iinc K1 (x4 + 1) 4 dX11_fresh_55 rfl rfl (by decide) rfl ?_
      refine g_goto K1 21 dX11_fresh_58 rfl ?_
      exact g_perm [1, 2, 3, 4, 0] rfl (h w g K)
    · replace h := h.1 hc
      refine g_iload_n K1 3 dX11_fresh_48 rfl ?_
      refine g_iconst K1 1 dX11_fresh_49 rfl ?_
      refine g_iload K1 4 dX11_fresh_50 rfl ?_
      refine g_ishl K1 dX11_fresh_52 ?_
      refine g_ior K1 dX11_fresh_53 ?_
      refine g_istore_n K1 dX11_fresh_54 rfl (by decide) rfl ?_
      refine g_iinc K1 (x4 + 1) 4 dX11_fresh_55 rfl rfl (by decide) rfl ?_
      refine g_goto K1 21 dX11_fresh_58 rfl ?_
      exact g_perm [2, 3, 4, 1, 0] rfl (h w g K)
theorem c0_X11_fresh {r : Option Value} {I I' : Nat → Nat → Int32} {L L' : Nat → Nat → Int64} {x1 : Int32} (h : v_X11_fresh_0 r I' L' I L x1) : q_C kX11_fresh [.ref 0, .int x1] I L r I' L' := fun w l => q_ct (by decide) (Nat.le_of_ble_eq_true rfl) (Nat.le_refl _) (fun g _ K => h w g K)
abbrev v_X11_from_0 (r : Option Value) (I' : Nat → Nat → Int32) (L' : Nat → Nat → Int64) (I : Nat → Nat → Int32) (L : Nat → Nat → Int64) (x1 : Int32) (x2 : Int32) : Prop := q_W kX11_from 0 [(0, .ref 0), (1, .int x1), (2, .int x2)] [] I L r I' L'
set_option maxRecDepth 20000 in
set_option maxHeartbeats 2000000 in
theorem vc_X11_from_0 {r : Option Value} {I' : Nat → Nat → Int32} {L' : Nat → Nat → Int64} {I : Nat → Nat → Int32} {L : Nat → Nat → Int64} {x1 : Int32} {x2 : Int32} (h : (∃ r1, q_C kX11_noPew [.ref 0, .int x1] I L (some (.int r1)) I L ∧ ((r1 = 0 → (∃ r2, q_C kX11_noHour [.ref 0, .int x2] I L (some (.int r2)) I L ∧ ((r2 = 0 → (∃ I3, q_C kX11_settledCourse [.ref 0] I L (some (.ref 75)) I3 L ∧ (∃ r4, q_C kX11_cell [.int x1, .int x2] I3 L (some (.int r4)) I3 L ∧ (vp_in r4 91 ∧ (r = some (.int (I3 78 r4.toNatClampNeg)) ∧ I' = I3 ∧ L' = L))))) ∧ (¬ r2 = 0 → (r = some (.int (-2)) ∧ I' = I ∧ L' = L))))) ∧ (¬ r1 = 0 → (r = some (.int (-2)) ∧ I' = I ∧ L' = L))))) : v_X11_from_0 r I' L' I L x1 x2 := by
  intro w g K
  have K1 := K.1
  refine g_aload_n K1 0 dX11_from_0 rfl ?_
  refine g_iload_n K1 1 dX11_from_1 rfl ?_
  obtain ⟨r1, hct, h⟩ := h
  refine h_callV K1 (st := []) [.int x1] (hct w (gl g)) q_clX11 lyp_0 rfl ok_X11_noPew ml_X11_145 ⟨Nat.le_of_ble_eq_true rfl, Nat.le_of_ble_eq_true rfl⟩ (Nat.le_of_ble_eq_true rfl) dX11_from_2 ?_
  show q_Gs w g 5 [(0, .ref 0), (1, .int x1), (2, .int x2)] [.int r1] (q_mm I L)
  refine g_if_ne K1 16 dX11_from_5 rfl (fun hc => ?_) (fun hc => ?_)
  · replace h := h.2 hc
    refine g_bipush K1 (-2) dX11_from_16 rfl ?_
    obtain ⟨hr, hI, hL⟩ := h
    subst hr hI hL
    exact g_ireturn K rfl dX11_from_18
  · replace h := h.1 hc
    refine g_aload_n K1 0 dX11_from_8 rfl ?_
    refine g_iload_n K1 2 dX11_from_9 rfl ?_
    obtain ⟨r2, hct, h⟩ := h
    refine h_callV K1 (st := []) [.int x2] (hct w (gl g)) q_clX11 lyp_0 rfl ok_X11_noHour ml_X11_176 ⟨Nat.le_of_ble_eq_true rfl, Nat.le_of_ble_eq_true rfl⟩ (Nat.le_of_ble_eq_true rfl) dX11_from_10 ?_
    show q_Gs w g 13 [(0, .ref 0), (1, .int x1), (2, .int x2)] [.int r2] (q_mm I L)
    refine g_if_eq K1 19 dX11_from_13 rfl (fun hc => ?_) (fun hc => ?_)
    · replace h := h.1 hc
      refine g_aload_n K1 0 dX11_from_19 rfl ?_
      obtain ⟨I3, hct, h⟩ := h
      refine h_callV K1 (st := []) [] (hct w (gl g)) q_clX11 lyp_0 rfl ok_X11_settledCourse ml_X11_179 ⟨Nat.le_of_ble_eq_true rfl, Nat.le_of_ble_eq_true rfl⟩ (Nat.le_of_ble_eq_true rfl) dX11_from_20 ?_
      show q_Gs w g 23 [(0, .ref 0), (1, .int x1), (2, .int x2)] [.ref 75] (q_mm I3 L)
      refine h_getO K1 q_clX3 2 78 lyp_75 fkX3_2 rfl fl_X11_197 dX11_from_23 ?_
      refine g_iload_n K1 1 dX11_from_26 rfl ?_
      refine g_iload_n K1 2 dX11_from_27 rfl ?_
      obtain ⟨r4, hct, h⟩ := h
      refine h_callS K1 (st := [.ref 78]) [.int x1, .int x2] (hct w (gl g)) ok_X11_cell ml_X11_189 ⟨Nat.le_of_ble_eq_true rfl, Nat.le_of_ble_eq_true rfl⟩ (Nat.le_of_ble_eq_true rfl) dX11_from_28 ?_
      show q_Gs w g 31 [(0, .ref 0), (1, .int x1), (2, .int x2)] [.int r4, .ref 78] (q_mm I3 L)
      obtain ⟨hg, h⟩ := h
      refine h_iaload K1 lyp_78 hg dX11_from_31 ?_
      obtain ⟨hr, hI, hL⟩ := h
      subst hr hI hL
      exact g_ireturn K rfl dX11_from_32
    · replace h := h.2 hc
      refine g_bipush K1 (-2) dX11_from_16 rfl ?_
      obtain ⟨hr, hI, hL⟩ := h
      subst hr hI hL
      exact g_ireturn K rfl dX11_from_18
theorem c0_X11_from {r : Option Value} {I I' : Nat → Nat → Int32} {L L' : Nat → Nat → Int64} {x1 : Int32} {x2 : Int32} (h : v_X11_from_0 r I' L' I L x1 x2) : q_C kX11_from [.ref 0, .int x1, .int x2] I L r I' L' := fun w l => q_ct (by decide) (Nat.le_of_ble_eq_true rfl) (Nat.le_refl _) (fun g _ K => h w g K)
abbrev v_X11_full_0 (r : Option Value) (I' : Nat → Nat → Int32) (L' : Nat → Nat → Int64) (I : Nat → Nat → Int32) (L : Nat → Nat → Int64)  : Prop := q_W kX11_full 0 [(0, .ref 0)] [] I L r I' L'
abbrev v_X11_full_17 (r : Option Value) (I' : Nat → Nat → Int32) (L' : Nat → Nat → Int64) (I : Nat → Nat → Int32) (L : Nat → Nat → Int64) (x2 : Int32) : Prop := q_W kX11_full 17 [(0, .ref 0), (1, .ref 75), (2, .int x2)] [] I L r I' L'
set_option maxRecDepth 20000 in
set_option maxHeartbeats 2000000 in
theorem vc_X11_full_0 {r : Option Value} {I' : Nat → Nat → Int32} {L' : Nat → Nat → Int64} {I : Nat → Nat → Int32} {L : Nat → Nat → Int64}  (h : (∃ r1, q_C kX11_noNight [.ref 0] I L (some (.int r1)) I L ∧ ((r1 = 0 → (∃ I2, q_C kX11_settledCourse [.ref 0] I L (some (.ref 75)) I2 L ∧ (v_X11_full_17 r I' L' I2 L 0))) ∧ (¬ r1 = 0 → (r = some (.int (-2)) ∧ I' = I ∧ L' = L))))) : v_X11_full_0 r I' L' I L  := by
  intro w g K
  have K1 := K.1
  refine g_aload_n K1 0 dX11_full_0 rfl ?_
  obtain ⟨r1, hct, h⟩ := h
  refine h_callV K1 (st := []) [] (hct w (gl g)) q_clX11 lyp_0 rfl ok_X11_noNight ml_X11_210 ⟨Nat.le_of_ble_eq_true rfl, Nat.le_of_ble_eq_true rfl⟩ (Nat.le_of_ble_eq_true rfl) dX11_full_1 ?_
  show q_Gs w g 4 [(0, .ref 0)] [.int r1] (q_mm I L)
  refine g_if_eq K1 10 dX11_full_4 rfl (fun hc => ?_) (fun hc => ?_)
  · replace h := h.1 hc
    refine g_aload_n K1 0 dX11_full_10 rfl ?_
    obtain ⟨I2, hct, h⟩ := h
    refine h_callV K1 (st := []) [] (hct w (gl g)) q_clX11 lyp_0 rfl ok_X11_settledCourse ml_X11_179 ⟨Nat.le_of_ble_eq_true rfl, Nat.le_of_ble_eq_true rfl⟩ (Nat.le_of_ble_eq_true rfl) dX11_full_11 ?_
    show q_Gs w g 14 [(0, .ref 0)] [.ref 75] (q_mm I2 L)
    refine g_astore_n K1 dX11_full_14 rfl (by decide) rfl ?_
    refine g_iconst K1 0 dX11_full_15 rfl ?_
    refine g_istore_n K1 dX11_full_16 rfl (by decide) rfl ?_
    exact g_perm [2, 1, 0] rfl (h w g K)
  · replace h := h.2 hc
    refine g_bipush K1 (-2) dX11_full_7 rfl ?_
    obtain ⟨hr, hI, hL⟩ := h
    subst hr hI hL
    exact g_ireturn K rfl dX11_full_9
set_option maxRecDepth 20000 in
set_option maxHeartbeats 2000000 in
theorem vc_X11_full_17 {r : Option Value} {I' : Nat → Nat → Int32} {L' : Nat → Nat → Int64} {I : Nat → Nat → Int32} {L : Nat → Nat → Int64} {x2 : Int32} (h : (((I 12 1) < x2 → (r = some (.int (-1)) ∧ I' = I ∧ L' = L)) ∧ (¬ (I 12 1) < x2 → (((I 12 4) ≤ 0 → (v_X11_full_17 r I' L' I L (x2 + 1))) ∧ (¬ (I 12 4) ≤ 0 → (vp_in x2 13 ∧ (∃ r1, q_C kX5_allPews [.ref 12] I L (some (.int r1)) I L ∧ (((I 76 x2.toNatClampNeg) = r1 → (r = some (.int x2) ∧ I' = I ∧ L' = L)) ∧ (¬ (I 76 x2.toNatClampNeg) = r1 → (v_X11_full_17 r I' L' I L (x2 + 1))))))))))) : v_X11_full_17 r I' L' I L x2 := by
  intro w g K
  have K1 := K.1
  refine g_iload_n K1 2 dX11_full_17 rfl ?_
  refine g_aload_n K1 0 dX11_full_18 rfl ?_
  refine h_getO K1 q_clX11 5 12 lyp_0 fkX11_5 rfl fl_X11_35 dX11_full_19 ?_
  refine h_getI K1 q_clX5 1 lyp_12 fkX5_1 fl_X11_203 dX11_full_22 ?_
  refine g_icmp_gt K1 62 dX11_full_25 rfl (fun hc => ?_) (fun hc => ?_)
  · replace h := h.1 hc
    refine g_iconst K1 (-1) dX11_full_62 rfl ?_
    obtain ⟨hr, hI, hL⟩ := h
    subst hr hI hL
    exact g_ireturn K rfl dX11_full_63
  · replace h := h.2 hc
    refine g_aload_n K1 0 dX11_full_28 rfl ?_
    refine h_getO K1 q_clX11 5 12 lyp_0 fkX11_5 rfl fl_X11_35 dX11_full_29 ?_
    refine h_getI K1 q_clX5 4 lyp_12 fkX5_4 fl_X11_214 dX11_full_32 ?_
    refine g_if_le K1 56 dX11_full_35 rfl (fun hc => ?_) (fun hc => ?_)
    · replace h := h.1 hc
      refine g_iinc K1 (x2 + 1) 2 dX11_full_56 rfl rfl (by decide) rfl ?_
      refine g_goto K1 17 dX11_full_59 rfl ?_
      exact g_perm [1, 2, 0] rfl (h w g K)
    · replace h := h.2 hc
      refine g_aload_n K1 1 dX11_full_38 rfl ?_
      refine h_getO K1 q_clX3 0 76 lyp_75 fkX3_0 rfl fl_X11_183 dX11_full_39 ?_
      refine g_iload_n K1 2 dX11_full_42 rfl ?_
      obtain ⟨hg, h⟩ := h
      refine h_iaload K1 lyp_76 hg dX11_full_43 ?_
      refine g_aload_n K1 0 dX11_full_44 rfl ?_
      refine h_getO K1 q_clX11 5 12 lyp_0 fkX11_5 rfl fl_X11_35 dX11_full_45 ?_
      obtain ⟨r1, hct, h⟩ := h
      refine h_callV K1 (st := [.int (I 76 x2.toNatClampNeg)]) [] (hct w (gl g)) q_clX5 lyp_12 rfl ok_X5_allPews ml_X11_217 ⟨Nat.le_of_ble_eq_true rfl, Nat.le_of_ble_eq_true rfl⟩ (Nat.le_of_ble_eq_true rfl) dX11_full_48 ?_
      show q_Gs w g 51 [(0, .ref 0), (1, .ref 75), (2, .int x2)] [.int r1, .int (I 76 x2.toNatClampNeg)] (q_mm I L)
      refine g_icmp_ne K1 56 dX11_full_51 rfl (fun hc => ?_) (fun hc => ?_)
      · replace h := h.2 hc
        refine g_iinc K1 (x2 + 1) 2 dX11_full_56 rfl rfl (by decide) rfl ?_
        refine g_goto K1 17 dX11_full_59 rfl ?_
        exact g_perm [1, 2, 0] rfl (h w g K)
      · replace h := h.1 hc
        refine g_iload_n K1 2 dX11_full_54 rfl ?_
        obtain ⟨hr, hI, hL⟩ := h
        subst hr hI hL
        exact g_ireturn K rfl dX11_full_55
theorem c0_X11_full {r : Option Value} {I I' : Nat → Nat → Int32} {L L' : Nat → Nat → Int64}  (h : v_X11_full_0 r I' L' I L ) : q_C kX11_full [.ref 0] I L r I' L' := fun w l => q_ct (by decide) (Nat.le_of_ble_eq_true rfl) (Nat.le_refl _) (fun g _ K => h w g K)
abbrev v_X11_gets_0 (r : Option Value) (I' : Nat → Nat → Int32) (L' : Nat → Nat → Int64) (I : Nat → Nat → Int32) (L : Nat → Nat → Int64) (x1 : Int32) (x2 : Int32) (x3 : Int32) (x4 : Int32) : Prop := q_W kX11_gets 0 [(0, .ref 0), (1, .int x1), (2, .int x2), (3, .int x3), (4, .int x4)] [] I L r I' L'
abbrev v_X11_gets_25 (r : Option Value) (I' : Nat → Nat → Int32) (L' : Nat → Nat → Int64) (I : Nat → Nat → Int32) (L : Nat → Nat → Int64) (x1 : Int32) (x2 : Int32) (x3 : Int32) (x4 : Int32) (s0 : Int32) : Prop := q_W kX11_gets 25 [(0, .ref 0), (1, .int x1), (2, .int x2), (3, .int x3), (4, .int x4)] [.int s0] I L r I' L'
set_option maxRecDepth 20000 in
set_option maxHeartbeats 2000000 in
theorem vc_X11_gets_0 {r : Option Value} {I' : Nat → Nat → Int32} {L' : Nat → Nat → Int64} {I : Nat → Nat → Int32} {L : Nat → Nat → Int64} {x1 : Int32} {x2 : Int32} {x3 : Int32} {x4 : Int32} (h : ((x3 < 0 → (v_X11_gets_25 r I' L' I L x1 x2 x3 x4 1)) ∧ (¬ x3 < 0 → ((1 < x3 → (v_X11_gets_25 r I' L' I L x1 x2 x3 x4 1)) ∧ (¬ 1 < x3 → ((x4 < 0 → (v_X11_gets_25 r I' L' I L x1 x2 x3 x4 1)) ∧ (¬ x4 < 0 → ((x4 ≤ 1 → (v_X11_gets_25 r I' L' I L x1 x2 x3 x4 0)) ∧ (¬ x4 ≤ 1 → (v_X11_gets_25 r I' L' I L x1 x2 x3 x4 1)))))))))) : v_X11_gets_0 r I' L' I L x1 x2 x3 x4 := by
  intro w g K
  have K1 := K.1
  refine g_iload_n K1 3 dX11_gets_0 rfl ?_
  refine g_if_lt K1 20 dX11_gets_1 rfl (fun hc => ?_) (fun hc => ?_)
  · replace h := h.1 hc
    refine g_iconst K1 1 dX11_gets_20 rfl ?_
    refine g_goto K1 25 dX11_gets_21 rfl ?_
    exact g_perm [0, 1, 2, 3, 4] rfl (h w g K)
  · replace h := h.2 hc
    refine g_iload_n K1 3 dX11_gets_4 rfl ?_
    refine g_iconst K1 1 dX11_gets_5 rfl ?_
    refine g_icmp_gt K1 20 dX11_gets_6 rfl (fun hc => ?_) (fun hc => ?_)
    · replace h := h.1 hc
      refine g_iconst K1 1 dX11_gets_20 rfl ?_
      refine g_goto K1 25 dX11_gets_21 rfl ?_
      exact g_perm [0, 1, 2, 3, 4] rfl (h w g K)
    · replace h := h.2 hc
      refine g_iload K1 4 dX11_gets_9 rfl ?_
      refine g_if_lt K1 20 dX11_gets_11 rfl (fun hc => ?_) (fun hc => ?_)
      · replace h := h.1 hc
        refine g_iconst K1 1 dX11_gets_20 rfl ?_
        refine g_goto K1 25 dX11_gets_21 rfl ?_
        exact g_perm [0, 1, 2, 3, 4] rfl (h w g K)
      · replace h := h.2 hc
        refine g_iload K1 4 dX11_gets_14 rfl ?_
        refine g_iconst K1 1 dX11_gets_16 rfl ?_
        refine g_icmp_le K1 24 dX11_gets_17 rfl (fun hc => ?_) (fun hc => ?_)
        · replace h := h.1 hc
          refine g_iconst K1 0 dX11_gets_24 rfl ?_
          exact g_perm [0, 1, 2, 3, 4] rfl (h w g K)
        · replace h := h.2 hc
          refine g_iconst K1 1 dX11_gets_20 rfl ?_
          refine g_goto K1 25 dX11_gets_21 rfl ?_
          exact g_perm [0, 1, 2, 3, 4] rfl (h w g K)
set_option maxRecDepth 20000 in
set_option maxHeartbeats 2000000 in
theorem vc_X11_gets_25 {r : Option Value} {I' : Nat → Nat → Int32} {L' : Nat → Nat → Int64} {I : Nat → Nat → Int32} {L : Nat → Nat → Int64} {x1 : Int32} {x2 : Int32} {x3 : Int32} {x4 : Int32} {s0 : Int32} (h : (∃ r1, q_C kX11_noPew [.ref 0, .int x1] I L (some (.int r1)) I L ∧ ((r1 = 0 → (∃ r2, q_C kX11_noPew [.ref 0, .int x2] I L (some (.int r2)) I L ∧ ((r2 = 0 → ((x1 = x2 → (r = some (.int (-1000)) ∧ I' = I ∧ L' = L)) ∧ (¬ x1 = x2 → ((s0 = 0 → (∃ r3 I4, q_C kX10_gain [.ref 87, .int x1, .int x2, .int x3, .int x4] I L (some (.int r3)) I4 L ∧ (r = some (.int r3) ∧ I' = I4 ∧ L' = L))) ∧ (¬ s0 = 0 → (r = some (.int (-1000)) ∧ I' = I ∧ L' = L)))))) ∧ (¬ r2 = 0 → (r = some (.int (-1000)) ∧ I' = I ∧ L' = L))))) ∧ (¬ r1 = 0 → (r = some (.int (-1000)) ∧ I' = I ∧ L' = L))))) : v_X11_gets_25 r I' L' I L x1 x2 x3 x4 s0 := by
  intro w g K
  have K1 := K.1
  refine g_istore K1 dX11_gets_25 (by decide) rfl ?_
  refine g_aload_n K1 1 dX11_gets_27 rfl ?_
  refine g_iload_n K1 2 dX11_gets_28 rfl ?_
  obtain ⟨r1, hct, h⟩ := h
  refine h_callV K1 (st := []) [.int x1] (hct w (gl g)) q_clX11 lyp_0 rfl ok_X11_noPew ml_X11_145 ⟨Nat.le_of_ble_eq_true rfl, Nat.le_of_ble_eq_true rfl⟩ (Nat.le_of_ble_eq_true rfl) dX11_gets_29 ?_
  show q_Gs w g 32 [(5, .int s0), (0, .ref 0), (1, .int x1), (2, .int x2), (3, .int x3), (4, .int x4)] [.int r1] (q_mm I L)
  refine g_if_ne K1 53 dX11_gets_32 rfl (fun hc => ?_) (fun hc => ?_)
  · replace h := h.2 hc
    refine g_sipush K1 (-1000) dX11_gets_53 rfl ?_
    obtain ⟨hr, hI, hL⟩ := h
    subst hr hI hL
    exact g_ireturn K rfl dX11_gets_56
  · replace h := h.1 hc
    refine g_aload_n K1 1 dX11_gets_35 rfl ?_
    refine g_iload_n K1 3 dX11_gets_36 rfl ?_
    obtain ⟨r2, hct, h⟩ := h
    refine h_callV K1 (st := []) [.int x2] (hct w (gl g)) q_clX11 lyp_0 rfl ok_X11_noPew ml_X11_145 ⟨Nat.le_of_ble_eq_true rfl, Nat.le_of_ble_eq_true rfl⟩ (Nat.le_of_ble_eq_true rfl) dX11_gets_37 ?_
    show q_Gs w g 40 [(5, .int s0), (0, .ref 0), (1, .int x1), (2, .int x2), (3, .int x3), (4, .int x4)] [.int r2] (q_mm I L)
    refine g_if_ne K1 53 dX11_gets_40 rfl (fun hc => ?_) (fun hc => ?_)
    · replace h := h.2 hc
      refine g_sipush K1 (-1000) dX11_gets_53 rfl ?_
      obtain ⟨hr, hI, hL⟩ := h
      subst hr hI hL
      exact g_ireturn K rfl dX11_gets_56
    · replace h := h.1 hc
      refine g_iload_n K1 2 dX11_gets_43 rfl ?_
      refine g_iload_n K1 3 dX11_gets_44 rfl ?_
      refine g_icmp_eq K1 53 dX11_gets_45 rfl (fun hc => ?_) (fun hc => ?_)
      · replace h := h.1 hc
        refine g_sipush K1 (-1000) dX11_gets_53 rfl ?_
        obtain ⟨hr, hI, hL⟩ := h
        subst hr hI hL
        exact g_ireturn K rfl dX11_gets_56
      · replace h := h.2 hc
        refine g_iload K1 0 dX11_gets_48 rfl ?_
        refine g_if_eq K1 57 dX11_gets_50 rfl (fun hc => ?_) (fun hc => ?_)
        · replace h := h.1 hc
          refine g_aload_n K1 1 dX11_gets_57 rfl ?_
          refine h_getO K1 q_clX11 13 87 lyp_0 fkX11_13 rfl fl_X11_82 dX11_gets_58 ?_
          refine g_iload_n K1 2 dX11_gets_61 rfl ?_
          refine g_iload_n K1 3 dX11_gets_62 rfl ?_
          refine g_iload_n K1 4 dX11_gets_63 rfl ?_
          refine g_iload K1 5 dX11_gets_64 rfl ?_
          obtain ⟨r3, I4, hct, h⟩ := h
          refine h_callV K1 (st := []) [.int x1, .int x2, .int x3, .int x4] (hct w (gl g)) q_clX10 lyp_87 rfl ok_X10_gain ml_X11_351 ⟨Nat.le_of_ble_eq_true rfl, Nat.le_of_ble_eq_true rfl⟩ (Nat.le_of_ble_eq_true rfl) dX11_gets_66 ?_
          show q_Gs w g 69 [(5, .int s0), (0, .ref 0), (1, .int x1), (2, .int x2), (3, .int x3), (4, .int x4)] [.int r3] (q_mm I4 L)
          obtain ⟨hr, hI, hL⟩ := h
          subst hr hI hL
          exact g_ireturn K rfl dX11_gets_69
        · replace h := h.2 hc
          refine g_sipush K1 (-1000) dX11_gets_53 rfl ?_
          obtain ⟨hr, hI, hL⟩ := h
          subst hr hI hL
          exact g_ireturn K rfl dX11_gets_56
theorem c0_X11_gets {r : Option Value} {I I' : Nat → Nat → Int32} {L L' : Nat → Nat → Int64} {x1 : Int32} {x2 : Int32} {x3 : Int32} {x4 : Int32} (h : v_X11_gets_0 r I' L' I L x1 x2 x3 x4) : q_C kX11_gets [.ref 0, .int x1, .int x2, .int x3, .int x4] I L r I' L' := fun w l => q_ct (by decide) (Nat.le_of_ble_eq_true rfl) (Nat.le_refl _) (fun g _ K => h w g K)
abbrev v_X11_gone_0 (r : Option Value) (I' : Nat → Nat → Int32) (L' : Nat → Nat → Int64) (I : Nat → Nat → Int32) (L : Nat → Nat → Int64) (x1 : Int32) : Prop := q_W kX11_gone 0 [(0, .ref 0), (1, .int x1)] [] I L r I' L'
set_option maxRecDepth 20000 in
set_option maxHeartbeats 2000000 in
theorem vc_X11_gone_0 {r : Option Value} {I' : Nat → Nat → Int32} {L' : Nat → Nat → Int64} {I : Nat → Nat → Int32} {L : Nat → Nat → Int64} {x1 : Int32} (h : (∃ r1, q_C kX11_noHour [.ref 0, .int x1] I L (some (.int r1)) I L ∧ ((r1 = 0 → (∃ I2, q_C kX11_settledCourse [.ref 0] I L (some (.ref 75)) I2 L ∧ ((x1 = 0 → (r = some (.int 0) ∧ I' = I2 ∧ L' = L)) ∧ (¬ x1 = 0 → (vp_in (x1 - 1) 13 ∧ (vp_in x1 13 ∧ (r = some (.int ((I2 76 ((x1 - 1) : Int32).toNatClampNeg) &&& ((I2 76 x1.toNatClampNeg) ^^^ (-1)))) ∧ I' = I2 ∧ L' = L))))))) ∧ (¬ r1 = 0 → (r = some (.int (-2)) ∧ I' = I ∧ L' = L))))) : v_X11_gone_0 r I' L' I L x1 := by
  intro w g K
  have K1 := K.1
  refine g_aload_n K1 0 dX11_gone_0 rfl ?_
  refine g_iload_n K1 1 dX11_gone_1 rfl ?_
  obtain ⟨r1, hct, h⟩ := h
  refine h_callV K1 (st := []) [.int x1] (hct w (gl g)) q_clX11 lyp_0 rfl ok_X11_noHour ml_X11_176 ⟨Nat.le_of_ble_eq_true rfl, Nat.le_of_ble_eq_true rfl⟩ (Nat.le_of_ble_eq_true rfl) dX11_gone_2 ?_
  show q_Gs w g 5 [(0, .ref 0), (1, .int x1)] [.int r1] (q_mm I L)
  refine g_if_eq K1 11 dX11_gone_5 rfl (fun hc => ?_) (fun hc => ?_)
  · replace h := h.1 hc
    refine g_aload_n K1 0 dX11_gone_11 rfl ?_
    obtain ⟨I2, hct, h⟩ := h
    refine h_callV K1 (st := []) [] (hct w (gl g)) q_clX11 lyp_0 rfl ok_X11_settledCourse ml_X11_179 ⟨Nat.le_of_ble_eq_true rfl, Nat.le_of_ble_eq_true rfl⟩ (Nat.le_of_ble_eq_true rfl) dX11_gone_12 ?_
    show q_Gs w g 15 [(0, .ref 0), (1, .int x1)] [.ref 75] (q_mm I2 L)
    refine g_astore_n K1 dX11_gone_15 rfl (by decide) rfl ?_
    refine g_iload_n K1 2 dX11_gone_16 rfl ?_
    refine g_if_ne K1 24 dX11_gone_17 rfl (fun hc => ?_) (fun hc => ?_)
    · replace h := h.2 hc
      refine g_aload_n K1 0 dX11_gone_24 rfl ?_
      refine h_getO K1 q_clX3 0 76 lyp_75 fkX3_0 rfl fl_X11_183 dX11_gone_25 ?_
      refine g_iload_n K1 2 dX11_gone_28 rfl ?_
      refine g_iconst K1 1 dX11_gone_29 rfl ?_
      refine g_isub K1 dX11_gone_30 ?_
      obtain ⟨hg, h⟩ := h
      refine h_iaload K1 lyp_76 hg dX11_gone_31 ?_
      refine g_aload_n K1 0 dX11_gone_32 rfl ?_
      refine h_getO K1 q_clX3 0 76 lyp_75 fkX3_0 rfl fl_X11_183 dX11_gone_33 ?_
      refine g_iload_n K1 2 dX11_gone_36 rfl ?_
      obtain ⟨hg, h⟩ := h
      refine h_iaload K1 lyp_76 hg dX11_gone_37 ?_
      refine g_iconst K1 (-1) dX11_gone_38 rfl ?_
      refine g_ixor K1 dX11_gone_39 ?_
      refine g_iand K1 dX11_gone_40 ?_
      obtain ⟨hr, hI, hL⟩ := h
      subst hr hI hL
      exact g_ireturn K rfl dX11_gone_41
    · replace h := h.1 hc
      refine g_iconst K1 0 dX11_gone_20 rfl ?_
      refine g_goto K1 41 dX11_gone_21 rfl ?_
      obtain ⟨hr, hI, hL⟩ := h
      subst hr hI hL
      exact g_ireturn K rfl dX11_gone_41
  · replace h := h.2 hc
    refine g_bipush K1 (-2) dX11_gone_8 rfl ?_
    obtain ⟨hr, hI, hL⟩ := h
    subst hr hI hL
    exact g_ireturn K rfl dX11_gone_10
theorem c0_X11_gone {r : Option Value} {I I' : Nat → Nat → Int32} {L L' : Nat → Nat → Int64} {x1 : Int32} (h : v_X11_gone_0 r I' L' I L x1) : q_C kX11_gone [.ref 0, .int x1] I L r I' L' := fun w l => q_ct (by decide) (Nat.le_of_ble_eq_true rfl) (Nat.le_refl _) (fun g _ K => h w g K)
abbrev v_X11_guard_0 (r : Option Value) (I' : Nat → Nat → Int32) (L' : Nat → Nat → Int64) (I : Nat → Nat → Int32) (L : Nat → Nat → Int64)  : Prop := q_W kX11_guard 0 [(0, .ref 0)] [] I L r I' L'
set_option maxRecDepth 20000 in
set_option maxHeartbeats 2000000 in
theorem vc_X11_guard_0 {r : Option Value} {I' : Nat → Nat → Int32} {L' : Nat → Nat → Int64} {I : Nat → Nat → Int32} {L : Nat → Nat → Int64}  (h : (∃ r1, q_C kX11_noNight [.ref 0] I L (some (.int r1)) I L ∧ ((r1 = 0 → (∃ r2 I3, q_C kX11_litAtLast [.ref 0] I L (some (.int r2)) I3 L ∧ (∃ r4 I5, q_C kX10_heaviestDraught [.ref 87, .int r2] I3 L (some (.int r4)) I5 L ∧ (r = some (.int r4) ∧ I' = I5 ∧ L' = L)))) ∧ (¬ r1 = 0 → (r = some (.int (-2)) ∧ I' = I ∧ L' = L))))) : v_X11_guard_0 r I' L' I L  := by
  intro w g K
  have K1 := K.1
  refine g_aload_n K1 0 dX11_guard_0 rfl ?_
  obtain ⟨r1, hct, h⟩ := h
  refine h_callV K1 (st := []) [] (hct w (gl g)) q_clX11 lyp_0 rfl ok_X11_noNight ml_X11_210 ⟨Nat.le_of_ble_eq_true rfl, Nat.le_of_ble_eq_true rfl⟩ (Nat.le_of_ble_eq_true rfl) dX11_guard_1 ?_
  show q_Gs w g 4 [(0, .ref 0)] [.int r1] (q_mm I L)
  refine g_if_eq K1 12 dX11_guard_4 rfl (fun hc => ?_) (fun hc => ?_)
  · replace h := h.1 hc
    refine g_aload_n K1 0 dX11_guard_12 rfl ?_
    refine h_getO K1 q_clX11 13 87 lyp_0 fkX11_13 rfl fl_X11_82 dX11_guard_13 ?_
    refine g_aload_n K1 0 dX11_guard_16 rfl ?_
    obtain ⟨r2, I3, hct, h⟩ := h
    refine h_callV K1 (st := [.ref 87]) [] (hct w (gl g)) q_clX11 lyp_0 rfl ok_X11_litAtLast ml_X11_297 ⟨Nat.le_of_ble_eq_true rfl, Nat.le_of_ble_eq_true rfl⟩ (Nat.le_of_ble_eq_true rfl) dX11_guard_17 ?_
    show q_Gs w g 20 [(0, .ref 0)] [.int r2, .ref 87] (q_mm I3 L)
    obtain ⟨r4, I5, hct, h⟩ := h
    refine h_callV K1 (st := []) [.int r2] (hct w (gl g)) q_clX10 lyp_87 rfl ok_X10_heaviestDraught ml_X11_303 ⟨Nat.le_of_ble_eq_true rfl, Nat.le_of_ble_eq_true rfl⟩ (Nat.le_of_ble_eq_true rfl) dX11_guard_20 ?_
    show q_Gs w g 23 [(0, .ref 0)] [.int r4] (q_mm I5 L)
    obtain ⟨hr, hI, hL⟩ := h
    subst hr hI hL
    exact g_ireturn K rfl dX11_guard_23
  · replace h := h.2 hc
    refine g_bipush K1 (-2) dX11_guard_7 rfl ?_
    refine g_goto K1 23 dX11_guard_9 rfl ?_
    obtain ⟨hr, hI, hL⟩ := h
    subst hr hI hL
    exact g_ireturn K rfl dX11_guard_23
theorem c0_X11_guard {r : Option Value} {I I' : Nat → Nat → Int32} {L L' : Nat → Nat → Int64}  (h : v_X11_guard_0 r I' L' I L ) : q_C kX11_guard [.ref 0] I L r I' L' := fun w l => q_ct (by decide) (Nat.le_of_ble_eq_true rfl) (Nat.le_refl _) (fun g _ K => h w g K)
abbrev v_X11_gust_0 (r : Option Value) (I' : Nat → Nat → Int32) (L' : Nat → Nat → Int64) (I : Nat → Nat → Int32) (L : Nat → Nat → Int64) (x1 : Int32) : Prop := q_W kX11_gust 0 [(0, .ref 0), (1, .int x1)] [] I L r I' L'
set_option maxRecDepth 20000 in
set_option maxHeartbeats 2000000 in
theorem vc_X11_gust_0 {r : Option Value} {I' : Nat → Nat → Int32} {L' : Nat → Nat → Int64} {I : Nat → Nat → Int32} {L : Nat → Nat → Int64} {x1 : Int32} (h : (∃ r1, q_C kX11_noHour [.ref 0, .int x1] I L (some (.int r1)) I L ∧ ((r1 = 0 → (∃ r2 I3, q_C kX11_litAtLast [.ref 0] I L (some (.int r2)) I3 L ∧ (∃ r4 I5, q_C kX10_strongestGust [.ref 87, .int x1, .int r2] I3 L (some (.int r4)) I5 L ∧ (r = some (.int r4) ∧ I' = I5 ∧ L' = L)))) ∧ (¬ r1 = 0 → (r = some (.int (-2)) ∧ I' = I ∧ L' = L))))) : v_X11_gust_0 r I' L' I L x1 := by
  intro w g K
  have K1 := K.1
  refine g_aload_n K1 0 dX11_gust_0 rfl ?_
  refine g_iload_n K1 1 dX11_gust_1 rfl ?_
  obtain ⟨r1, hct, h⟩ := h
  refine h_callV K1 (st := []) [.int x1] (hct w (gl g)) q_clX11 lyp_0 rfl ok_X11_noHour ml_X11_176 ⟨Nat.le_of_ble_eq_true rfl, Nat.le_of_ble_eq_true rfl⟩ (Nat.le_of_ble_eq_true rfl) dX11_gust_2 ?_
  show q_Gs w g 5 [(0, .ref 0), (1, .int x1)] [.int r1] (q_mm I L)
  refine g_if_eq K1 13 dX11_gust_5 rfl (fun hc => ?_) (fun hc => ?_)
  · replace h := h.1 hc
    refine g_aload_n K1 0 dX11_gust_13 rfl ?_
    refine h_getO K1 q_clX11 13 87 lyp_0 fkX11_13 rfl fl_X11_82 dX11_gust_14 ?_
    refine g_iload_n K1 1 dX11_gust_17 rfl ?_
    refine g_aload_n K1 0 dX11_gust_18 rfl ?_
    obtain ⟨r2, I3, hct, h⟩ := h
    refine h_callV K1 (st := [.int x1, .ref 87]) [] (hct w (gl g)) q_clX11 lyp_0 rfl ok_X11_litAtLast ml_X11_297 ⟨Nat.le_of_ble_eq_true rfl, Nat.le_of_ble_eq_true rfl⟩ (Nat.le_of_ble_eq_true rfl) dX11_gust_19 ?_
    show q_Gs w g 22 [(0, .ref 0), (1, .int x1)] [.int r2, .int x1, .ref 87] (q_mm I3 L)
    obtain ⟨r4, I5, hct, h⟩ := h
    refine h_callV K1 (st := []) [.int x1, .int r2] (hct w (gl g)) q_clX10 lyp_87 rfl ok_X10_strongestGust ml_X11_300 ⟨Nat.le_of_ble_eq_true rfl, Nat.le_of_ble_eq_true rfl⟩ (Nat.le_of_ble_eq_true rfl) dX11_gust_22 ?_
    show q_Gs w g 25 [(0, .ref 0), (1, .int x1)] [.int r4] (q_mm I5 L)
    obtain ⟨hr, hI, hL⟩ := h
    subst hr hI hL
    exact g_ireturn K rfl dX11_gust_25
  · replace h := h.2 hc
    refine g_bipush K1 (-2) dX11_gust_8 rfl ?_
    refine g_goto K1 25 dX11_gust_10 rfl ?_
    obtain ⟨hr, hI, hL⟩ := h
    subst hr hI hL
    exact g_ireturn K rfl dX11_gust_25
theorem c0_X11_gust {r : Option Value} {I I' : Nat → Nat → Int32} {L L' : Nat → Nat → Int64} {x1 : Int32} (h : v_X11_gust_0 r I' L' I L x1) : q_C kX11_gust [.ref 0, .int x1] I L r I' L' := fun w l => q_ct (by decide) (Nat.le_of_ble_eq_true rfl) (Nat.le_refl _) (fun g _ K => h w g K)
abbrev v_X11_heard_0 (r : Option Value) (I' : Nat → Nat → Int32) (L' : Nat → Nat → Int64) (I : Nat → Nat → Int32) (L : Nat → Nat → Int64) (x1 : Int32) (x2 : Int32) (x3 : Int32) (x4 : Int32) : Prop := q_W kX11_heard 0 [(0, .ref 0), (1, .int x1), (2, .int x2), (3, .int x3), (4, .int x4)] [] I L r I' L'
abbrev v_X11_heard_17 (r : Option Value) (I' : Nat → Nat → Int32) (L' : Nat → Nat → Int64) (I : Nat → Nat → Int32) (L : Nat → Nat → Int64) (x1 : Int32) (x2 : Int32) (x3 : Int32) (x4 : Int32) (s0 : Int32) : Prop := q_W kX11_heard 17 [(0, .ref 0), (1, .int x1), (2, .int x2), (3, .int x3), (4, .int x4)] [.int s0] I L r I' L'
set_option maxRecDepth 20000 in
set_option maxHeartbeats 2000000 in
theorem vc_X11_heard_0 {r : Option Value} {I' : Nat → Nat → Int32} {L' : Nat → Nat → Int64} {I : Nat → Nat → Int32} {L : Nat → Nat → Int64} {x1 : Int32} {x2 : Int32} {x3 : Int32} {x4 : Int32} (h : ((0 ≤ x4 → (∃ r1, q_C kX11_hearingRefusal [.ref 0, .int x1, .int x2, .int x3] I L (some (.int r1)) I L ∧ (v_X11_heard_17 r I' L' I L x1 x2 x3 x4 r1))) ∧ (¬ 0 ≤ x4 → (v_X11_heard_17 r I' L' I L x1 x2 x3 x4 (-2))))) : v_X11_heard_0 r I' L' I L x1 x2 x3 x4 := by
  intro w g K
  have K1 := K.1
  refine g_iload K1 4 dX11_heard_0 rfl ?_
  refine g_if_ge K1 10 dX11_heard_2 rfl (fun hc => ?_) (fun hc => ?_)
  · replace h := h.1 hc
    refine g_aload_n K1 0 dX11_heard_10 rfl ?_
    refine g_iload_n K1 1 dX11_heard_11 rfl ?_
    refine g_iload_n K1 2 dX11_heard_12 rfl ?_
    refine g_iload_n K1 3 dX11_heard_13 rfl ?_
    obtain ⟨r1, hct, h⟩ := h
    refine h_callV K1 (st := []) [.int x1, .int x2, .int x3] (hct w (gl g)) q_clX11 lyp_0 rfl ok_X11_hearingRefusal ml_X11_244 ⟨Nat.le_of_ble_eq_true rfl, Nat.le_of_ble_eq_true rfl⟩ (Nat.le_of_ble_eq_true rfl) dX11_heard_14 ?_
    show q_Gs w g 17 [(0, .ref 0), (1, .int x1), (2, .int x2), (3, .int x3), (4, .int x4)] [.int r1] (q_mm I L)
    exact g_perm [0, 1, 2, 3, 4] rfl (h w g K)
  · replace h := h.2 hc
    refine g_bipush K1 (-2) dX11_heard_5 rfl ?_
    refine g_goto K1 17 dX11_heard_7 rfl ?_
    exact g_perm [0, 1, 2, 3, 4] rfl (h w g K)
set_option maxRecDepth 20000 in
set_option maxHeartbeats 2000000 in
theorem vc_X11_heard_17 {r : Option Value} {I' : Nat → Nat → Int32} {L' : Nat → Nat → Int64} {I : Nat → Nat → Int32} {L : Nat → Nat → Int64} {x1 : Int32} {x2 : Int32} {x3 : Int32} {x4 : Int32} {s0 : Int32} (h : ((s0 = 0 → (∃ r1, q_C kX9_saying [.ref 25, .int x1] I L (some (.int r1)) I L ∧ (∃ r2, q_C kX11_heardTwice [.ref 0, .int r1, .int x2, .int x3] I L (some (.int r2)) I L ∧ (∃ r3, q_C kX11_letterOrNone [.int r2, .int x4] I L (some (.int r3)) I L ∧ (r = some (.int r3) ∧ I' = I ∧ L' = L))))) ∧ (¬ s0 = 0 → (r = some (.int s0) ∧ I' = I ∧ L' = L)))) : v_X11_heard_17 r I' L' I L x1 x2 x3 x4 s0 := by
  intro w g K
  have K1 := K.1
  refine g_istore K1 dX11_heard_17 (by decide) rfl ?_
  refine g_iload K1 0 dX11_heard_19 rfl ?_
  refine g_if_eq K1 29 dX11_heard_21 rfl (fun hc => ?_) (fun hc => ?_)
  · replace h := h.1 hc
    refine g_aload_n K1 1 dX11_heard_29 rfl ?_
    refine g_aload_n K1 1 dX11_heard_30 rfl ?_
    refine h_getO K1 q_clX11 7 25 lyp_0 fkX11_7 rfl fl_X11_49 dX11_heard_31 ?_
    refine g_iload_n K1 2 dX11_heard_34 rfl ?_
    obtain ⟨r1, hct, h⟩ := h
    refine h_callV K1 (st := [.ref 0]) [.int x1] (hct w (gl g)) q_clX9 lyp_25 rfl ok_X9_saying ml_X11_248 ⟨Nat.le_of_ble_eq_true rfl, Nat.le_of_ble_eq_true rfl⟩ (Nat.le_of_ble_eq_true rfl) dX11_heard_35 ?_
    show q_Gs w g 38 [(5, .int s0), (0, .ref 0), (1, .int x1), (2, .int x2), (3, .int x3), (4, .int x4)] [.int r1, .ref 0] (q_mm I L)
    refine g_iload_n K1 3 dX11_heard_38 rfl ?_
    refine g_iload_n K1 4 dX11_heard_39 rfl ?_
    obtain ⟨r2, hct, h⟩ := h
    refine h_callV K1 (st := []) [.int r1, .int x2, .int x3] (hct w (gl g)) q_clX11 lyp_0 rfl ok_X11_heardTwice ml_X11_251 ⟨Nat.le_of_ble_eq_true rfl, Nat.le_of_ble_eq_true rfl⟩ (Nat.le_of_ble_eq_true rfl) dX11_heard_40 ?_
    show q_Gs w g 43 [(5, .int s0), (0, .ref 0), (1, .int x1), (2, .int x2), (3, .int x3), (4, .int x4)] [.int r2] (q_mm I L)
    refine g_iload K1 5 dX11_heard_43 rfl ?_
    obtain ⟨r3, hct, h⟩ := h
    refine h_callS K1 (st := []) [.int r2, .int x4] (hct w (gl g)) ok_X11_letterOrNone ml_X11_172 ⟨Nat.le_of_ble_eq_true rfl, Nat.le_of_ble_eq_true rfl⟩ (Nat.le_of_ble_eq_true rfl) dX11_heard_45 ?_
    show q_Gs w g 48 [(5, .int s0), (0, .ref 0), (1, .int x1), (2, .int x2), (3, .int x3), (4, .int x4)] [.int r3] (q_mm I L)
    obtain ⟨hr, hI, hL⟩ := h
    subst hr hI hL
    exact g_ireturn K rfl dX11_heard_48
  · replace h := h.2 hc
    refine g_iload K1 0 dX11_heard_24 rfl ?_
    refine g_goto K1 48 dX11_heard_26 rfl ?_
    obtain ⟨hr, hI, hL⟩ := h
    subst hr hI hL
    exact g_ireturn K rfl dX11_heard_48
theorem c0_X11_heard {r : Option Value} {I I' : Nat → Nat → Int32} {L L' : Nat → Nat → Int64} {x1 : Int32} {x2 : Int32} {x3 : Int32} {x4 : Int32} (h : v_X11_heard_0 r I' L' I L x1 x2 x3 x4) : q_C kX11_heard [.ref 0, .int x1, .int x2, .int x3, .int x4] I L r I' L' := fun w l => q_ct (by decide) (Nat.le_of_ble_eq_true rfl) (Nat.le_refl _) (fun g _ K => h w g K)
abbrev v_X11_heardTwice_0 (r : Option Value) (I' : Nat → Nat → Int32) (L' : Nat → Nat → Int64) (I : Nat → Nat → Int32) (L : Nat → Nat → Int64) (x1 : Int32) (x2 : Int32) (x3 : Int32) : Prop := q_W kX11_heardTwice 0 [(0, .ref 0), (1, .int x1), (2, .int x2), (3, .int x3)] [] I L r I' L'
set_option maxRecDepth 20000 in
set_option maxHeartbeats 2000000 in
theorem vc_X11_heardTwice_0 {r : Option Value} {I' : Nat → Nat → Int32} {L' : Nat → Nat → Int64} {I : Nat → Nat → Int32} {L : Nat → Nat → Int64} {x1 : Int32} {x2 : Int32} {x3 : Int32} (h : (∃ r1, q_C kX5_heardBy [.ref 12, .int x2, .int x1] I L (some (.int r1)) I L ∧ (∃ r2, q_C kX5_heardBy [.ref 12, .int x3, .int r1] I L (some (.int r2)) I L ∧ (r = some (.int r2) ∧ I' = I ∧ L' = L)))) : v_X11_heardTwice_0 r I' L' I L x1 x2 x3 := by
  intro w g K
  have K1 := K.1
  refine g_aload_n K1 0 dX11_heardTwice_0 rfl ?_
  refine h_getO K1 q_clX11 5 12 lyp_0 fkX11_5 rfl fl_X11_35 dX11_heardTwice_1 ?_
  refine g_iload_n K1 3 dX11_heardTwice_4 rfl ?_
  refine g_aload_n K1 0 dX11_heardTwice_5 rfl ?_
  refine h_getO K1 q_clX11 5 12 lyp_0 fkX11_5 rfl fl_X11_35 dX11_heardTwice_6 ?_
  refine g_iload_n K1 2 dX11_heardTwice_9 rfl ?_
  refine g_iload_n K1 1 dX11_heardTwice_10 rfl ?_
  obtain ⟨r1, hct, h⟩ := h
  refine h_callV K1 (st := [.int x3, .ref 12]) [.int x2, .int x1] (hct w (gl g)) q_clX5 lyp_12 rfl ok_X5_heardBy ml_X11_270 ⟨Nat.le_of_ble_eq_true rfl, Nat.le_of_ble_eq_true rfl⟩ (Nat.le_of_ble_eq_true rfl) dX11_heardTwice_11 ?_
  show q_Gs w g 14 [(0, .ref 0), (1, .int x1), (2, .int x2), (3, .int x3)] [.int r1, .int x3, .ref 12] (q_mm I L)
  obtain ⟨r2, hct, h⟩ := h
  refine h_callV K1 (st := []) [.int x3, .int r1] (hct w (gl g)) q_clX5 lyp_12 rfl ok_X5_heardBy ml_X11_270 ⟨Nat.le_of_ble_eq_true rfl, Nat.le_of_ble_eq_true rfl⟩ (Nat.le_of_ble_eq_true rfl) dX11_heardTwice_14 ?_
  show q_Gs w g 17 [(0, .ref 0), (1, .int x1), (2, .int x2), (3, .int x3)] [.int r2] (q_mm I L)
  obtain ⟨hr, hI, hL⟩ := h
  subst hr hI hL
  exact g_ireturn K rfl dX11_heardTwice_17
theorem c0_X11_heardTwice {r : Option Value} {I I' : Nat → Nat → Int32} {L L' : Nat → Nat → Int64} {x1 : Int32} {x2 : Int32} {x3 : Int32} (h : v_X11_heardTwice_0 r I' L' I L x1 x2 x3) : q_C kX11_heardTwice [.ref 0, .int x1, .int x2, .int x3] I L r I' L' := fun w l => q_ct (by decide) (Nat.le_of_ble_eq_true rfl) (Nat.le_refl _) (fun g _ K => h w g K)
abbrev v_X11_hearingRefusal_0 (r : Option Value) (I' : Nat → Nat → Int32) (L' : Nat → Nat → Int64) (I : Nat → Nat → Int32) (L : Nat → Nat → Int64) (x1 : Int32) (x2 : Int32) (x3 : Int32) : Prop := q_W kX11_hearingRefusal 0 [(0, .ref 0), (1, .int x1), (2, .int x2), (3, .int x3)] [] I L r I' L'
set_option maxRecDepth 20000 in
set_option maxHeartbeats 2000000 in
theorem vc_X11_hearingRefusal_0 {r : Option Value} {I' : Nat → Nat → Int32} {L' : Nat → Nat → Int64} {I : Nat → Nat → Int32} {L : Nat → Nat → Int64} {x1 : Int32} {x2 : Int32} {x3 : Int32} (h : (∃ r1, q_C kX9_noSlot [.int x1] I L (some (.int r1)) I L ∧ ((r1 = 0 → (∃ r2, q_C kX11_noPew [.ref 0, .int x2] I L (some (.int r2)) I L ∧ ((r2 = 0 → (∃ r3, q_C kX11_noPew [.ref 0, .int x3] I L (some (.int r3)) I L ∧ ((r3 = 0 → (∃ r4, q_C kX9_hasRow [.ref 25, .int x1] I L (some (.int r4)) I L ∧ ((r4 = 0 → (r = some (.int (-6)) ∧ I' = I ∧ L' = L)) ∧ (¬ r4 = 0 → (∃ r5, q_C kX9_saying [.ref 25, .int x1] I L (some (.int r5)) I L ∧ ((r5 = 0 → (r = some (.int (-2)) ∧ I' = I ∧ L' = L)) ∧ (¬ r5 = 0 → (r = some (.int 0) ∧ I' = I ∧ L' = L)))))))) ∧ (¬ r3 = 0 → (r = some (.int (-2)) ∧ I' = I ∧ L' = L))))) ∧ (¬ r2 = 0 → (r = some (.int (-2)) ∧ I' = I ∧ L' = L))))) ∧ (¬ r1 = 0 → (r = some (.int (-2)) ∧ I' = I ∧ L' = L))))) : v_X11_hearingRefusal_0 r I' L' I L x1 x2 x3 := by
  intro w g K
  have K1 := K.1
  refine g_iload_n K1 1 dX11_hearingRefusal_0 rfl ?_
  obtain ⟨r1, hct, h⟩ := h
  refine h_callS K1 (st := []) [.int x1] (hct w (gl g)) ok_X9_noSlot ml_X11_264 ⟨Nat.le_of_ble_eq_true rfl, Nat.le_of_ble_eq_true rfl⟩ (Nat.le_of_ble_eq_true rfl) dX11_hearingRefusal_1 ?_
  show q_Gs w g 4 [(0, .ref 0), (1, .int x1), (2, .int x2), (3, .int x3)] [.int r1] (q_mm I L)
  refine g_if_ne K1 23 dX11_hearingRefusal_4 rfl (fun hc => ?_) (fun hc => ?_)
  · replace h := h.2 hc
    refine g_bipush K1 (-2) dX11_hearingRefusal_23 rfl ?_
    obtain ⟨hr, hI, hL⟩ := h
    subst hr hI hL
    exact g_ireturn K rfl dX11_hearingRefusal_25
  · replace h := h.1 hc
    refine g_aload_n K1 0 dX11_hearingRefusal_7 rfl ?_
    refine g_iload_n K1 2 dX11_hearingRefusal_8 rfl ?_
    obtain ⟨r2, hct, h⟩ := h
    refine h_callV K1 (st := []) [.int x2] (hct w (gl g)) q_clX11 lyp_0 rfl ok_X11_noPew ml_X11_145 ⟨Nat.le_of_ble_eq_true rfl, Nat.le_of_ble_eq_true rfl⟩ (Nat.le_of_ble_eq_true rfl) dX11_hearingRefusal_9 ?_
    show q_Gs w g 12 [(0, .ref 0), (1, .int x1), (2, .int x2), (3, .int x3)] [.int r2] (q_mm I L)
    refine g_if_ne K1 23 dX11_hearingRefusal_12 rfl (fun hc => ?_) (fun hc => ?_)
    · replace h := h.2 hc
      refine g_bipush K1 (-2) dX11_hearingRefusal_23 rfl ?_
      obtain ⟨hr, hI, hL⟩ := h
      subst hr hI hL
      exact g_ireturn K rfl dX11_hearingRefusal_25
    · replace h := h.1 hc
      refine g_aload_n K1 0 dX11_hearingRefusal_15 rfl ?_
      refine g_iload_n K1 3 dX11_hearingRefusal_16 rfl ?_
      obtain ⟨r3, hct, h⟩ := h
      refine h_callV K1 (st := []) [.int x3] (hct w (gl g)) q_clX11 lyp_0 rfl ok_X11_noPew ml_X11_145 ⟨Nat.le_of_ble_eq_true rfl, Nat.le_of_ble_eq_true rfl⟩ (Nat.le_of_ble_eq_true rfl) dX11_hearingRefusal_17 ?_
      show q_Gs w g 20 [(0, .ref 0), (1, .int x1), (2, .int x2), (3, .int x3)] [.int r3] (q_mm I L)
      refine g_if_eq K1 26 dX11_hearingRefusal_20 rfl (fun hc => ?_) (fun hc => ?_)
      · replace h := h.1 hc
        refine g_aload_n K1 0 dX11_hearingRefusal_26 rfl ?_
        refine h_getO K1 q_clX11 7 25 lyp_0 fkX11_7 rfl fl_X11_49 dX11_hearingRefusal_27 ?_
        refine g_iload_n K1 1 dX11_hearingRefusal_30 rfl ?_
        obtain ⟨r4, hct, h⟩ := h
        refine h_callV K1 (st := []) [.int x1] (hct w (gl g)) q_clX9 lyp_25 rfl ok_X9_hasRow ml_X11_267 ⟨Nat.le_of_ble_eq_true rfl, Nat.le_of_ble_eq_true rfl⟩ (Nat.le_of_ble_eq_true rfl) dX11_hearingRefusal_31 ?_
        show q_Gs w g 34 [(0, .ref 0), (1, .int x1), (2, .int x2), (3, .int x3)] [.int r4] (q_mm I L)
        refine g_if_ne K1 40 dX11_hearingRefusal_34 rfl (fun hc => ?_) (fun hc => ?_)
        · replace h := h.2 hc
          refine g_aload_n K1 0 dX11_hearingRefusal_40 rfl ?_
          refine h_getO K1 q_clX11 7 25 lyp_0 fkX11_7 rfl fl_X11_49 dX11_hearingRefusal_41 ?_
          refine g_iload_n K1 1 dX11_hearingRefusal_44 rfl ?_
          obtain ⟨r5, hct, h⟩ := h
          refine h_callV K1 (st := []) [.int x1] (hct w (gl g)) q_clX9 lyp_25 rfl ok_X9_saying ml_X11_248 ⟨Nat.le_of_ble_eq_true rfl, Nat.le_of_ble_eq_true rfl⟩ (Nat.le_of_ble_eq_true rfl) dX11_hearingRefusal_45 ?_
          show q_Gs w g 48 [(0, .ref 0), (1, .int x1), (2, .int x2), (3, .int x3)] [.int r5] (q_mm I L)
          refine g_if_ne K1 56 dX11_hearingRefusal_48 rfl (fun hc => ?_) (fun hc => ?_)
          · replace h := h.2 hc
            refine g_iconst K1 0 dX11_hearingRefusal_56 rfl ?_
            obtain ⟨hr, hI, hL⟩ := h
            subst hr hI hL
            exact g_ireturn K rfl dX11_hearingRefusal_57
          · replace h := h.1 hc
            refine g_bipush K1 (-2) dX11_hearingRefusal_51 rfl ?_
            refine g_goto K1 57 dX11_hearingRefusal_53 rfl ?_
            obtain ⟨hr, hI, hL⟩ := h
            subst hr hI hL
            exact g_ireturn K rfl dX11_hearingRefusal_57
        · replace h := h.1 hc
          refine g_bipush K1 (-6) dX11_hearingRefusal_37 rfl ?_
          obtain ⟨hr, hI, hL⟩ := h
          subst hr hI hL
          exact g_ireturn K rfl dX11_hearingRefusal_39
      · replace h := h.2 hc
        refine g_bipush K1 (-2) dX11_hearingRefusal_23 rfl ?_
        obtain ⟨hr, hI, hL⟩ := h
        subst hr hI hL
        exact g_ireturn K rfl dX11_hearingRefusal_25
theorem c0_X11_hearingRefusal {r : Option Value} {I I' : Nat → Nat → Int32} {L L' : Nat → Nat → Int64} {x1 : Int32} {x2 : Int32} {x3 : Int32} (h : v_X11_hearingRefusal_0 r I' L' I L x1 x2 x3) : q_C kX11_hearingRefusal [.ref 0, .int x1, .int x2, .int x3] I L r I' L' := fun w l => q_ct (by decide) (Nat.le_of_ble_eq_true rfl) (Nat.le_refl _) (fun g _ K => h w g K)
abbrev v_X11_hears_0 (r : Option Value) (I' : Nat → Nat → Int32) (L' : Nat → Nat → Int64) (I : Nat → Nat → Int32) (L : Nat → Nat → Int64) (x1 : Int32) (x2 : Int32) (x3 : Int32) : Prop := q_W kX11_hears 0 [(0, .ref 0), (1, .int x1), (2, .int x2), (3, .int x3)] [] I L r I' L'
set_option maxRecDepth 20000 in
set_option maxHeartbeats 2000000 in
theorem vc_X11_hears_0 {r : Option Value} {I' : Nat → Nat → Int32} {L' : Nat → Nat → Int64} {I : Nat → Nat → Int32} {L : Nat → Nat → Int64} {x1 : Int32} {x2 : Int32} {x3 : Int32} (h : (∃ r1, q_C kX11_hearingRefusal [.ref 0, .int x1, .int x2, .int x3] I L (some (.int r1)) I L ∧ ((r1 = 0 → (∃ r2, q_C kX9_saying [.ref 25, .int x1] I L (some (.int r2)) I L ∧ (∃ r3, q_C kX11_heardTwice [.ref 0, .int r2, .int x2, .int x3] I L (some (.int r3)) I L ∧ (∃ r4, q_C kX7_size [.int r3] I L (some (.int r4)) I L ∧ (r = some (.int r4) ∧ I' = I ∧ L' = L))))) ∧ (¬ r1 = 0 → (r = some (.int r1) ∧ I' = I ∧ L' = L))))) : v_X11_hears_0 r I' L' I L x1 x2 x3 := by
  intro w g K
  have K1 := K.1
  refine g_aload_n K1 0 dX11_hears_0 rfl ?_
  refine g_iload_n K1 1 dX11_hears_1 rfl ?_
  refine g_iload_n K1 2 dX11_hears_2 rfl ?_
  refine g_iload_n K1 3 dX11_hears_3 rfl ?_
  obtain ⟨r1, hct, h⟩ := h
  refine h_callV K1 (st := []) [.int x1, .int x2, .int x3] (hct w (gl g)) q_clX11 lyp_0 rfl ok_X11_hearingRefusal ml_X11_244 ⟨Nat.le_of_ble_eq_true rfl, Nat.le_of_ble_eq_true rfl⟩ (Nat.le_of_ble_eq_true rfl) dX11_hears_4 ?_
  show q_Gs w g 7 [(0, .ref 0), (1, .int x1), (2, .int x2), (3, .int x3)] [.int r1] (q_mm I L)
  refine g_istore K1 dX11_hears_7 (by decide) rfl ?_
  refine g_iload K1 0 dX11_hears_9 rfl ?_
  refine g_if_eq K1 19 dX11_hears_11 rfl (fun hc => ?_) (fun hc => ?_)
  · replace h := h.1 hc
    refine g_aload_n K1 1 dX11_hears_19 rfl ?_
    refine g_aload_n K1 1 dX11_hears_20 rfl ?_
    refine h_getO K1 q_clX11 7 25 lyp_0 fkX11_7 rfl fl_X11_49 dX11_hears_21 ?_
    refine g_iload_n K1 2 dX11_hears_24 rfl ?_
    obtain ⟨r2, hct, h⟩ := h
    refine h_callV K1 (st := [.ref 0]) [.int x1] (hct w (gl g)) q_clX9 lyp_25 rfl ok_X9_saying ml_X11_248 ⟨Nat.le_of_ble_eq_true rfl, Nat.le_of_ble_eq_true rfl⟩ (Nat.le_of_ble_eq_true rfl) dX11_hears_25 ?_
    show q_Gs w g 28 [(4, .int r1), (0, .ref 0), (1, .int x1), (2, .int x2), (3, .int x3)] [.int r2, .ref 0] (q_mm I L)
    refine g_iload_n K1 3 dX11_hears_28 rfl ?_
    refine g_iload_n K1 4 dX11_hears_29 rfl ?_
    obtain ⟨r3, hct, h⟩ := h
    refine h_callV K1 (st := []) [.int r2, .int x2, .int x3] (hct w (gl g)) q_clX11 lyp_0 rfl ok_X11_heardTwice ml_X11_251 ⟨Nat.le_of_ble_eq_true rfl, Nat.le_of_ble_eq_true rfl⟩ (Nat.le_of_ble_eq_true rfl) dX11_hears_30 ?_
    show q_Gs w g 33 [(4, .int r1), (0, .ref 0), (1, .int x1), (2, .int x2), (3, .int x3)] [.int r3] (q_mm I L)
    obtain ⟨r4, hct, h⟩ := h
    refine h_callS K1 (st := []) [.int r3] (hct w (gl g)) ok_X7_size ml_X11_192 ⟨Nat.le_of_ble_eq_true rfl, Nat.le_of_ble_eq_true rfl⟩ (Nat.le_of_ble_eq_true rfl) dX11_hears_33 ?_
    show q_Gs w g 36 [(4, .int r1), (0, .ref 0), (1, .int x1), (2, .int x2), (3, .int x3)] [.int r4] (q_mm I L)
    obtain ⟨hr, hI, hL⟩ := h
    subst hr hI hL
    exact g_ireturn K rfl dX11_hears_36
  · replace h := h.2 hc
    refine g_iload K1 0 dX11_hears_14 rfl ?_
    refine g_goto K1 36 dX11_hears_16 rfl ?_
    obtain ⟨hr, hI, hL⟩ := h
    subst hr hI hL
    exact g_ireturn K rfl dX11_hears_36
theorem c0_X11_hears {r : Option Value} {I I' : Nat → Nat → Int32} {L L' : Nat → Nat → Int64} {x1 : Int32} {x2 : Int32} {x3 : Int32} (h : v_X11_hears_0 r I' L' I L x1 x2 x3) : q_C kX11_hears [.ref 0, .int x1, .int x2, .int x3] I L r I' L' := fun w l => q_ct (by decide) (Nat.le_of_ble_eq_true rfl) (Nat.le_refl _) (fun g _ K => h w g K)
abbrev v_X11_hushes_0 (r : Option Value) (I' : Nat → Nat → Int32) (L' : Nat → Nat → Int64) (I : Nat → Nat → Int32) (L : Nat → Nat → Int64) (x1 : Int32) : Prop := q_W kX11_hushes 0 [(0, .ref 0), (1, .int x1)] [] I L r I' L'
set_option maxRecDepth 20000 in
set_option maxHeartbeats 2000000 in
theorem vc_X11_hushes_0 {r : Option Value} {I' : Nat → Nat → Int32} {L' : Nat → Nat → Int64} {I : Nat → Nat → Int32} {L : Nat → Nat → Int64} {x1 : Int32} (h : (∃ r1, q_C kX11_noPew [.ref 0, .int x1] I L (some (.int r1)) I L ∧ ((r1 = 0 → (((I 21 0) ≤ 0 → (vp_in x1 7 ∧ (∃ I2, q_C kX5_setRule [.ref 12, .int x1, .int 0, .int 0, .int 0] I L none I2 L ∧ (∃ I3, q_C kX11_unsettle [.ref 0] I2 L none I3 L ∧ (r = some (.int (I 13 x1.toNatClampNeg)) ∧ I' = I3 ∧ L' = L))))) ∧ (¬ (I 21 0) ≤ 0 → (r = some (.int (-5)) ∧ I' = I ∧ L' = L)))) ∧ (¬ r1 = 0 → (r = some (.int (-2)) ∧ I' = I ∧ L' = L))))) : v_X11_hushes_0 r I' L' I L x1 := by
  intro w g K
  have K1 := K.1
  refine g_aload_n K1 0 dX11_hushes_0 rfl ?_
  refine g_iload_n K1 1 dX11_hushes_1 rfl ?_
  obtain ⟨r1, hct, h⟩ := h
  refine h_callV K1 (st := []) [.int x1] (hct w (gl g)) q_clX11 lyp_0 rfl ok_X11_noPew ml_X11_145 ⟨Nat.le_of_ble_eq_true rfl, Nat.le_of_ble_eq_true rfl⟩ (Nat.le_of_ble_eq_true rfl) dX11_hushes_2 ?_
  show q_Gs w g 5 [(0, .ref 0), (1, .int x1)] [.int r1] (q_mm I L)
  refine g_if_eq K1 11 dX11_hushes_5 rfl (fun hc => ?_) (fun hc => ?_)
  · replace h := h.1 hc
    refine g_aload_n K1 0 dX11_hushes_11 rfl ?_
    refine h_getO K1 q_clX11 6 21 lyp_0 fkX11_6 rfl fl_X11_42 dX11_hushes_12 ?_
    refine h_getI K1 q_clX0 0 lyp_21 fkX0_0 fl_X11_136 dX11_hushes_15 ?_
    refine g_if_le K1 24 dX11_hushes_18 rfl (fun hc => ?_) (fun hc => ?_)
    · replace h := h.1 hc
      refine g_aload_n K1 0 dX11_hushes_24 rfl ?_
      refine h_getO K1 q_clX11 5 12 lyp_0 fkX11_5 rfl fl_X11_35 dX11_hushes_25 ?_
      refine h_getO K1 q_clX5 8 13 lyp_12 fkX5_8 rfl fl_X11_149 dX11_hushes_28 ?_
      refine g_iload_n K1 1 dX11_hushes_31 rfl ?_
      obtain ⟨hg, h⟩ := h
      refine h_iaload K1 lyp_13 hg dX11_hushes_32 ?_
      refine g_istore_n K1 dX11_hushes_33 rfl (by decide) rfl ?_
      refine g_aload_n K1 1 dX11_hushes_34 rfl ?_
      refine h_getO K1 q_clX11 5 12 lyp_0 fkX11_5 rfl fl_X11_35 dX11_hushes_35 ?_
      refine g_iload_n K1 2 dX11_hushes_38 rfl ?_
      refine g_iconst K1 0 dX11_hushes_39 rfl ?_
      refine g_iconst K1 0 dX11_hushes_40 rfl ?_
      refine g_iconst K1 0 dX11_hushes_41 rfl ?_
      obtain ⟨I2, hct, h⟩ := h
      refine h_callV K1 (st := []) [.int x1, .int 0, .int 0, .int 0] (hct w (gl g)) q_clX5 lyp_12 rfl ok_X5_setRule ml_X11_384 ⟨Nat.le_of_ble_eq_true rfl, Nat.le_of_ble_eq_true rfl⟩ (Nat.le_of_ble_eq_true rfl) dX11_hushes_42 ?_
      show q_Gs w g 45 [(2, .int (I 13 x1.toNatClampNeg)), (0, .ref 0), (1, .int x1)] [] (q_mm I2 L)
      refine g_aload_n K1 1 dX11_hushes_45 rfl ?_
      obtain ⟨I3, hct, h⟩ := h
      refine h_callV K1 (st := []) [] (hct w (gl g)) q_clX11 lyp_0 rfl ok_X11_unsettle ml_X11_139 ⟨Nat.le_of_ble_eq_true rfl, Nat.le_of_ble_eq_true rfl⟩ (Nat.le_of_ble_eq_true rfl) dX11_hushes_46 ?_
      show q_Gs w g 49 [(2, .int (I 13 x1.toNatClampNeg)), (0, .ref 0), (1, .int x1)] [] (q_mm I3 L)
      refine g_iload_n K1 0 dX11_hushes_49 rfl ?_
      obtain ⟨hr, hI, hL⟩ := h
      subst hr hI hL
      exact g_ireturn K rfl dX11_hushes_50
    · replace h := h.2 hc
      refine g_bipush K1 (-5) dX11_hushes_21 rfl ?_
      obtain ⟨hr, hI, hL⟩ := h
      subst hr hI hL
      exact g_ireturn K rfl dX11_hushes_23
  · replace h := h.2 hc
    refine g_bipush K1 (-2) dX11_hushes_8 rfl ?_
    obtain ⟨hr, hI, hL⟩ := h
    subst hr hI hL
    exact g_ireturn K rfl dX11_hushes_10
theorem c0_X11_hushes {r : Option Value} {I I' : Nat → Nat → Int32} {L L' : Nat → Nat → Int64} {x1 : Int32} (h : v_X11_hushes_0 r I' L' I L x1) : q_C kX11_hushes [.ref 0, .int x1] I L r I' L' := fun w l => q_ct (by decide) (Nat.le_of_ble_eq_true rfl) (Nat.le_refl _) (fun g _ K => h w g K)
abbrev v_X11_image_0 (r : Option Value) (I' : Nat → Nat → Int32) (L' : Nat → Nat → Int64) (I : Nat → Nat → Int32) (L : Nat → Nat → Int64) (x1 : Int32) : Prop := q_W kX11_image 0 [(0, .ref 0), (1, .int x1)] [] I L r I' L'
set_option maxRecDepth 20000 in
set_option maxHeartbeats 2000000 in
theorem vc_X11_image_0 {r : Option Value} {I' : Nat → Nat → Int32} {L' : Nat → Nat → Int64} {I : Nat → Nat → Int32} {L : Nat → Nat → Int64} {x1 : Int32} (h : ((x1 < 0 → (r = some (.int (-2)) ∧ I' = I ∧ L' = L)) ∧ (¬ x1 < 0 → ((x1 < 3 → (vp_in x1 3 ∧ ((x1 = 0 → (∃ I1, q_C kX5_take [.ref 36, .ref 12] I L none I1 L ∧ (vp_in x1 3 ∧ ((x1 = 0 → (∃ I2, q_C kX0_take [.ref 45, .ref 21] I1 L none I2 L ∧ (vp_in x1 3 ∧ (r = some (.int 0) ∧ I' = (up2 I2 35 x1.toNatClampNeg (vp_nar .boolean 1)) ∧ L' = L)))) ∧ (x1 = 1 → (∃ I3, q_C kX0_take [.ref 58, .ref 21] I1 L none I3 L ∧ (vp_in x1 3 ∧ (r = some (.int 0) ∧ I' = (up2 I3 35 x1.toNatClampNeg (vp_nar .boolean 1)) ∧ L' = L)))) ∧ (x1 = 2 → (∃ I4, q_C kX0_take [.ref 71, .ref 21] I1 L none I4 L ∧ (vp_in x1 3 ∧ (r = some (.int 0) ∧ I' = (up2 I4 35 x1.toNatClampNeg (vp_nar .boolean 1)) ∧ L' = L)))))))) ∧ (x1 = 1 → (∃ I5, q_C kX5_take [.ref 49, .ref 12] I L none I5 L ∧ (vp_in x1 3 ∧ ((x1 = 0 → (∃ I6, q_C kX0_take [.ref 45, .ref 21] I5 L none I6 L ∧ (vp_in x1 3 ∧ (r = some (.int 0) ∧ I' = (up2 I6 35 x1.toNatClampNeg (vp_nar .boolean 1)) ∧ L' = L)))) ∧ (x1 = 1 → (∃ I7, q_C kX0_take [.ref 58, .ref 21] I5 L none I7 L ∧ (vp_in x1 3 ∧ (r = some (.int 0) ∧ I' = (up2 I7 35 x1.toNatClampNeg (vp_nar .boolean 1)) ∧ L' = L)))) ∧ (x1 = 2 → (∃ I8, q_C kX0_take [.ref 71, .ref 21] I5 L none I8 L ∧ (vp_in x1 3 ∧ (r = some (.int 0) ∧ I' = (up2 I8 35 x1.toNatClampNeg (vp_nar .boolean 1)) ∧ L' = L)))))))) ∧ (x1 = 2 → (∃ I9, q_C kX5_take [.ref 62, .ref 12] I L none I9 L ∧ (vp_in x1 3 ∧ ((x1 = 0 → (∃ I10, q_C kX0_take [.ref 45, .ref 21] I9 L none I10 L ∧ (vp_in x1 3 ∧ (r = some (.int 0) ∧ I' = (up2 I10 35 x1.toNatClampNeg (vp_nar .boolean 1)) ∧ L' = L)))) ∧ (x1 = 1 → (∃ I11, q_C kX0_take [.ref 58, .ref 21] I9 L none I11 L ∧ (vp_in x1 3 ∧ (r = some (.int 0) ∧ I' = (up2 I11 35 x1.toNatClampNeg (vp_nar .boolean 1)) ∧ L' = L)))) ∧ (x1 = 2 → (∃ I12, q_C kX0_take [.ref 71, .ref 21] I9 L none I12 L ∧ (vp_in x1 3 ∧ (r = some (.int 0) ∧ I' = (up2 I12 35 x1.toNatClampNeg (vp_nar .boolean 1)) ∧ L' = L))))))))))) ∧ (¬ x1 < 3 → (r = some (.int (-2)) ∧ I' = I ∧ L' = L)))))) : v_X11_image_0 r I' L' I L x1 := by
  intro w g K
  have K1 := K.1
  refine g_iload_n K1 1 dX11_image_0 rfl ?_
  refine g_if_lt K1 9 dX11_image_1 rfl (fun hc => ?_) (fun hc => ?_)
  · replace h := h.1 hc
    refine g_bipush K1 (-2) dX11_image_9 rfl ?_
    obtain ⟨hr, hI, hL⟩ := h
    subst hr hI hL
    exact g_ireturn K rfl dX11_image_11
  · replace h := h.2 hc
    refine g_iload_n K1 1 dX11_image_4 rfl ?_
    refine g_iconst K1 3 dX11_image_5 rfl ?_
    refine g_icmp_lt K1 12 dX11_image_6 rfl (fun hc => ?_) (fun hc => ?_)
    · replace h := h.1 hc
      refine g_aload_n K1 0 dX11_image_12 rfl ?_
      refine h_getO K1 q_clX11 8 33 lyp_0 fkX11_8 rfl fl_X11_53 dX11_image_13 ?_
      refine g_iload_n K1 1 dX11_image_16 rfl ?_
      obtain ⟨hg, h⟩ := h
      rcases vin3 hg with hj | hj | hj
      · replace h := h.1 hj
        refine h_aaloadK K1 36 lyp_33 (by omega) hg (by rw [hj]; rfl) dX11_image_17 ?_
        refine g_aload_n K1 0 dX11_image_18 rfl ?_
        refine h_getO K1 q_clX11 5 12 lyp_0 fkX11_5 rfl fl_X11_35 dX11_image_19 ?_
        obtain ⟨I1, hct, h⟩ := h
        refine h_callV K1 (st := []) [.ref 12] (hct w (gl g)) q_clX5 lyp_36 rfl ok_X5_take ml_X11_132 ⟨Nat.le_of_ble_eq_true rfl, Nat.le_of_ble_eq_true rfl⟩ (Nat.le_of_ble_eq_true rfl) dX11_image_22 ?_
        show q_Gs w g 25 [(0, .ref 0), (1, .int x1)] [] (q_mm I1 L)
        refine g_aload_n K1 0 dX11_image_25 rfl ?_
        refine h_getO K1 q_clX11 9 34 lyp_0 fkX11_9 rfl fl_X11_57 dX11_image_26 ?_
        refine g_iload_n K1 1 dX11_image_29 rfl ?_
        obtain ⟨hg, h⟩ := h
        rcases vin3 hg with hj | hj | hj
        · replace h := h.1 hj
          refine h_aaloadK K1 45 lyp_34 (by omega) hg (by rw [hj]; rfl) dX11_image_30 ?_
          refine g_aload_n K1 0 dX11_image_31 rfl ?_
          refine h_getO K1 q_clX11 6 21 lyp_0 fkX11_6 rfl fl_X11_42 dX11_image_32 ?_
          obtain ⟨I2, hct, h⟩ := h
          refine h_callV K1 (st := []) [.ref 21] (hct w (gl g)) q_clX0 lyp_45 rfl ok_X0_take ml_X11_403 ⟨Nat.le_of_ble_eq_true rfl, Nat.le_of_ble_eq_true rfl⟩ (Nat.le_of_ble_eq_true rfl) dX11_image_35 ?_
          show q_Gs w g 38 [(0, .ref 0), (1, .int x1)] [] (q_mm I2 L)
          refine g_aload_n K1 0 dX11_image_38 rfl ?_
          refine h_getO K1 q_clX11 10 35 lyp_0 fkX11_10 rfl fl_X11_61 dX11_image_39 ?_
          refine g_iload_n K1 1 dX11_image_42 rfl ?_
          refine g_iconst K1 1 dX11_image_43 rfl ?_
          obtain ⟨hg, h⟩ := h
          refine h_zastore K1 lyp_35 hg dX11_image_44 ?_
          refine g_iconst K1 0 dX11_image_45 rfl ?_
          obtain ⟨hr, hI, hL⟩ := h
          subst hr hI hL
          exact g_ireturn K rfl dX11_image_46
        · replace h := h.2.1 hj
          refine h_aaloadK K1 58 lyp_34 (by omega) hg (by rw [hj]; rfl) dX11_image_30 ?_
          refine g_aload_n K1 0 dX11_image_31 rfl ?_
          refine h_getO K1 q_clX11 6 21 lyp_0 fkX11_6 rfl fl_X11_42 dX11_image_32 ?_
          obtain ⟨I3, hct, h⟩ := h
          refine h_callV K1 (st := []) [.ref 21] (hct w (gl g)) q_clX0 lyp_58 rfl ok_X0_take ml_X11_403 ⟨Nat.le_of_ble_eq_true rfl, Nat.le_of_ble_eq_true rfl⟩ (Nat.le_of_ble_eq_true rfl) dX11_image_35 ?_
          show q_Gs w g 38 [(0, .ref 0), (1, .int x1)] [] (q_mm I3 L)
          refine g_aload_n K1 0 dX11_image_38 rfl ?_
          refine h_getO K1 q_clX11 10 35 lyp_0 fkX11_10 rfl fl_X11_61 dX11_image_39 ?_
          refine g_iload_n K1 1 dX11_image_42 rfl ?_
          refine g_iconst K1 1 dX11_image_43 rfl ?_
          obtain ⟨hg, h⟩ := h
          refine h_zastore K1 lyp_35 hg dX11_image_44 ?_
          refine g_iconst K1 0 dX11_image_45 rfl ?_
          obtain ⟨hr, hI, hL⟩ := h
          subst hr hI hL
          exact g_ireturn K rfl dX11_image_46
        · replace h := h.2.2 hj
          refine h_aaloadK K1 71 lyp_34 (by omega) hg (by rw [hj]; rfl) dX11_image_30 ?_
          refine g_aload_n K1 0 dX11_image_31 rfl ?_
          refine h_getO K1 q_clX11 6 21 lyp_0 fkX11_6 rfl fl_X11_42 dX11_image_32 ?_
          obtain ⟨I4, hct, h⟩ := h
          refine h_callV K1 (st := []) [.ref 21] (hct w (gl g)) q_clX0 lyp_71 rfl ok_X0_take ml_X11_403 ⟨Nat.le_of_ble_eq_true rfl, Nat.le_of_ble_eq_true rfl⟩ (Nat.le_of_ble_eq_true rfl) dX11_image_35 ?_
          show q_Gs w g 38 [(0, .ref 0), (1, .int x1)] [] (q_mm I4 L)
          refine g_aload_n K1 0 dX11_image_38 rfl ?_
          refine h_getO K1 q_clX11 10 35 lyp_0 fkX11_10 rfl fl_X11_61 dX11_image_39 ?_
          refine g_iload_n K1 1 dX11_image_42 rfl ?_
          refine g_iconst K1 1 dX11_image_43 rfl ?_
          obtain ⟨hg, h⟩ := h
          refine h_zastore K1 lyp_35 hg dX11_image_44 ?_
          refine g_iconst K1 0 dX11_image_45 rfl ?_
          obtain ⟨hr, hI, hL⟩ := h
          subst hr hI hL
          exact g_ireturn K rfl dX11_image_46
      · replace h := h.2.1 hj
        refine h_aaloadK K1 49 lyp_33 (by omega) hg (by rw [hj]; rfl) dX11_image_17 ?_
        refine g_aload_n K1 0 dX11_image_18 rfl ?_
        refine h_getO K1 q_clX11 5 12 lyp_0 fkX11_5 rfl fl_X11_35 dX11_image_19 ?_
        obtain ⟨I5, hct, h⟩ := h
        refine h_callV K1 (st := []) [.ref 12] (hct w (gl g)) q_clX5 lyp_49 rfl ok_X5_take ml_X11_132 ⟨Nat.le_of_ble_eq_true rfl, Nat.le_of_ble_eq_true rfl⟩ (Nat.le_of_ble_eq_true rfl) dX11_image_22 ?_
        show q_Gs w g 25 [(0, .ref 0), (1, .int x1)] [] (q_mm I5 L)
        refine g_aload_n K1 0 dX11_image_25 rfl ?_
        refine h_getO K1 q_clX11 9 34 lyp_0 fkX11_9 rfl fl_X11_57 dX11_image_26 ?_
        refine g_iload_n K1 1 dX11_image_29 rfl ?_
        obtain ⟨hg, h⟩ := h
        rcases vin3 hg with hj | hj | hj
        · replace h := h.1 hj
          refine h_aaloadK K1 45 lyp_34 (by omega) hg (by rw [hj]; rfl) dX11_image_30 ?_
          refine g_aload_n K1 0 dX11_image_31 rfl ?_
          refine h_getO K1 q_clX11 6 21 lyp_0 fkX11_6 rfl fl_X11_42 dX11_image_32 ?_
          obtain ⟨I6, hct, h⟩ := h
          refine h_callV K1 (st := []) [.ref 21] (hct w (gl g)) q_clX0 lyp_45 rfl ok_X0_take ml_X11_403 ⟨Nat.le_of_ble_eq_true rfl, Nat.le_of_ble_eq_true rfl⟩ (Nat.le_of_ble_eq_true rfl) dX11_image_35 ?_
          show q_Gs w g 38 [(0, .ref 0), (1, .int x1)] [] (q_mm I6 L)
          refine g_aload_n K1 0 dX11_image_38 rfl ?_
          refine h_getO K1 q_clX11 10 35 lyp_0 fkX11_10 rfl fl_X11_61 dX11_image_39 ?_
          refine g_iload_n K1 1 dX11_image_42 rfl ?_
          refine g_iconst K1 1 dX11_image_43 rfl ?_
          obtain ⟨hg, h⟩ := h
          refine h_zastore K1 lyp_35 hg dX11_image_44 ?_
          refine g_iconst K1 0 dX11_image_45 rfl ?_
          obtain ⟨hr, hI, hL⟩ := h
          subst hr hI hL
          exact g_ireturn K rfl dX11_image_46
        · replace h := h.2.1 hj
          refine h_aaloadK K1 58 lyp_34 (by omega) hg (by rw [hj]; rfl) dX11_image_30 ?_
          refine g_aload_n K1 0 dX11_image_31 rfl ?_
          refine h_getO K1 q_clX11 6 21 lyp_0 fkX11_6 rfl fl_X11_42 dX11_image_32 ?_
          obtain ⟨I7, hct, h⟩ := h
          refine h_callV K1 (st := []) [.ref 21] (hct w (gl g)) q_clX0 lyp_58 rfl ok_X0_take ml_X11_403 ⟨Nat.le_of_ble_eq_true rfl, Nat.le_of_ble_eq_true rfl⟩ (Nat.le_of_ble_eq_true rfl) dX11_image_35 ?_
          show q_Gs w g 38 [(0, .ref 0), (1, .int x1)] [] (q_mm I7 L)
          refine g_aload_n K1 0 dX11_image_38 rfl ?_
          refine h_getO K1 q_clX11 10 35 lyp_0 fkX11_10 rfl fl_X11_61 dX11_image_39 ?_
          refine g_iload_n K1 1 dX11_image_42 rfl ?_
          refine g_iconst K1 1 dX11_image_43 rfl ?_
          obtain ⟨hg, h⟩ := h
          refine h_zastore K1 lyp_35 hg dX11_image_44 ?_
          refine g_iconst K1 0 dX11_image_45 rfl ?_
          obtain ⟨hr, hI, hL⟩ := h
          subst hr hI hL
          exact g_ireturn K rfl dX11_image_46
        · replace h := h.2.2 hj
          refine h_aaloadK K1 71 lyp_34 (by omega) hg (by rw [hj]; rfl) dX11_image_30 ?_
          refine g_aload_n K1 0 dX11_image_31 rfl ?_
          refine h_getO K1 q_clX11 6 21 lyp_0 fkX11_6 rfl fl_X11_42 dX11_image_32 ?_
          obtain ⟨I8, hct, h⟩ := h
          refine h_callV K1 (st := []) [.ref 21] (hct w (gl g)) q_clX0 lyp_71 rfl ok_X0_take ml_X11_403 ⟨Nat.le_of_ble_eq_true rfl, Nat.le_of_ble_eq_true rfl⟩ (Nat.le_of_ble_eq_true rfl) dX11_image_35 ?_
          show q_Gs w g 38 [(0, .ref 0), (1, .int x1)] [] (q_mm I8 L)
          refine g_aload_n K1 0 dX11_image_38 rfl ?_
          refine h_getO K1 q_clX11 10 35 lyp_0 fkX11_10 rfl fl_X11_61 dX11_image_39 ?_
          refine g_iload_n K1 1 dX11_image_42 rfl ?_
          refine g_iconst K1 1 dX11_image_43 rfl ?_
          obtain ⟨hg, h⟩ := h
          refine h_zastore K1 lyp_35 hg dX11_image_44 ?_
          refine g_iconst K1 0 dX11_image_45 rfl ?_
          obtain ⟨hr, hI, hL⟩ := h
          subst hr hI hL
          exact g_ireturn K rfl dX11_image_46
      · replace h := h.2.2 hj
        refine h_aaloadK K1 62 lyp_33 (by omega) hg (by rw [hj]; rfl) dX11_image_17 ?_
        refine g_aload_n K1 0 dX11_image_18 rfl ?_
        refine h_getO K1 q_clX11 5 12 lyp_0 fkX11_5 rfl fl_X11_35 dX11_image_19 ?_
        obtain ⟨I9, hct, h⟩ := h
        refine h_callV K1 (st := []) [.ref 12] (hct w (gl g)) q_clX5 lyp_62 rfl ok_X5_take ml_X11_132 ⟨Nat.le_of_ble_eq_true rfl, Nat.le_of_ble_eq_true rfl⟩ (Nat.le_of_ble_eq_true rfl) dX11_image_22 ?_
        show q_Gs w g 25 [(0, .ref 0), (1, .int x1)] [] (q_mm I9 L)
        refine g_aload_n K1 0 dX11_image_25 rfl ?_
        refine h_getO K1 q_clX11 9 34 lyp_0 fkX11_9 rfl fl_X11_57 dX11_image_26 ?_
        refine g_iload_n K1 1 dX11_image_29 rfl ?_
        obtain ⟨hg, h⟩ := h
        rcases vin3 hg with hj | hj | hj
        · replace h := h.1 hj
          refine h_aaloadK K1 45 lyp_34 (by omega) hg (by rw [hj]; rfl) dX11_image_30 ?_
          refine g_aload_n K1 0 dX11_image_31 rfl ?_
          refine h_getO K1 q_clX11 6 21 lyp_0 fkX11_6 rfl fl_X11_42 dX11_image_32 ?_
          obtain ⟨I10, hct, h⟩ := h
          refine h_callV K1 (st := []) [.ref 21] (hct w (gl g)) q_clX0 lyp_45 rfl ok_X0_take ml_X11_403 ⟨Nat.le_of_ble_eq_true rfl, Nat.le_of_ble_eq_true rfl⟩ (Nat.le_of_ble_eq_true rfl) dX11_image_35 ?_
          show q_Gs w g 38 [(0, .ref 0), (1, .int x1)] [] (q_mm I10 L)
          refine g_aload_n K1 0 dX11_image_38 rfl ?_
          refine h_getO K1 q_clX11 10 35 lyp_0 fkX11_10 rfl fl_X11_61 dX11_image_39 ?_
          refine g_iload_n K1 1 dX11_image_42 rfl ?_
          refine g_iconst K1 1 dX11_image_43 rfl ?_
          obtain ⟨hg, h⟩ := h
          refine h_zastore K1 lyp_35 hg dX11_image_44 ?_
          refine g_iconst K1 0 dX11_image_45 rfl ?_
          obtain ⟨hr, hI, hL⟩ := h
          subst hr hI hL
          exact g_ireturn K rfl dX11_image_46
        · replace h := h.2.1 hj
          refine h_aaloadK K1 58 lyp_34 (by omega) hg (by rw [hj]; rfl) dX11_image_30 ?_
          refine g_aload_n K1 0 dX11_image_31 rfl ?_
          refine h_getO K1 q_clX11 6 21 lyp_0 fkX11_6 rfl fl_X11_42 dX11_image_32 ?_
          obtain ⟨I11, hct, h⟩ := h
          refine h_callV K1 (st := []) [.ref 21] (hct w (gl g)) q_clX0 lyp_58 rfl ok_X0_take ml_X11_403 ⟨Nat.le_of_ble_eq_true rfl, Nat.le_of_ble_eq_true rfl⟩ (Nat.le_of_ble_eq_true rfl) dX11_image_35 ?_
          show q_Gs w g 38 [(0, .ref 0), (1, .int x1)] [] (q_mm I11 L)
          refine g_aload_n K1 0 dX11_image_38 rfl ?_
          refine h_getO K1 q_clX11 10 35 lyp_0 fkX11_10 rfl fl_X11_61 dX11_image_39 ?_
          refine g_iload_n K1 1 dX11_image_42 rfl ?_
          refine g_iconst K1 1 dX11_image_43 rfl ?_
          obtain ⟨hg, h⟩ := h
          refine h_zastore K1 lyp_35 hg dX11_image_44 ?_
          refine g_iconst K1 0 dX11_image_45 rfl ?_
          obtain ⟨hr, hI, hL⟩ := h
          subst hr hI hL
          exact g_ireturn K rfl dX11_image_46
        · replace h := h.2.2 hj
          refine h_aaloadK K1 71 lyp_34 (by omega) hg (by rw [hj]; rfl) dX11_image_30 ?_
          refine g_aload_n K1 0 dX11_image_31 rfl ?_
          refine h_getO K1 q_clX11 6 21 lyp_0 fkX11_6 rfl fl_X11_42 dX11_image_32 ?_
          obtain ⟨I12, hct, h⟩ := h
          refine h_callV K1 (st := []) [.ref 21] (hct w (gl g)) q_clX0 lyp_71 rfl ok_X0_take ml_X11_403 ⟨Nat.le_of_ble_eq_true rfl, Nat.le_of_ble_eq_true rfl⟩ (Nat.le_of_ble_eq_true rfl) dX11_image_35 ?_
          show q_Gs w g 38 [(0, .ref 0), (1, .int x1)] [] (q_mm I12 L)
          refine g_aload_n K1 0 dX11_image_38 rfl ?_
          refine h_getO K1 q_clX11 10 35 lyp_0 fkX11_10 rfl fl_X11_61 dX11_image_39 ?_
          refine g_iload_n K1 1 dX11_image_42 rfl ?_
          refine g_iconst K1 1 dX11_image_43 rfl ?_
          obtain ⟨hg, h⟩ := h
          refine h_zastore K1 lyp_35 hg dX11_image_44 ?_
          refine g_iconst K1 0 dX11_image_45 rfl ?_
          obtain ⟨hr, hI, hL⟩ := h
          subst hr hI hL
          exact g_ireturn K rfl dX11_image_46
    · replace h := h.2 hc
      refine g_bipush K1 (-2) dX11_image_9 rfl ?_
      obtain ⟨hr, hI, hL⟩ := h
      subst hr hI hL
      exact g_ireturn K rfl dX11_image_11
theorem c0_X11_image {r : Option Value} {I I' : Nat → Nat → Int32} {L L' : Nat → Nat → Int64} {x1 : Int32} (h : v_X11_image_0 r I' L' I L x1) : q_C kX11_image [.ref 0, .int x1] I L r I' L' := fun w l => q_ct (by decide) (Nat.le_of_ble_eq_true rfl) (Nat.le_refl _) (fun g _ K => h w g K)
abbrev v_X11_law_0 (r : Option Value) (I' : Nat → Nat → Int32) (L' : Nat → Nat → Int64) (I : Nat → Nat → Int32) (L : Nat → Nat → Int64)  : Prop := q_W kX11_law 0 [(0, .ref 0)] [] I L r I' L'
abbrev v_X11_law_16 (r : Option Value) (I' : Nat → Nat → Int32) (L' : Nat → Nat → Int64) (I : Nat → Nat → Int32) (L : Nat → Nat → Int64) (x1 : Int32) (x2 : Int32) (x3 : Int32) : Prop := q_W kX11_law 16 [(0, .ref 0), (1, .int x1), (2, .int x2), (3, .int x3)] [] I L r I' L'
set_option maxRecDepth 20000 in
set_option maxHeartbeats 2000000 in
theorem vc_X11_law_0 {r : Option Value} {I' : Nat → Nat → Int32} {L' : Nat → Nat → Int64} {I : Nat → Nat → Int32} {L : Nat → Nat → Int64}  (h : (∃ r1, q_C kX11_noNight [.ref 0] I L (some (.int r1)) I L ∧ ((r1 = 0 → (v_X11_law_16 r I' L' I L 0 (-1) 0)) ∧ (¬ r1 = 0 → (r = some (.int (-2)) ∧ I' = I ∧ L' = L))))) : v_X11_law_0 r I' L' I L  := by
  intro w g K
  have K1 := K.1
  refine g_aload_n K1 0 dX11_law_0 rfl ?_
  obtain ⟨r1, hct, h⟩ := h
  refine h_callV K1 (st := []) [] (hct w (gl g)) q_clX11 lyp_0 rfl ok_X11_noNight ml_X11_210 ⟨Nat.le_of_ble_eq_true rfl, Nat.le_of_ble_eq_true rfl⟩ (Nat.le_of_ble_eq_true rfl) dX11_law_1 ?_
  show q_Gs w g 4 [(0, .ref 0)] [.int r1] (q_mm I L)
  refine g_if_eq K1 10 dX11_law_4 rfl (fun hc => ?_) (fun hc => ?_)
  · replace h := h.1 hc
    refine g_iconst K1 0 dX11_law_10 rfl ?_
    refine g_istore_n K1 dX11_law_11 rfl (by decide) rfl ?_
    refine g_iconst K1 (-1) dX11_law_12 rfl ?_
    refine g_istore_n K1 dX11_law_13 rfl (by decide) rfl ?_
    refine g_iconst K1 0 dX11_law_14 rfl ?_
    refine g_istore_n K1 dX11_law_15 rfl (by decide) rfl ?_
    exact g_perm [3, 2, 1, 0] rfl (h w g K)
  · replace h := h.2 hc
    refine g_bipush K1 (-2) dX11_law_7 rfl ?_
    obtain ⟨hr, hI, hL⟩ := h
    subst hr hI hL
    exact g_ireturn K rfl dX11_law_9
set_option maxRecDepth 20000 in
set_option maxHeartbeats 2000000 in
theorem vc_X11_law_16 {r : Option Value} {I' : Nat → Nat → Int32} {L' : Nat → Nat → Int64} {I : Nat → Nat → Int32} {L : Nat → Nat → Int64} {x1 : Int32} {x2 : Int32} {x3 : Int32} (h : ((4 ≤ x3 → (r = some (.int x1) ∧ I' = I ∧ L' = L)) ∧ (¬ 4 ≤ x3 → (∃ I1, q_C kX3_byLaw [.ref 81, .int x3] I L none I1 L ∧ (∃ r2 I3, q_C kX3_run [.ref 81, .int 0, .int (I1 12 1)] I1 L (some (.int r2)) I3 L ∧ (∃ r4, q_C kX3_lettersSaid [.ref 81, .int (I3 12 1)] I3 L (some (.int r4)) I3 L ∧ ((r4 ≤ x2 → (v_X11_law_16 r I' L' I3 L x1 x2 (x3 + 1))) ∧ (¬ r4 ≤ x2 → (v_X11_law_16 r I' L' I3 L x3 r4 (x3 + 1)))))))))) : v_X11_law_16 r I' L' I L x1 x2 x3 := by
  intro w g K
  have K1 := K.1
  refine g_iload_n K1 3 dX11_law_16 rfl ?_
  refine g_iconst K1 4 dX11_law_17 rfl ?_
  refine g_icmp_ge K1 78 dX11_law_18 rfl (fun hc => ?_) (fun hc => ?_)
  · replace h := h.1 hc
    refine g_iload_n K1 1 dX11_law_78 rfl ?_
    obtain ⟨hr, hI, hL⟩ := h
    subst hr hI hL
    exact g_ireturn K rfl dX11_law_79
  · replace h := h.2 hc
    refine g_aload_n K1 0 dX11_law_21 rfl ?_
    refine h_getO K1 q_clX11 12 81 lyp_0 fkX11_12 rfl fl_X11_74 dX11_law_22 ?_
    refine g_iload_n K1 3 dX11_law_25 rfl ?_
    obtain ⟨I1, hct, h⟩ := h
    refine h_callV K1 (st := []) [.int x3] (hct w (gl g)) q_clX3 lyp_81 rfl ok_X3_byLaw ml_X11_330 ⟨Nat.le_of_ble_eq_true rfl, Nat.le_of_ble_eq_true rfl⟩ (Nat.le_of_ble_eq_true rfl) dX11_law_26 ?_
    show q_Gs w g 29 [(0, .ref 0), (1, .int x1), (2, .int x2), (3, .int x3)] [] (q_mm I1 L)
    refine g_aload_n K1 0 dX11_law_29 rfl ?_
    refine h_getO K1 q_clX11 12 81 lyp_0 fkX11_12 rfl fl_X11_74 dX11_law_30 ?_
    refine g_iconst K1 0 dX11_law_33 rfl ?_
    refine g_aload_n K1 0 dX11_law_34 rfl ?_
    refine h_getO K1 q_clX11 5 12 lyp_0 fkX11_5 rfl fl_X11_35 dX11_law_35 ?_
    refine h_getI K1 q_clX5 1 lyp_12 fkX5_1 fl_X11_203 dX11_law_38 ?_
    obtain ⟨r2, I3, hct, h⟩ := h
    refine h_callV K1 (st := []) [.int 0, .int (I1 12 1)] (hct w (gl g)) q_clX3 lyp_81 rfl ok_X3_run ml_X11_333 ⟨Nat.le_of_ble_eq_true rfl, Nat.le_of_ble_eq_true rfl⟩ (Nat.le_of_ble_eq_true rfl) dX11_law_41 ?_
    show q_Gs w g 44 [(0, .ref 0), (1, .int x1), (2, .int x2), (3, .int x3)] [.int r2] (q_mm I3 L)
    refine g_pop K1 dX11_law_44 rfl ?_
    refine g_aload_n K1 0 dX11_law_45 rfl ?_
    refine h_getO K1 q_clX11 12 81 lyp_0 fkX11_12 rfl fl_X11_74 dX11_law_46 ?_
    refine g_aload_n K1 0 dX11_law_49 rfl ?_
    refine h_getO K1 q_clX11 5 12 lyp_0 fkX11_5 rfl fl_X11_35 dX11_law_50 ?_
    refine h_getI K1 q_clX5 1 lyp_12 fkX5_1 fl_X11_203 dX11_law_53 ?_
    obtain ⟨r4, hct, h⟩ := h
    refine h_callV K1 (st := []) [.int (I3 12 1)] (hct w (gl g)) q_clX3 lyp_81 rfl ok_X3_lettersSaid ml_X11_230 ⟨Nat.le_of_ble_eq_true rfl, Nat.le_of_ble_eq_true rfl⟩ (Nat.le_of_ble_eq_true rfl) dX11_law_56 ?_
    show q_Gs w g 59 [(0, .ref 0), (1, .int x1), (2, .int x2), (3, .int x3)] [.int r4] (q_mm I3 L)
    refine g_istore K1 dX11_law_59 (by decide) rfl ?_
    refine g_iload K1 0 dX11_law_61 rfl ?_
    refine g_iload_n K1 3 dX11_law_63 rfl ?_
    refine g_icmp_le K1 72 dX11_law_64 rfl (fun hc => ?_) (fun hc => ?_)
    · replace h := h.1 hc
      refine g_iinc K1 (x3 + 1) 4 dX11_law_72 rfl rfl (by decide) rfl ?_
      refine g_goto K1 16 dX11_law_75 rfl ?_
      exact g_perm [2, 3, 4, 0] rfl (h w g K)
    · replace h := h.2 hc
      refine g_iload K1 0 dX11_law_67 rfl ?_
      refine g_istore_n K1 dX11_law_69 rfl (by decide) rfl ?_
      refine g_iload_n K1 4 dX11_law_70 rfl ?_
      refine g_istore_n K1 dX11_law_71 rfl (by decide) rfl ?_
      refine g_iinc K1 (x3 + 1) 4 dX11_law_72 rfl rfl (by decide) rfl ?_
      refine g_goto K1 16 dX11_law_75 rfl ?_
      exact g_perm [4, 1, 2, 0] rfl (h w g K)
theorem c0_X11_law {r : Option Value} {I I' : Nat → Nat → Int32} {L L' : Nat → Nat → Int64}  (h : v_X11_law_0 r I' L' I L ) : q_C kX11_law [.ref 0] I L r I' L' := fun w l => q_ct (by decide) (Nat.le_of_ble_eq_true rfl) (Nat.le_refl _) (fun g _ K => h w g K)
abbrev v_X11_laws_0 (r : Option Value) (I' : Nat → Nat → Int32) (L' : Nat → Nat → Int64) (I : Nat → Nat → Int32) (L : Nat → Nat → Int64) (x1 : Int32) : Prop := q_W kX11_laws 0 [(0, .ref 0), (1, .int x1)] [] I L r I' L'
set_option maxRecDepth 20000 in
set_option maxHeartbeats 2000000 in
theorem vc_X11_laws_0 {r : Option Value} {I' : Nat → Nat → Int32} {L' : Nat → Nat → Int64} {I : Nat → Nat → Int32} {L : Nat → Nat → Int64} {x1 : Int32} (h : (∃ r1, q_C kX11_clueRefusal [.ref 0, .int x1] I L (some (.int r1)) I L ∧ ((r1 = 0 → (∃ r2 I3, q_C kX2_fittingLaws [.ref 92, .int x1] I L (some (.int r2)) I3 L ∧ (r = some (.int r2) ∧ I' = I3 ∧ L' = L))) ∧ (¬ r1 = 0 → (r = some (.int r1) ∧ I' = I ∧ L' = L))))) : v_X11_laws_0 r I' L' I L x1 := by
  intro w g K
  have K1 := K.1
  refine g_aload_n K1 0 dX11_laws_0 rfl ?_
  refine g_iload_n K1 1 dX11_laws_1 rfl ?_
  obtain ⟨r1, hct, h⟩ := h
  refine h_callV K1 (st := []) [.int x1] (hct w (gl g)) q_clX11 lyp_0 rfl ok_X11_clueRefusal ml_X11_321 ⟨Nat.le_of_ble_eq_true rfl, Nat.le_of_ble_eq_true rfl⟩ (Nat.le_of_ble_eq_true rfl) dX11_laws_2 ?_
  show q_Gs w g 5 [(0, .ref 0), (1, .int x1)] [.int r1] (q_mm I L)
  refine g_istore_n K1 dX11_laws_5 rfl (by decide) rfl ?_
  refine g_iload_n K1 0 dX11_laws_6 rfl ?_
  refine g_if_eq K1 14 dX11_laws_7 rfl (fun hc => ?_) (fun hc => ?_)
  · replace h := h.1 hc
    refine g_aload_n K1 1 dX11_laws_14 rfl ?_
    refine h_getO K1 q_clX11 16 92 lyp_0 fkX11_16 rfl fl_X11_105 dX11_laws_15 ?_
    refine g_iload_n K1 2 dX11_laws_18 rfl ?_
    obtain ⟨r2, I3, hct, h⟩ := h
    refine h_callV K1 (st := []) [.int x1] (hct w (gl g)) q_clX2 lyp_92 rfl ok_X2_fittingLaws ml_X11_324 ⟨Nat.le_of_ble_eq_true rfl, Nat.le_of_ble_eq_true rfl⟩ (Nat.le_of_ble_eq_true rfl) dX11_laws_19 ?_
    show q_Gs w g 22 [(2, .int r1), (0, .ref 0), (1, .int x1)] [.int r2] (q_mm I3 L)
    obtain ⟨hr, hI, hL⟩ := h
    subst hr hI hL
    exact g_ireturn K rfl dX11_laws_22
  · replace h := h.2 hc
    refine g_iload_n K1 0 dX11_laws_10 rfl ?_
    refine g_goto K1 22 dX11_laws_11 rfl ?_
    obtain ⟨hr, hI, hL⟩ := h
    subst hr hI hL
    exact g_ireturn K rfl dX11_laws_22
theorem c0_X11_laws {r : Option Value} {I I' : Nat → Nat → Int32} {L L' : Nat → Nat → Int64} {x1 : Int32} (h : v_X11_laws_0 r I' L' I L x1) : q_C kX11_laws [.ref 0, .int x1] I L r I' L' := fun w l => q_ct (by decide) (Nat.le_of_ble_eq_true rfl) (Nat.le_refl _) (fun g _ K => h w g K)
abbrev v_X11_leaves_0 (r : Option Value) (I' : Nat → Nat → Int32) (L' : Nat → Nat → Int64) (I : Nat → Nat → Int32) (L : Nat → Nat → Int64) (x1 : Int32) : Prop := q_W kX11_leaves 0 [(0, .ref 0), (1, .int x1)] [] I L r I' L'
set_option maxRecDepth 20000 in
set_option maxHeartbeats 2000000 in
theorem vc_X11_leaves_0 {r : Option Value} {I' : Nat → Nat → Int32} {L' : Nat → Nat → Int64} {I : Nat → Nat → Int32} {L : Nat → Nat → Int64} {x1 : Int32} (h : (∃ r1, q_C kX11_originRefusal [.ref 0, .int x1] I L (some (.int r1)) I L ∧ ((r1 = 0 → (∃ r2 I3, q_C kX2_origins [.ref 92, .int x1] I L (some (.int r2)) I3 L ∧ (∃ I4, q_C kX2_chooseQuestion [.ref 92, .int r2] I3 L none I4 L ∧ (r = some (.int (I4 92 1)) ∧ I' = I4 ∧ L' = L)))) ∧ (¬ r1 = 0 → (r = some (.int r1) ∧ I' = I ∧ L' = L))))) : v_X11_leaves_0 r I' L' I L x1 := by
  intro w g K
  have K1 := K.1
  refine g_aload_n K1 0 dX11_leaves_0 rfl ?_
  refine g_iload_n K1 1 dX11_leaves_1 rfl ?_
  obtain ⟨r1, hct, h⟩ := h
  refine h_callV K1 (st := []) [.int x1] (hct w (gl g)) q_clX11 lyp_0 rfl ok_X11_originRefusal ml_X11_306 ⟨Nat.le_of_ble_eq_true rfl, Nat.le_of_ble_eq_true rfl⟩ (Nat.le_of_ble_eq_true rfl) dX11_leaves_2 ?_
  show q_Gs w g 5 [(0, .ref 0), (1, .int x1)] [.int r1] (q_mm I L)
  refine g_istore_n K1 dX11_leaves_5 rfl (by decide) rfl ?_
  refine g_iload_n K1 0 dX11_leaves_6 rfl ?_
  refine g_if_eq K1 12 dX11_leaves_7 rfl (fun hc => ?_) (fun hc => ?_)
  · replace h := h.1 hc
    refine g_aload_n K1 1 dX11_leaves_12 rfl ?_
    refine h_getO K1 q_clX11 16 92 lyp_0 fkX11_16 rfl fl_X11_105 dX11_leaves_13 ?_
    refine g_aload_n K1 1 dX11_leaves_16 rfl ?_
    refine h_getO K1 q_clX11 16 92 lyp_0 fkX11_16 rfl fl_X11_105 dX11_leaves_17 ?_
    refine g_iload_n K1 2 dX11_leaves_20 rfl ?_
    obtain ⟨r2, I3, hct, h⟩ := h
    refine h_callV K1 (st := [.ref 92]) [.int x1] (hct w (gl g)) q_clX2 lyp_92 rfl ok_X2_origins ml_X11_309 ⟨Nat.le_of_ble_eq_true rfl, Nat.le_of_ble_eq_true rfl⟩ (Nat.le_of_ble_eq_true rfl) dX11_leaves_21 ?_
    show q_Gs w g 24 [(2, .int r1), (0, .ref 0), (1, .int x1)] [.int r2, .ref 92] (q_mm I3 L)
    obtain ⟨I4, hct, h⟩ := h
    refine h_callV K1 (st := []) [.int r2] (hct w (gl g)) q_clX2 lyp_92 rfl ok_X2_chooseQuestion ml_X11_312 ⟨Nat.le_of_ble_eq_true rfl, Nat.le_of_ble_eq_true rfl⟩ (Nat.le_of_ble_eq_true rfl) dX11_leaves_24 ?_
    show q_Gs w g 27 [(2, .int r1), (0, .ref 0), (1, .int x1)] [] (q_mm I4 L)
    refine g_aload_n K1 1 dX11_leaves_27 rfl ?_
    refine h_getO K1 q_clX11 16 92 lyp_0 fkX11_16 rfl fl_X11_105 dX11_leaves_28 ?_
    refine h_getI K1 q_clX2 1 lyp_92 fkX2_1 fl_X11_318 dX11_leaves_31 ?_
    obtain ⟨hr, hI, hL⟩ := h
    subst hr hI hL
    exact g_ireturn K rfl dX11_leaves_34
  · replace h := h.2 hc
    refine g_iload_n K1 0 dX11_leaves_10 rfl ?_
    obtain ⟨hr, hI, hL⟩ := h
    subst hr hI hL
    exact g_ireturn K rfl dX11_leaves_11
theorem c0_X11_leaves {r : Option Value} {I I' : Nat → Nat → Int32} {L L' : Nat → Nat → Int64} {x1 : Int32} (h : v_X11_leaves_0 r I' L' I L x1) : q_C kX11_leaves [.ref 0, .int x1] I L r I' L' := fun w l => q_ct (by decide) (Nat.le_of_ble_eq_true rfl) (Nat.le_refl _) (fun g _ K => h w g K)
abbrev v_X11_letter_0 (r : Option Value) (I' : Nat → Nat → Int32) (L' : Nat → Nat → Int64) (I : Nat → Nat → Int32) (L : Nat → Nat → Int64) (x1 : Int32) (x2 : Int32) (x3 : Int32) (x4 : Int32) : Prop := q_W kX11_letter 0 [(0, .ref 0), (1, .int x1), (2, .int x2), (3, .int x3), (4, .int x4)] [] I L r I' L'
abbrev v_X11_letter_17 (r : Option Value) (I' : Nat → Nat → Int32) (L' : Nat → Nat → Int64) (I : Nat → Nat → Int32) (L : Nat → Nat → Int64) (x1 : Int32) (x2 : Int32) (x3 : Int32) (x4 : Int32) (s0 : Int32) : Prop := q_W kX11_letter 17 [(0, .ref 0), (1, .int x1), (2, .int x2), (3, .int x3), (4, .int x4)] [.int s0] I L r I' L'
set_option maxRecDepth 20000 in
set_option maxHeartbeats 2000000 in
theorem vc_X11_letter_0 {r : Option Value} {I' : Nat → Nat → Int32} {L' : Nat → Nat → Int64} {I : Nat → Nat → Int32} {L : Nat → Nat → Int64} {x1 : Int32} {x2 : Int32} {x3 : Int32} {x4 : Int32} (h : ((0 ≤ x4 → (∃ r1, q_C kX11_hearingRefusal [.ref 0, .int x1, .int x2, .int x3] I L (some (.int r1)) I L ∧ (v_X11_letter_17 r I' L' I L x1 x2 x3 x4 r1))) ∧ (¬ 0 ≤ x4 → (v_X11_letter_17 r I' L' I L x1 x2 x3 x4 (-2))))) : v_X11_letter_0 r I' L' I L x1 x2 x3 x4 := by
  intro w g K
  have K1 := K.1
  refine g_iload K1 4 dX11_letter_0 rfl ?_
  refine g_if_ge K1 10 dX11_letter_2 rfl (fun hc => ?_) (fun hc => ?_)
  · replace h := h.1 hc
    refine g_aload_n K1 0 dX11_letter_10 rfl ?_
    refine g_iload_n K1 1 dX11_letter_11 rfl ?_
    refine g_iload_n K1 2 dX11_letter_12 rfl ?_
    refine g_iload_n K1 3 dX11_letter_13 rfl ?_
    obtain ⟨r1, hct, h⟩ := h
    refine h_callV K1 (st := []) [.int x1, .int x2, .int x3] (hct w (gl g)) q_clX11 lyp_0 rfl ok_X11_hearingRefusal ml_X11_244 ⟨Nat.le_of_ble_eq_true rfl, Nat.le_of_ble_eq_true rfl⟩ (Nat.le_of_ble_eq_true rfl) dX11_letter_14 ?_
    show q_Gs w g 17 [(0, .ref 0), (1, .int x1), (2, .int x2), (3, .int x3), (4, .int x4)] [.int r1] (q_mm I L)
    exact g_perm [0, 1, 2, 3, 4] rfl (h w g K)
  · replace h := h.2 hc
    refine g_bipush K1 (-2) dX11_letter_5 rfl ?_
    refine g_goto K1 17 dX11_letter_7 rfl ?_
    exact g_perm [0, 1, 2, 3, 4] rfl (h w g K)
set_option maxRecDepth 20000 in
set_option maxHeartbeats 2000000 in
theorem vc_X11_letter_17 {r : Option Value} {I' : Nat → Nat → Int32} {L' : Nat → Nat → Int64} {I : Nat → Nat → Int32} {L : Nat → Nat → Int64} {x1 : Int32} {x2 : Int32} {x3 : Int32} {x4 : Int32} {s0 : Int32} (h : ((s0 = 0 → (∃ r1, q_C kX9_saying [.ref 25, .int x1] I L (some (.int r1)) I L ∧ (∃ I2, q_C kX4_seek [.ref 90, .int r1, .int x2, .int x3] I L none I2 L ∧ (∃ r3, q_C kX11_letterOrNone [.int (I2 90 0), .int x4] I2 L (some (.int r3)) I2 L ∧ (r = some (.int r3) ∧ I' = I2 ∧ L' = L))))) ∧ (¬ s0 = 0 → (r = some (.int s0) ∧ I' = I ∧ L' = L)))) : v_X11_letter_17 r I' L' I L x1 x2 x3 x4 s0 := by
  intro w g K
  have K1 := K.1
  refine g_istore K1 dX11_letter_17 (by decide) rfl ?_
  refine g_iload K1 0 dX11_letter_19 rfl ?_
  refine g_if_eq K1 27 dX11_letter_21 rfl (fun hc => ?_) (fun hc => ?_)
  · replace h := h.1 hc
    refine g_aload_n K1 1 dX11_letter_27 rfl ?_
    refine h_getO K1 q_clX11 15 90 lyp_0 fkX11_15 rfl fl_X11_96 dX11_letter_28 ?_
    refine g_aload_n K1 1 dX11_letter_31 rfl ?_
    refine h_getO K1 q_clX11 7 25 lyp_0 fkX11_7 rfl fl_X11_49 dX11_letter_32 ?_
    refine g_iload_n K1 2 dX11_letter_35 rfl ?_
    obtain ⟨r1, hct, h⟩ := h
    refine h_callV K1 (st := [.ref 90]) [.int x1] (hct w (gl g)) q_clX9 lyp_25 rfl ok_X9_saying ml_X11_248 ⟨Nat.le_of_ble_eq_true rfl, Nat.le_of_ble_eq_true rfl⟩ (Nat.le_of_ble_eq_true rfl) dX11_letter_36 ?_
    show q_Gs w g 39 [(5, .int s0), (0, .ref 0), (1, .int x1), (2, .int x2), (3, .int x3), (4, .int x4)] [.int r1, .ref 90] (q_mm I L)
    refine g_iload_n K1 3 dX11_letter_39 rfl ?_
    refine g_iload_n K1 4 dX11_letter_40 rfl ?_
    obtain ⟨I2, hct, h⟩ := h
    refine h_callV K1 (st := []) [.int r1, .int x2, .int x3] (hct w (gl g)) q_clX4 lyp_90 rfl ok_X4_seek ml_X11_254 ⟨Nat.le_of_ble_eq_true rfl, Nat.le_of_ble_eq_true rfl⟩ (Nat.le_of_ble_eq_true rfl) dX11_letter_41 ?_
    show q_Gs w g 44 [(5, .int s0), (0, .ref 0), (1, .int x1), (2, .int x2), (3, .int x3), (4, .int x4)] [] (q_mm I2 L)
    refine g_aload_n K1 1 dX11_letter_44 rfl ?_
    refine h_getO K1 q_clX11 15 90 lyp_0 fkX11_15 rfl fl_X11_96 dX11_letter_45 ?_
    refine h_getI K1 q_clX4 0 lyp_90 fkX4_0 fl_X11_261 dX11_letter_48 ?_
    refine g_iload K1 5 dX11_letter_51 rfl ?_
    obtain ⟨r3, hct, h⟩ := h
    refine h_callS K1 (st := []) [.int (I2 90 0), .int x4] (hct w (gl g)) ok_X11_letterOrNone ml_X11_172 ⟨Nat.le_of_ble_eq_true rfl, Nat.le_of_ble_eq_true rfl⟩ (Nat.le_of_ble_eq_true rfl) dX11_letter_53 ?_
    show q_Gs w g 56 [(5, .int s0), (0, .ref 0), (1, .int x1), (2, .int x2), (3, .int x3), (4, .int x4)] [.int r3] (q_mm I2 L)
    obtain ⟨hr, hI, hL⟩ := h
    subst hr hI hL
    exact g_ireturn K rfl dX11_letter_56
  · replace h := h.2 hc
    refine g_iload K1 0 dX11_letter_24 rfl ?_
    obtain ⟨hr, hI, hL⟩ := h
    subst hr hI hL
    exact g_ireturn K rfl dX11_letter_26
theorem c0_X11_letter {r : Option Value} {I I' : Nat → Nat → Int32} {L L' : Nat → Nat → Int64} {x1 : Int32} {x2 : Int32} {x3 : Int32} {x4 : Int32} (h : v_X11_letter_0 r I' L' I L x1 x2 x3 x4) : q_C kX11_letter [.ref 0, .int x1, .int x2, .int x3, .int x4] I L r I' L' := fun w l => q_ct (by decide) (Nat.le_of_ble_eq_true rfl) (Nat.le_refl _) (fun g _ K => h w g K)
abbrev v_X11_letterOrNone_0 (r : Option Value) (I' : Nat → Nat → Int32) (L' : Nat → Nat → Int64) (I : Nat → Nat → Int32) (L : Nat → Nat → Int64) (x0 : Int32) (x1 : Int32) : Prop := q_W kX11_letterOrNone 0 [(0, .int x0), (1, .int x1)] [] I L r I' L'
set_option maxRecDepth 20000 in
set_option maxHeartbeats 2000000 in
theorem vc_X11_letterOrNone_0 {r : Option Value} {I' : Nat → Nat → Int32} {L' : Nat → Nat → Int64} {I : Nat → Nat → Int32} {L : Nat → Nat → Int64} {x0 : Int32} {x1 : Int32} (h : (∃ r1, q_C kX7_letterAt [.int x0, .int x1] I L (some (.int r1)) I L ∧ ((r1 = 0 → (r = some (.int (-1)) ∧ I' = I ∧ L' = L)) ∧ (¬ r1 = 0 → (r = some (.int r1) ∧ I' = I ∧ L' = L))))) : v_X11_letterOrNone_0 r I' L' I L x0 x1 := by
  intro w g K
  have K1 := K.1
  refine g_iload_n K1 0 dX11_letterOrNone_0 rfl ?_
  refine g_iload_n K1 1 dX11_letterOrNone_1 rfl ?_
  obtain ⟨r1, hct, h⟩ := h
  refine h_callS K1 (st := []) [.int x0, .int x1] (hct w (gl g)) ok_X7_letterAt ml_X11_236 ⟨Nat.le_of_ble_eq_true rfl, Nat.le_of_ble_eq_true rfl⟩ (Nat.le_of_ble_eq_true rfl) dX11_letterOrNone_2 ?_
  show q_Gs w g 5 [(0, .int x0), (1, .int x1)] [.int r1] (q_mm I L)
  refine g_istore_n K1 dX11_letterOrNone_5 rfl (by decide) rfl ?_
  refine g_iload_n K1 0 dX11_letterOrNone_6 rfl ?_
  refine g_if_ne K1 14 dX11_letterOrNone_7 rfl (fun hc => ?_) (fun hc => ?_)
  · replace h := h.2 hc
    refine g_iload_n K1 0 dX11_letterOrNone_14 rfl ?_
    obtain ⟨hr, hI, hL⟩ := h
    subst hr hI hL
    exact g_ireturn K rfl dX11_letterOrNone_15
  · replace h := h.1 hc
    refine g_iconst K1 (-1) dX11_letterOrNone_10 rfl ?_
    refine g_goto K1 15 dX11_letterOrNone_11 rfl ?_
    obtain ⟨hr, hI, hL⟩ := h
    subst hr hI hL
    exact g_ireturn K rfl dX11_letterOrNone_15
theorem c0_X11_letterOrNone {r : Option Value} {I I' : Nat → Nat → Int32} {L L' : Nat → Nat → Int64} {x0 : Int32} {x1 : Int32} (h : v_X11_letterOrNone_0 r I' L' I L x0 x1) : q_C kX11_letterOrNone [.int x0, .int x1] I L r I' L' := fun w l => q_ct (by decide) (Nat.le_of_ble_eq_true rfl) (Nat.le_refl _) (fun g _ K => h w g K)
abbrev v_X11_letters_0 (r : Option Value) (I' : Nat → Nat → Int32) (L' : Nat → Nat → Int64) (I : Nat → Nat → Int32) (L : Nat → Nat → Int64) (x1 : Int32) (x2 : Int32) : Prop := q_W kX11_letters 0 [(0, .ref 0), (1, .int x1), (2, .int x2)] [] I L r I' L'
set_option maxRecDepth 20000 in
set_option maxHeartbeats 2000000 in
theorem vc_X11_letters_0 {r : Option Value} {I' : Nat → Nat → Int32} {L' : Nat → Nat → Int64} {I : Nat → Nat → Int32} {L : Nat → Nat → Int64} {x1 : Int32} {x2 : Int32} (h : (∃ r1, q_C kX11_noPew [.ref 0, .int x1] I L (some (.int r1)) I L ∧ ((r1 = 0 → (∃ r2, q_C kX11_noHour [.ref 0, .int x2] I L (some (.int r2)) I L ∧ ((r2 = 0 → (∃ I3, q_C kX11_settledCourse [.ref 0] I L (some (.ref 75)) I3 L ∧ (∃ r4, q_C kX11_cell [.int x1, .int x2] I3 L (some (.int r4)) I3 L ∧ (vp_in r4 91 ∧ (∃ r5, q_C kX7_size [.int (I3 77 r4.toNatClampNeg)] I3 L (some (.int r5)) I3 L ∧ (r = some (.int r5) ∧ I' = I3 ∧ L' = L)))))) ∧ (¬ r2 = 0 → (r = some (.int (-2)) ∧ I' = I ∧ L' = L))))) ∧ (¬ r1 = 0 → (r = some (.int (-2)) ∧ I' = I ∧ L' = L))))) : v_X11_letters_0 r I' L' I L x1 x2 := by
  intro w g K
  have K1 := K.1
  refine g_aload_n K1 0 dX11_letters_0 rfl ?_
  refine g_iload_n K1 1 dX11_letters_1 rfl ?_
  obtain ⟨r1, hct, h⟩ := h
  refine h_callV K1 (st := []) [.int x1] (hct w (gl g)) q_clX11 lyp_0 rfl ok_X11_noPew ml_X11_145 ⟨Nat.le_of_ble_eq_true rfl, Nat.le_of_ble_eq_true rfl⟩ (Nat.le_of_ble_eq_true rfl) dX11_letters_2 ?_
  show q_Gs w g 5 [(0, .ref 0), (1, .int x1), (2, .int x2)] [.int r1] (q_mm I L)
  refine g_if_ne K1 16 dX11_letters_5 rfl (fun hc => ?_) (fun hc => ?_)
  · replace h := h.2 hc
    refine g_bipush K1 (-2) dX11_letters_16 rfl ?_
    obtain ⟨hr, hI, hL⟩ := h
    subst hr hI hL
    exact g_ireturn K rfl dX11_letters_18
  · replace h := h.1 hc
    refine g_aload_n K1 0 dX11_letters_8 rfl ?_
    refine g_iload_n K1 2 dX11_letters_9 rfl ?_
    obtain ⟨r2, hct, h⟩ := h
    refine h_callV K1 (st := []) [.int x2] (hct w (gl g)) q_clX11 lyp_0 rfl ok_X11_noHour ml_X11_176 ⟨Nat.le_of_ble_eq_true rfl, Nat.le_of_ble_eq_true rfl⟩ (Nat.le_of_ble_eq_true rfl) dX11_letters_10 ?_
    show q_Gs w g 13 [(0, .ref 0), (1, .int x1), (2, .int x2)] [.int r2] (q_mm I L)
    refine g_if_eq K1 19 dX11_letters_13 rfl (fun hc => ?_) (fun hc => ?_)
    · replace h := h.1 hc
      refine g_aload_n K1 0 dX11_letters_19 rfl ?_
      obtain ⟨I3, hct, h⟩ := h
      refine h_callV K1 (st := []) [] (hct w (gl g)) q_clX11 lyp_0 rfl ok_X11_settledCourse ml_X11_179 ⟨Nat.le_of_ble_eq_true rfl, Nat.le_of_ble_eq_true rfl⟩ (Nat.le_of_ble_eq_true rfl) dX11_letters_20 ?_
      show q_Gs w g 23 [(0, .ref 0), (1, .int x1), (2, .int x2)] [.ref 75] (q_mm I3 L)
      refine h_getO K1 q_clX3 1 77 lyp_75 fkX3_1 rfl fl_X11_186 dX11_letters_23 ?_
      refine g_iload_n K1 1 dX11_letters_26 rfl ?_
      refine g_iload_n K1 2 dX11_letters_27 rfl ?_
      obtain ⟨r4, hct, h⟩ := h
      refine h_callS K1 (st := [.ref 77]) [.int x1, .int x2] (hct w (gl g)) ok_X11_cell ml_X11_189 ⟨Nat.le_of_ble_eq_true rfl, Nat.le_of_ble_eq_true rfl⟩ (Nat.le_of_ble_eq_true rfl) dX11_letters_28 ?_
      show q_Gs w g 31 [(0, .ref 0), (1, .int x1), (2, .int x2)] [.int r4, .ref 77] (q_mm I3 L)
      obtain ⟨hg, h⟩ := h
      refine h_iaload K1 lyp_77 hg dX11_letters_31 ?_
      obtain ⟨r5, hct, h⟩ := h
      refine h_callS K1 (st := []) [.int (I3 77 r4.toNatClampNeg)] (hct w (gl g)) ok_X7_size ml_X11_192 ⟨Nat.le_of_ble_eq_true rfl, Nat.le_of_ble_eq_true rfl⟩ (Nat.le_of_ble_eq_true rfl) dX11_letters_32 ?_
      show q_Gs w g 35 [(0, .ref 0), (1, .int x1), (2, .int x2)] [.int r5] (q_mm I3 L)
      obtain ⟨hr, hI, hL⟩ := h
      subst hr hI hL
      exact g_ireturn K rfl dX11_letters_35
    · replace h := h.2 hc
      refine g_bipush K1 (-2) dX11_letters_16 rfl ?_
      obtain ⟨hr, hI, hL⟩ := h
      subst hr hI hL
      exact g_ireturn K rfl dX11_letters_18
theorem c0_X11_letters {r : Option Value} {I I' : Nat → Nat → Int32} {L L' : Nat → Nat → Int64} {x1 : Int32} {x2 : Int32} (h : v_X11_letters_0 r I' L' I L x1 x2) : q_C kX11_letters [.ref 0, .int x1, .int x2] I L r I' L' := fun w l => q_ct (by decide) (Nat.le_of_ble_eq_true rfl) (Nat.le_refl _) (fun g _ K => h w g K)
abbrev v_X11_light_0 (r : Option Value) (I' : Nat → Nat → Int32) (L' : Nat → Nat → Int64) (I : Nat → Nat → Int32) (L : Nat → Nat → Int64) (x1 : Int32) (x2 : Int32) (x3 : Int32) : Prop := q_W kX11_light 0 [(0, .ref 0), (1, .int x1), (2, .int x2), (3, .int x3)] [] I L r I' L'
set_option maxRecDepth 20000 in
set_option maxHeartbeats 2000000 in
theorem vc_X11_light_0 {r : Option Value} {I' : Nat → Nat → Int32} {L' : Nat → Nat → Int64} {I : Nat → Nat → Int32} {L : Nat → Nat → Int64} {x1 : Int32} {x2 : Int32} {x3 : Int32} (h : (∃ r1, q_C kX11_noPew [.ref 0, .int x1] I L (some (.int r1)) I L ∧ ((r1 = 0 → (∃ r2, q_C kX11_noLetter [.int x2] I L (some (.int r2)) I L ∧ ((r2 = 0 → (∃ r3, q_C kX11_noHour [.ref 0, .int x3] I L (some (.int r3)) I L ∧ ((r3 = 0 → (∃ r4 I5, q_C kX11_act [.ref 0, .int x1, .int x2, .int x3] I L (some (.int r4)) I5 L ∧ (r = some (.int r4) ∧ I' = I5 ∧ L' = L))) ∧ (¬ r3 = 0 → (r = some (.int (-2)) ∧ I' = I ∧ L' = L))))) ∧ (¬ r2 = 0 → (r = some (.int (-2)) ∧ I' = I ∧ L' = L))))) ∧ (¬ r1 = 0 → (r = some (.int (-2)) ∧ I' = I ∧ L' = L))))) : v_X11_light_0 r I' L' I L x1 x2 x3 := by
  intro w g K
  have K1 := K.1
  refine g_aload_n K1 0 dX11_light_0 rfl ?_
  refine g_iload_n K1 1 dX11_light_1 rfl ?_
  obtain ⟨r1, hct, h⟩ := h
  refine h_callV K1 (st := []) [.int x1] (hct w (gl g)) q_clX11 lyp_0 rfl ok_X11_noPew ml_X11_145 ⟨Nat.le_of_ble_eq_true rfl, Nat.le_of_ble_eq_true rfl⟩ (Nat.le_of_ble_eq_true rfl) dX11_light_2 ?_
  show q_Gs w g 5 [(0, .ref 0), (1, .int x1), (2, .int x2), (3, .int x3)] [.int r1] (q_mm I L)
  refine g_if_ne K1 23 dX11_light_5 rfl (fun hc => ?_) (fun hc => ?_)
  · replace h := h.2 hc
    refine g_bipush K1 (-2) dX11_light_23 rfl ?_
    obtain ⟨hr, hI, hL⟩ := h
    subst hr hI hL
    exact g_ireturn K rfl dX11_light_25
  · replace h := h.1 hc
    refine g_iload_n K1 2 dX11_light_8 rfl ?_
    obtain ⟨r2, hct, h⟩ := h
    refine h_callS K1 (st := []) [.int x2] (hct w (gl g)) ok_X11_noLetter ml_X11_233 ⟨Nat.le_of_ble_eq_true rfl, Nat.le_of_ble_eq_true rfl⟩ (Nat.le_of_ble_eq_true rfl) dX11_light_9 ?_
    show q_Gs w g 12 [(0, .ref 0), (1, .int x1), (2, .int x2), (3, .int x3)] [.int r2] (q_mm I L)
    refine g_if_ne K1 23 dX11_light_12 rfl (fun hc => ?_) (fun hc => ?_)
    · replace h := h.2 hc
      refine g_bipush K1 (-2) dX11_light_23 rfl ?_
      obtain ⟨hr, hI, hL⟩ := h
      subst hr hI hL
      exact g_ireturn K rfl dX11_light_25
    · replace h := h.1 hc
      refine g_aload_n K1 0 dX11_light_15 rfl ?_
      refine g_iload_n K1 3 dX11_light_16 rfl ?_
      obtain ⟨r3, hct, h⟩ := h
      refine h_callV K1 (st := []) [.int x3] (hct w (gl g)) q_clX11 lyp_0 rfl ok_X11_noHour ml_X11_176 ⟨Nat.le_of_ble_eq_true rfl, Nat.le_of_ble_eq_true rfl⟩ (Nat.le_of_ble_eq_true rfl) dX11_light_17 ?_
      show q_Gs w g 20 [(0, .ref 0), (1, .int x1), (2, .int x2), (3, .int x3)] [.int r3] (q_mm I L)
      refine g_if_eq K1 26 dX11_light_20 rfl (fun hc => ?_) (fun hc => ?_)
      · replace h := h.1 hc
        refine g_aload_n K1 0 dX11_light_26 rfl ?_
        refine g_iload_n K1 1 dX11_light_27 rfl ?_
        refine g_iload_n K1 2 dX11_light_28 rfl ?_
        refine g_iload_n K1 3 dX11_light_29 rfl ?_
        obtain ⟨r4, I5, hct, h⟩ := h
        refine h_callV K1 (st := []) [.int x1, .int x2, .int x3] (hct w (gl g)) q_clX11 lyp_0 rfl ok_X11_act ml_X11_367 ⟨Nat.le_of_ble_eq_true rfl, Nat.le_of_ble_eq_true rfl⟩ (Nat.le_of_ble_eq_true rfl) dX11_light_30 ?_
        show q_Gs w g 33 [(0, .ref 0), (1, .int x1), (2, .int x2), (3, .int x3)] [.int r4] (q_mm I5 L)
        obtain ⟨hr, hI, hL⟩ := h
        subst hr hI hL
        exact g_ireturn K rfl dX11_light_33
      · replace h := h.2 hc
        refine g_bipush K1 (-2) dX11_light_23 rfl ?_
        obtain ⟨hr, hI, hL⟩ := h
        subst hr hI hL
        exact g_ireturn K rfl dX11_light_25
theorem c0_X11_light {r : Option Value} {I I' : Nat → Nat → Int32} {L L' : Nat → Nat → Int64} {x1 : Int32} {x2 : Int32} {x3 : Int32} (h : v_X11_light_0 r I' L' I L x1 x2 x3) : q_C kX11_light [.ref 0, .int x1, .int x2, .int x3] I L r I' L' := fun w l => q_ct (by decide) (Nat.le_of_ble_eq_true rfl) (Nat.le_refl _) (fun g _ K => h w g K)
abbrev v_X11_lit_0 (r : Option Value) (I' : Nat → Nat → Int32) (L' : Nat → Nat → Int64) (I : Nat → Nat → Int32) (L : Nat → Nat → Int64) (x1 : Int32) : Prop := q_W kX11_lit 0 [(0, .ref 0), (1, .int x1)] [] I L r I' L'
set_option maxRecDepth 20000 in
set_option maxHeartbeats 2000000 in
theorem vc_X11_lit_0 {r : Option Value} {I' : Nat → Nat → Int32} {L' : Nat → Nat → Int64} {I : Nat → Nat → Int32} {L : Nat → Nat → Int64} {x1 : Int32} (h : (∃ r1, q_C kX11_noHour [.ref 0, .int x1] I L (some (.int r1)) I L ∧ ((r1 = 0 → (∃ I2, q_C kX11_settledCourse [.ref 0] I L (some (.ref 75)) I2 L ∧ (vp_in x1 13 ∧ (r = some (.int (I2 76 x1.toNatClampNeg)) ∧ I' = I2 ∧ L' = L)))) ∧ (¬ r1 = 0 → (r = some (.int (-2)) ∧ I' = I ∧ L' = L))))) : v_X11_lit_0 r I' L' I L x1 := by
  intro w g K
  have K1 := K.1
  refine g_aload_n K1 0 dX11_lit_0 rfl ?_
  refine g_iload_n K1 1 dX11_lit_1 rfl ?_
  obtain ⟨r1, hct, h⟩ := h
  refine h_callV K1 (st := []) [.int x1] (hct w (gl g)) q_clX11 lyp_0 rfl ok_X11_noHour ml_X11_176 ⟨Nat.le_of_ble_eq_true rfl, Nat.le_of_ble_eq_true rfl⟩ (Nat.le_of_ble_eq_true rfl) dX11_lit_2 ?_
  show q_Gs w g 5 [(0, .ref 0), (1, .int x1)] [.int r1] (q_mm I L)
  refine g_if_eq K1 13 dX11_lit_5 rfl (fun hc => ?_) (fun hc => ?_)
  · replace h := h.1 hc
    refine g_aload_n K1 0 dX11_lit_13 rfl ?_
    obtain ⟨I2, hct, h⟩ := h
    refine h_callV K1 (st := []) [] (hct w (gl g)) q_clX11 lyp_0 rfl ok_X11_settledCourse ml_X11_179 ⟨Nat.le_of_ble_eq_true rfl, Nat.le_of_ble_eq_true rfl⟩ (Nat.le_of_ble_eq_true rfl) dX11_lit_14 ?_
    show q_Gs w g 17 [(0, .ref 0), (1, .int x1)] [.ref 75] (q_mm I2 L)
    refine h_getO K1 q_clX3 0 76 lyp_75 fkX3_0 rfl fl_X11_183 dX11_lit_17 ?_
    refine g_iload_n K1 1 dX11_lit_20 rfl ?_
    obtain ⟨hg, h⟩ := h
    refine h_iaload K1 lyp_76 hg dX11_lit_21 ?_
    obtain ⟨hr, hI, hL⟩ := h
    subst hr hI hL
    exact g_ireturn K rfl dX11_lit_22
  · replace h := h.2 hc
    refine g_bipush K1 (-2) dX11_lit_8 rfl ?_
    refine g_goto K1 22 dX11_lit_10 rfl ?_
    obtain ⟨hr, hI, hL⟩ := h
    subst hr hI hL
    exact g_ireturn K rfl dX11_lit_22
theorem c0_X11_lit {r : Option Value} {I I' : Nat → Nat → Int32} {L L' : Nat → Nat → Int64} {x1 : Int32} (h : v_X11_lit_0 r I' L' I L x1) : q_C kX11_lit [.ref 0, .int x1] I L r I' L' := fun w l => q_ct (by decide) (Nat.le_of_ble_eq_true rfl) (Nat.le_refl _) (fun g _ K => h w g K)
abbrev v_X11_litAtLast_0 (r : Option Value) (I' : Nat → Nat → Int32) (L' : Nat → Nat → Int64) (I : Nat → Nat → Int32) (L : Nat → Nat → Int64)  : Prop := q_W kX11_litAtLast 0 [(0, .ref 0)] [] I L r I' L'
set_option maxRecDepth 20000 in
set_option maxHeartbeats 2000000 in
theorem vc_X11_litAtLast_0 {r : Option Value} {I' : Nat → Nat → Int32} {L' : Nat → Nat → Int64} {I : Nat → Nat → Int32} {L : Nat → Nat → Int64}  (h : (∃ I1, q_C kX11_settledCourse [.ref 0] I L (some (.ref 75)) I1 L ∧ (vp_in (I1 12 1) 13 ∧ (∃ r2, q_C kJ6_bitCount_0f7a4 [.int (I1 76 ((I1 12 1) : Int32).toNatClampNeg)] I1 L (some (.int r2)) I1 L ∧ (r = some (.int r2) ∧ I' = I1 ∧ L' = L))))) : v_X11_litAtLast_0 r I' L' I L  := by
  intro w g K
  have K1 := K.1
  refine g_aload_n K1 0 dX11_litAtLast_0 rfl ?_
  obtain ⟨I1, hct, h⟩ := h
  refine h_callV K1 (st := []) [] (hct w (gl g)) q_clX11 lyp_0 rfl ok_X11_settledCourse ml_X11_179 ⟨Nat.le_of_ble_eq_true rfl, Nat.le_of_ble_eq_true rfl⟩ (Nat.le_of_ble_eq_true rfl) dX11_litAtLast_1 ?_
  show q_Gs w g 4 [(0, .ref 0)] [.ref 75] (q_mm I1 L)
  refine h_getO K1 q_clX3 0 76 lyp_75 fkX3_0 rfl fl_X11_183 dX11_litAtLast_4 ?_
  refine g_aload_n K1 0 dX11_litAtLast_7 rfl ?_
  refine h_getO K1 q_clX11 5 12 lyp_0 fkX11_5 rfl fl_X11_35 dX11_litAtLast_8 ?_
  refine h_getI K1 q_clX5 1 lyp_12 fkX5_1 fl_X11_203 dX11_litAtLast_11 ?_
  obtain ⟨hg, h⟩ := h
  refine h_iaload K1 lyp_76 hg dX11_litAtLast_14 ?_
  obtain ⟨r2, hct, h⟩ := h
  refine h_callS K1 (st := []) [.int (I1 76 ((I1 12 1) : Int32).toNatClampNeg)] (hct w (gl g)) ok_J6_bitCount_0f7a4 ml_X11_292 ⟨Nat.le_of_ble_eq_true rfl, Nat.le_of_ble_eq_true rfl⟩ (Nat.le_of_ble_eq_true rfl) dX11_litAtLast_15 ?_
  show q_Gs w g 18 [(0, .ref 0)] [.int r2] (q_mm I1 L)
  obtain ⟨hr, hI, hL⟩ := h
  subst hr hI hL
  exact g_ireturn K rfl dX11_litAtLast_18
theorem c0_X11_litAtLast {r : Option Value} {I I' : Nat → Nat → Int32} {L L' : Nat → Nat → Int64}  (h : v_X11_litAtLast_0 r I' L' I L ) : q_C kX11_litAtLast [.ref 0] I L r I' L' := fun w l => q_ct (by decide) (Nat.le_of_ble_eq_true rfl) (Nat.le_refl _) (fun g _ K => h w g K)
abbrev v_X11_longest_0 (r : Option Value) (I' : Nat → Nat → Int32) (L' : Nat → Nat → Int64) (I : Nat → Nat → Int32) (L : Nat → Nat → Int64) (x1 : Int32) : Prop := q_W kX11_longest 0 [(0, .ref 0), (1, .int x1)] [] I L r I' L'
abbrev v_X11_longest_24 (r : Option Value) (I' : Nat → Nat → Int32) (L' : Nat → Nat → Int64) (I : Nat → Nat → Int32) (L : Nat → Nat → Int64) (x1 : Int32) (x3 : Int32) (x4 : Int32) (x5 : Int32) : Prop := q_W kX11_longest 24 [(0, .ref 0), (1, .int x1), (2, .ref 75), (3, .int x3), (4, .int x4), (5, .int x5)] [] I L r I' L'
set_option maxRecDepth 20000 in
set_option maxHeartbeats 2000000 in
theorem vc_X11_longest_0 {r : Option Value} {I' : Nat → Nat → Int32} {L' : Nat → Nat → Int64} {I : Nat → Nat → Int32} {L : Nat → Nat → Int64} {x1 : Int32} (h : (∃ r1, q_C kX11_noHour [.ref 0, .int x1] I L (some (.int r1)) I L ∧ ((r1 = 0 → (∃ I2, q_C kX11_settledCourse [.ref 0] I L (some (.ref 75)) I2 L ∧ (v_X11_longest_24 r I' L' I2 L x1 (-1) 0 0))) ∧ (¬ r1 = 0 → (r = some (.int (-2)) ∧ I' = I ∧ L' = L))))) : v_X11_longest_0 r I' L' I L x1 := by
  intro w g K
  have K1 := K.1
  refine g_aload_n K1 0 dX11_longest_0 rfl ?_
  refine g_iload_n K1 1 dX11_longest_1 rfl ?_
  obtain ⟨r1, hct, h⟩ := h
  refine h_callV K1 (st := []) [.int x1] (hct w (gl g)) q_clX11 lyp_0 rfl ok_X11_noHour ml_X11_176 ⟨Nat.le_of_ble_eq_true rfl, Nat.le_of_ble_eq_true rfl⟩ (Nat.le_of_ble_eq_true rfl) dX11_longest_2 ?_
  show q_Gs w g 5 [(0, .ref 0), (1, .int x1)] [.int r1] (q_mm I L)
  refine g_if_eq K1 11 dX11_longest_5 rfl (fun hc => ?_) (fun hc => ?_)
  · replace h := h.1 hc
    refine g_aload_n K1 0 dX11_longest_11 rfl ?_
    obtain ⟨I2, hct, h⟩ := h
    refine h_callV K1 (st := []) [] (hct w (gl g)) q_clX11 lyp_0 rfl ok_X11_settledCourse ml_X11_179 ⟨Nat.le_of_ble_eq_true rfl, Nat.le_of_ble_eq_true rfl⟩ (Nat.le_of_ble_eq_true rfl) dX11_longest_12 ?_
    show q_Gs w g 15 [(0, .ref 0), (1, .int x1)] [.ref 75] (q_mm I2 L)
    refine g_astore_n K1 dX11_longest_15 rfl (by decide) rfl ?_
    refine g_iconst K1 (-1) dX11_longest_16 rfl ?_
    refine g_istore_n K1 dX11_longest_17 rfl (by decide) rfl ?_
    refine g_iconst K1 0 dX11_longest_18 rfl ?_
    refine g_istore K1 dX11_longest_19 (by decide) rfl ?_
    refine g_iconst K1 0 dX11_longest_21 rfl ?_
    refine g_istore K1 dX11_longest_22 (by decide) rfl ?_
    exact g_perm [4, 5, 3, 2, 1, 0] rfl (h w g K)
  · replace h := h.2 hc
    refine g_bipush K1 (-2) dX11_longest_8 rfl ?_
    obtain ⟨hr, hI, hL⟩ := h
    subst hr hI hL
    exact g_ireturn K rfl dX11_longest_10
set_option maxRecDepth 20000 in
set_option maxHeartbeats 2000000 in
theorem vc_X11_longest_24 {r : Option Value} {I' : Nat → Nat → Int32} {L' : Nat → Nat → Int64} {I : Nat → Nat → Int32} {L : Nat → Nat → Int64} {x1 : Int32} {x3 : Int32} {x4 : Int32} {x5 : Int32} (h : (((I 12 4) ≤ x5 → (r = some (.int x3) ∧ I' = I ∧ L' = L)) ∧ (¬ (I 12 4) ≤ x5 → (∃ r1, q_C kX11_cell [.int x5, .int x1] I L (some (.int r1)) I L ∧ (vp_in r1 91 ∧ (∃ r2, q_C kX7_size [.int (I 77 r1.toNatClampNeg)] I L (some (.int r2)) I L ∧ ((r2 ≤ x4 → (v_X11_longest_24 r I' L' I L x1 x3 x4 (x5 + 1))) ∧ (¬ r2 ≤ x4 → (v_X11_longest_24 r I' L' I L x1 x5 r2 (x5 + 1)))))))))) : v_X11_longest_24 r I' L' I L x1 x3 x4 x5 := by
  intro w g K
  have K1 := K.1
  refine g_iload K1 5 dX11_longest_24 rfl ?_
  refine g_aload_n K1 0 dX11_longest_26 rfl ?_
  refine h_getO K1 q_clX11 5 12 lyp_0 fkX11_5 rfl fl_X11_35 dX11_longest_27 ?_
  refine h_getI K1 q_clX5 4 lyp_12 fkX5_4 fl_X11_214 dX11_longest_30 ?_
  refine g_icmp_ge K1 72 dX11_longest_33 rfl (fun hc => ?_) (fun hc => ?_)
  · replace h := h.1 hc
    refine g_iload_n K1 3 dX11_longest_72 rfl ?_
    obtain ⟨hr, hI, hL⟩ := h
    subst hr hI hL
    exact g_ireturn K rfl dX11_longest_73
  · replace h := h.2 hc
    refine g_aload_n K1 2 dX11_longest_36 rfl ?_
    refine h_getO K1 q_clX3 1 77 lyp_75 fkX3_1 rfl fl_X11_186 dX11_longest_37 ?_
    refine g_iload K1 5 dX11_longest_40 rfl ?_
    refine g_iload_n K1 1 dX11_longest_42 rfl ?_
    obtain ⟨r1, hct, h⟩ := h
    refine h_callS K1 (st := [.ref 77]) [.int x5, .int x1] (hct w (gl g)) ok_X11_cell ml_X11_189 ⟨Nat.le_of_ble_eq_true rfl, Nat.le_of_ble_eq_true rfl⟩ (Nat.le_of_ble_eq_true rfl) dX11_longest_43 ?_
    show q_Gs w g 46 [(0, .ref 0), (1, .int x1), (2, .ref 75), (3, .int x3), (4, .int x4), (5, .int x5)] [.int r1, .ref 77] (q_mm I L)
    obtain ⟨hg, h⟩ := h
    refine h_iaload K1 lyp_77 hg dX11_longest_46 ?_
    obtain ⟨r2, hct, h⟩ := h
    refine h_callS K1 (st := []) [.int (I 77 r1.toNatClampNeg)] (hct w (gl g)) ok_X7_size ml_X11_192 ⟨Nat.le_of_ble_eq_true rfl, Nat.le_of_ble_eq_true rfl⟩ (Nat.le_of_ble_eq_true rfl) dX11_longest_47 ?_
    show q_Gs w g 50 [(0, .ref 0), (1, .int x1), (2, .ref 75), (3, .int x3), (4, .int x4), (5, .int x5)] [.int r2] (q_mm I L)
    refine g_istore K1 dX11_longest_50 (by decide) rfl ?_
    refine g_iload K1 0 dX11_longest_52 rfl ?_
    refine g_iload K1 5 dX11_longest_54 rfl ?_
    refine g_icmp_le K1 66 dX11_longest_56 rfl (fun hc => ?_) (fun hc => ?_)
    · replace h := h.1 hc
      refine g_iinc K1 (x5 + 1) 6 dX11_longest_66 rfl rfl (by decide) rfl ?_
      refine g_goto K1 24 dX11_longest_69 rfl ?_
      exact g_perm [2, 3, 4, 5, 6, 0] rfl (h w g K)
    · replace h := h.2 hc
      refine g_iload K1 0 dX11_longest_59 rfl ?_
      refine g_istore K1 dX11_longest_61 (by decide) rfl ?_
      refine g_iload K1 6 dX11_longest_63 rfl ?_
      refine g_istore_n K1 dX11_longest_65 rfl (by decide) rfl ?_
      refine g_iinc K1 (x5 + 1) 6 dX11_longest_66 rfl rfl (by decide) rfl ?_
      refine g_goto K1 24 dX11_longest_69 rfl ?_
      exact g_perm [4, 5, 6, 1, 2, 0] rfl (h w g K)
theorem c0_X11_longest {r : Option Value} {I I' : Nat → Nat → Int32} {L L' : Nat → Nat → Int64} {x1 : Int32} (h : v_X11_longest_0 r I' L' I L x1) : q_C kX11_longest [.ref 0, .int x1] I L r I' L' := fun w l => q_ct (by decide) (Nat.le_of_ble_eq_true rfl) (Nat.le_refl _) (fun g _ K => h w g K)
abbrev v_X11_lowestPart_0 (r : Option Value) (I' : Nat → Nat → Int32) (L' : Nat → Nat → Int64) (I : Nat → Nat → Int32) (L : Nat → Nat → Int64) (x0 : Int64) (x2 : Int64) (x4 : Int32) : Prop := q_W kX11_lowestPart 0 [(0, .long x0), (2, .long x2), (4, .int x4)] [] I L r I' L'
abbrev v_X11_lowestPart_12 (r : Option Value) (I' : Nat → Nat → Int32) (L' : Nat → Nat → Int64) (I : Nat → Nat → Int32) (L : Nat → Nat → Int64) (x0 : Int64) (x2 : Int64) (x4 : Int32) (x5 : Int64) (x7 : Int64) (x9 : Int32) : Prop := q_W kX11_lowestPart 12 [(0, .long x0), (2, .long x2), (4, .int x4), (5, .long x5), (7, .long x7), (9, .int x9)] [] I L r I' L'
abbrev v_X11_lowestPart_47 (r : Option Value) (I' : Nat → Nat → Int32) (L' : Nat → Nat → Int64) (I : Nat → Nat → Int32) (L : Nat → Nat → Int64) (x0 : Int64) (x2 : Int64) (x4 : Int32) (x5 : Int64) : Prop := q_W kX11_lowestPart 47 [(0, .long x0), (2, .long x2), (4, .int x4), (5, .long x5)] [] I L r I' L'
set_option maxRecDepth 20000 in
set_option maxHeartbeats 2000000 in
theorem vc_X11_lowestPart_0 {r : Option Value} {I' : Nat → Nat → Int32} {L' : Nat → Nat → Int64} {I : Nat → Nat → Int32} {L : Nat → Nat → Int64} {x0 : Int64} {x2 : Int64} {x4 : Int32} (h : (v_X11_lowestPart_12 r I' L' I L x0 x2 x4 x2 (if 0 < x0 then x0 else -x0) 0)) : v_X11_lowestPart_0 r I' L' I L x0 x2 x4 := by
  intro w g K
  have K1 := K.1
  refine g_lload_n K1 1 dX11_lowestPart_0 rfl ?_
  refine g_lstore K1 dX11_lowestPart_1 (by decide) rfl ?_
  refine g_lload_n K1 1 dX11_lowestPart_3 rfl ?_
  refine h_mabs K1 (by exact Nat.le_of_ble_eq_true rfl) ⟨Nat.le_of_ble_eq_true rfl, Nat.le_of_ble_eq_true rfl⟩ ml_X11_436 dX11_lowestPart_4 ?_
  refine g_lstore K1 dX11_lowestPart_7 (by decide) rfl ?_
  refine g_iconst K1 0 dX11_lowestPart_9 rfl ?_
  refine g_istore K1 dX11_lowestPart_10 (by decide) rfl ?_
  exact g_perm [3, 4, 5, 2, 1, 0] rfl (h w g K)
set_option maxRecDepth 20000 in
set_option maxHeartbeats 2000000 in
theorem vc_X11_lowestPart_12 {r : Option Value} {I' : Nat → Nat → Int32} {L' : Nat → Nat → Int64} {I : Nat → Nat → Int32} {L : Nat → Nat → Int64} {x0 : Int64} {x2 : Int64} {x4 : Int32} {x5 : Int64} {x7 : Int64} {x9 : Int32} (h : ((100 ≤ x9 → (v_X11_lowestPart_47 r I' L' I L x0 x2 x4 x5)) ∧ (¬ 100 ≤ x9 → (((lg_cmp x7 0) = 0 → (v_X11_lowestPart_47 r I' L' I L x0 x2 x4 x5)) ∧ (¬ (lg_cmp x7 0) = 0 → (¬ x7 = 0 ∧ (v_X11_lowestPart_12 r I' L' I L x0 x2 x4 x7 (x5 - x5 / x7 * x7) (x9 + 1)))))))) : v_X11_lowestPart_12 r I' L' I L x0 x2 x4 x5 x7 x9 := by
  intro w g K
  have K1 := K.1
  refine g_iload K1 5 dX11_lowestPart_12 rfl ?_
  refine g_bipush K1 100 dX11_lowestPart_14 rfl ?_
  refine g_icmp_ge K1 47 dX11_lowestPart_16 rfl (fun hc => ?_) (fun hc => ?_)
  · replace h := h.1 hc
    exact g_perm [0, 1, 2, 3] rfl (h w g K)
  · replace h := h.2 hc
    refine g_lload K1 4 dX11_lowestPart_19 rfl ?_
    refine g_lconst K1 0 dX11_lowestPart_21 rfl ?_
    refine g_lcmp K1 dX11_lowestPart_22 ?_
    refine g_if_eq K1 47 dX11_lowestPart_23 rfl (fun hc => ?_) (fun hc => ?_)
    · replace h := h.1 hc
      exact g_perm [0, 1, 2, 3] rfl (h w g K)
    · replace h := h.2 hc
      refine g_lload K1 3 dX11_lowestPart_26 rfl ?_
      refine g_lload K1 4 dX11_lowestPart_28 rfl ?_
      obtain ⟨hg, h⟩ := h
      refine g_lrem K1 dX11_lowestPart_30 hg ?_
      refine g_lstore K1 dX11_lowestPart_31 (by decide) rfl ?_
      refine g_lload K1 5 dX11_lowestPart_33 rfl ?_
      refine g_lstore K1 dX11_lowestPart_35 (by decide) rfl ?_
      refine g_lload K1 1 dX11_lowestPart_37 rfl ?_
      refine g_lstore K1 dX11_lowestPart_39 (by decide) rfl ?_
      refine g_iinc K1 (x9 + 1) 6 dX11_lowestPart_41 rfl rfl (by decide) rfl ?_
      refine g_goto K1 12 dX11_lowestPart_44 rfl ?_
      exact g_perm [4, 5, 6, 2, 1, 0] rfl (h w g K)
set_option maxRecDepth 20000 in
set_option maxHeartbeats 2000000 in
theorem vc_X11_lowestPart_47 {r : Option Value} {I' : Nat → Nat → Int32} {L' : Nat → Nat → Int64} {I : Nat → Nat → Int32} {L : Nat → Nat → Int64} {x0 : Int64} {x2 : Int64} {x4 : Int32} {x5 : Int64} (h : ((x4 = 0 → (((lg_cmp x5 0) = 0 → (r = some (.long x0) ∧ I' = I ∧ L' = L)) ∧ (¬ (lg_cmp x5 0) = 0 → (¬ x5 = 0 ∧ (r = some (.long (x0 / x5)) ∧ I' = I ∧ L' = L))))) ∧ (¬ x4 = 0 → (((lg_cmp x5 0) = 0 → (r = some (.long x2) ∧ I' = I ∧ L' = L)) ∧ (¬ (lg_cmp x5 0) = 0 → (¬ x5 = 0 ∧ (r = some (.long (x2 / x5)) ∧ I' = I ∧ L' = L))))))) : v_X11_lowestPart_47 r I' L' I L x0 x2 x4 x5 := by
  intro w g K
  have K1 := K.1
  refine g_iload K1 2 dX11_lowestPart_47 rfl ?_
  refine g_if_ne K1 56 dX11_lowestPart_49 rfl (fun hc => ?_) (fun hc => ?_)
  · replace h := h.2 hc
    refine g_lload_n K1 1 dX11_lowestPart_56 rfl ?_
    refine g_lstore K1 dX11_lowestPart_57 (by decide) rfl ?_
    refine g_lload K1 4 dX11_lowestPart_59 rfl ?_
    refine g_lconst K1 0 dX11_lowestPart_61 rfl ?_
    refine g_lcmp K1 dX11_lowestPart_62 ?_
    refine g_if_ne K1 71 dX11_lowestPart_63 rfl (fun hc => ?_) (fun hc => ?_)
    · replace h := h.2 hc
      refine g_lload K1 0 dX11_lowestPart_71 rfl ?_
      refine g_lload K1 4 dX11_lowestPart_73 rfl ?_
      obtain ⟨hg, h⟩ := h
      refine g_ldiv K1 dX11_lowestPart_75 hg ?_
      obtain ⟨hr, hI, hL⟩ := h
      subst hr hI hL
      exact g_lreturn K rfl dX11_lowestPart_76
    · replace h := h.1 hc
      refine g_lload K1 0 dX11_lowestPart_66 rfl ?_
      refine g_goto K1 76 dX11_lowestPart_68 rfl ?_
      obtain ⟨hr, hI, hL⟩ := h
      subst hr hI hL
      exact g_lreturn K rfl dX11_lowestPart_76
  · replace h := h.1 hc
    refine g_lload_n K1 0 dX11_lowestPart_52 rfl ?_
    refine g_goto K1 57 dX11_lowestPart_53 rfl ?_
    refine g_lstore K1 dX11_lowestPart_57 (by decide) rfl ?_
    refine g_lload K1 4 dX11_lowestPart_59 rfl ?_
    refine g_lconst K1 0 dX11_lowestPart_61 rfl ?_
    refine g_lcmp K1 dX11_lowestPart_62 ?_
    refine g_if_ne K1 71 dX11_lowestPart_63 rfl (fun hc => ?_) (fun hc => ?_)
    · replace h := h.2 hc
      refine g_lload K1 0 dX11_lowestPart_71 rfl ?_
      refine g_lload K1 4 dX11_lowestPart_73 rfl ?_
      obtain ⟨hg, h⟩ := h
      refine g_ldiv K1 dX11_lowestPart_75 hg ?_
      obtain ⟨hr, hI, hL⟩ := h
      subst hr hI hL
      exact g_lreturn K rfl dX11_lowestPart_76
    · replace h := h.1 hc
      refine g_lload K1 0 dX11_lowestPart_66 rfl ?_
      refine g_goto K1 76 dX11_lowestPart_68 rfl ?_
      obtain ⟨hr, hI, hL⟩ := h
      subst hr hI hL
      exact g_lreturn K rfl dX11_lowestPart_76
theorem c0_X11_lowestPart {r : Option Value} {I I' : Nat → Nat → Int32} {L L' : Nat → Nat → Int64} {x0 : Int64} {x2 : Int64} {x4 : Int32} (h : v_X11_lowestPart_0 r I' L' I L x0 x2 x4) : q_C kX11_lowestPart [.long x0, .long x2, .int x4] I L r I' L' := fun w l => q_ct (by decide) (Nat.le_of_ble_eq_true rfl) (Nat.le_refl _) (fun g _ K => h w g K)
abbrev v_X11_luck_0 (r : Option Value) (I' : Nat → Nat → Int32) (L' : Nat → Nat → Int64) (I : Nat → Nat → Int32) (L : Nat → Nat → Int64) (x1 : Int32) (x2 : Int32) (x3 : Int32) : Prop := q_W kX11_luck 0 [(0, .ref 0), (1, .int x1), (2, .int x2), (3, .int x3)] [] I L r I' L'
abbrev v_X11_luck_35 (r : Option Value) (I' : Nat → Nat → Int32) (L' : Nat → Nat → Int64) (I : Nat → Nat → Int32) (L : Nat → Nat → Int64) (x1 : Int32) (x2 : Int32) (x3 : Int32) (x4 : Int32) (x5 : Int32) : Prop := q_W kX11_luck 35 [(0, .ref 0), (1, .int x1), (2, .int x2), (3, .int x3), (4, .int x4), (5, .int x5)] [] I L r I' L'
set_option maxRecDepth 20000 in
set_option maxHeartbeats 2000000 in
theorem vc_X11_luck_0 {r : Option Value} {I' : Nat → Nat → Int32} {L' : Nat → Nat → Int64} {I : Nat → Nat → Int32} {L : Nat → Nat → Int64} {x1 : Int32} {x2 : Int32} {x3 : Int32} (h : (∃ r1, q_C kX11_noPew [.ref 0, .int x3] I L (some (.int r1)) I L ∧ ((r1 = 0 → (∃ r2, q_C kX11_noSeed [.int x1] I L (some (.int r2)) I L ∧ ((r2 = 0 → ((x2 < 1 → (r = some (.int (-2)) ∧ I' = I ∧ L' = L)) ∧ (¬ x2 < 1 → ((x2 ≤ 20 → (v_X11_luck_35 r I' L' I L x1 x2 x3 0 0)) ∧ (¬ x2 ≤ 20 → (r = some (.int (-2)) ∧ I' = I ∧ L' = L)))))) ∧ (¬ r2 = 0 → (r = some (.int (-2)) ∧ I' = I ∧ L' = L))))) ∧ (¬ r1 = 0 → (r = some (.int (-2)) ∧ I' = I ∧ L' = L))))) : v_X11_luck_0 r I' L' I L x1 x2 x3 := by
  intro w g K
  have K1 := K.1
  refine g_aload_n K1 0 dX11_luck_0 rfl ?_
  refine g_iload_n K1 3 dX11_luck_1 rfl ?_
  obtain ⟨r1, hct, h⟩ := h
  refine h_callV K1 (st := []) [.int x3] (hct w (gl g)) q_clX11 lyp_0 rfl ok_X11_noPew ml_X11_145 ⟨Nat.le_of_ble_eq_true rfl, Nat.le_of_ble_eq_true rfl⟩ (Nat.le_of_ble_eq_true rfl) dX11_luck_2 ?_
  show q_Gs w g 5 [(0, .ref 0), (1, .int x1), (2, .int x2), (3, .int x3)] [.int r1] (q_mm I L)
  refine g_if_ne K1 26 dX11_luck_5 rfl (fun hc => ?_) (fun hc => ?_)
  · replace h := h.2 hc
    refine g_bipush K1 (-2) dX11_luck_26 rfl ?_
    obtain ⟨hr, hI, hL⟩ := h
    subst hr hI hL
    exact g_ireturn K rfl dX11_luck_28
  · replace h := h.1 hc
    refine g_iload_n K1 1 dX11_luck_8 rfl ?_
    obtain ⟨r2, hct, h⟩ := h
    refine h_callS K1 (st := []) [.int x1] (hct w (gl g)) ok_X11_noSeed ml_X11_373 ⟨Nat.le_of_ble_eq_true rfl, Nat.le_of_ble_eq_true rfl⟩ (Nat.le_of_ble_eq_true rfl) dX11_luck_9 ?_
    show q_Gs w g 12 [(0, .ref 0), (1, .int x1), (2, .int x2), (3, .int x3)] [.int r2] (q_mm I L)
    refine g_if_ne K1 26 dX11_luck_12 rfl (fun hc => ?_) (fun hc => ?_)
    · replace h := h.2 hc
      refine g_bipush K1 (-2) dX11_luck_26 rfl ?_
      obtain ⟨hr, hI, hL⟩ := h
      subst hr hI hL
      exact g_ireturn K rfl dX11_luck_28
    · replace h := h.1 hc
      refine g_iload_n K1 2 dX11_luck_15 rfl ?_
      refine g_iconst K1 1 dX11_luck_16 rfl ?_
      refine g_icmp_lt K1 26 dX11_luck_17 rfl (fun hc => ?_) (fun hc => ?_)
      · replace h := h.1 hc
        refine g_bipush K1 (-2) dX11_luck_26 rfl ?_
        obtain ⟨hr, hI, hL⟩ := h
        subst hr hI hL
        exact g_ireturn K rfl dX11_luck_28
      · replace h := h.2 hc
        refine g_iload_n K1 2 dX11_luck_20 rfl ?_
        refine g_bipush K1 20 dX11_luck_21 rfl ?_
        refine g_icmp_le K1 29 dX11_luck_23 rfl (fun hc => ?_) (fun hc => ?_)
        · replace h := h.1 hc
          refine g_iconst K1 0 dX11_luck_29 rfl ?_
          refine g_istore K1 dX11_luck_30 (by decide) rfl ?_
          refine g_iconst K1 0 dX11_luck_32 rfl ?_
          refine g_istore K1 dX11_luck_33 (by decide) rfl ?_
          exact g_perm [2, 3, 4, 5, 1, 0] rfl (h w g K)
        · replace h := h.2 hc
          refine g_bipush K1 (-2) dX11_luck_26 rfl ?_
          obtain ⟨hr, hI, hL⟩ := h
          subst hr hI hL
          exact g_ireturn K rfl dX11_luck_28
set_option maxRecDepth 20000 in
set_option maxHeartbeats 2000000 in
theorem vc_X11_luck_35 {r : Option Value} {I' : Nat → Nat → Int32} {L' : Nat → Nat → Int64} {I : Nat → Nat → Int32} {L : Nat → Nat → Int64} {x1 : Int32} {x2 : Int32} {x3 : Int32} {x4 : Int32} {x5 : Int32} (h : ((x2 ≤ x5 → (r = some (.int x4) ∧ I' = I ∧ L' = L)) ∧ (¬ x2 ≤ x5 → (∃ r1, q_C kX1_silenceDrawn [.ref 95, .long (x1.toInt64 + x5.toInt64)] I L (some (.int r1)) I L ∧ (∃ r2 I3, q_C kX1_litAfter [.ref 95, .int r1] I L (some (.int r2)) I3 L ∧ (v_X11_luck_35 r I' L' I3 L x1 x2 x3 (x4 + ((r2 >>> (x3 &&& 31)) &&& 1)) (x5 + 1))))))) : v_X11_luck_35 r I' L' I L x1 x2 x3 x4 x5 := by
  intro w g K
  have K1 := K.1
  refine g_iload K1 5 dX11_luck_35 rfl ?_
  refine g_iload_n K1 2 dX11_luck_37 rfl ?_
  refine g_icmp_ge K1 76 dX11_luck_38 rfl (fun hc => ?_) (fun hc => ?_)
  · replace h := h.1 hc
    refine g_iload K1 4 dX11_luck_76 rfl ?_
    obtain ⟨hr, hI, hL⟩ := h
    subst hr hI hL
    exact g_ireturn K rfl dX11_luck_78
  · replace h := h.2 hc
    refine g_iload K1 4 dX11_luck_41 rfl ?_
    refine g_aload_n K1 0 dX11_luck_43 rfl ?_
    refine h_getO K1 q_clX11 17 95 lyp_0 fkX11_17 rfl fl_X11_112 dX11_luck_44 ?_
    refine g_aload_n K1 0 dX11_luck_47 rfl ?_
    refine h_getO K1 q_clX11 17 95 lyp_0 fkX11_17 rfl fl_X11_112 dX11_luck_48 ?_
    refine g_iload_n K1 1 dX11_luck_51 rfl ?_
    refine g_i2l K1 dX11_luck_52 ?_
    refine g_iload K1 5 dX11_luck_53 rfl ?_
    refine g_i2l K1 dX11_luck_55 ?_
    refine g_ladd K1 dX11_luck_56 ?_
    obtain ⟨r1, hct, h⟩ := h
    refine h_callV K1 (st := [.ref 95, .int x4]) [.long (x1.toInt64 + x5.toInt64)] (hct w (gl g)) q_clX1 lyp_95 rfl ok_X1_silenceDrawn ml_X11_376 ⟨Nat.le_of_ble_eq_true rfl, Nat.le_of_ble_eq_true rfl⟩ (Nat.le_of_ble_eq_true rfl) dX11_luck_57 ?_
    show q_Gs w g 60 [(0, .ref 0), (1, .int x1), (2, .int x2), (3, .int x3), (4, .int x4), (5, .int x5)] [.int r1, .ref 95, .int x4] (q_mm I L)
    obtain ⟨r2, I3, hct, h⟩ := h
    refine h_callV K1 (st := [.int x4]) [.int r1] (hct w (gl g)) q_clX1 lyp_95 rfl ok_X1_litAfter ml_X11_380 ⟨Nat.le_of_ble_eq_true rfl, Nat.le_of_ble_eq_true rfl⟩ (Nat.le_of_ble_eq_true rfl) dX11_luck_60 ?_
    show q_Gs w g 63 [(0, .ref 0), (1, .int x1), (2, .int x2), (3, .int x3), (4, .int x4), (5, .int x5)] [.int r2, .int x4] (q_mm I3 L)
    refine g_iload_n K1 3 dX11_luck_63 rfl ?_
    refine g_ishr K1 dX11_luck_64 ?_
    refine g_iconst K1 1 dX11_luck_65 rfl ?_
    refine g_iand K1 dX11_luck_66 ?_
    refine g_iadd K1 dX11_luck_67 ?_
    refine g_istore K1 dX11_luck_68 (by decide) rfl ?_
    refine g_iinc K1 (x5 + 1) 5 dX11_luck_70 rfl rfl (by decide) rfl ?_
    refine g_goto K1 35 dX11_luck_73 rfl ?_
    exact g_perm [2, 3, 4, 5, 1, 0] rfl (h w g K)
theorem c0_X11_luck {r : Option Value} {I I' : Nat → Nat → Int32} {L L' : Nat → Nat → Int64} {x1 : Int32} {x2 : Int32} {x3 : Int32} (h : v_X11_luck_0 r I' L' I L x1 x2 x3) : q_C kX11_luck [.ref 0, .int x1, .int x2, .int x3] I L r I' L' := fun w l => q_ct (by decide) (Nat.le_of_ble_eq_true rfl) (Nat.le_refl _) (fun g _ K => h w g K)
abbrev v_X11_mean_0 (r : Option Value) (I' : Nat → Nat → Int32) (L' : Nat → Nat → Int64) (I : Nat → Nat → Int32) (L : Nat → Nat → Int64) (x1 : Int32) (x2 : Int32) : Prop := q_W kX11_mean 0 [(0, .ref 0), (1, .int x1), (2, .int x2)] [] I L r I' L'
set_option maxRecDepth 20000 in
set_option maxHeartbeats 2000000 in
theorem vc_X11_mean_0 {r : Option Value} {I' : Nat → Nat → Int32} {L' : Nat → Nat → Int64} {I : Nat → Nat → Int32} {L : Nat → Nat → Int64} {x1 : Int32} {x2 : Int32} (h : (∃ r1, q_C kX11_noChanceHour [.ref 0, .int x1] I L (some (.int r1)) I L ∧ ((r1 = 0 → (∃ r2, q_C kX11_noPart [.int x2] I L (some (.int r2)) I L ∧ ((r2 = 0 → (∃ r3 I4, q_C kX1_weighed [.ref 95, .int x1, .int (-1)] I L (some (.long r3)) I4 L ∧ (∃ r5, q_C kX1_power [.int 10, .int (x1 + 1)] I4 L (some (.long r5)) I4 L ∧ (∃ r6, q_C kX11_lowestPart [.long r3, .long r5, .int x2] I4 L (some (.long r6)) I4 L ∧ (r = some (.long r6) ∧ I' = I4 ∧ L' = L))))) ∧ (¬ r2 = 0 → (r = some (.long (-2)) ∧ I' = I ∧ L' = L))))) ∧ (¬ r1 = 0 → (r = some (.long (-2)) ∧ I' = I ∧ L' = L))))) : v_X11_mean_0 r I' L' I L x1 x2 := by
  intro w g K
  have K1 := K.1
  refine g_aload_n K1 0 dX11_mean_0 rfl ?_
  refine g_iload_n K1 1 dX11_mean_1 rfl ?_
  obtain ⟨r1, hct, h⟩ := h
  refine h_callV K1 (st := []) [.int x1] (hct w (gl g)) q_clX11 lyp_0 rfl ok_X11_noChanceHour ml_X11_355 ⟨Nat.le_of_ble_eq_true rfl, Nat.le_of_ble_eq_true rfl⟩ (Nat.le_of_ble_eq_true rfl) dX11_mean_2 ?_
  show q_Gs w g 5 [(0, .ref 0), (1, .int x1), (2, .int x2)] [.int r1] (q_mm I L)
  refine g_if_ne K1 15 dX11_mean_5 rfl (fun hc => ?_) (fun hc => ?_)
  · replace h := h.2 hc
    refine g_ldc2_w K1 (-2) dX11_mean_15 cn_X11_358 ?_
    obtain ⟨hr, hI, hL⟩ := h
    subst hr hI hL
    exact g_lreturn K rfl dX11_mean_18
  · replace h := h.1 hc
    refine g_iload_n K1 2 dX11_mean_8 rfl ?_
    obtain ⟨r2, hct, h⟩ := h
    refine h_callS K1 (st := []) [.int x2] (hct w (gl g)) ok_X11_noPart ml_X11_276 ⟨Nat.le_of_ble_eq_true rfl, Nat.le_of_ble_eq_true rfl⟩ (Nat.le_of_ble_eq_true rfl) dX11_mean_9 ?_
    show q_Gs w g 12 [(0, .ref 0), (1, .int x1), (2, .int x2)] [.int r2] (q_mm I L)
    refine g_if_eq K1 19 dX11_mean_12 rfl (fun hc => ?_) (fun hc => ?_)
    · replace h := h.1 hc
      refine g_aload_n K1 0 dX11_mean_19 rfl ?_
      refine h_getO K1 q_clX11 17 95 lyp_0 fkX11_17 rfl fl_X11_112 dX11_mean_20 ?_
      refine g_iload_n K1 1 dX11_mean_23 rfl ?_
      refine g_iconst K1 (-1) dX11_mean_24 rfl ?_
      obtain ⟨r3, I4, hct, h⟩ := h
      refine h_callV K1 (st := []) [.int x1, .int (-1)] (hct w (gl g)) q_clX1 lyp_95 rfl ok_X1_weighed ml_X11_360 ⟨Nat.le_of_ble_eq_true rfl, Nat.le_of_ble_eq_true rfl⟩ (Nat.le_of_ble_eq_true rfl) dX11_mean_25 ?_
      show q_Gs w g 28 [(0, .ref 0), (1, .int x1), (2, .int x2)] [.long r3] (q_mm I4 L)
      refine g_bipush K1 10 dX11_mean_28 rfl ?_
      refine g_iload_n K1 1 dX11_mean_30 rfl ?_
      refine g_iconst K1 1 dX11_mean_31 rfl ?_
      refine g_iadd K1 dX11_mean_32 ?_
      obtain ⟨r5, hct, h⟩ := h
      refine h_callS K1 (st := [.long r3]) [.int 10, .int (x1 + 1)] (hct w (gl g)) ok_X1_power ml_X11_364 ⟨Nat.le_of_ble_eq_true rfl, Nat.le_of_ble_eq_true rfl⟩ (Nat.le_of_ble_eq_true rfl) dX11_mean_33 ?_
      show q_Gs w g 36 [(0, .ref 0), (1, .int x1), (2, .int x2)] [.long r5, .long r3] (q_mm I4 L)
      refine g_iload_n K1 2 dX11_mean_36 rfl ?_
      obtain ⟨r6, hct, h⟩ := h
      refine h_callS K1 (st := []) [.long r3, .long r5, .int x2] (hct w (gl g)) ok_X11_lowestPart ml_X11_285 ⟨Nat.le_of_ble_eq_true rfl, Nat.le_of_ble_eq_true rfl⟩ (Nat.le_of_ble_eq_true rfl) dX11_mean_37 ?_
      show q_Gs w g 40 [(0, .ref 0), (1, .int x1), (2, .int x2)] [.long r6] (q_mm I4 L)
      obtain ⟨hr, hI, hL⟩ := h
      subst hr hI hL
      exact g_lreturn K rfl dX11_mean_40
    · replace h := h.2 hc
      refine g_ldc2_w K1 (-2) dX11_mean_15 cn_X11_358 ?_
      obtain ⟨hr, hI, hL⟩ := h
      subst hr hI hL
      exact g_lreturn K rfl dX11_mean_18
theorem c0_X11_mean {r : Option Value} {I I' : Nat → Nat → Int32} {L L' : Nat → Nat → Int64} {x1 : Int32} {x2 : Int32} (h : v_X11_mean_0 r I' L' I L x1 x2) : q_C kX11_mean [.ref 0, .int x1, .int x2] I L r I' L' := fun w l => q_ct (by decide) (Nat.le_of_ble_eq_true rfl) (Nat.le_refl _) (fun g _ K => h w g K)
abbrev v_X11_near_0 (r : Option Value) (I' : Nat → Nat → Int32) (L' : Nat → Nat → Int64) (I : Nat → Nat → Int32) (L : Nat → Nat → Int64) (x1 : Int32) : Prop := q_W kX11_near 0 [(0, .ref 0), (1, .int x1)] [] I L r I' L'
set_option maxRecDepth 20000 in
set_option maxHeartbeats 2000000 in
theorem vc_X11_near_0 {r : Option Value} {I' : Nat → Nat → Int32} {L' : Nat → Nat → Int64} {I : Nat → Nat → Int32} {L : Nat → Nat → Int64} {x1 : Int32} (h : (∃ r1, q_C kX11_noPew [.ref 0, .int x1] I L (some (.int r1)) I L ∧ ((r1 = 0 → (vp_in x1 7 ∧ (r = some (.int (I 16 x1.toNatClampNeg)) ∧ I' = I ∧ L' = L))) ∧ (¬ r1 = 0 → (r = some (.int (-2)) ∧ I' = I ∧ L' = L))))) : v_X11_near_0 r I' L' I L x1 := by
  intro w g K
  have K1 := K.1
  refine g_aload_n K1 0 dX11_near_0 rfl ?_
  refine g_iload_n K1 1 dX11_near_1 rfl ?_
  obtain ⟨r1, hct, h⟩ := h
  refine h_callV K1 (st := []) [.int x1] (hct w (gl g)) q_clX11 lyp_0 rfl ok_X11_noPew ml_X11_145 ⟨Nat.le_of_ble_eq_true rfl, Nat.le_of_ble_eq_true rfl⟩ (Nat.le_of_ble_eq_true rfl) dX11_near_2 ?_
  show q_Gs w g 5 [(0, .ref 0), (1, .int x1)] [.int r1] (q_mm I L)
  refine g_if_eq K1 13 dX11_near_5 rfl (fun hc => ?_) (fun hc => ?_)
  · replace h := h.1 hc
    refine g_aload_n K1 0 dX11_near_13 rfl ?_
    refine h_getO K1 q_clX11 5 12 lyp_0 fkX11_5 rfl fl_X11_35 dX11_near_14 ?_
    refine h_getO K1 q_clX5 11 16 lyp_12 fkX5_11 rfl fl_X11_159 dX11_near_17 ?_
    refine g_iload_n K1 1 dX11_near_20 rfl ?_
    obtain ⟨hg, h⟩ := h
    refine h_iaload K1 lyp_16 hg dX11_near_21 ?_
    obtain ⟨hr, hI, hL⟩ := h
    subst hr hI hL
    exact g_ireturn K rfl dX11_near_22
  · replace h := h.2 hc
    refine g_bipush K1 (-2) dX11_near_8 rfl ?_
    refine g_goto K1 22 dX11_near_10 rfl ?_
    obtain ⟨hr, hI, hL⟩ := h
    subst hr hI hL
    exact g_ireturn K rfl dX11_near_22
theorem c0_X11_near {r : Option Value} {I I' : Nat → Nat → Int32} {L L' : Nat → Nat → Int64} {x1 : Int32} (h : v_X11_near_0 r I' L' I L x1) : q_C kX11_near [.ref 0, .int x1] I L r I' L' := fun w l => q_ct (by decide) (Nat.le_of_ble_eq_true rfl) (Nat.le_refl _) (fun g _ K => h w g K)
abbrev v_X11_night_0 (r : Option Value) (I' : Nat → Nat → Int32) (L' : Nat → Nat → Int64) (I : Nat → Nat → Int32) (L : Nat → Nat → Int64)  : Prop := q_W kX11_night 0 [(0, .ref 0)] [] I L r I' L'
set_option maxRecDepth 20000 in
set_option maxHeartbeats 2000000 in
theorem vc_X11_night_0 {r : Option Value} {I' : Nat → Nat → Int32} {L' : Nat → Nat → Int64} {I : Nat → Nat → Int32} {L : Nat → Nat → Int64}  (h : (∃ I1, q_C kX6_read [.ref 2, .int (I 0 1)] I L (some (.ref 3)) I1 L ∧ ∀ I2, I2 = (up2 (up2 (up2 I1 0 2 (I1 2 0)) 0 3 ((up2 I1 0 2 (I1 2 0)) 2 1)) 0 1 0) → (((I2 0 2) = 0 → (∃ I3, q_C kX5_take [.ref 12, .ref 3] I2 L none I3 L ∧ (∃ I4, q_C kX11_unsettle [.ref 0] (up2 I3 21 0 0) L none I4 L ∧ (r = some (.int (I4 12 0)) ∧ I' = I4 ∧ L' = L)))) ∧ (¬ (I2 0 2) = 0 → (r = some (.int (-4)) ∧ I' = I2 ∧ L' = L))))) : v_X11_night_0 r I' L' I L  := by
  intro w g K
  have K1 := K.1
  refine g_aload_n K1 0 dX11_night_0 rfl ?_
  refine h_getO K1 q_clX11 4 2 lyp_0 fkX11_4 rfl fl_X11_28 dX11_night_1 ?_
  refine g_aload_n K1 0 dX11_night_4 rfl ?_
  refine h_getI K1 q_clX11 1 lyp_0 fkX11_1 fl_X11_13 dX11_night_5 ?_
  obtain ⟨I1, hct, h⟩ := h
  refine h_callV K1 (st := []) [.int (I 0 1)] (hct w (gl g)) q_clX6 lyp_2 rfl ok_X6_read ml_X11_124 ⟨Nat.le_of_ble_eq_true rfl, Nat.le_of_ble_eq_true rfl⟩ (Nat.le_of_ble_eq_true rfl) dX11_night_8 ?_
  show q_Gs w g 11 [(0, .ref 0)] [.ref 3] (q_mm I1 L)
  refine g_astore_n K1 dX11_night_11 rfl (by decide) rfl ?_
  refine g_aload_n K1 1 dX11_night_12 rfl ?_
  refine g_aload_n K1 1 dX11_night_13 rfl ?_
  refine h_getO K1 q_clX11 4 2 lyp_0 fkX11_4 rfl fl_X11_28 dX11_night_14 ?_
  refine h_getI K1 q_clX6 0 lyp_2 fkX6_0 fl_X11_128 dX11_night_17 ?_
  refine h_putI K1 q_clX11 2 lyp_0 fkX11_2 fl_X11_17 rfl rfl rfl dX11_night_20 ?_
  refine g_aload_n K1 1 dX11_night_23 rfl ?_
  refine g_aload_n K1 1 dX11_night_24 rfl ?_
  refine h_getO K1 q_clX11 4 2 lyp_0 fkX11_4 rfl fl_X11_28 dX11_night_25 ?_
  refine h_getI K1 q_clX6 1 lyp_2 fkX6_1 fl_X11_129 dX11_night_28 ?_
  refine h_putI K1 q_clX11 3 lyp_0 fkX11_3 fl_X11_20 rfl rfl rfl dX11_night_31 ?_
  refine g_aload_n K1 1 dX11_night_34 rfl ?_
  refine g_iconst K1 0 dX11_night_35 rfl ?_
  refine h_putI K1 q_clX11 1 lyp_0 fkX11_1 fl_X11_13 rfl rfl rfl dX11_night_36 ?_
  refine g_nameMI (fun I2 hI2 => ?_)
  replace h := h I2 hI2
  refine g_aload_n K1 1 dX11_night_39 rfl ?_
  refine h_getI K1 q_clX11 2 lyp_0 fkX11_2 fl_X11_17 dX11_night_40 ?_
  refine g_if_eq K1 49 dX11_night_43 rfl (fun hc => ?_) (fun hc => ?_)
  · replace h := h.1 hc
    refine g_aload_n K1 1 dX11_night_49 rfl ?_
    refine h_getO K1 q_clX11 5 12 lyp_0 fkX11_5 rfl fl_X11_35 dX11_night_50 ?_
    refine g_aload_n K1 0 dX11_night_53 rfl ?_
    obtain ⟨I3, hct, h⟩ := h
    refine h_callV K1 (st := []) [.ref 3] (hct w (gl g)) q_clX5 lyp_12 rfl ok_X5_take ml_X11_132 ⟨Nat.le_of_ble_eq_true rfl, Nat.le_of_ble_eq_true rfl⟩ (Nat.le_of_ble_eq_true rfl) dX11_night_54 ?_
    show q_Gs w g 57 [(1, .ref 3), (0, .ref 0)] [] (q_mm I3 L)
    refine g_aload_n K1 1 dX11_night_57 rfl ?_
    refine h_getO K1 q_clX11 6 21 lyp_0 fkX11_6 rfl fl_X11_42 dX11_night_58 ?_
    refine g_iconst K1 0 dX11_night_61 rfl ?_
    refine h_putI K1 q_clX0 0 lyp_21 fkX0_0 fl_X11_136 rfl rfl rfl dX11_night_62 ?_
    refine g_aload_n K1 1 dX11_night_65 rfl ?_
    obtain ⟨I4, hct, h⟩ := h
    refine h_callV K1 (st := []) [] (hct w (gl g)) q_clX11 lyp_0 rfl ok_X11_unsettle ml_X11_139 ⟨Nat.le_of_ble_eq_true rfl, Nat.le_of_ble_eq_true rfl⟩ (Nat.le_of_ble_eq_true rfl) dX11_night_66 ?_
    show q_Gs w g 69 [(1, .ref 3), (0, .ref 0)] [] (q_mm I4 L)
    refine g_aload_n K1 1 dX11_night_69 rfl ?_
    refine h_getO K1 q_clX11 5 12 lyp_0 fkX11_5 rfl fl_X11_35 dX11_night_70 ?_
    refine h_getI K1 q_clX5 0 lyp_12 fkX5_0 fl_X11_142 dX11_night_73 ?_
    obtain ⟨hr, hI, hL⟩ := h
    subst hr hI hL
    exact g_ireturn K rfl dX11_night_76
  · replace h := h.2 hc
    refine g_bipush K1 (-4) dX11_night_46 rfl ?_
    obtain ⟨hr, hI, hL⟩ := h
    subst hr hI hL
    exact g_ireturn K rfl dX11_night_48
theorem c0_X11_night {r : Option Value} {I I' : Nat → Nat → Int32} {L L' : Nat → Nat → Int64}  (h : v_X11_night_0 r I' L' I L ) : q_C kX11_night [.ref 0] I L r I' L' := fun w l => q_ct (by decide) (Nat.le_of_ble_eq_true rfl) (Nat.le_refl _) (fun g _ K => h w g K)
abbrev v_X11_noChanceHour_0 (r : Option Value) (I' : Nat → Nat → Int32) (L' : Nat → Nat → Int64) (I : Nat → Nat → Int32) (L : Nat → Nat → Int64) (x1 : Int32) : Prop := q_W kX11_noChanceHour 0 [(0, .ref 0), (1, .int x1)] [] I L r I' L'
set_option maxRecDepth 20000 in
set_option maxHeartbeats 2000000 in
theorem vc_X11_noChanceHour_0 {r : Option Value} {I' : Nat → Nat → Int32} {L' : Nat → Nat → Int64} {I : Nat → Nat → Int32} {L : Nat → Nat → Int64} {x1 : Int32} (h : ((x1 < 0 → (r = some (.int 1) ∧ I' = I ∧ L' = L)) ∧ (¬ x1 < 0 → ((7 < x1 → (r = some (.int 1) ∧ I' = I ∧ L' = L)) ∧ (¬ 7 < x1 → ((x1 < (I 12 1) → (r = some (.int 0) ∧ I' = I ∧ L' = L)) ∧ (¬ x1 < (I 12 1) → (r = some (.int 1) ∧ I' = I ∧ L' = L)))))))) : v_X11_noChanceHour_0 r I' L' I L x1 := by
  intro w g K
  have K1 := K.1
  refine g_iload_n K1 1 dX11_noChanceHour_0 rfl ?_
  refine g_if_lt K1 21 dX11_noChanceHour_1 rfl (fun hc => ?_) (fun hc => ?_)
  · replace h := h.1 hc
    refine g_iconst K1 1 dX11_noChanceHour_21 rfl ?_
    refine g_goto K1 26 dX11_noChanceHour_22 rfl ?_
    obtain ⟨hr, hI, hL⟩ := h
    subst hr hI hL
    exact g_zreturn K rfl (by decide) dX11_noChanceHour_26
  · replace h := h.2 hc
    refine g_iload_n K1 1 dX11_noChanceHour_4 rfl ?_
    refine g_bipush K1 7 dX11_noChanceHour_5 rfl ?_
    refine g_icmp_gt K1 21 dX11_noChanceHour_7 rfl (fun hc => ?_) (fun hc => ?_)
    · replace h := h.1 hc
      refine g_iconst K1 1 dX11_noChanceHour_21 rfl ?_
      refine g_goto K1 26 dX11_noChanceHour_22 rfl ?_
      obtain ⟨hr, hI, hL⟩ := h
      subst hr hI hL
      exact g_zreturn K rfl (by decide) dX11_noChanceHour_26
    · replace h := h.2 hc
      refine g_iload_n K1 1 dX11_noChanceHour_10 rfl ?_
      refine g_aload_n K1 0 dX11_noChanceHour_11 rfl ?_
      refine h_getO K1 q_clX11 5 12 lyp_0 fkX11_5 rfl fl_X11_35 dX11_noChanceHour_12 ?_
      refine h_getI K1 q_clX5 1 lyp_12 fkX5_1 fl_X11_203 dX11_noChanceHour_15 ?_
      refine g_icmp_lt K1 25 dX11_noChanceHour_18 rfl (fun hc => ?_) (fun hc => ?_)
      · replace h := h.1 hc
        refine g_iconst K1 0 dX11_noChanceHour_25 rfl ?_
        obtain ⟨hr, hI, hL⟩ := h
        subst hr hI hL
        exact g_zreturn K rfl (by decide) dX11_noChanceHour_26
      · replace h := h.2 hc
        refine g_iconst K1 1 dX11_noChanceHour_21 rfl ?_
        refine g_goto K1 26 dX11_noChanceHour_22 rfl ?_
        obtain ⟨hr, hI, hL⟩ := h
        subst hr hI hL
        exact g_zreturn K rfl (by decide) dX11_noChanceHour_26
theorem c0_X11_noChanceHour {r : Option Value} {I I' : Nat → Nat → Int32} {L L' : Nat → Nat → Int64} {x1 : Int32} (h : v_X11_noChanceHour_0 r I' L' I L x1) : q_C kX11_noChanceHour [.ref 0, .int x1] I L r I' L' := fun w l => q_ct (by decide) (Nat.le_of_ble_eq_true rfl) (Nat.le_refl _) (fun g _ K => h w g K)
abbrev v_X11_noHour_0 (r : Option Value) (I' : Nat → Nat → Int32) (L' : Nat → Nat → Int64) (I : Nat → Nat → Int32) (L : Nat → Nat → Int64) (x1 : Int32) : Prop := q_W kX11_noHour 0 [(0, .ref 0), (1, .int x1)] [] I L r I' L'
set_option maxRecDepth 20000 in
set_option maxHeartbeats 2000000 in
theorem vc_X11_noHour_0 {r : Option Value} {I' : Nat → Nat → Int32} {L' : Nat → Nat → Int64} {I : Nat → Nat → Int32} {L : Nat → Nat → Int64} {x1 : Int32} (h : (∃ r1, q_C kX11_noNight [.ref 0] I L (some (.int r1)) I L ∧ ((r1 = 0 → ((x1 < 0 → (r = some (.int 1) ∧ I' = I ∧ L' = L)) ∧ (¬ x1 < 0 → ((x1 ≤ (I 12 1) → (r = some (.int 0) ∧ I' = I ∧ L' = L)) ∧ (¬ x1 ≤ (I 12 1) → (r = some (.int 1) ∧ I' = I ∧ L' = L)))))) ∧ (¬ r1 = 0 → (r = some (.int 1) ∧ I' = I ∧ L' = L))))) : v_X11_noHour_0 r I' L' I L x1 := by
  intro w g K
  have K1 := K.1
  refine g_aload_n K1 0 dX11_noHour_0 rfl ?_
  obtain ⟨r1, hct, h⟩ := h
  refine h_callV K1 (st := []) [] (hct w (gl g)) q_clX11 lyp_0 rfl ok_X11_noNight ml_X11_210 ⟨Nat.le_of_ble_eq_true rfl, Nat.le_of_ble_eq_true rfl⟩ (Nat.le_of_ble_eq_true rfl) dX11_noHour_1 ?_
  show q_Gs w g 4 [(0, .ref 0), (1, .int x1)] [.int r1] (q_mm I L)
  refine g_if_ne K1 22 dX11_noHour_4 rfl (fun hc => ?_) (fun hc => ?_)
  · replace h := h.2 hc
    refine g_iconst K1 1 dX11_noHour_22 rfl ?_
    refine g_goto K1 27 dX11_noHour_23 rfl ?_
    obtain ⟨hr, hI, hL⟩ := h
    subst hr hI hL
    exact g_zreturn K rfl (by decide) dX11_noHour_27
  · replace h := h.1 hc
    refine g_iload_n K1 1 dX11_noHour_7 rfl ?_
    refine g_if_lt K1 22 dX11_noHour_8 rfl (fun hc => ?_) (fun hc => ?_)
    · replace h := h.1 hc
      refine g_iconst K1 1 dX11_noHour_22 rfl ?_
      refine g_goto K1 27 dX11_noHour_23 rfl ?_
      obtain ⟨hr, hI, hL⟩ := h
      subst hr hI hL
      exact g_zreturn K rfl (by decide) dX11_noHour_27
    · replace h := h.2 hc
      refine g_iload_n K1 1 dX11_noHour_11 rfl ?_
      refine g_aload_n K1 0 dX11_noHour_12 rfl ?_
      refine h_getO K1 q_clX11 5 12 lyp_0 fkX11_5 rfl fl_X11_35 dX11_noHour_13 ?_
      refine h_getI K1 q_clX5 1 lyp_12 fkX5_1 fl_X11_203 dX11_noHour_16 ?_
      refine g_icmp_le K1 26 dX11_noHour_19 rfl (fun hc => ?_) (fun hc => ?_)
      · replace h := h.1 hc
        refine g_iconst K1 0 dX11_noHour_26 rfl ?_
        obtain ⟨hr, hI, hL⟩ := h
        subst hr hI hL
        exact g_zreturn K rfl (by decide) dX11_noHour_27
      · replace h := h.2 hc
        refine g_iconst K1 1 dX11_noHour_22 rfl ?_
        refine g_goto K1 27 dX11_noHour_23 rfl ?_
        obtain ⟨hr, hI, hL⟩ := h
        subst hr hI hL
        exact g_zreturn K rfl (by decide) dX11_noHour_27
theorem c0_X11_noHour {r : Option Value} {I I' : Nat → Nat → Int32} {L L' : Nat → Nat → Int64} {x1 : Int32} (h : v_X11_noHour_0 r I' L' I L x1) : q_C kX11_noHour [.ref 0, .int x1] I L r I' L' := fun w l => q_ct (by decide) (Nat.le_of_ble_eq_true rfl) (Nat.le_refl _) (fun g _ K => h w g K)
abbrev v_X11_noLetter_0 (r : Option Value) (I' : Nat → Nat → Int32) (L' : Nat → Nat → Int64) (I : Nat → Nat → Int32) (L : Nat → Nat → Int64) (x0 : Int32) : Prop := q_W kX11_noLetter 0 [(0, .int x0)] [] I L r I' L'
set_option maxRecDepth 20000 in
set_option maxHeartbeats 2000000 in
theorem vc_X11_noLetter_0 {r : Option Value} {I' : Nat → Nat → Int32} {L' : Nat → Nat → Int64} {I : Nat → Nat → Int32} {L : Nat → Nat → Int64} {x0 : Int32} (h : ((x0 < 1 → (r = some (.int 1) ∧ I' = I ∧ L' = L)) ∧ (¬ x0 < 1 → ((x0 ≤ 4 → (r = some (.int 0) ∧ I' = I ∧ L' = L)) ∧ (¬ x0 ≤ 4 → (r = some (.int 1) ∧ I' = I ∧ L' = L)))))) : v_X11_noLetter_0 r I' L' I L x0 := by
  intro w g K
  have K1 := K.1
  refine g_iload_n K1 0 dX11_noLetter_0 rfl ?_
  refine g_iconst K1 1 dX11_noLetter_1 rfl ?_
  refine g_icmp_lt K1 10 dX11_noLetter_2 rfl (fun hc => ?_) (fun hc => ?_)
  · replace h := h.1 hc
    refine g_iconst K1 1 dX11_noLetter_10 rfl ?_
    refine g_goto K1 15 dX11_noLetter_11 rfl ?_
    obtain ⟨hr, hI, hL⟩ := h
    subst hr hI hL
    exact g_zreturn K rfl (by decide) dX11_noLetter_15
  · replace h := h.2 hc
    refine g_iload_n K1 0 dX11_noLetter_5 rfl ?_
    refine g_iconst K1 4 dX11_noLetter_6 rfl ?_
    refine g_icmp_le K1 14 dX11_noLetter_7 rfl (fun hc => ?_) (fun hc => ?_)
    · replace h := h.1 hc
      refine g_iconst K1 0 dX11_noLetter_14 rfl ?_
      obtain ⟨hr, hI, hL⟩ := h
      subst hr hI hL
      exact g_zreturn K rfl (by decide) dX11_noLetter_15
    · replace h := h.2 hc
      refine g_iconst K1 1 dX11_noLetter_10 rfl ?_
      refine g_goto K1 15 dX11_noLetter_11 rfl ?_
      obtain ⟨hr, hI, hL⟩ := h
      subst hr hI hL
      exact g_zreturn K rfl (by decide) dX11_noLetter_15
theorem c0_X11_noLetter {r : Option Value} {I I' : Nat → Nat → Int32} {L L' : Nat → Nat → Int64} {x0 : Int32} (h : v_X11_noLetter_0 r I' L' I L x0) : q_C kX11_noLetter [.int x0] I L r I' L' := fun w l => q_ct (by decide) (Nat.le_of_ble_eq_true rfl) (Nat.le_refl _) (fun g _ K => h w g K)
abbrev v_X11_noNight_0 (r : Option Value) (I' : Nat → Nat → Int32) (L' : Nat → Nat → Int64) (I : Nat → Nat → Int32) (L : Nat → Nat → Int64)  : Prop := q_W kX11_noNight 0 [(0, .ref 0)] [] I L r I' L'
set_option maxRecDepth 20000 in
set_option maxHeartbeats 2000000 in
theorem vc_X11_noNight_0 {r : Option Value} {I' : Nat → Nat → Int32} {L' : Nat → Nat → Int64} {I : Nat → Nat → Int32} {L : Nat → Nat → Int64}  (h : (((I 12 0) = 0 → (r = some (.int 1) ∧ I' = I ∧ L' = L)) ∧ (¬ (I 12 0) = 0 → (r = some (.int 0) ∧ I' = I ∧ L' = L)))) : v_X11_noNight_0 r I' L' I L  := by
  intro w g K
  have K1 := K.1
  refine g_aload_n K1 0 dX11_noNight_0 rfl ?_
  refine h_getO K1 q_clX11 5 12 lyp_0 fkX11_5 rfl fl_X11_35 dX11_noNight_1 ?_
  refine h_getI K1 q_clX5 0 lyp_12 fkX5_0 fl_X11_142 dX11_noNight_4 ?_
  refine g_if_ne K1 14 dX11_noNight_7 rfl (fun hc => ?_) (fun hc => ?_)
  · replace h := h.2 hc
    refine g_iconst K1 0 dX11_noNight_14 rfl ?_
    obtain ⟨hr, hI, hL⟩ := h
    subst hr hI hL
    exact g_zreturn K rfl (by decide) dX11_noNight_15
  · replace h := h.1 hc
    refine g_iconst K1 1 dX11_noNight_10 rfl ?_
    refine g_goto K1 15 dX11_noNight_11 rfl ?_
    obtain ⟨hr, hI, hL⟩ := h
    subst hr hI hL
    exact g_zreturn K rfl (by decide) dX11_noNight_15
theorem c0_X11_noNight {r : Option Value} {I I' : Nat → Nat → Int32} {L L' : Nat → Nat → Int64}  (h : v_X11_noNight_0 r I' L' I L ) : q_C kX11_noNight [.ref 0] I L r I' L' := fun w l => q_ct (by decide) (Nat.le_of_ble_eq_true rfl) (Nat.le_refl _) (fun g _ K => h w g K)
abbrev v_X11_noPart_0 (r : Option Value) (I' : Nat → Nat → Int32) (L' : Nat → Nat → Int64) (I : Nat → Nat → Int32) (L : Nat → Nat → Int64) (x0 : Int32) : Prop := q_W kX11_noPart 0 [(0, .int x0)] [] I L r I' L'
set_option maxRecDepth 20000 in
set_option maxHeartbeats 2000000 in
theorem vc_X11_noPart_0 {r : Option Value} {I' : Nat → Nat → Int32} {L' : Nat → Nat → Int64} {I : Nat → Nat → Int32} {L : Nat → Nat → Int64} {x0 : Int32} (h : ((x0 < 0 → (r = some (.int 1) ∧ I' = I ∧ L' = L)) ∧ (¬ x0 < 0 → ((x0 ≤ 1 → (r = some (.int 0) ∧ I' = I ∧ L' = L)) ∧ (¬ x0 ≤ 1 → (r = some (.int 1) ∧ I' = I ∧ L' = L)))))) : v_X11_noPart_0 r I' L' I L x0 := by
  intro w g K
  have K1 := K.1
  refine g_iload_n K1 0 dX11_noPart_0 rfl ?_
  refine g_if_lt K1 9 dX11_noPart_1 rfl (fun hc => ?_) (fun hc => ?_)
  · replace h := h.1 hc
    refine g_iconst K1 1 dX11_noPart_9 rfl ?_
    refine g_goto K1 14 dX11_noPart_10 rfl ?_
    obtain ⟨hr, hI, hL⟩ := h
    subst hr hI hL
    exact g_zreturn K rfl (by decide) dX11_noPart_14
  · replace h := h.2 hc
    refine g_iload_n K1 0 dX11_noPart_4 rfl ?_
    refine g_iconst K1 1 dX11_noPart_5 rfl ?_
    refine g_icmp_le K1 13 dX11_noPart_6 rfl (fun hc => ?_) (fun hc => ?_)
    · replace h := h.1 hc
      refine g_iconst K1 0 dX11_noPart_13 rfl ?_
      obtain ⟨hr, hI, hL⟩ := h
      subst hr hI hL
      exact g_zreturn K rfl (by decide) dX11_noPart_14
    · replace h := h.2 hc
      refine g_iconst K1 1 dX11_noPart_9 rfl ?_
      refine g_goto K1 14 dX11_noPart_10 rfl ?_
      obtain ⟨hr, hI, hL⟩ := h
      subst hr hI hL
      exact g_zreturn K rfl (by decide) dX11_noPart_14
theorem c0_X11_noPart {r : Option Value} {I I' : Nat → Nat → Int32} {L L' : Nat → Nat → Int64} {x0 : Int32} (h : v_X11_noPart_0 r I' L' I L x0) : q_C kX11_noPart [.int x0] I L r I' L' := fun w l => q_ct (by decide) (Nat.le_of_ble_eq_true rfl) (Nat.le_refl _) (fun g _ K => h w g K)
abbrev v_X11_noPew_0 (r : Option Value) (I' : Nat → Nat → Int32) (L' : Nat → Nat → Int64) (I : Nat → Nat → Int32) (L : Nat → Nat → Int64) (x1 : Int32) : Prop := q_W kX11_noPew 0 [(0, .ref 0), (1, .int x1)] [] I L r I' L'
set_option maxRecDepth 20000 in
set_option maxHeartbeats 2000000 in
theorem vc_X11_noPew_0 {r : Option Value} {I' : Nat → Nat → Int32} {L' : Nat → Nat → Int64} {I : Nat → Nat → Int32} {L : Nat → Nat → Int64} {x1 : Int32} (h : ((x1 < 0 → (r = some (.int 1) ∧ I' = I ∧ L' = L)) ∧ (¬ x1 < 0 → ((x1 < (I 12 4) → (r = some (.int 0) ∧ I' = I ∧ L' = L)) ∧ (¬ x1 < (I 12 4) → (r = some (.int 1) ∧ I' = I ∧ L' = L)))))) : v_X11_noPew_0 r I' L' I L x1 := by
  intro w g K
  have K1 := K.1
  refine g_iload_n K1 1 dX11_noPew_0 rfl ?_
  refine g_if_lt K1 15 dX11_noPew_1 rfl (fun hc => ?_) (fun hc => ?_)
  · replace h := h.1 hc
    refine g_iconst K1 1 dX11_noPew_15 rfl ?_
    refine g_goto K1 20 dX11_noPew_16 rfl ?_
    obtain ⟨hr, hI, hL⟩ := h
    subst hr hI hL
    exact g_zreturn K rfl (by decide) dX11_noPew_20
  · replace h := h.2 hc
    refine g_iload_n K1 1 dX11_noPew_4 rfl ?_
    refine g_aload_n K1 0 dX11_noPew_5 rfl ?_
    refine h_getO K1 q_clX11 5 12 lyp_0 fkX11_5 rfl fl_X11_35 dX11_noPew_6 ?_
    refine h_getI K1 q_clX5 4 lyp_12 fkX5_4 fl_X11_214 dX11_noPew_9 ?_
    refine g_icmp_lt K1 19 dX11_noPew_12 rfl (fun hc => ?_) (fun hc => ?_)
    · replace h := h.1 hc
      refine g_iconst K1 0 dX11_noPew_19 rfl ?_
      obtain ⟨hr, hI, hL⟩ := h
      subst hr hI hL
      exact g_zreturn K rfl (by decide) dX11_noPew_20
    · replace h := h.2 hc
      refine g_iconst K1 1 dX11_noPew_15 rfl ?_
      refine g_goto K1 20 dX11_noPew_16 rfl ?_
      obtain ⟨hr, hI, hL⟩ := h
      subst hr hI hL
      exact g_zreturn K rfl (by decide) dX11_noPew_20
theorem c0_X11_noPew {r : Option Value} {I I' : Nat → Nat → Int32} {L L' : Nat → Nat → Int64} {x1 : Int32} (h : v_X11_noPew_0 r I' L' I L x1) : q_C kX11_noPew [.ref 0, .int x1] I L r I' L' := fun w l => q_ct (by decide) (Nat.le_of_ble_eq_true rfl) (Nat.le_refl _) (fun g _ K => h w g K)
abbrev v_X11_noSeed_0 (r : Option Value) (I' : Nat → Nat → Int32) (L' : Nat → Nat → Int64) (I : Nat → Nat → Int32) (L : Nat → Nat → Int64) (x0 : Int32) : Prop := q_W kX11_noSeed 0 [(0, .int x0)] [] I L r I' L'
set_option maxRecDepth 20000 in
set_option maxHeartbeats 2000000 in
theorem vc_X11_noSeed_0 {r : Option Value} {I' : Nat → Nat → Int32} {L' : Nat → Nat → Int64} {I : Nat → Nat → Int32} {L : Nat → Nat → Int64} {x0 : Int32} (h : ((x0 < 0 → (r = some (.int 1) ∧ I' = I ∧ L' = L)) ∧ (¬ x0 < 0 → ((x0 ≤ 2000000000 → (r = some (.int 0) ∧ I' = I ∧ L' = L)) ∧ (¬ x0 ≤ 2000000000 → (r = some (.int 1) ∧ I' = I ∧ L' = L)))))) : v_X11_noSeed_0 r I' L' I L x0 := by
  intro w g K
  have K1 := K.1
  refine g_iload_n K1 0 dX11_noSeed_0 rfl ?_
  refine g_if_lt K1 11 dX11_noSeed_1 rfl (fun hc => ?_) (fun hc => ?_)
  · replace h := h.1 hc
    refine g_iconst K1 1 dX11_noSeed_11 rfl ?_
    refine g_goto K1 16 dX11_noSeed_12 rfl ?_
    obtain ⟨hr, hI, hL⟩ := h
    subst hr hI hL
    exact g_zreturn K rfl (by decide) dX11_noSeed_16
  · replace h := h.2 hc
    refine g_iload_n K1 0 dX11_noSeed_4 rfl ?_
    refine g_ldc_w K1 2000000000 dX11_noSeed_5 cn_X11_383 ?_
    refine g_icmp_le K1 15 dX11_noSeed_8 rfl (fun hc => ?_) (fun hc => ?_)
    · replace h := h.1 hc
      refine g_iconst K1 0 dX11_noSeed_15 rfl ?_
      obtain ⟨hr, hI, hL⟩ := h
      subst hr hI hL
      exact g_zreturn K rfl (by decide) dX11_noSeed_16
    · replace h := h.2 hc
      refine g_iconst K1 1 dX11_noSeed_11 rfl ?_
      refine g_goto K1 16 dX11_noSeed_12 rfl ?_
      obtain ⟨hr, hI, hL⟩ := h
      subst hr hI hL
      exact g_zreturn K rfl (by decide) dX11_noSeed_16
theorem c0_X11_noSeed {r : Option Value} {I I' : Nat → Nat → Int32} {L L' : Nat → Nat → Int64} {x0 : Int32} (h : v_X11_noSeed_0 r I' L' I L x0) : q_C kX11_noSeed [.int x0] I L r I' L' := fun w l => q_ct (by decide) (Nat.le_of_ble_eq_true rfl) (Nat.le_refl _) (fun g _ K => h w g K)
abbrev v_X11_often_0 (r : Option Value) (I' : Nat → Nat → Int32) (L' : Nat → Nat → Int64) (I : Nat → Nat → Int32) (L : Nat → Nat → Int64) (x1 : Int32) : Prop := q_W kX11_often 0 [(0, .ref 0), (1, .int x1)] [] I L r I' L'
abbrev v_X11_often_21 (r : Option Value) (I' : Nat → Nat → Int32) (L' : Nat → Nat → Int64) (I : Nat → Nat → Int32) (L : Nat → Nat → Int64) (x1 : Int32) (x3 : Int32) (x4 : Int32) : Prop := q_W kX11_often 21 [(0, .ref 0), (1, .int x1), (2, .ref 75), (3, .int x3), (4, .int x4)] [] I L r I' L'
set_option maxRecDepth 20000 in
set_option maxHeartbeats 2000000 in
theorem vc_X11_often_0 {r : Option Value} {I' : Nat → Nat → Int32} {L' : Nat → Nat → Int64} {I : Nat → Nat → Int32} {L : Nat → Nat → Int64} {x1 : Int32} (h : (∃ r1, q_C kX11_noPew [.ref 0, .int x1] I L (some (.int r1)) I L ∧ ((r1 = 0 → (∃ I2, q_C kX11_settledCourse [.ref 0] I L (some (.ref 75)) I2 L ∧ (v_X11_often_21 r I' L' I2 L x1 0 0))) ∧ (¬ r1 = 0 → (r = some (.int (-2)) ∧ I' = I ∧ L' = L))))) : v_X11_often_0 r I' L' I L x1 := by
  intro w g K
  have K1 := K.1
  refine g_aload_n K1 0 dX11_often_0 rfl ?_
  refine g_iload_n K1 1 dX11_often_1 rfl ?_
  obtain ⟨r1, hct, h⟩ := h
  refine h_callV K1 (st := []) [.int x1] (hct w (gl g)) q_clX11 lyp_0 rfl ok_X11_noPew ml_X11_145 ⟨Nat.le_of_ble_eq_true rfl, Nat.le_of_ble_eq_true rfl⟩ (Nat.le_of_ble_eq_true rfl) dX11_often_2 ?_
  show q_Gs w g 5 [(0, .ref 0), (1, .int x1)] [.int r1] (q_mm I L)
  refine g_if_eq K1 11 dX11_often_5 rfl (fun hc => ?_) (fun hc => ?_)
  · replace h := h.1 hc
    refine g_aload_n K1 0 dX11_often_11 rfl ?_
    obtain ⟨I2, hct, h⟩ := h
    refine h_callV K1 (st := []) [] (hct w (gl g)) q_clX11 lyp_0 rfl ok_X11_settledCourse ml_X11_179 ⟨Nat.le_of_ble_eq_true rfl, Nat.le_of_ble_eq_true rfl⟩ (Nat.le_of_ble_eq_true rfl) dX11_often_12 ?_
    show q_Gs w g 15 [(0, .ref 0), (1, .int x1)] [.ref 75] (q_mm I2 L)
    refine g_astore_n K1 dX11_often_15 rfl (by decide) rfl ?_
    refine g_iconst K1 0 dX11_often_16 rfl ?_
    refine g_istore_n K1 dX11_often_17 rfl (by decide) rfl ?_
    refine g_iconst K1 0 dX11_often_18 rfl ?_
    refine g_istore K1 dX11_often_19 (by decide) rfl ?_
    exact g_perm [3, 4, 2, 1, 0] rfl (h w g K)
  · replace h := h.2 hc
    refine g_bipush K1 (-2) dX11_often_8 rfl ?_
    obtain ⟨hr, hI, hL⟩ := h
    subst hr hI hL
    exact g_ireturn K rfl dX11_often_10
set_option maxRecDepth 20000 in
set_option maxHeartbeats 2000000 in
theorem vc_X11_often_21 {r : Option Value} {I' : Nat → Nat → Int32} {L' : Nat → Nat → Int64} {I : Nat → Nat → Int32} {L : Nat → Nat → Int64} {x1 : Int32} {x3 : Int32} {x4 : Int32} (h : (((I 12 1) < x4 → (r = some (.int x3) ∧ I' = I ∧ L' = L)) ∧ (¬ (I 12 1) < x4 → (∃ r1, q_C kX3_isLit [.ref 75, .int x1, .int x4] I L (some (.int r1)) I L ∧ ((r1 = 0 → (v_X11_often_21 r I' L' I L x1 x3 (x4 + 1))) ∧ (¬ r1 = 0 → (v_X11_often_21 r I' L' I L x1 (x3 + 1) (x4 + 1)))))))) : v_X11_often_21 r I' L' I L x1 x3 x4 := by
  intro w g K
  have K1 := K.1
  refine g_iload K1 4 dX11_often_21 rfl ?_
  refine g_aload_n K1 0 dX11_often_23 rfl ?_
  refine h_getO K1 q_clX11 5 12 lyp_0 fkX11_5 rfl fl_X11_35 dX11_often_24 ?_
  refine h_getI K1 q_clX5 1 lyp_12 fkX5_1 fl_X11_203 dX11_often_27 ?_
  refine g_icmp_gt K1 52 dX11_often_30 rfl (fun hc => ?_) (fun hc => ?_)
  · replace h := h.1 hc
    refine g_iload_n K1 3 dX11_often_52 rfl ?_
    obtain ⟨hr, hI, hL⟩ := h
    subst hr hI hL
    exact g_ireturn K rfl dX11_often_53
  · replace h := h.2 hc
    refine g_aload_n K1 2 dX11_often_33 rfl ?_
    refine g_iload_n K1 1 dX11_often_34 rfl ?_
    refine g_iload K1 4 dX11_often_35 rfl ?_
    obtain ⟨r1, hct, h⟩ := h
    refine h_callV K1 (st := []) [.int x1, .int x4] (hct w (gl g)) q_clX3 lyp_75 rfl ok_X3_isLit ml_X11_206 ⟨Nat.le_of_ble_eq_true rfl, Nat.le_of_ble_eq_true rfl⟩ (Nat.le_of_ble_eq_true rfl) dX11_often_37 ?_
    show q_Gs w g 40 [(0, .ref 0), (1, .int x1), (2, .ref 75), (3, .int x3), (4, .int x4)] [.int r1] (q_mm I L)
    refine g_if_eq K1 46 dX11_often_40 rfl (fun hc => ?_) (fun hc => ?_)
    · replace h := h.1 hc
      refine g_iinc K1 (x4 + 1) 4 dX11_often_46 rfl rfl (by decide) rfl ?_
      refine g_goto K1 21 dX11_often_49 rfl ?_
      exact g_perm [1, 2, 3, 4, 0] rfl (h w g K)
    · replace h := h.2 hc
      refine g_iinc K1 (x3 + 1) 3 dX11_often_43 rfl rfl (by decide) rfl ?_
      refine g_iinc K1 (x4 + 1) 4 dX11_often_46 rfl rfl (by decide) rfl ?_
      refine g_goto K1 21 dX11_often_49 rfl ?_
      exact g_perm [2, 3, 4, 1, 0] rfl (h w g K)
theorem c0_X11_often {r : Option Value} {I I' : Nat → Nat → Int32} {L L' : Nat → Nat → Int64} {x1 : Int32} (h : v_X11_often_0 r I' L' I L x1) : q_C kX11_often [.ref 0, .int x1] I L r I' L' := fun w l => q_ct (by decide) (Nat.le_of_ble_eq_true rfl) (Nat.le_refl _) (fun g _ K => h w g K)
abbrev v_X11_opens_0 (r : Option Value) (I' : Nat → Nat → Int32) (L' : Nat → Nat → Int64) (I : Nat → Nat → Int32) (L : Nat → Nat → Int64)  : Prop := q_W kX11_opens 0 [(0, .ref 0)] [] I L r I' L'
set_option maxRecDepth 20000 in
set_option maxHeartbeats 2000000 in
theorem vc_X11_opens_0 {r : Option Value} {I' : Nat → Nat → Int32} {L' : Nat → Nat → Int64} {I : Nat → Nat → Int32} {L : Nat → Nat → Int64}  (h : (∃ r1, q_C kX11_noNight [.ref 0] I L (some (.int r1)) I L ∧ ((r1 = 0 → (∃ I2, q_C kX10_chooseOpening [.ref 87] I L none I2 L ∧ (r = some (.int (I2 87 1)) ∧ I' = I2 ∧ L' = L))) ∧ (¬ r1 = 0 → (r = some (.int (-2)) ∧ I' = I ∧ L' = L))))) : v_X11_opens_0 r I' L' I L  := by
  intro w g K
  have K1 := K.1
  refine g_aload_n K1 0 dX11_opens_0 rfl ?_
  obtain ⟨r1, hct, h⟩ := h
  refine h_callV K1 (st := []) [] (hct w (gl g)) q_clX11 lyp_0 rfl ok_X11_noNight ml_X11_210 ⟨Nat.le_of_ble_eq_true rfl, Nat.le_of_ble_eq_true rfl⟩ (Nat.le_of_ble_eq_true rfl) dX11_opens_1 ?_
  show q_Gs w g 4 [(0, .ref 0)] [.int r1] (q_mm I L)
  refine g_if_eq K1 10 dX11_opens_4 rfl (fun hc => ?_) (fun hc => ?_)
  · replace h := h.1 hc
    refine g_aload_n K1 0 dX11_opens_10 rfl ?_
    refine h_getO K1 q_clX11 13 87 lyp_0 fkX11_13 rfl fl_X11_82 dX11_opens_11 ?_
    obtain ⟨I2, hct, h⟩ := h
    refine h_callV K1 (st := []) [] (hct w (gl g)) q_clX10 lyp_87 rfl ok_X10_chooseOpening ml_X11_336 ⟨Nat.le_of_ble_eq_true rfl, Nat.le_of_ble_eq_true rfl⟩ (Nat.le_of_ble_eq_true rfl) dX11_opens_14 ?_
    show q_Gs w g 17 [(0, .ref 0)] [] (q_mm I2 L)
    refine g_aload_n K1 0 dX11_opens_17 rfl ?_
    refine h_getO K1 q_clX11 13 87 lyp_0 fkX11_13 rfl fl_X11_82 dX11_opens_18 ?_
    refine h_getI K1 q_clX10 1 lyp_87 fkX10_1 fl_X11_342 dX11_opens_21 ?_
    obtain ⟨hr, hI, hL⟩ := h
    subst hr hI hL
    exact g_ireturn K rfl dX11_opens_24
  · replace h := h.2 hc
    refine g_bipush K1 (-2) dX11_opens_7 rfl ?_
    obtain ⟨hr, hI, hL⟩ := h
    subst hr hI hL
    exact g_ireturn K rfl dX11_opens_9
theorem c0_X11_opens {r : Option Value} {I I' : Nat → Nat → Int32} {L L' : Nat → Nat → Int64}  (h : v_X11_opens_0 r I' L' I L ) : q_C kX11_opens [.ref 0] I L r I' L' := fun w l => q_ct (by decide) (Nat.le_of_ble_eq_true rfl) (Nat.le_refl _) (fun g _ K => h w g K)
abbrev v_X11_originRefusal_0 (r : Option Value) (I' : Nat → Nat → Int32) (L' : Nat → Nat → Int64) (I : Nat → Nat → Int32) (L : Nat → Nat → Int64) (x1 : Int32) : Prop := q_W kX11_originRefusal 0 [(0, .ref 0), (1, .int x1)] [] I L r I' L'
set_option maxRecDepth 20000 in
set_option maxHeartbeats 2000000 in
theorem vc_X11_originRefusal_0 {r : Option Value} {I' : Nat → Nat → Int32} {L' : Nat → Nat → Int64} {I : Nat → Nat → Int32} {L : Nat → Nat → Int64} {x1 : Int32} (h : (((I 12 6) = 0 → (r = some (.int (-2)) ∧ I' = I ∧ L' = L)) ∧ (¬ (I 12 6) = 0 → (∃ r1, q_C kX11_clueRefusal [.ref 0, .int x1] I L (some (.int r1)) I L ∧ (r = some (.int r1) ∧ I' = I ∧ L' = L))))) : v_X11_originRefusal_0 r I' L' I L x1 := by
  intro w g K
  have K1 := K.1
  refine g_aload_n K1 0 dX11_originRefusal_0 rfl ?_
  refine h_getO K1 q_clX11 5 12 lyp_0 fkX11_5 rfl fl_X11_35 dX11_originRefusal_1 ?_
  refine h_getI K1 q_clX5 6 lyp_12 fkX5_6 fl_X11_166 dX11_originRefusal_4 ?_
  refine g_if_ne K1 15 dX11_originRefusal_7 rfl (fun hc => ?_) (fun hc => ?_)
  · replace h := h.2 hc
    refine g_aload_n K1 0 dX11_originRefusal_15 rfl ?_
    refine g_iload_n K1 1 dX11_originRefusal_16 rfl ?_
    obtain ⟨r1, hct, h⟩ := h
    refine h_callV K1 (st := []) [.int x1] (hct w (gl g)) q_clX11 lyp_0 rfl ok_X11_clueRefusal ml_X11_321 ⟨Nat.le_of_ble_eq_true rfl, Nat.le_of_ble_eq_true rfl⟩ (Nat.le_of_ble_eq_true rfl) dX11_originRefusal_17 ?_
    show q_Gs w g 20 [(0, .ref 0), (1, .int x1)] [.int r1] (q_mm I L)
    obtain ⟨hr, hI, hL⟩ := h
    subst hr hI hL
    exact g_ireturn K rfl dX11_originRefusal_20
  · replace h := h.1 hc
    refine g_bipush K1 (-2) dX11_originRefusal_10 rfl ?_
    refine g_goto K1 20 dX11_originRefusal_12 rfl ?_
    obtain ⟨hr, hI, hL⟩ := h
    subst hr hI hL
    exact g_ireturn K rfl dX11_originRefusal_20
theorem c0_X11_originRefusal {r : Option Value} {I I' : Nat → Nat → Int32} {L L' : Nat → Nat → Int64} {x1 : Int32} (h : v_X11_originRefusal_0 r I' L' I L x1) : q_C kX11_originRefusal [.ref 0, .int x1] I L r I' L' := fun w l => q_ct (by decide) (Nat.le_of_ble_eq_true rfl) (Nat.le_refl _) (fun g _ K => h w g K)
abbrev v_X11_paste_0 (r : Option Value) (I' : Nat → Nat → Int32) (L' : Nat → Nat → Int64) (I : Nat → Nat → Int32) (L : Nat → Nat → Int64) (x1 : Int32) (x2 : Int32) (x3 : Int32) (x4 : Int32) (x5 : Int32) : Prop := q_W kX11_paste 0 [(0, .ref 0), (1, .int x1), (2, .int x2), (3, .int x3), (4, .int x4), (5, .int x5)] [] I L r I' L'
set_option maxRecDepth 20000 in
set_option maxHeartbeats 2000000 in
theorem vc_X11_paste_0 {r : Option Value} {I' : Nat → Nat → Int32} {L' : Nat → Nat → Int64} {I : Nat → Nat → Int32} {L : Nat → Nat → Int64} {x1 : Int32} {x2 : Int32} {x3 : Int32} {x4 : Int32} {x5 : Int32} (h : (∃ r1, q_C kX9_noSlot [.int x1] I L (some (.int r1)) I L ∧ ((r1 = 0 → (∃ r2, q_C kX9_noSlot [.int x3] I L (some (.int r2)) I L ∧ ((r2 = 0 → (∃ r3, q_C kX9_hasRow [.ref 25, .int x1] I L (some (.int r3)) I L ∧ ((r3 = 0 → (r = some (.int (-6)) ∧ I' = I ∧ L' = L)) ∧ (¬ r3 = 0 → (∃ r4, q_C kX9_hasRow [.ref 25, .int x3] I L (some (.int r4)) I L ∧ ((r4 = 0 → (r = some (.int (-6)) ∧ I' = I ∧ L' = L)) ∧ (¬ r4 = 0 → (vp_in x1 4 ∧ (vp_in x3 4 ∧ (((I 26 x1.toNatClampNeg) = (I 26 x3.toNatClampNeg) → (∃ r5, q_C kX9_areBeyond [.ref 25, .int x1, .int x2, .int x5] I L (some (.int r5)) I L ∧ ((r5 = 0 → (∃ r6, q_C kX9_areBeyond [.ref 25, .int x3, .int x4, .int x5] I L (some (.int r6)) I L ∧ ((r6 = 0 → (vp_in x1 4 ∧ (vp_in x3 4 ∧ ((29 ≤ (29 + x1.toNatClampNeg) ∧ (29 + x1.toNatClampNeg) < 33) ∧ (29 ≤ (29 + x3.toNatClampNeg) ∧ (29 + x3.toNatClampNeg) < 33) ∧ (¬ x2 < 0 ∧ ¬ x4 < 0 ∧ ¬ x5 < 0 ∧ x2.toNatClampNeg + x5.toNatClampNeg ≤ 60 ∧ x4.toNatClampNeg + x5.toNatClampNeg ≤ 60) ∧ ∀ L7, L7 = (upr L (29 + x3.toNatClampNeg) (va_cpy (L (29 + x1.toNatClampNeg)) (L (29 + x3.toNatClampNeg)) x2.toNatClampNeg x4.toNatClampNeg x5.toNatClampNeg)) → (r = some (.int 0) ∧ I' = I ∧ L' = L7))))) ∧ (¬ r6 = 0 → (r = some (.int (-7)) ∧ I' = I ∧ L' = L))))) ∧ (¬ r5 = 0 → (r = some (.int (-7)) ∧ I' = I ∧ L' = L))))) ∧ (¬ (I 26 x1.toNatClampNeg) = (I 26 x3.toNatClampNeg) → (r = some (.int (-8)) ∧ I' = I ∧ L' = L)))))))))))) ∧ (¬ r2 = 0 → (r = some (.int (-2)) ∧ I' = I ∧ L' = L))))) ∧ (¬ r1 = 0 → (r = some (.int (-2)) ∧ I' = I ∧ L' = L))))) : v_X11_paste_0 r I' L' I L x1 x2 x3 x4 x5 := by
  intro w g K
  have K1 := K.1
  refine g_iload_n K1 1 dX11_paste_0 rfl ?_
  obtain ⟨r1, hct, h⟩ := h
  refine h_callS K1 (st := []) [.int x1] (hct w (gl g)) ok_X9_noSlot ml_X11_264 ⟨Nat.le_of_ble_eq_true rfl, Nat.le_of_ble_eq_true rfl⟩ (Nat.le_of_ble_eq_true rfl) dX11_paste_1 ?_
  show q_Gs w g 4 [(0, .ref 0), (1, .int x1), (2, .int x2), (3, .int x3), (4, .int x4), (5, .int x5)] [.int r1] (q_mm I L)
  refine g_if_ne K1 14 dX11_paste_4 rfl (fun hc => ?_) (fun hc => ?_)
  · replace h := h.2 hc
    refine g_bipush K1 (-2) dX11_paste_14 rfl ?_
    obtain ⟨hr, hI, hL⟩ := h
    subst hr hI hL
    exact g_ireturn K rfl dX11_paste_16
  · replace h := h.1 hc
    refine g_iload_n K1 3 dX11_paste_7 rfl ?_
    obtain ⟨r2, hct, h⟩ := h
    refine h_callS K1 (st := []) [.int x3] (hct w (gl g)) ok_X9_noSlot ml_X11_264 ⟨Nat.le_of_ble_eq_true rfl, Nat.le_of_ble_eq_true rfl⟩ (Nat.le_of_ble_eq_true rfl) dX11_paste_8 ?_
    show q_Gs w g 11 [(0, .ref 0), (1, .int x1), (2, .int x2), (3, .int x3), (4, .int x4), (5, .int x5)] [.int r2] (q_mm I L)
    refine g_if_eq K1 17 dX11_paste_11 rfl (fun hc => ?_) (fun hc => ?_)
    · replace h := h.1 hc
      refine g_aload_n K1 0 dX11_paste_17 rfl ?_
      refine h_getO K1 q_clX11 7 25 lyp_0 fkX11_7 rfl fl_X11_49 dX11_paste_18 ?_
      refine g_iload_n K1 1 dX11_paste_21 rfl ?_
      obtain ⟨r3, hct, h⟩ := h
      refine h_callV K1 (st := []) [.int x1] (hct w (gl g)) q_clX9 lyp_25 rfl ok_X9_hasRow ml_X11_267 ⟨Nat.le_of_ble_eq_true rfl, Nat.le_of_ble_eq_true rfl⟩ (Nat.le_of_ble_eq_true rfl) dX11_paste_22 ?_
      show q_Gs w g 25 [(0, .ref 0), (1, .int x1), (2, .int x2), (3, .int x3), (4, .int x4), (5, .int x5)] [.int r3] (q_mm I L)
      refine g_if_eq K1 39 dX11_paste_25 rfl (fun hc => ?_) (fun hc => ?_)
      · replace h := h.1 hc
        refine g_bipush K1 (-6) dX11_paste_39 rfl ?_
        obtain ⟨hr, hI, hL⟩ := h
        subst hr hI hL
        exact g_ireturn K rfl dX11_paste_41
      · replace h := h.2 hc
        refine g_aload_n K1 0 dX11_paste_28 rfl ?_
        refine h_getO K1 q_clX11 7 25 lyp_0 fkX11_7 rfl fl_X11_49 dX11_paste_29 ?_
        refine g_iload_n K1 3 dX11_paste_32 rfl ?_
        obtain ⟨r4, hct, h⟩ := h
        refine h_callV K1 (st := []) [.int x3] (hct w (gl g)) q_clX9 lyp_25 rfl ok_X9_hasRow ml_X11_267 ⟨Nat.le_of_ble_eq_true rfl, Nat.le_of_ble_eq_true rfl⟩ (Nat.le_of_ble_eq_true rfl) dX11_paste_33 ?_
        show q_Gs w g 36 [(0, .ref 0), (1, .int x1), (2, .int x2), (3, .int x3), (4, .int x4), (5, .int x5)] [.int r4] (q_mm I L)
        refine g_if_ne K1 42 dX11_paste_36 rfl (fun hc => ?_) (fun hc => ?_)
        · replace h := h.2 hc
          refine g_aload_n K1 0 dX11_paste_42 rfl ?_
          refine h_getO K1 q_clX11 7 25 lyp_0 fkX11_7 rfl fl_X11_49 dX11_paste_43 ?_
          refine h_getO K1 q_clX9 0 26 lyp_25 fkX9_0 rfl fl_X11_417 dX11_paste_46 ?_
          refine g_iload_n K1 1 dX11_paste_49 rfl ?_
          obtain ⟨hg, h⟩ := h
          refine h_iaload K1 lyp_26 hg dX11_paste_50 ?_
          refine g_aload_n K1 0 dX11_paste_51 rfl ?_
          refine h_getO K1 q_clX11 7 25 lyp_0 fkX11_7 rfl fl_X11_49 dX11_paste_52 ?_
          refine h_getO K1 q_clX9 0 26 lyp_25 fkX9_0 rfl fl_X11_417 dX11_paste_55 ?_
          refine g_iload_n K1 3 dX11_paste_58 rfl ?_
          obtain ⟨hg, h⟩ := h
          refine h_iaload K1 lyp_26 hg dX11_paste_59 ?_
          refine g_icmp_eq K1 66 dX11_paste_60 rfl (fun hc => ?_) (fun hc => ?_)
          · replace h := h.1 hc
            refine g_aload_n K1 0 dX11_paste_66 rfl ?_
            refine h_getO K1 q_clX11 7 25 lyp_0 fkX11_7 rfl fl_X11_49 dX11_paste_67 ?_
            refine g_iload_n K1 1 dX11_paste_70 rfl ?_
            refine g_iload_n K1 2 dX11_paste_71 rfl ?_
            refine g_iload K1 5 dX11_paste_72 rfl ?_
            obtain ⟨r5, hct, h⟩ := h
            refine h_callV K1 (st := []) [.int x1, .int x2, .int x5] (hct w (gl g)) q_clX9 lyp_25 rfl ok_X9_areBeyond ml_X11_409 ⟨Nat.le_of_ble_eq_true rfl, Nat.le_of_ble_eq_true rfl⟩ (Nat.le_of_ble_eq_true rfl) dX11_paste_74 ?_
            show q_Gs w g 77 [(0, .ref 0), (1, .int x1), (2, .int x2), (3, .int x3), (4, .int x4), (5, .int x5)] [.int r5] (q_mm I L)
            refine g_if_ne K1 95 dX11_paste_77 rfl (fun hc => ?_) (fun hc => ?_)
            · replace h := h.2 hc
              refine g_bipush K1 (-7) dX11_paste_95 rfl ?_
              obtain ⟨hr, hI, hL⟩ := h
              subst hr hI hL
              exact g_ireturn K rfl dX11_paste_97
            · replace h := h.1 hc
              refine g_aload_n K1 0 dX11_paste_80 rfl ?_
              refine h_getO K1 q_clX11 7 25 lyp_0 fkX11_7 rfl fl_X11_49 dX11_paste_81 ?_
              refine g_iload_n K1 3 dX11_paste_84 rfl ?_
              refine g_iload K1 4 dX11_paste_85 rfl ?_
              refine g_iload K1 5 dX11_paste_87 rfl ?_
              obtain ⟨r6, hct, h⟩ := h
              refine h_callV K1 (st := []) [.int x3, .int x4, .int x5] (hct w (gl g)) q_clX9 lyp_25 rfl ok_X9_areBeyond ml_X11_409 ⟨Nat.le_of_ble_eq_true rfl, Nat.le_of_ble_eq_true rfl⟩ (Nat.le_of_ble_eq_true rfl) dX11_paste_89 ?_
              show q_Gs w g 92 [(0, .ref 0), (1, .int x1), (2, .int x2), (3, .int x3), (4, .int x4), (5, .int x5)] [.int r6] (q_mm I L)
              refine g_if_eq K1 98 dX11_paste_92 rfl (fun hc => ?_) (fun hc => ?_)
              · replace h := h.1 hc
                refine g_aload_n K1 0 dX11_paste_98 rfl ?_
                refine h_getO K1 q_clX11 7 25 lyp_0 fkX11_7 rfl fl_X11_49 dX11_paste_99 ?_
                refine h_getO K1 q_clX9 2 28 lyp_25 fkX9_2 rfl fl_X11_420 dX11_paste_102 ?_
                refine g_iload_n K1 1 dX11_paste_105 rfl ?_
                obtain ⟨hg, h⟩ := h
                refine h_aaloadLL K1 hg dX11_paste_106 ?_
                refine g_iload_n K1 2 dX11_paste_107 rfl ?_
                refine g_aload_n K1 0 dX11_paste_108 rfl ?_
                refine h_getO K1 q_clX11 7 25 lyp_0 fkX11_7 rfl fl_X11_49 dX11_paste_109 ?_
                refine h_getO K1 q_clX9 2 28 lyp_25 fkX9_2 rfl fl_X11_420 dX11_paste_112 ?_
                refine g_iload_n K1 3 dX11_paste_115 rfl ?_
                obtain ⟨hg, h⟩ := h
                refine h_aaloadLL K1 hg dX11_paste_116 ?_
                refine g_iload K1 4 dX11_paste_117 rfl ?_
                refine g_iload K1 5 dX11_paste_119 rfl ?_
                obtain ⟨hp, hq, hg, h⟩ := h
                refine h_copyLV K1 hp hq hg (Nat.le_of_ble_eq_true rfl) ⟨Nat.le_of_ble_eq_true rfl, Nat.le_of_ble_eq_true rfl⟩ ml_X11_424 dX11_paste_121 ?_
                refine g_nameML (fun L7 hL7 => ?_)
                replace h := h L7 hL7
                refine g_iconst K1 0 dX11_paste_124 rfl ?_
                obtain ⟨hr, hI, hL⟩ := h
                subst hr hI hL
                exact g_ireturn K rfl dX11_paste_125
              · replace h := h.2 hc
                refine g_bipush K1 (-7) dX11_paste_95 rfl ?_
                obtain ⟨hr, hI, hL⟩ := h
                subst hr hI hL
                exact g_ireturn K rfl dX11_paste_97
          · replace h := h.2 hc
            refine g_bipush K1 (-8) dX11_paste_63 rfl ?_
            obtain ⟨hr, hI, hL⟩ := h
            subst hr hI hL
            exact g_ireturn K rfl dX11_paste_65
        · replace h := h.1 hc
          refine g_bipush K1 (-6) dX11_paste_39 rfl ?_
          obtain ⟨hr, hI, hL⟩ := h
          subst hr hI hL
          exact g_ireturn K rfl dX11_paste_41
    · replace h := h.2 hc
      refine g_bipush K1 (-2) dX11_paste_14 rfl ?_
      obtain ⟨hr, hI, hL⟩ := h
      subst hr hI hL
      exact g_ireturn K rfl dX11_paste_16
theorem c0_X11_paste {r : Option Value} {I I' : Nat → Nat → Int32} {L L' : Nat → Nat → Int64} {x1 : Int32} {x2 : Int32} {x3 : Int32} {x4 : Int32} {x5 : Int32} (h : v_X11_paste_0 r I' L' I L x1 x2 x3 x4 x5) : q_C kX11_paste [.ref 0, .int x1, .int x2, .int x3, .int x4, .int x5] I L r I' L' := fun w l => q_ct (by decide) (Nat.le_of_ble_eq_true rfl) (Nat.le_refl _) (fun g _ K => h w g K)
abbrev v_X11_pew_0 (r : Option Value) (I' : Nat → Nat → Int32) (L' : Nat → Nat → Int64) (I : Nat → Nat → Int32) (L : Nat → Nat → Int64) (x1 : Int32) (x2 : Int32) : Prop := q_W kX11_pew 0 [(0, .ref 0), (1, .int x1), (2, .int x2)] [] I L r I' L'
set_option maxRecDepth 20000 in
set_option maxHeartbeats 2000000 in
theorem vc_X11_pew_0 {r : Option Value} {I' : Nat → Nat → Int32} {L' : Nat → Nat → Int64} {I : Nat → Nat → Int32} {L : Nat → Nat → Int64} {x1 : Int32} {x2 : Int32} (h : (∃ r1, q_C kX11_noPew [.ref 0, .int x1] I L (some (.int r1)) I L ∧ ((r1 = 0 → ((x2 < 0 → (r = some (.int (-2)) ∧ I' = I ∧ L' = L)) ∧ (¬ x2 < 0 → ((x2 ≤ 2 → ((x2 = 0 → (vp_in x1 7 ∧ (r = some (.int (I 13 x1.toNatClampNeg)) ∧ I' = I ∧ L' = L))) ∧ (¬ x2 = 0 → ((x2 = 1 → (vp_in x1 7 ∧ (r = some (.int (I 14 x1.toNatClampNeg)) ∧ I' = I ∧ L' = L))) ∧ (¬ x2 = 1 → (vp_in x1 7 ∧ (r = some (.int (I 15 x1.toNatClampNeg)) ∧ I' = I ∧ L' = L))))))) ∧ (¬ x2 ≤ 2 → (r = some (.int (-2)) ∧ I' = I ∧ L' = L)))))) ∧ (¬ r1 = 0 → (r = some (.int (-2)) ∧ I' = I ∧ L' = L))))) : v_X11_pew_0 r I' L' I L x1 x2 := by
  intro w g K
  have K1 := K.1
  refine g_aload_n K1 0 dX11_pew_0 rfl ?_
  refine g_iload_n K1 1 dX11_pew_1 rfl ?_
  obtain ⟨r1, hct, h⟩ := h
  refine h_callV K1 (st := []) [.int x1] (hct w (gl g)) q_clX11 lyp_0 rfl ok_X11_noPew ml_X11_145 ⟨Nat.le_of_ble_eq_true rfl, Nat.le_of_ble_eq_true rfl⟩ (Nat.le_of_ble_eq_true rfl) dX11_pew_2 ?_
  show q_Gs w g 5 [(0, .ref 0), (1, .int x1), (2, .int x2)] [.int r1] (q_mm I L)
  refine g_if_ne K1 17 dX11_pew_5 rfl (fun hc => ?_) (fun hc => ?_)
  · replace h := h.2 hc
    refine g_bipush K1 (-2) dX11_pew_17 rfl ?_
    obtain ⟨hr, hI, hL⟩ := h
    subst hr hI hL
    exact g_ireturn K rfl dX11_pew_19
  · replace h := h.1 hc
    refine g_iload_n K1 2 dX11_pew_8 rfl ?_
    refine g_if_lt K1 17 dX11_pew_9 rfl (fun hc => ?_) (fun hc => ?_)
    · replace h := h.1 hc
      refine g_bipush K1 (-2) dX11_pew_17 rfl ?_
      obtain ⟨hr, hI, hL⟩ := h
      subst hr hI hL
      exact g_ireturn K rfl dX11_pew_19
    · replace h := h.2 hc
      refine g_iload_n K1 2 dX11_pew_12 rfl ?_
      refine g_iconst K1 2 dX11_pew_13 rfl ?_
      refine g_icmp_le K1 20 dX11_pew_14 rfl (fun hc => ?_) (fun hc => ?_)
      · replace h := h.1 hc
        refine g_iload_n K1 2 dX11_pew_20 rfl ?_
        refine g_if_ne K1 34 dX11_pew_21 rfl (fun hc => ?_) (fun hc => ?_)
        · replace h := h.2 hc
          refine g_iload_n K1 2 dX11_pew_34 rfl ?_
          refine g_iconst K1 1 dX11_pew_35 rfl ?_
          refine g_icmp_ne K1 51 dX11_pew_36 rfl (fun hc => ?_) (fun hc => ?_)
          · replace h := h.2 hc
            refine g_aload_n K1 0 dX11_pew_51 rfl ?_
            refine h_getO K1 q_clX11 5 12 lyp_0 fkX11_5 rfl fl_X11_35 dX11_pew_52 ?_
            refine h_getO K1 q_clX5 10 15 lyp_12 fkX5_10 rfl fl_X11_156 dX11_pew_55 ?_
            refine g_iload_n K1 1 dX11_pew_58 rfl ?_
            obtain ⟨hg, h⟩ := h
            refine h_iaload K1 lyp_15 hg dX11_pew_59 ?_
            obtain ⟨hr, hI, hL⟩ := h
            subst hr hI hL
            exact g_ireturn K rfl dX11_pew_60
          · replace h := h.1 hc
            refine g_aload_n K1 0 dX11_pew_39 rfl ?_
            refine h_getO K1 q_clX11 5 12 lyp_0 fkX11_5 rfl fl_X11_35 dX11_pew_40 ?_
            refine h_getO K1 q_clX5 9 14 lyp_12 fkX5_9 rfl fl_X11_153 dX11_pew_43 ?_
            refine g_iload_n K1 1 dX11_pew_46 rfl ?_
            obtain ⟨hg, h⟩ := h
            refine h_iaload K1 lyp_14 hg dX11_pew_47 ?_
            refine g_goto K1 60 dX11_pew_48 rfl ?_
            obtain ⟨hr, hI, hL⟩ := h
            subst hr hI hL
            exact g_ireturn K rfl dX11_pew_60
        · replace h := h.1 hc
          refine g_aload_n K1 0 dX11_pew_24 rfl ?_
          refine h_getO K1 q_clX11 5 12 lyp_0 fkX11_5 rfl fl_X11_35 dX11_pew_25 ?_
          refine h_getO K1 q_clX5 8 13 lyp_12 fkX5_8 rfl fl_X11_149 dX11_pew_28 ?_
          refine g_iload_n K1 1 dX11_pew_31 rfl ?_
          obtain ⟨hg, h⟩ := h
          refine h_iaload K1 lyp_13 hg dX11_pew_32 ?_
          obtain ⟨hr, hI, hL⟩ := h
          subst hr hI hL
          exact g_ireturn K rfl dX11_pew_33
      · replace h := h.2 hc
        refine g_bipush K1 (-2) dX11_pew_17 rfl ?_
        obtain ⟨hr, hI, hL⟩ := h
        subst hr hI hL
        exact g_ireturn K rfl dX11_pew_19
theorem c0_X11_pew {r : Option Value} {I I' : Nat → Nat → Int32} {L L' : Nat → Nat → Int64} {x1 : Int32} {x2 : Int32} (h : v_X11_pew_0 r I' L' I L x1 x2) : q_C kX11_pew [.ref 0, .int x1, .int x2] I L r I' L' := fun w l => q_ct (by decide) (Nat.le_of_ble_eq_true rfl) (Nat.le_refl _) (fun g _ K => h w g K)
abbrev v_X11_putBytes_0 (r : Option Value) (I' : Nat → Nat → Int32) (L' : Nat → Nat → Int64) (I : Nat → Nat → Int32) (L : Nat → Nat → Int64) (x1 : Int32) : Prop := q_W kX11_putBytes 0 [(0, .ref 0), (1, .int x1)] [] I L r I' L'
abbrev v_X11_putBytes_3 (r : Option Value) (I' : Nat → Nat → Int32) (L' : Nat → Nat → Int64) (I : Nat → Nat → Int32) (L : Nat → Nat → Int64) (x1 : Int32) (x2 : Int32) : Prop := q_W kX11_putBytes 3 [(0, .ref 0), (1, .int x1), (2, .int x2)] [] I L r I' L'
set_option maxRecDepth 20000 in
set_option maxHeartbeats 2000000 in
theorem vc_X11_putBytes_0 {r : Option Value} {I' : Nat → Nat → Int32} {L' : Nat → Nat → Int64} {I : Nat → Nat → Int32} {L : Nat → Nat → Int64} {x1 : Int32} (h : (v_X11_putBytes_3 r I' L' I L x1 24)) : v_X11_putBytes_0 r I' L' I L x1 := by
  intro w g K
  have K1 := K.1
  refine g_bipush K1 24 dX11_putBytes_0 rfl ?_
  refine g_istore_n K1 dX11_putBytes_2 rfl (by decide) rfl ?_
  exact g_perm [1, 2, 0] rfl (h w g K)
set_option maxRecDepth 20000 in
set_option maxHeartbeats 2000000 in
theorem vc_X11_putBytes_3 {r : Option Value} {I' : Nat → Nat → Int32} {L' : Nat → Nat → Int64} {I : Nat → Nat → Int32} {L : Nat → Nat → Int64} {x1 : Int32} {x2 : Int32} (h : ((x2 < 0 → (r = none ∧ I' = I ∧ L' = L)) ∧ (¬ x2 < 0 → (vp_in (I 0 1) 600 ∧ ∀ I1, I1 = (up2 I 1 ((I 0 1) : Int32).toNatClampNeg (((x1 >>> (x2 &&& 31)) : Int32).toInt8.toInt32 : Int32).toInt8.toInt32) → (v_X11_putBytes_3 r I' L' (up2 I1 0 1 ((I1 0 1) + 1)) L x1 (x2 + (-8))))))) : v_X11_putBytes_3 r I' L' I L x1 x2 := by
  intro w g K
  have K1 := K.1
  refine g_iload_n K1 2 dX11_putBytes_3 rfl ?_
  refine g_if_lt K1 36 dX11_putBytes_4 rfl (fun hc => ?_) (fun hc => ?_)
  · replace h := h.1 hc
    obtain ⟨hr, hI, hL⟩ := h
    subst hr hI hL
    exact g_vreturn K rfl dX11_putBytes_36
  · replace h := h.2 hc
    refine g_aload_n K1 0 dX11_putBytes_7 rfl ?_
    refine h_getO K1 q_clX11 0 1 lyp_0 fkX11_0 rfl fl_X11_9 dX11_putBytes_8 ?_
    refine g_aload_n K1 0 dX11_putBytes_11 rfl ?_
    refine h_getI K1 q_clX11 1 lyp_0 fkX11_1 fl_X11_13 dX11_putBytes_12 ?_
    refine g_iload_n K1 1 dX11_putBytes_15 rfl ?_
    refine g_iload_n K1 2 dX11_putBytes_16 rfl ?_
    refine g_ishr K1 dX11_putBytes_17 ?_
    refine g_i2b K1 dX11_putBytes_18 ?_
    obtain ⟨hg, h⟩ := h
    refine h_bastore K1 lyp_1 hg dX11_putBytes_19 ?_
    refine g_nameMI (fun I1 hI1 => ?_)
    replace h := h I1 hI1
    refine g_aload_n K1 0 dX11_putBytes_20 rfl ?_
    refine g_dup K1 dX11_putBytes_21 rfl ?_
    refine h_getI K1 q_clX11 1 lyp_0 fkX11_1 fl_X11_13 dX11_putBytes_22 ?_
    refine g_iconst K1 1 dX11_putBytes_25 rfl ?_
    refine g_iadd K1 dX11_putBytes_26 ?_
    refine h_putI K1 q_clX11 1 lyp_0 fkX11_1 fl_X11_13 rfl rfl rfl dX11_putBytes_27 ?_
    refine g_iinc K1 (x2 + (-8)) 2 dX11_putBytes_30 rfl rfl (by decide) rfl ?_
    refine g_goto K1 3 dX11_putBytes_33 rfl ?_
    exact g_perm [1, 2, 0] rfl (h w g K)
theorem c0_X11_putBytes {r : Option Value} {I I' : Nat → Nat → Int32} {L L' : Nat → Nat → Int64} {x1 : Int32} (h : v_X11_putBytes_0 r I' L' I L x1) : q_C kX11_putBytes [.ref 0, .int x1] I L r I' L' := fun w l => q_ct (by decide) (Nat.le_of_ble_eq_true rfl) (Nat.le_refl _) (fun g _ K => h w g K)
abbrev v_X11_rector_0 (r : Option Value) (I' : Nat → Nat → Int32) (L' : Nat → Nat → Int64) (I : Nat → Nat → Int32) (L : Nat → Nat → Int64)  : Prop := q_W kX11_rector 0 [(0, .ref 0)] [] I L r I' L'
set_option maxRecDepth 20000 in
set_option maxHeartbeats 2000000 in
theorem vc_X11_rector_0 {r : Option Value} {I' : Nat → Nat → Int32} {L' : Nat → Nat → Int64} {I : Nat → Nat → Int32} {L : Nat → Nat → Int64}  (h : (((I 12 4) = 0 → (r = some (.int (-1000)) ∧ I' = I ∧ L' = L)) ∧ (¬ (I 12 4) = 0 → (∃ I1, q_C kX10_chooseOpening [.ref 87] I L none I1 L ∧ (r = some (.int (I1 87 0)) ∧ I' = I1 ∧ L' = L))))) : v_X11_rector_0 r I' L' I L  := by
  intro w g K
  have K1 := K.1
  refine g_aload_n K1 0 dX11_rector_0 rfl ?_
  refine h_getO K1 q_clX11 5 12 lyp_0 fkX11_5 rfl fl_X11_35 dX11_rector_1 ?_
  refine h_getI K1 q_clX5 4 lyp_12 fkX5_4 fl_X11_214 dX11_rector_4 ?_
  refine g_if_ne K1 14 dX11_rector_7 rfl (fun hc => ?_) (fun hc => ?_)
  · replace h := h.2 hc
    refine g_aload_n K1 0 dX11_rector_14 rfl ?_
    refine h_getO K1 q_clX11 13 87 lyp_0 fkX11_13 rfl fl_X11_82 dX11_rector_15 ?_
    obtain ⟨I1, hct, h⟩ := h
    refine h_callV K1 (st := []) [] (hct w (gl g)) q_clX10 lyp_87 rfl ok_X10_chooseOpening ml_X11_336 ⟨Nat.le_of_ble_eq_true rfl, Nat.le_of_ble_eq_true rfl⟩ (Nat.le_of_ble_eq_true rfl) dX11_rector_18 ?_
    show q_Gs w g 21 [(0, .ref 0)] [] (q_mm I1 L)
    refine g_aload_n K1 0 dX11_rector_21 rfl ?_
    refine h_getO K1 q_clX11 13 87 lyp_0 fkX11_13 rfl fl_X11_82 dX11_rector_22 ?_
    refine h_getI K1 q_clX10 0 lyp_87 fkX10_0 fl_X11_339 dX11_rector_25 ?_
    obtain ⟨hr, hI, hL⟩ := h
    subst hr hI hL
    exact g_ireturn K rfl dX11_rector_28
  · replace h := h.1 hc
    refine g_sipush K1 (-1000) dX11_rector_10 rfl ?_
    obtain ⟨hr, hI, hL⟩ := h
    subst hr hI hL
    exact g_ireturn K rfl dX11_rector_13
theorem c0_X11_rector {r : Option Value} {I I' : Nat → Nat → Int32} {L L' : Nat → Nat → Int64}  (h : v_X11_rector_0 r I' L' I L ) : q_C kX11_rector [.ref 0] I L r I' L' := fun w l => q_ct (by decide) (Nat.le_of_ble_eq_true rfl) (Nat.le_refl _) (fun g _ K => h w g K)
abbrev v_X11_replies_0 (r : Option Value) (I' : Nat → Nat → Int32) (L' : Nat → Nat → Int64) (I : Nat → Nat → Int32) (L : Nat → Nat → Int64) (x1 : Int32) : Prop := q_W kX11_replies 0 [(0, .ref 0), (1, .int x1)] [] I L r I' L'
set_option maxRecDepth 20000 in
set_option maxHeartbeats 2000000 in
theorem vc_X11_replies_0 {r : Option Value} {I' : Nat → Nat → Int32} {L' : Nat → Nat → Int64} {I : Nat → Nat → Int32} {L : Nat → Nat → Int64} {x1 : Int32} (h : (∃ r1, q_C kX11_noPew [.ref 0, .int x1] I L (some (.int r1)) I L ∧ ((r1 = 0 → (∃ I2, q_C kX10_chooseReply [.ref 87, .int x1] I L none I2 L ∧ (r = some (.int (I2 87 2)) ∧ I' = I2 ∧ L' = L))) ∧ (¬ r1 = 0 → (r = some (.int (-2)) ∧ I' = I ∧ L' = L))))) : v_X11_replies_0 r I' L' I L x1 := by
  intro w g K
  have K1 := K.1
  refine g_aload_n K1 0 dX11_replies_0 rfl ?_
  refine g_iload_n K1 1 dX11_replies_1 rfl ?_
  obtain ⟨r1, hct, h⟩ := h
  refine h_callV K1 (st := []) [.int x1] (hct w (gl g)) q_clX11 lyp_0 rfl ok_X11_noPew ml_X11_145 ⟨Nat.le_of_ble_eq_true rfl, Nat.le_of_ble_eq_true rfl⟩ (Nat.le_of_ble_eq_true rfl) dX11_replies_2 ?_
  show q_Gs w g 5 [(0, .ref 0), (1, .int x1)] [.int r1] (q_mm I L)
  refine g_if_eq K1 11 dX11_replies_5 rfl (fun hc => ?_) (fun hc => ?_)
  · replace h := h.1 hc
    refine g_aload_n K1 0 dX11_replies_11 rfl ?_
    refine h_getO K1 q_clX11 13 87 lyp_0 fkX11_13 rfl fl_X11_82 dX11_replies_12 ?_
    refine g_iload_n K1 1 dX11_replies_15 rfl ?_
    obtain ⟨I2, hct, h⟩ := h
    refine h_callV K1 (st := []) [.int x1] (hct w (gl g)) q_clX10 lyp_87 rfl ok_X10_chooseReply ml_X11_345 ⟨Nat.le_of_ble_eq_true rfl, Nat.le_of_ble_eq_true rfl⟩ (Nat.le_of_ble_eq_true rfl) dX11_replies_16 ?_
    show q_Gs w g 19 [(0, .ref 0), (1, .int x1)] [] (q_mm I2 L)
    refine g_aload_n K1 0 dX11_replies_19 rfl ?_
    refine h_getO K1 q_clX11 13 87 lyp_0 fkX11_13 rfl fl_X11_82 dX11_replies_20 ?_
    refine h_getI K1 q_clX10 2 lyp_87 fkX10_2 fl_X11_348 dX11_replies_23 ?_
    obtain ⟨hr, hI, hL⟩ := h
    subst hr hI hL
    exact g_ireturn K rfl dX11_replies_26
  · replace h := h.2 hc
    refine g_bipush K1 (-2) dX11_replies_8 rfl ?_
    obtain ⟨hr, hI, hL⟩ := h
    subst hr hI hL
    exact g_ireturn K rfl dX11_replies_10
theorem c0_X11_replies {r : Option Value} {I I' : Nat → Nat → Int32} {L L' : Nat → Nat → Int64} {x1 : Int32} (h : v_X11_replies_0 r I' L' I L x1) : q_C kX11_replies [.ref 0, .int x1] I L r I' L' := fun w l => q_ct (by decide) (Nat.le_of_ble_eq_true rfl) (Nat.le_refl _) (fun g _ K => h w g K)
abbrev v_X11_rests_0 (r : Option Value) (I' : Nat → Nat → Int32) (L' : Nat → Nat → Int64) (I : Nat → Nat → Int32) (L : Nat → Nat → Int64) (x1 : Int32) (x2 : Int32) : Prop := q_W kX11_rests 0 [(0, .ref 0), (1, .int x1), (2, .int x2)] [] I L r I' L'
abbrev v_X11_rests_29 (r : Option Value) (I' : Nat → Nat → Int32) (L' : Nat → Nat → Int64) (I : Nat → Nat → Int32) (L : Nat → Nat → Int64) (x1 : Int32) (x2 : Int32) (x3 : Int32) (x4 : Int32) : Prop := q_W kX11_rests 29 [(0, .ref 0), (1, .int x1), (2, .int x2), (3, .int x3), (4, .int x4)] [] I L r I' L'
abbrev v_X11_rests_38 (r : Option Value) (I' : Nat → Nat → Int32) (L' : Nat → Nat → Int64) (I : Nat → Nat → Int32) (L : Nat → Nat → Int64) (x1 : Int32) (x2 : Int32) (x3 : Int32) (x4 : Int32) (x5 : Int32) : Prop := q_W kX11_rests 38 [(0, .ref 0), (1, .int x1), (2, .int x2), (3, .int x3), (4, .int x4), (5, .int x5)] [] I L r I' L'
abbrev v_X11_rests_80 (r : Option Value) (I' : Nat → Nat → Int32) (L' : Nat → Nat → Int64) (I : Nat → Nat → Int32) (L : Nat → Nat → Int64) (x1 : Int32) (x2 : Int32) (x3 : Int32) (x4 : Int32) (x5 : Int32) (s0 : Int32) : Prop := q_W kX11_rests 80 [(0, .ref 0), (1, .int x1), (2, .int x2), (3, .int x3), (4, .int x4), (5, .int x5)] [.int s0] I L r I' L'
abbrev v_X11_rests_118 (r : Option Value) (I' : Nat → Nat → Int32) (L' : Nat → Nat → Int64) (I : Nat → Nat → Int32) (L : Nat → Nat → Int64) (x1 : Int32) (x2 : Int32) (x3 : Int32) (x4 : Int32) (x5 : Int32) (x6 : Int32) (s0 : Int32) : Prop := q_W kX11_rests 118 [(0, .ref 0), (1, .int x1), (2, .int x2), (3, .int x3), (4, .int x4), (5, .int x5), (6, .int x6)] [.int s0] I L r I' L'
set_option maxRecDepth 20000 in
set_option maxHeartbeats 2000000 in
theorem vc_X11_rests_0 {r : Option Value} {I' : Nat → Nat → Int32} {L' : Nat → Nat → Int64} {I : Nat → Nat → Int32} {L : Nat → Nat → Int64} {x1 : Int32} {x2 : Int32} (h : (∃ r1, q_C kX11_noPew [.ref 0, .int x1] I L (some (.int r1)) I L ∧ ((r1 = 0 → (∃ r2, q_C kX11_noPew [.ref 0, .int x2] I L (some (.int r2)) I L ∧ ((r2 = 0 → ((x1 = x2 → (r = some (.int (-2)) ∧ I' = I ∧ L' = L)) ∧ (¬ x1 = x2 → (v_X11_rests_29 r I' L' I L x1 x2 0 0)))) ∧ (¬ r2 = 0 → (r = some (.int (-2)) ∧ I' = I ∧ L' = L))))) ∧ (¬ r1 = 0 → (r = some (.int (-2)) ∧ I' = I ∧ L' = L))))) : v_X11_rests_0 r I' L' I L x1 x2 := by
  intro w g K
  have K1 := K.1
  refine g_aload_n K1 0 dX11_rests_0 rfl ?_
  refine g_iload_n K1 1 dX11_rests_1 rfl ?_
  obtain ⟨r1, hct, h⟩ := h
  refine h_callV K1 (st := []) [.int x1] (hct w (gl g)) q_clX11 lyp_0 rfl ok_X11_noPew ml_X11_145 ⟨Nat.le_of_ble_eq_true rfl, Nat.le_of_ble_eq_true rfl⟩ (Nat.le_of_ble_eq_true rfl) dX11_rests_2 ?_
  show q_Gs w g 5 [(0, .ref 0), (1, .int x1), (2, .int x2)] [.int r1] (q_mm I L)
  refine g_if_ne K1 21 dX11_rests_5 rfl (fun hc => ?_) (fun hc => ?_)
  · replace h := h.2 hc
    refine g_bipush K1 (-2) dX11_rests_21 rfl ?_
    obtain ⟨hr, hI, hL⟩ := h
    subst hr hI hL
    exact g_ireturn K rfl dX11_rests_23
  · replace h := h.1 hc
    refine g_aload_n K1 0 dX11_rests_8 rfl ?_
    refine g_iload_n K1 2 dX11_rests_9 rfl ?_
    obtain ⟨r2, hct, h⟩ := h
    refine h_callV K1 (st := []) [.int x2] (hct w (gl g)) q_clX11 lyp_0 rfl ok_X11_noPew ml_X11_145 ⟨Nat.le_of_ble_eq_true rfl, Nat.le_of_ble_eq_true rfl⟩ (Nat.le_of_ble_eq_true rfl) dX11_rests_10 ?_
    show q_Gs w g 13 [(0, .ref 0), (1, .int x1), (2, .int x2)] [.int r2] (q_mm I L)
    refine g_if_ne K1 21 dX11_rests_13 rfl (fun hc => ?_) (fun hc => ?_)
    · replace h := h.2 hc
      refine g_bipush K1 (-2) dX11_rests_21 rfl ?_
      obtain ⟨hr, hI, hL⟩ := h
      subst hr hI hL
      exact g_ireturn K rfl dX11_rests_23
    · replace h := h.1 hc
      refine g_iload_n K1 1 dX11_rests_16 rfl ?_
      refine g_iload_n K1 2 dX11_rests_17 rfl ?_
      refine g_icmp_ne K1 24 dX11_rests_18 rfl (fun hc => ?_) (fun hc => ?_)
      · replace h := h.2 hc
        refine g_iconst K1 0 dX11_rests_24 rfl ?_
        refine g_istore_n K1 dX11_rests_25 rfl (by decide) rfl ?_
        refine g_iconst K1 0 dX11_rests_26 rfl ?_
        refine g_istore K1 dX11_rests_27 (by decide) rfl ?_
        exact g_perm [2, 3, 4, 1, 0] rfl (h w g K)
      · replace h := h.1 hc
        refine g_bipush K1 (-2) dX11_rests_21 rfl ?_
        obtain ⟨hr, hI, hL⟩ := h
        subst hr hI hL
        exact g_ireturn K rfl dX11_rests_23
set_option maxRecDepth 20000 in
set_option maxHeartbeats 2000000 in
theorem vc_X11_rests_29 {r : Option Value} {I' : Nat → Nat → Int32} {L' : Nat → Nat → Int64} {I : Nat → Nat → Int32} {L : Nat → Nat → Int64} {x1 : Int32} {x2 : Int32} {x3 : Int32} {x4 : Int32} (h : ((1 < x4 → (r = some (.int x3) ∧ I' = I ∧ L' = L)) ∧ (¬ 1 < x4 → (v_X11_rests_38 r I' L' I L x1 x2 x3 x4 0)))) : v_X11_rests_29 r I' L' I L x1 x2 x3 x4 := by
  intro w g K
  have K1 := K.1
  refine g_iload K1 4 dX11_rests_29 rfl ?_
  refine g_iconst K1 1 dX11_rests_31 rfl ?_
  refine g_icmp_gt K1 154 dX11_rests_32 rfl (fun hc => ?_) (fun hc => ?_)
  · replace h := h.1 hc
    refine g_iload_n K1 3 dX11_rests_154 rfl ?_
    obtain ⟨hr, hI, hL⟩ := h
    subst hr hI hL
    exact g_ireturn K rfl dX11_rests_155
  · replace h := h.2 hc
    refine g_iconst K1 0 dX11_rests_35 rfl ?_
    refine g_istore K1 dX11_rests_36 (by decide) rfl ?_
    exact g_perm [1, 2, 3, 4, 5, 0] rfl (h w g K)
set_option maxRecDepth 20000 in
set_option maxHeartbeats 2000000 in
theorem vc_X11_rests_38 {r : Option Value} {I' : Nat → Nat → Int32} {L' : Nat → Nat → Int64} {I : Nat → Nat → Int32} {L : Nat → Nat → Int64} {x1 : Int32} {x2 : Int32} {x3 : Int32} {x4 : Int32} {x5 : Int32} (h : ((1 < x5 → (v_X11_rests_29 r I' L' I L x1 x2 x3 (x4 + 1))) ∧ (¬ 1 < x5 → (∃ r1 I2, q_C kX10_gain [.ref 87, .int x1, .int x2, .int x5, .int x4] I L (some (.int r1)) I2 L ∧ (∃ r3 I4, q_C kX10_gain [.ref 87, .int x1, .int x2, .int (1 - x5), .int x4] I2 L (some (.int r3)) I4 L ∧ ((r1 < r3 → (v_X11_rests_80 r I' L' I4 L x1 x2 x3 x4 x5 0)) ∧ (¬ r1 < r3 → (v_X11_rests_80 r I' L' I4 L x1 x2 x3 x4 x5 1)))))))) : v_X11_rests_38 r I' L' I L x1 x2 x3 x4 x5 := by
  intro w g K
  have K1 := K.1
  refine g_iload K1 5 dX11_rests_38 rfl ?_
  refine g_iconst K1 1 dX11_rests_40 rfl ?_
  refine g_icmp_gt K1 148 dX11_rests_41 rfl (fun hc => ?_) (fun hc => ?_)
  · replace h := h.1 hc
    refine g_iinc K1 (x4 + 1) 4 dX11_rests_148 rfl rfl (by decide) rfl ?_
    refine g_goto K1 29 dX11_rests_151 rfl ?_
    exact g_perm [1, 2, 3, 4, 0] rfl (h w g K)
  · replace h := h.2 hc
    refine g_aload_n K1 0 dX11_rests_44 rfl ?_
    refine h_getO K1 q_clX11 13 87 lyp_0 fkX11_13 rfl fl_X11_82 dX11_rests_45 ?_
    refine g_iload_n K1 1 dX11_rests_48 rfl ?_
    refine g_iload_n K1 2 dX11_rests_49 rfl ?_
    refine g_iload K1 5 dX11_rests_50 rfl ?_
    refine g_iload K1 4 dX11_rests_52 rfl ?_
    obtain ⟨r1, I2, hct, h⟩ := h
    refine h_callV K1 (st := []) [.int x1, .int x2, .int x5, .int x4] (hct w (gl g)) q_clX10 lyp_87 rfl ok_X10_gain ml_X11_351 ⟨Nat.le_of_ble_eq_true rfl, Nat.le_of_ble_eq_true rfl⟩ (Nat.le_of_ble_eq_true rfl) dX11_rests_54 ?_
    show q_Gs w g 57 [(0, .ref 0), (1, .int x1), (2, .int x2), (3, .int x3), (4, .int x4), (5, .int x5)] [.int r1] (q_mm I2 L)
    refine g_aload_n K1 0 dX11_rests_57 rfl ?_
    refine h_getO K1 q_clX11 13 87 lyp_0 fkX11_13 rfl fl_X11_82 dX11_rests_58 ?_
    refine g_iload_n K1 1 dX11_rests_61 rfl ?_
    refine g_iload_n K1 2 dX11_rests_62 rfl ?_
    refine g_iconst K1 1 dX11_rests_63 rfl ?_
    refine g_iload K1 5 dX11_rests_64 rfl ?_
    refine g_isub K1 dX11_rests_66 ?_
    refine g_iload K1 4 dX11_rests_67 rfl ?_
    obtain ⟨r3, I4, hct, h⟩ := h
    refine h_callV K1 (st := [.int r1]) [.int x1, .int x2, .int (1 - x5), .int x4] (hct w (gl g)) q_clX10 lyp_87 rfl ok_X10_gain ml_X11_351 ⟨Nat.le_of_ble_eq_true rfl, Nat.le_of_ble_eq_true rfl⟩ (Nat.le_of_ble_eq_true rfl) dX11_rests_69 ?_
    show q_Gs w g 72 [(0, .ref 0), (1, .int x1), (2, .int x2), (3, .int x3), (4, .int x4), (5, .int x5)] [.int r3, .int r1] (q_mm I4 L)
    refine g_icmp_lt K1 79 dX11_rests_72 rfl (fun hc => ?_) (fun hc => ?_)
    · replace h := h.1 hc
      refine g_iconst K1 0 dX11_rests_79 rfl ?_
      exact g_perm [0, 1, 2, 3, 4, 5] rfl (h w g K)
    · replace h := h.2 hc
      refine g_iconst K1 1 dX11_rests_75 rfl ?_
      refine g_goto K1 80 dX11_rests_76 rfl ?_
      exact g_perm [0, 1, 2, 3, 4, 5] rfl (h w g K)
set_option maxRecDepth 20000 in
set_option maxHeartbeats 2000000 in
theorem vc_X11_rests_80 {r : Option Value} {I' : Nat → Nat → Int32} {L' : Nat → Nat → Int64} {I : Nat → Nat → Int32} {L : Nat → Nat → Int64} {x1 : Int32} {x2 : Int32} {x3 : Int32} {x4 : Int32} {x5 : Int32} {s0 : Int32} (h : (∃ r1 I2, q_C kX10_gain [.ref 87, .int x2, .int x1, .int x4, .int x5] I L (some (.int r1)) I2 L ∧ (∃ r3 I4, q_C kX10_gain [.ref 87, .int x2, .int x1, .int (1 - x4), .int x5] I2 L (some (.int r3)) I4 L ∧ ((r1 < r3 → (v_X11_rests_118 r I' L' I4 L x1 x2 x3 x4 x5 s0 0)) ∧ (¬ r1 < r3 → (v_X11_rests_118 r I' L' I4 L x1 x2 x3 x4 x5 s0 1)))))) : v_X11_rests_80 r I' L' I L x1 x2 x3 x4 x5 s0 := by
  intro w g K
  have K1 := K.1
  refine g_istore K1 dX11_rests_80 (by decide) rfl ?_
  refine g_aload_n K1 1 dX11_rests_82 rfl ?_
  refine h_getO K1 q_clX11 13 87 lyp_0 fkX11_13 rfl fl_X11_82 dX11_rests_83 ?_
  refine g_iload_n K1 3 dX11_rests_86 rfl ?_
  refine g_iload_n K1 2 dX11_rests_87 rfl ?_
  refine g_iload K1 5 dX11_rests_88 rfl ?_
  refine g_iload K1 6 dX11_rests_90 rfl ?_
  obtain ⟨r1, I2, hct, h⟩ := h
  refine h_callV K1 (st := []) [.int x2, .int x1, .int x4, .int x5] (hct w (gl g)) q_clX10 lyp_87 rfl ok_X10_gain ml_X11_351 ⟨Nat.le_of_ble_eq_true rfl, Nat.le_of_ble_eq_true rfl⟩ (Nat.le_of_ble_eq_true rfl) dX11_rests_92 ?_
  show q_Gs w g 95 [(6, .int s0), (0, .ref 0), (1, .int x1), (2, .int x2), (3, .int x3), (4, .int x4), (5, .int x5)] [.int r1] (q_mm I2 L)
  refine g_aload_n K1 1 dX11_rests_95 rfl ?_
  refine h_getO K1 q_clX11 13 87 lyp_0 fkX11_13 rfl fl_X11_82 dX11_rests_96 ?_
  refine g_iload_n K1 3 dX11_rests_99 rfl ?_
  refine g_iload_n K1 2 dX11_rests_100 rfl ?_
  refine g_iconst K1 1 dX11_rests_101 rfl ?_
  refine g_iload K1 5 dX11_rests_102 rfl ?_
  refine g_isub K1 dX11_rests_104 ?_
  refine g_iload K1 6 dX11_rests_105 rfl ?_
  obtain ⟨r3, I4, hct, h⟩ := h
  refine h_callV K1 (st := [.int r1]) [.int x2, .int x1, .int (1 - x4), .int x5] (hct w (gl g)) q_clX10 lyp_87 rfl ok_X10_gain ml_X11_351 ⟨Nat.le_of_ble_eq_true rfl, Nat.le_of_ble_eq_true rfl⟩ (Nat.le_of_ble_eq_true rfl) dX11_rests_107 ?_
  show q_Gs w g 110 [(6, .int s0), (0, .ref 0), (1, .int x1), (2, .int x2), (3, .int x3), (4, .int x4), (5, .int x5)] [.int r3, .int r1] (q_mm I4 L)
  refine g_icmp_lt K1 117 dX11_rests_110 rfl (fun hc => ?_) (fun hc => ?_)
  · replace h := h.1 hc
    refine g_iconst K1 0 dX11_rests_117 rfl ?_
    exact g_perm [1, 2, 3, 4, 5, 6, 0] rfl (h w g K)
  · replace h := h.2 hc
    refine g_iconst K1 1 dX11_rests_113 rfl ?_
    refine g_goto K1 118 dX11_rests_114 rfl ?_
    exact g_perm [1, 2, 3, 4, 5, 6, 0] rfl (h w g K)
set_option maxRecDepth 20000 in
set_option maxHeartbeats 2000000 in
theorem vc_X11_rests_118 {r : Option Value} {I' : Nat → Nat → Int32} {L' : Nat → Nat → Int64} {I : Nat → Nat → Int32} {L : Nat → Nat → Int64} {x1 : Int32} {x2 : Int32} {x3 : Int32} {x4 : Int32} {x5 : Int32} {x6 : Int32} {s0 : Int32} (h : ((x6 = 0 → (v_X11_rests_38 r I' L' I L x1 x2 x3 x4 (x5 + 1))) ∧ (¬ x6 = 0 → ((s0 = 0 → (v_X11_rests_38 r I' L' I L x1 x2 x3 x4 (x5 + 1))) ∧ (¬ s0 = 0 → ∀ z1 : Int32, z1 = (x3 ||| ((1 : Int32) <<< ((x5 + (2 * x4)) &&& 31))) → (v_X11_rests_38 r I' L' I L x1 x2 z1 x4 (x5 + 1))))))) : v_X11_rests_118 r I' L' I L x1 x2 x3 x4 x5 x6 s0 := by
  intro w g K
  have K1 := K.1
  refine g_istore K1 dX11_rests_118 (by decide) rfl ?_
  refine g_iload K1 7 dX11_rests_120 rfl ?_
  refine g_if_eq K1 142 dX11_rests_122 rfl (fun hc => ?_) (fun hc => ?_)
  · replace h := h.1 hc
    refine g_iinc K1 (x5 + 1) 6 dX11_rests_142 rfl rfl (by decide) rfl ?_
    refine g_goto K1 38 dX11_rests_145 rfl ?_
    exact g_perm [2, 3, 4, 5, 6, 0] rfl (h w g K)
  · replace h := h.2 hc
    refine g_iload K1 0 dX11_rests_125 rfl ?_
    refine g_if_eq K1 142 dX11_rests_127 rfl (fun hc => ?_) (fun hc => ?_)
    · replace h := h.1 hc
      refine g_iinc K1 (x5 + 1) 6 dX11_rests_142 rfl rfl (by decide) rfl ?_
      refine g_goto K1 38 dX11_rests_145 rfl ?_
      exact g_perm [2, 3, 4, 5, 6, 0] rfl (h w g K)
    · replace h := h.2 hc
      refine g_iload_n K1 4 dX11_rests_130 rfl ?_
      refine g_iconst K1 1 dX11_rests_131 rfl ?_
      refine g_iload K1 6 dX11_rests_132 rfl ?_
      refine g_iconst K1 2 dX11_rests_134 rfl ?_
      refine g_iload K1 5 dX11_rests_135 rfl ?_
      refine g_imul K1 dX11_rests_137 ?_
      refine g_iadd K1 dX11_rests_138 ?_
      refine g_ishl K1 dX11_rests_139 ?_
      refine g_ior K1 dX11_rests_140 ?_
      refine g_nameI (fun z1 hz1 => ?_)
      replace h := h z1 hz1
      refine g_istore_n K1 dX11_rests_141 rfl (by decide) rfl ?_
      refine g_iinc K1 (x5 + 1) 6 dX11_rests_142 rfl rfl (by decide) rfl ?_
      refine g_goto K1 38 dX11_rests_145 rfl ?_
      exact g_perm [3, 4, 5, 1, 6, 0] rfl (h w g K)
theorem c0_X11_rests {r : Option Value} {I I' : Nat → Nat → Int32} {L L' : Nat → Nat → Int64} {x1 : Int32} {x2 : Int32} (h : v_X11_rests_0 r I' L' I L x1 x2) : q_C kX11_rests [.ref 0, .int x1, .int x2] I L r I' L' := fun w l => q_ct (by decide) (Nat.le_of_ble_eq_true rfl) (Nat.le_refl _) (fun g _ K => h w g K)
abbrev v_X11_round_0 (r : Option Value) (I' : Nat → Nat → Int32) (L' : Nat → Nat → Int64) (I : Nat → Nat → Int32) (L : Nat → Nat → Int64) (x1 : Int32) (x2 : Int32) (x3 : Int32) : Prop := q_W kX11_round 0 [(0, .ref 0), (1, .int x1), (2, .int x2), (3, .int x3)] [] I L r I' L'
abbrev v_X11_round_34 (r : Option Value) (I' : Nat → Nat → Int32) (L' : Nat → Nat → Int64) (I : Nat → Nat → Int32) (L : Nat → Nat → Int64) (x2 : Int32) (x3 : Int32) (x5 : Int32) (x6 : Int32) (x7 : Int32) : Prop := q_W kX11_round 34 [(0, .ref 0), (2, .int x2), (3, .int x3), (5, .int x5), (6, .int x6), (7, .int x7)] [] I L r I' L'
set_option maxRecDepth 20000 in
set_option maxHeartbeats 2000000 in
theorem vc_X11_round_0 {r : Option Value} {I' : Nat → Nat → Int32} {L' : Nat → Nat → Int64} {I : Nat → Nat → Int32} {L : Nat → Nat → Int64} {x1 : Int32} {x2 : Int32} {x3 : Int32} (h : (∃ r1, q_C kX11_hearingRefusal [.ref 0, .int x1, .int x2, .int x3] I L (some (.int r1)) I L ∧ ((r1 = 0 → (∃ r2, q_C kX9_saying [.ref 25, .int x1] I L (some (.int r2)) I L ∧ (v_X11_round_34 r I' L' I L x2 x3 r2 r2 1))) ∧ (¬ r1 = 0 → (r = some (.int r1) ∧ I' = I ∧ L' = L))))) : v_X11_round_0 r I' L' I L x1 x2 x3 := by
  intro w g K
  have K1 := K.1
  refine g_aload_n K1 0 dX11_round_0 rfl ?_
  refine g_iload_n K1 1 dX11_round_1 rfl ?_
  refine g_iload_n K1 2 dX11_round_2 rfl ?_
  refine g_iload_n K1 3 dX11_round_3 rfl ?_
  obtain ⟨r1, hct, h⟩ := h
  refine h_callV K1 (st := []) [.int x1, .int x2, .int x3] (hct w (gl g)) q_clX11 lyp_0 rfl ok_X11_hearingRefusal ml_X11_244 ⟨Nat.le_of_ble_eq_true rfl, Nat.le_of_ble_eq_true rfl⟩ (Nat.le_of_ble_eq_true rfl) dX11_round_4 ?_
  show q_Gs w g 7 [(0, .ref 0), (1, .int x1), (2, .int x2), (3, .int x3)] [.int r1] (q_mm I L)
  refine g_istore K1 dX11_round_7 (by decide) rfl ?_
  refine g_iload K1 0 dX11_round_9 rfl ?_
  refine g_if_eq K1 17 dX11_round_11 rfl (fun hc => ?_) (fun hc => ?_)
  · replace h := h.1 hc
    refine g_aload_n K1 1 dX11_round_17 rfl ?_
    refine h_getO K1 q_clX11 7 25 lyp_0 fkX11_7 rfl fl_X11_49 dX11_round_18 ?_
    refine g_iload_n K1 2 dX11_round_21 rfl ?_
    obtain ⟨r2, hct, h⟩ := h
    refine h_callV K1 (st := []) [.int x1] (hct w (gl g)) q_clX9 lyp_25 rfl ok_X9_saying ml_X11_248 ⟨Nat.le_of_ble_eq_true rfl, Nat.le_of_ble_eq_true rfl⟩ (Nat.le_of_ble_eq_true rfl) dX11_round_22 ?_
    show q_Gs w g 25 [(4, .int r1), (0, .ref 0), (1, .int x1), (2, .int x2), (3, .int x3)] [.int r2] (q_mm I L)
    refine g_istore K1 dX11_round_25 (by decide) rfl ?_
    refine g_iload K1 0 dX11_round_27 rfl ?_
    refine g_istore K1 dX11_round_29 (by decide) rfl ?_
    refine g_iconst K1 1 dX11_round_31 rfl ?_
    refine g_istore K1 dX11_round_32 (by decide) rfl ?_
    exact g_perm [4, 6, 7, 2, 1, 0] rfl (h w g K)
  · replace h := h.2 hc
    refine g_iload K1 0 dX11_round_14 rfl ?_
    obtain ⟨hr, hI, hL⟩ := h
    subst hr hI hL
    exact g_ireturn K rfl dX11_round_16
set_option maxRecDepth 20000 in
set_option maxHeartbeats 2000000 in
theorem vc_X11_round_34 {r : Option Value} {I' : Nat → Nat → Int32} {L' : Nat → Nat → Int64} {I : Nat → Nat → Int32} {L : Nat → Nat → Int64} {x2 : Int32} {x3 : Int32} {x5 : Int32} {x6 : Int32} {x7 : Int32} (h : ((50 < x7 → (r = some (.int (-1)) ∧ I' = I ∧ L' = L)) ∧ (¬ 50 < x7 → (∃ r1, q_C kX11_heardTwice [.ref 0, .int x6, .int x2, .int x3] I L (some (.int r1)) I L ∧ ((r1 = x5 → (r = some (.int x7) ∧ I' = I ∧ L' = L)) ∧ (¬ r1 = x5 → (v_X11_round_34 r I' L' I L x2 x3 x5 r1 (x7 + 1)))))))) : v_X11_round_34 r I' L' I L x2 x3 x5 x6 x7 := by
  intro w g K
  have K1 := K.1
  refine g_iload K1 5 dX11_round_34 rfl ?_
  refine g_bipush K1 50 dX11_round_36 rfl ?_
  refine g_icmp_gt K1 67 dX11_round_38 rfl (fun hc => ?_) (fun hc => ?_)
  · replace h := h.1 hc
    refine g_iconst K1 (-1) dX11_round_67 rfl ?_
    obtain ⟨hr, hI, hL⟩ := h
    subst hr hI hL
    exact g_ireturn K rfl dX11_round_68
  · replace h := h.2 hc
    refine g_aload_n K1 0 dX11_round_41 rfl ?_
    refine g_iload K1 4 dX11_round_42 rfl ?_
    refine g_iload_n K1 1 dX11_round_44 rfl ?_
    refine g_iload_n K1 2 dX11_round_45 rfl ?_
    obtain ⟨r1, hct, h⟩ := h
    refine h_callV K1 (st := []) [.int x6, .int x2, .int x3] (hct w (gl g)) q_clX11 lyp_0 rfl ok_X11_heardTwice ml_X11_251 ⟨Nat.le_of_ble_eq_true rfl, Nat.le_of_ble_eq_true rfl⟩ (Nat.le_of_ble_eq_true rfl) dX11_round_46 ?_
    show q_Gs w g 49 [(0, .ref 0), (2, .int x2), (3, .int x3), (5, .int x5), (6, .int x6), (7, .int x7)] [.int r1] (q_mm I L)
    refine g_istore K1 dX11_round_49 (by decide) rfl ?_
    refine g_iload K1 0 dX11_round_51 rfl ?_
    refine g_iload K1 4 dX11_round_53 rfl ?_
    refine g_icmp_ne K1 61 dX11_round_55 rfl (fun hc => ?_) (fun hc => ?_)
    · replace h := h.2 hc
      refine g_iinc K1 (x7 + 1) 5 dX11_round_61 rfl rfl (by decide) rfl ?_
      refine g_goto K1 34 dX11_round_64 rfl ?_
      exact g_perm [2, 3, 4, 5, 1, 0] rfl (h w g K)
    · replace h := h.1 hc
      refine g_iload K1 5 dX11_round_58 rfl ?_
      obtain ⟨hr, hI, hL⟩ := h
      subst hr hI hL
      exact g_ireturn K rfl dX11_round_60
theorem c0_X11_round {r : Option Value} {I I' : Nat → Nat → Int32} {L L' : Nat → Nat → Int64} {x1 : Int32} {x2 : Int32} {x3 : Int32} (h : v_X11_round_0 r I' L' I L x1 x2 x3) : q_C kX11_round [.ref 0, .int x1, .int x2, .int x3] I L r I' L' := fun w l => q_ct (by decide) (Nat.le_of_ble_eq_true rfl) (Nat.le_refl _) (fun g _ K => h w g K)
abbrev v_X11_row_0 (r : Option Value) (I' : Nat → Nat → Int32) (L' : Nat → Nat → Int64) (I : Nat → Nat → Int32) (L : Nat → Nat → Int64) (x1 : Int32) (x2 : Int32) (x3 : Int32) : Prop := q_W kX11_row 0 [(0, .ref 0), (1, .int x1), (2, .int x2), (3, .int x3)] [] I L r I' L'
set_option maxRecDepth 20000 in
set_option maxHeartbeats 2000000 in
theorem vc_X11_row_0 {r : Option Value} {I' : Nat → Nat → Int32} {L' : Nat → Nat → Int64} {I : Nat → Nat → Int32} {L : Nat → Nat → Int64} {x1 : Int32} {x2 : Int32} {x3 : Int32} (h : (∃ r1, q_C kX9_noSlot [.int x1] I L (some (.int r1)) I L ∧ ((r1 = 0 → ((x2 < 0 → (r = some (.int (-2)) ∧ I' = I ∧ L' = L)) ∧ (¬ x2 < 0 → ((3 < x2 → (r = some (.int (-2)) ∧ I' = I ∧ L' = L)) ∧ (¬ 3 < x2 → ((x3 ≤ 60 → ((0 ≤ x3 → (∃ I2 L3, q_C kX9_begin [.ref 25, .int x1, .int x2, .int x3] I L none I2 L3 ∧ (r = some (.int 0) ∧ I' = I2 ∧ L' = L3))) ∧ (¬ 0 ≤ x3 → (r = some (.int (-3)) ∧ I' = I ∧ L' = L)))) ∧ (¬ x3 ≤ 60 → (r = some (.int (-2)) ∧ I' = I ∧ L' = L)))))))) ∧ (¬ r1 = 0 → (r = some (.int (-2)) ∧ I' = I ∧ L' = L))))) : v_X11_row_0 r I' L' I L x1 x2 x3 := by
  intro w g K
  have K1 := K.1
  refine g_iload_n K1 1 dX11_row_0 rfl ?_
  obtain ⟨r1, hct, h⟩ := h
  refine h_callS K1 (st := []) [.int x1] (hct w (gl g)) ok_X9_noSlot ml_X11_264 ⟨Nat.le_of_ble_eq_true rfl, Nat.le_of_ble_eq_true rfl⟩ (Nat.le_of_ble_eq_true rfl) dX11_row_1 ?_
  show q_Gs w g 4 [(0, .ref 0), (1, .int x1), (2, .int x2), (3, .int x3)] [.int r1] (q_mm I L)
  refine g_if_ne K1 22 dX11_row_4 rfl (fun hc => ?_) (fun hc => ?_)
  · replace h := h.2 hc
    refine g_bipush K1 (-2) dX11_row_22 rfl ?_
    obtain ⟨hr, hI, hL⟩ := h
    subst hr hI hL
    exact g_ireturn K rfl dX11_row_24
  · replace h := h.1 hc
    refine g_iload_n K1 2 dX11_row_7 rfl ?_
    refine g_if_lt K1 22 dX11_row_8 rfl (fun hc => ?_) (fun hc => ?_)
    · replace h := h.1 hc
      refine g_bipush K1 (-2) dX11_row_22 rfl ?_
      obtain ⟨hr, hI, hL⟩ := h
      subst hr hI hL
      exact g_ireturn K rfl dX11_row_24
    · replace h := h.2 hc
      refine g_iload_n K1 2 dX11_row_11 rfl ?_
      refine g_iconst K1 3 dX11_row_12 rfl ?_
      refine g_icmp_gt K1 22 dX11_row_13 rfl (fun hc => ?_) (fun hc => ?_)
      · replace h := h.1 hc
        refine g_bipush K1 (-2) dX11_row_22 rfl ?_
        obtain ⟨hr, hI, hL⟩ := h
        subst hr hI hL
        exact g_ireturn K rfl dX11_row_24
      · replace h := h.2 hc
        refine g_iload_n K1 3 dX11_row_16 rfl ?_
        refine g_bipush K1 60 dX11_row_17 rfl ?_
        refine g_icmp_le K1 25 dX11_row_19 rfl (fun hc => ?_) (fun hc => ?_)
        · replace h := h.1 hc
          refine g_iload_n K1 3 dX11_row_25 rfl ?_
          refine g_if_ge K1 32 dX11_row_26 rfl (fun hc => ?_) (fun hc => ?_)
          · replace h := h.1 hc
            refine g_aload_n K1 0 dX11_row_32 rfl ?_
            refine h_getO K1 q_clX11 7 25 lyp_0 fkX11_7 rfl fl_X11_49 dX11_row_33 ?_
            refine g_iload_n K1 1 dX11_row_36 rfl ?_
            refine g_iload_n K1 2 dX11_row_37 rfl ?_
            refine g_iload_n K1 3 dX11_row_38 rfl ?_
            obtain ⟨I2, L3, hct, h⟩ := h
            refine h_callV K1 (st := []) [.int x1, .int x2, .int x3] (hct w (gl g)) q_clX9 lyp_25 rfl ok_X9_begin ml_X11_406 ⟨Nat.le_of_ble_eq_true rfl, Nat.le_of_ble_eq_true rfl⟩ (Nat.le_of_ble_eq_true rfl) dX11_row_39 ?_
            show q_Gs w g 42 [(0, .ref 0), (1, .int x1), (2, .int x2), (3, .int x3)] [] (q_mm I2 L3)
            refine g_iconst K1 0 dX11_row_42 rfl ?_
            obtain ⟨hr, hI, hL⟩ := h
            subst hr hI hL
            exact g_ireturn K rfl dX11_row_43
          · replace h := h.2 hc
            refine g_bipush K1 (-3) dX11_row_29 rfl ?_
            obtain ⟨hr, hI, hL⟩ := h
            subst hr hI hL
            exact g_ireturn K rfl dX11_row_31
        · replace h := h.2 hc
          refine g_bipush K1 (-2) dX11_row_22 rfl ?_
          obtain ⟨hr, hI, hL⟩ := h
          subst hr hI hL
          exact g_ireturn K rfl dX11_row_24
theorem c0_X11_row {r : Option Value} {I I' : Nat → Nat → Int32} {L L' : Nat → Nat → Int64} {x1 : Int32} {x2 : Int32} {x3 : Int32} (h : v_X11_row_0 r I' L' I L x1 x2 x3) : q_C kX11_row [.ref 0, .int x1, .int x2, .int x3] I L r I' L' := fun w l => q_ct (by decide) (Nat.le_of_ble_eq_true rfl) (Nat.le_refl _) (fun g _ K => h w g K)
abbrev v_X11_says_0 (r : Option Value) (I' : Nat → Nat → Int32) (L' : Nat → Nat → Int64) (I : Nat → Nat → Int32) (L : Nat → Nat → Int64) (x1 : Int32) (x2 : Int32) (x3 : Int32) : Prop := q_W kX11_says 0 [(0, .ref 0), (1, .int x1), (2, .int x2), (3, .int x3)] [] I L r I' L'
set_option maxRecDepth 20000 in
set_option maxHeartbeats 2000000 in
theorem vc_X11_says_0 {r : Option Value} {I' : Nat → Nat → Int32} {L' : Nat → Nat → Int64} {I : Nat → Nat → Int32} {L : Nat → Nat → Int64} {x1 : Int32} {x2 : Int32} {x3 : Int32} (h : (∃ r1, q_C kX11_noPew [.ref 0, .int x1] I L (some (.int r1)) I L ∧ ((r1 = 0 → (∃ r2, q_C kX11_noHour [.ref 0, .int x2] I L (some (.int r2)) I L ∧ ((r2 = 0 → ((0 ≤ x3 → (∃ I3, q_C kX11_settledCourse [.ref 0] I L (some (.ref 75)) I3 L ∧ (∃ r4, q_C kX11_cell [.int x1, .int x2] I3 L (some (.int r4)) I3 L ∧ (vp_in r4 91 ∧ (∃ r5, q_C kX11_letterOrNone [.int (I3 77 r4.toNatClampNeg), .int x3] I3 L (some (.int r5)) I3 L ∧ (r = some (.int r5) ∧ I' = I3 ∧ L' = L)))))) ∧ (¬ 0 ≤ x3 → (r = some (.int (-2)) ∧ I' = I ∧ L' = L)))) ∧ (¬ r2 = 0 → (r = some (.int (-2)) ∧ I' = I ∧ L' = L))))) ∧ (¬ r1 = 0 → (r = some (.int (-2)) ∧ I' = I ∧ L' = L))))) : v_X11_says_0 r I' L' I L x1 x2 x3 := by
  intro w g K
  have K1 := K.1
  refine g_aload_n K1 0 dX11_says_0 rfl ?_
  refine g_iload_n K1 1 dX11_says_1 rfl ?_
  obtain ⟨r1, hct, h⟩ := h
  refine h_callV K1 (st := []) [.int x1] (hct w (gl g)) q_clX11 lyp_0 rfl ok_X11_noPew ml_X11_145 ⟨Nat.le_of_ble_eq_true rfl, Nat.le_of_ble_eq_true rfl⟩ (Nat.le_of_ble_eq_true rfl) dX11_says_2 ?_
  show q_Gs w g 5 [(0, .ref 0), (1, .int x1), (2, .int x2), (3, .int x3)] [.int r1] (q_mm I L)
  refine g_if_ne K1 20 dX11_says_5 rfl (fun hc => ?_) (fun hc => ?_)
  · replace h := h.2 hc
    refine g_bipush K1 (-2) dX11_says_20 rfl ?_
    obtain ⟨hr, hI, hL⟩ := h
    subst hr hI hL
    exact g_ireturn K rfl dX11_says_22
  · replace h := h.1 hc
    refine g_aload_n K1 0 dX11_says_8 rfl ?_
    refine g_iload_n K1 2 dX11_says_9 rfl ?_
    obtain ⟨r2, hct, h⟩ := h
    refine h_callV K1 (st := []) [.int x2] (hct w (gl g)) q_clX11 lyp_0 rfl ok_X11_noHour ml_X11_176 ⟨Nat.le_of_ble_eq_true rfl, Nat.le_of_ble_eq_true rfl⟩ (Nat.le_of_ble_eq_true rfl) dX11_says_10 ?_
    show q_Gs w g 13 [(0, .ref 0), (1, .int x1), (2, .int x2), (3, .int x3)] [.int r2] (q_mm I L)
    refine g_if_ne K1 20 dX11_says_13 rfl (fun hc => ?_) (fun hc => ?_)
    · replace h := h.2 hc
      refine g_bipush K1 (-2) dX11_says_20 rfl ?_
      obtain ⟨hr, hI, hL⟩ := h
      subst hr hI hL
      exact g_ireturn K rfl dX11_says_22
    · replace h := h.1 hc
      refine g_iload_n K1 3 dX11_says_16 rfl ?_
      refine g_if_ge K1 23 dX11_says_17 rfl (fun hc => ?_) (fun hc => ?_)
      · replace h := h.1 hc
        refine g_aload_n K1 0 dX11_says_23 rfl ?_
        obtain ⟨I3, hct, h⟩ := h
        refine h_callV K1 (st := []) [] (hct w (gl g)) q_clX11 lyp_0 rfl ok_X11_settledCourse ml_X11_179 ⟨Nat.le_of_ble_eq_true rfl, Nat.le_of_ble_eq_true rfl⟩ (Nat.le_of_ble_eq_true rfl) dX11_says_24 ?_
        show q_Gs w g 27 [(0, .ref 0), (1, .int x1), (2, .int x2), (3, .int x3)] [.ref 75] (q_mm I3 L)
        refine h_getO K1 q_clX3 1 77 lyp_75 fkX3_1 rfl fl_X11_186 dX11_says_27 ?_
        refine g_iload_n K1 1 dX11_says_30 rfl ?_
        refine g_iload_n K1 2 dX11_says_31 rfl ?_
        obtain ⟨r4, hct, h⟩ := h
        refine h_callS K1 (st := [.ref 77]) [.int x1, .int x2] (hct w (gl g)) ok_X11_cell ml_X11_189 ⟨Nat.le_of_ble_eq_true rfl, Nat.le_of_ble_eq_true rfl⟩ (Nat.le_of_ble_eq_true rfl) dX11_says_32 ?_
        show q_Gs w g 35 [(0, .ref 0), (1, .int x1), (2, .int x2), (3, .int x3)] [.int r4, .ref 77] (q_mm I3 L)
        obtain ⟨hg, h⟩ := h
        refine h_iaload K1 lyp_77 hg dX11_says_35 ?_
        refine g_iload_n K1 3 dX11_says_36 rfl ?_
        obtain ⟨r5, hct, h⟩ := h
        refine h_callS K1 (st := []) [.int (I3 77 r4.toNatClampNeg), .int x3] (hct w (gl g)) ok_X11_letterOrNone ml_X11_172 ⟨Nat.le_of_ble_eq_true rfl, Nat.le_of_ble_eq_true rfl⟩ (Nat.le_of_ble_eq_true rfl) dX11_says_37 ?_
        show q_Gs w g 40 [(0, .ref 0), (1, .int x1), (2, .int x2), (3, .int x3)] [.int r5] (q_mm I3 L)
        obtain ⟨hr, hI, hL⟩ := h
        subst hr hI hL
        exact g_ireturn K rfl dX11_says_40
      · replace h := h.2 hc
        refine g_bipush K1 (-2) dX11_says_20 rfl ?_
        obtain ⟨hr, hI, hL⟩ := h
        subst hr hI hL
        exact g_ireturn K rfl dX11_says_22
theorem c0_X11_says {r : Option Value} {I I' : Nat → Nat → Int32} {L L' : Nat → Nat → Int64} {x1 : Int32} {x2 : Int32} {x3 : Int32} (h : v_X11_says_0 r I' L' I L x1 x2 x3) : q_C kX11_says [.ref 0, .int x1, .int x2, .int x3] I L r I' L' := fun w l => q_ct (by decide) (Nat.le_of_ble_eq_true rfl) (Nat.le_refl _) (fun g _ K => h w g K)
abbrev v_X11_sets_0 (r : Option Value) (I' : Nat → Nat → Int32) (L' : Nat → Nat → Int64) (I : Nat → Nat → Int32) (L : Nat → Nat → Int64)  : Prop := q_W kX11_sets 0 [(0, .ref 0)] [] I L r I' L'
set_option maxRecDepth 20000 in
set_option maxHeartbeats 2000000 in
theorem vc_X11_sets_0 {r : Option Value} {I' : Nat → Nat → Int32} {L' : Nat → Nat → Int64} {I : Nat → Nat → Int32} {L : Nat → Nat → Int64}  (h : (∃ r1, q_C kX11_noNight [.ref 0] I L (some (.int r1)) I L ∧ ((r1 = 0 → (∃ r2 I3, q_C kX8_leastLightingAll [.ref 88] I L (some (.int r2)) I3 L ∧ (r = some (.int r2) ∧ I' = I3 ∧ L' = L))) ∧ (¬ r1 = 0 → (r = some (.int (-2)) ∧ I' = I ∧ L' = L))))) : v_X11_sets_0 r I' L' I L  := by
  intro w g K
  have K1 := K.1
  refine g_aload_n K1 0 dX11_sets_0 rfl ?_
  obtain ⟨r1, hct, h⟩ := h
  refine h_callV K1 (st := []) [] (hct w (gl g)) q_clX11 lyp_0 rfl ok_X11_noNight ml_X11_210 ⟨Nat.le_of_ble_eq_true rfl, Nat.le_of_ble_eq_true rfl⟩ (Nat.le_of_ble_eq_true rfl) dX11_sets_1 ?_
  show q_Gs w g 4 [(0, .ref 0)] [.int r1] (q_mm I L)
  refine g_if_eq K1 12 dX11_sets_4 rfl (fun hc => ?_) (fun hc => ?_)
  · replace h := h.1 hc
    refine g_aload_n K1 0 dX11_sets_12 rfl ?_
    refine h_getO K1 q_clX11 14 88 lyp_0 fkX11_14 rfl fl_X11_89 dX11_sets_13 ?_
    obtain ⟨r2, I3, hct, h⟩ := h
    refine h_callV K1 (st := []) [] (hct w (gl g)) q_clX8 lyp_88 rfl ok_X8_leastLightingAll ml_X11_289 ⟨Nat.le_of_ble_eq_true rfl, Nat.le_of_ble_eq_true rfl⟩ (Nat.le_of_ble_eq_true rfl) dX11_sets_16 ?_
    show q_Gs w g 19 [(0, .ref 0)] [.int r2] (q_mm I3 L)
    obtain ⟨hr, hI, hL⟩ := h
    subst hr hI hL
    exact g_ireturn K rfl dX11_sets_19
  · replace h := h.2 hc
    refine g_bipush K1 (-2) dX11_sets_7 rfl ?_
    refine g_goto K1 19 dX11_sets_9 rfl ?_
    obtain ⟨hr, hI, hL⟩ := h
    subst hr hI hL
    exact g_ireturn K rfl dX11_sets_19
theorem c0_X11_sets {r : Option Value} {I I' : Nat → Nat → Int32} {L L' : Nat → Nat → Int64}  (h : v_X11_sets_0 r I' L' I L ) : q_C kX11_sets [.ref 0] I L r I' L' := fun w l => q_ct (by decide) (Nat.le_of_ble_eq_true rfl) (Nat.le_refl _) (fun g _ K => h w g K)
abbrev v_X11_settledCourse_0 (r : Option Value) (I' : Nat → Nat → Int32) (L' : Nat → Nat → Int64) (I : Nat → Nat → Int32) (L : Nat → Nat → Int64)  : Prop := q_W kX11_settledCourse 0 [(0, .ref 0)] [] I L r I' L'
set_option maxRecDepth 20000 in
set_option maxHeartbeats 2000000 in
theorem vc_X11_settledCourse_0 {r : Option Value} {I' : Nat → Nat → Int32} {L' : Nat → Nat → Int64} {I : Nat → Nat → Int32} {L : Nat → Nat → Int64}  (h : (((I 0 18) = 0 → (∃ I1, q_C kX3_asNow [.ref 75] I L none I1 L ∧ (∃ r2 I3, q_C kX3_run [.ref 75, .int 0, .int (I1 12 1)] I1 L (some (.int r2)) I3 L ∧ (r = some (.ref 75) ∧ I' = (up2 I3 0 18 1) ∧ L' = L)))) ∧ (¬ (I 0 18) = 0 → (r = some (.ref 75) ∧ I' = I ∧ L' = L)))) : v_X11_settledCourse_0 r I' L' I L  := by
  intro w g K
  have K1 := K.1
  refine g_aload_n K1 0 dX11_settledCourse_0 rfl ?_
  refine h_getI K1 q_clX11 18 lyp_0 fkX11_18 fl_X11_116 dX11_settledCourse_1 ?_
  refine g_if_ne K1 35 dX11_settledCourse_4 rfl (fun hc => ?_) (fun hc => ?_)
  · replace h := h.2 hc
    refine g_aload_n K1 0 dX11_settledCourse_35 rfl ?_
    refine h_getO K1 q_clX11 11 75 lyp_0 fkX11_11 rfl fl_X11_70 dX11_settledCourse_36 ?_
    obtain ⟨hr, hI, hL⟩ := h
    subst hr hI hL
    exact g_areturn K rfl dX11_settledCourse_39
  · replace h := h.1 hc
    refine g_aload_n K1 0 dX11_settledCourse_7 rfl ?_
    refine h_getO K1 q_clX11 11 75 lyp_0 fkX11_11 rfl fl_X11_70 dX11_settledCourse_8 ?_
    obtain ⟨I1, hct, h⟩ := h
    refine h_callV K1 (st := []) [] (hct w (gl g)) q_clX3 lyp_75 rfl ok_X3_asNow ml_X11_433 ⟨Nat.le_of_ble_eq_true rfl, Nat.le_of_ble_eq_true rfl⟩ (Nat.le_of_ble_eq_true rfl) dX11_settledCourse_11 ?_
    show q_Gs w g 14 [(0, .ref 0)] [] (q_mm I1 L)
    refine g_aload_n K1 0 dX11_settledCourse_14 rfl ?_
    refine h_getO K1 q_clX11 11 75 lyp_0 fkX11_11 rfl fl_X11_70 dX11_settledCourse_15 ?_
    refine g_iconst K1 0 dX11_settledCourse_18 rfl ?_
    refine g_aload_n K1 0 dX11_settledCourse_19 rfl ?_
    refine h_getO K1 q_clX11 5 12 lyp_0 fkX11_5 rfl fl_X11_35 dX11_settledCourse_20 ?_
    refine h_getI K1 q_clX5 1 lyp_12 fkX5_1 fl_X11_203 dX11_settledCourse_23 ?_
    obtain ⟨r2, I3, hct, h⟩ := h
    refine h_callV K1 (st := []) [.int 0, .int (I1 12 1)] (hct w (gl g)) q_clX3 lyp_75 rfl ok_X3_run ml_X11_333 ⟨Nat.le_of_ble_eq_true rfl, Nat.le_of_ble_eq_true rfl⟩ (Nat.le_of_ble_eq_true rfl) dX11_settledCourse_26 ?_
    show q_Gs w g 29 [(0, .ref 0)] [.int r2] (q_mm I3 L)
    refine g_pop K1 dX11_settledCourse_29 rfl ?_
    refine g_aload_n K1 0 dX11_settledCourse_30 rfl ?_
    refine g_iconst K1 1 dX11_settledCourse_31 rfl ?_
    refine h_putI K1 q_clX11 18 lyp_0 fkX11_18 fl_X11_116 rfl (by decide) (by decide) dX11_settledCourse_32 ?_
    refine g_aload_n K1 0 dX11_settledCourse_35 rfl ?_
    refine h_getO K1 q_clX11 11 75 lyp_0 fkX11_11 rfl fl_X11_70 dX11_settledCourse_36 ?_
    obtain ⟨hr, hI, hL⟩ := h
    subst hr hI hL
    exact g_areturn K rfl dX11_settledCourse_39
theorem c0_X11_settledCourse {r : Option Value} {I I' : Nat → Nat → Int32} {L L' : Nat → Nat → Int64}  (h : v_X11_settledCourse_0 r I' L' I L ) : q_C kX11_settledCourse [.ref 0] I L r I' L' := fun w l => q_ct (by decide) (Nat.le_of_ble_eq_true rfl) (Nat.le_refl _) (fun g _ K => h w g K)
abbrev v_X11_share_0 (r : Option Value) (I' : Nat → Nat → Int32) (L' : Nat → Nat → Int64) (I : Nat → Nat → Int32) (L : Nat → Nat → Int64) (x1 : Int32) (x2 : Int32) : Prop := q_W kX11_share 0 [(0, .ref 0), (1, .int x1), (2, .int x2)] [] I L r I' L'
set_option maxRecDepth 20000 in
set_option maxHeartbeats 2000000 in
theorem vc_X11_share_0 {r : Option Value} {I' : Nat → Nat → Int32} {L' : Nat → Nat → Int64} {I : Nat → Nat → Int32} {L : Nat → Nat → Int64} {x1 : Int32} {x2 : Int32} (h : (∃ r1, q_C kX11_noPew [.ref 0, .int x1] I L (some (.int r1)) I L ∧ ((r1 = 0 → (∃ r2, q_C kX11_noPart [.int x2] I L (some (.int r2)) I L ∧ ((r2 = 0 → (∃ r3 I4, q_C kX8_gainInAllOrders [.ref 88, .int x1] I L (some (.int r3)) I4 L ∧ (∃ r5, q_C kX8_factorial [.int (I4 12 4)] I4 L (some (.int r5)) I4 L ∧ (∃ r6, q_C kX11_lowestPart [.long r3.toInt64, .long r5.toInt64, .int x2] I4 L (some (.long r6)) I4 L ∧ (r = some (.int r6.toInt32) ∧ I' = I4 ∧ L' = L))))) ∧ (¬ r2 = 0 → (r = some (.int (-2)) ∧ I' = I ∧ L' = L))))) ∧ (¬ r1 = 0 → (r = some (.int (-2)) ∧ I' = I ∧ L' = L))))) : v_X11_share_0 r I' L' I L x1 x2 := by
  intro w g K
  have K1 := K.1
  refine g_aload_n K1 0 dX11_share_0 rfl ?_
  refine g_iload_n K1 1 dX11_share_1 rfl ?_
  obtain ⟨r1, hct, h⟩ := h
  refine h_callV K1 (st := []) [.int x1] (hct w (gl g)) q_clX11 lyp_0 rfl ok_X11_noPew ml_X11_145 ⟨Nat.le_of_ble_eq_true rfl, Nat.le_of_ble_eq_true rfl⟩ (Nat.le_of_ble_eq_true rfl) dX11_share_2 ?_
  show q_Gs w g 5 [(0, .ref 0), (1, .int x1), (2, .int x2)] [.int r1] (q_mm I L)
  refine g_if_ne K1 15 dX11_share_5 rfl (fun hc => ?_) (fun hc => ?_)
  · replace h := h.2 hc
    refine g_bipush K1 (-2) dX11_share_15 rfl ?_
    obtain ⟨hr, hI, hL⟩ := h
    subst hr hI hL
    exact g_ireturn K rfl dX11_share_17
  · replace h := h.1 hc
    refine g_iload_n K1 2 dX11_share_8 rfl ?_
    obtain ⟨r2, hct, h⟩ := h
    refine h_callS K1 (st := []) [.int x2] (hct w (gl g)) ok_X11_noPart ml_X11_276 ⟨Nat.le_of_ble_eq_true rfl, Nat.le_of_ble_eq_true rfl⟩ (Nat.le_of_ble_eq_true rfl) dX11_share_9 ?_
    show q_Gs w g 12 [(0, .ref 0), (1, .int x1), (2, .int x2)] [.int r2] (q_mm I L)
    refine g_if_eq K1 18 dX11_share_12 rfl (fun hc => ?_) (fun hc => ?_)
    · replace h := h.1 hc
      refine g_aload_n K1 0 dX11_share_18 rfl ?_
      refine h_getO K1 q_clX11 14 88 lyp_0 fkX11_14 rfl fl_X11_89 dX11_share_19 ?_
      refine g_iload_n K1 1 dX11_share_22 rfl ?_
      obtain ⟨r3, I4, hct, h⟩ := h
      refine h_callV K1 (st := []) [.int x1] (hct w (gl g)) q_clX8 lyp_88 rfl ok_X8_gainInAllOrders ml_X11_279 ⟨Nat.le_of_ble_eq_true rfl, Nat.le_of_ble_eq_true rfl⟩ (Nat.le_of_ble_eq_true rfl) dX11_share_23 ?_
      show q_Gs w g 26 [(0, .ref 0), (1, .int x1), (2, .int x2)] [.int r3] (q_mm I4 L)
      refine g_i2l K1 dX11_share_26 ?_
      refine g_aload_n K1 0 dX11_share_27 rfl ?_
      refine h_getO K1 q_clX11 5 12 lyp_0 fkX11_5 rfl fl_X11_35 dX11_share_28 ?_
      refine h_getI K1 q_clX5 4 lyp_12 fkX5_4 fl_X11_214 dX11_share_31 ?_
      obtain ⟨r5, hct, h⟩ := h
      refine h_callS K1 (st := [.long r3.toInt64]) [.int (I4 12 4)] (hct w (gl g)) ok_X8_factorial ml_X11_282 ⟨Nat.le_of_ble_eq_true rfl, Nat.le_of_ble_eq_true rfl⟩ (Nat.le_of_ble_eq_true rfl) dX11_share_34 ?_
      show q_Gs w g 37 [(0, .ref 0), (1, .int x1), (2, .int x2)] [.int r5, .long r3.toInt64] (q_mm I4 L)
      refine g_i2l K1 dX11_share_37 ?_
      refine g_iload_n K1 2 dX11_share_38 rfl ?_
      obtain ⟨r6, hct, h⟩ := h
      refine h_callS K1 (st := []) [.long r3.toInt64, .long r5.toInt64, .int x2] (hct w (gl g)) ok_X11_lowestPart ml_X11_285 ⟨Nat.le_of_ble_eq_true rfl, Nat.le_of_ble_eq_true rfl⟩ (Nat.le_of_ble_eq_true rfl) dX11_share_39 ?_
      show q_Gs w g 42 [(0, .ref 0), (1, .int x1), (2, .int x2)] [.long r6] (q_mm I4 L)
      refine g_l2i K1 dX11_share_42 ?_
      obtain ⟨hr, hI, hL⟩ := h
      subst hr hI hL
      exact g_ireturn K rfl dX11_share_43
    · replace h := h.2 hc
      refine g_bipush K1 (-2) dX11_share_15 rfl ?_
      obtain ⟨hr, hI, hL⟩ := h
      subst hr hI hL
      exact g_ireturn K rfl dX11_share_17
theorem c0_X11_share {r : Option Value} {I I' : Nat → Nat → Int32} {L L' : Nat → Nat → Int64} {x1 : Int32} {x2 : Int32} (h : v_X11_share_0 r I' L' I L x1 x2) : q_C kX11_share [.ref 0, .int x1, .int x2] I L r I' L' := fun w l => q_ct (by decide) (Nat.le_of_ble_eq_true rfl) (Nat.le_refl _) (fun g _ K => h w g K)
abbrev v_X11_shortest_0 (r : Option Value) (I' : Nat → Nat → Int32) (L' : Nat → Nat → Int64) (I : Nat → Nat → Int32) (L : Nat → Nat → Int64) (x1 : Int32) : Prop := q_W kX11_shortest 0 [(0, .ref 0), (1, .int x1)] [] I L r I' L'
abbrev v_X11_shortest_25 (r : Option Value) (I' : Nat → Nat → Int32) (L' : Nat → Nat → Int64) (I : Nat → Nat → Int32) (L : Nat → Nat → Int64) (x1 : Int32) (x3 : Int32) (x4 : Int32) (x5 : Int32) : Prop := q_W kX11_shortest 25 [(0, .ref 0), (1, .int x1), (2, .ref 75), (3, .int x3), (4, .int x4), (5, .int x5)] [] I L r I' L'
set_option maxRecDepth 20000 in
set_option maxHeartbeats 2000000 in
theorem vc_X11_shortest_0 {r : Option Value} {I' : Nat → Nat → Int32} {L' : Nat → Nat → Int64} {I : Nat → Nat → Int32} {L : Nat → Nat → Int64} {x1 : Int32} (h : (∃ r1, q_C kX11_noHour [.ref 0, .int x1] I L (some (.int r1)) I L ∧ ((r1 = 0 → (∃ I2, q_C kX11_settledCourse [.ref 0] I L (some (.ref 75)) I2 L ∧ (v_X11_shortest_25 r I' L' I2 L x1 (-1) 7 0))) ∧ (¬ r1 = 0 → (r = some (.int (-2)) ∧ I' = I ∧ L' = L))))) : v_X11_shortest_0 r I' L' I L x1 := by
  intro w g K
  have K1 := K.1
  refine g_aload_n K1 0 dX11_shortest_0 rfl ?_
  refine g_iload_n K1 1 dX11_shortest_1 rfl ?_
  obtain ⟨r1, hct, h⟩ := h
  refine h_callV K1 (st := []) [.int x1] (hct w (gl g)) q_clX11 lyp_0 rfl ok_X11_noHour ml_X11_176 ⟨Nat.le_of_ble_eq_true rfl, Nat.le_of_ble_eq_true rfl⟩ (Nat.le_of_ble_eq_true rfl) dX11_shortest_2 ?_
  show q_Gs w g 5 [(0, .ref 0), (1, .int x1)] [.int r1] (q_mm I L)
  refine g_if_eq K1 11 dX11_shortest_5 rfl (fun hc => ?_) (fun hc => ?_)
  · replace h := h.1 hc
    refine g_aload_n K1 0 dX11_shortest_11 rfl ?_
    obtain ⟨I2, hct, h⟩ := h
    refine h_callV K1 (st := []) [] (hct w (gl g)) q_clX11 lyp_0 rfl ok_X11_settledCourse ml_X11_179 ⟨Nat.le_of_ble_eq_true rfl, Nat.le_of_ble_eq_true rfl⟩ (Nat.le_of_ble_eq_true rfl) dX11_shortest_12 ?_
    show q_Gs w g 15 [(0, .ref 0), (1, .int x1)] [.ref 75] (q_mm I2 L)
    refine g_astore_n K1 dX11_shortest_15 rfl (by decide) rfl ?_
    refine g_iconst K1 (-1) dX11_shortest_16 rfl ?_
    refine g_istore_n K1 dX11_shortest_17 rfl (by decide) rfl ?_
    refine g_bipush K1 7 dX11_shortest_18 rfl ?_
    refine g_istore K1 dX11_shortest_20 (by decide) rfl ?_
    refine g_iconst K1 0 dX11_shortest_22 rfl ?_
    refine g_istore K1 dX11_shortest_23 (by decide) rfl ?_
    exact g_perm [4, 5, 3, 2, 1, 0] rfl (h w g K)
  · replace h := h.2 hc
    refine g_bipush K1 (-2) dX11_shortest_8 rfl ?_
    obtain ⟨hr, hI, hL⟩ := h
    subst hr hI hL
    exact g_ireturn K rfl dX11_shortest_10
set_option maxRecDepth 20000 in
set_option maxHeartbeats 2000000 in
theorem vc_X11_shortest_25 {r : Option Value} {I' : Nat → Nat → Int32} {L' : Nat → Nat → Int64} {I : Nat → Nat → Int32} {L : Nat → Nat → Int64} {x1 : Int32} {x3 : Int32} {x4 : Int32} {x5 : Int32} (h : (((I 12 4) ≤ x5 → (r = some (.int x3) ∧ I' = I ∧ L' = L)) ∧ (¬ (I 12 4) ≤ x5 → (∃ r1, q_C kX11_cell [.int x5, .int x1] I L (some (.int r1)) I L ∧ (vp_in r1 91 ∧ (∃ r2, q_C kX7_size [.int (I 77 r1.toNatClampNeg)] I L (some (.int r2)) I L ∧ ((r2 ≤ 0 → (v_X11_shortest_25 r I' L' I L x1 x3 x4 (x5 + 1))) ∧ (¬ r2 ≤ 0 → ((x4 ≤ r2 → (v_X11_shortest_25 r I' L' I L x1 x3 x4 (x5 + 1))) ∧ (¬ x4 ≤ r2 → (v_X11_shortest_25 r I' L' I L x1 x5 r2 (x5 + 1)))))))))))) : v_X11_shortest_25 r I' L' I L x1 x3 x4 x5 := by
  intro w g K
  have K1 := K.1
  refine g_iload K1 5 dX11_shortest_25 rfl ?_
  refine g_aload_n K1 0 dX11_shortest_27 rfl ?_
  refine h_getO K1 q_clX11 5 12 lyp_0 fkX11_5 rfl fl_X11_35 dX11_shortest_28 ?_
  refine h_getI K1 q_clX5 4 lyp_12 fkX5_4 fl_X11_214 dX11_shortest_31 ?_
  refine g_icmp_ge K1 78 dX11_shortest_34 rfl (fun hc => ?_) (fun hc => ?_)
  · replace h := h.1 hc
    refine g_iload_n K1 3 dX11_shortest_78 rfl ?_
    obtain ⟨hr, hI, hL⟩ := h
    subst hr hI hL
    exact g_ireturn K rfl dX11_shortest_79
  · replace h := h.2 hc
    refine g_aload_n K1 2 dX11_shortest_37 rfl ?_
    refine h_getO K1 q_clX3 1 77 lyp_75 fkX3_1 rfl fl_X11_186 dX11_shortest_38 ?_
    refine g_iload K1 5 dX11_shortest_41 rfl ?_
    refine g_iload_n K1 1 dX11_shortest_43 rfl ?_
    obtain ⟨r1, hct, h⟩ := h
    refine h_callS K1 (st := [.ref 77]) [.int x5, .int x1] (hct w (gl g)) ok_X11_cell ml_X11_189 ⟨Nat.le_of_ble_eq_true rfl, Nat.le_of_ble_eq_true rfl⟩ (Nat.le_of_ble_eq_true rfl) dX11_shortest_44 ?_
    show q_Gs w g 47 [(0, .ref 0), (1, .int x1), (2, .ref 75), (3, .int x3), (4, .int x4), (5, .int x5)] [.int r1, .ref 77] (q_mm I L)
    obtain ⟨hg, h⟩ := h
    refine h_iaload K1 lyp_77 hg dX11_shortest_47 ?_
    obtain ⟨r2, hct, h⟩ := h
    refine h_callS K1 (st := []) [.int (I 77 r1.toNatClampNeg)] (hct w (gl g)) ok_X7_size ml_X11_192 ⟨Nat.le_of_ble_eq_true rfl, Nat.le_of_ble_eq_true rfl⟩ (Nat.le_of_ble_eq_true rfl) dX11_shortest_48 ?_
    show q_Gs w g 51 [(0, .ref 0), (1, .int x1), (2, .ref 75), (3, .int x3), (4, .int x4), (5, .int x5)] [.int r2] (q_mm I L)
    refine g_istore K1 dX11_shortest_51 (by decide) rfl ?_
    refine g_iload K1 0 dX11_shortest_53 rfl ?_
    refine g_if_le K1 72 dX11_shortest_55 rfl (fun hc => ?_) (fun hc => ?_)
    · replace h := h.1 hc
      refine g_iinc K1 (x5 + 1) 6 dX11_shortest_72 rfl rfl (by decide) rfl ?_
      refine g_goto K1 25 dX11_shortest_75 rfl ?_
      exact g_perm [2, 3, 4, 5, 6, 0] rfl (h w g K)
    · replace h := h.2 hc
      refine g_iload K1 0 dX11_shortest_58 rfl ?_
      refine g_iload K1 5 dX11_shortest_60 rfl ?_
      refine g_icmp_ge K1 72 dX11_shortest_62 rfl (fun hc => ?_) (fun hc => ?_)
      · replace h := h.1 hc
        refine g_iinc K1 (x5 + 1) 6 dX11_shortest_72 rfl rfl (by decide) rfl ?_
        refine g_goto K1 25 dX11_shortest_75 rfl ?_
        exact g_perm [2, 3, 4, 5, 6, 0] rfl (h w g K)
      · replace h := h.2 hc
        refine g_iload K1 0 dX11_shortest_65 rfl ?_
        refine g_istore K1 dX11_shortest_67 (by decide) rfl ?_
        refine g_iload K1 6 dX11_shortest_69 rfl ?_
        refine g_istore_n K1 dX11_shortest_71 rfl (by decide) rfl ?_
        refine g_iinc K1 (x5 + 1) 6 dX11_shortest_72 rfl rfl (by decide) rfl ?_
        refine g_goto K1 25 dX11_shortest_75 rfl ?_
        exact g_perm [4, 5, 6, 1, 2, 0] rfl (h w g K)
theorem c0_X11_shortest {r : Option Value} {I I' : Nat → Nat → Int32} {L L' : Nat → Nat → Int64} {x1 : Int32} (h : v_X11_shortest_0 r I' L' I L x1) : q_C kX11_shortest [.ref 0, .int x1] I L r I' L' := fun w l => q_ct (by decide) (Nat.le_of_ble_eq_true rfl) (Nat.le_refl _) (fun g _ K => h w g K)
abbrev v_X11_since_0 (r : Option Value) (I' : Nat → Nat → Int32) (L' : Nat → Nat → Int64) (I : Nat → Nat → Int32) (L : Nat → Nat → Int64) (x1 : Int32) (x2 : Int32) : Prop := q_W kX11_since 0 [(0, .ref 0), (1, .int x1), (2, .int x2)] [] I L r I' L'
set_option maxRecDepth 20000 in
set_option maxHeartbeats 2000000 in
theorem vc_X11_since_0 {r : Option Value} {I' : Nat → Nat → Int32} {L' : Nat → Nat → Int64} {I : Nat → Nat → Int32} {L : Nat → Nat → Int64} {x1 : Int32} {x2 : Int32} (h : (∃ r1, q_C kX11_noPew [.ref 0, .int x1] I L (some (.int r1)) I L ∧ ((r1 = 0 → (∃ r2, q_C kX11_noHour [.ref 0, .int x2] I L (some (.int r2)) I L ∧ ((r2 = 0 → (∃ I3, q_C kX11_settledCourse [.ref 0] I L (some (.ref 75)) I3 L ∧ (∃ r4, q_C kX11_cell [.int x1, .int x2] I3 L (some (.int r4)) I3 L ∧ (vp_in r4 91 ∧ (r = some (.int (I3 79 r4.toNatClampNeg)) ∧ I' = I3 ∧ L' = L))))) ∧ (¬ r2 = 0 → (r = some (.int (-2)) ∧ I' = I ∧ L' = L))))) ∧ (¬ r1 = 0 → (r = some (.int (-2)) ∧ I' = I ∧ L' = L))))) : v_X11_since_0 r I' L' I L x1 x2 := by
  intro w g K
  have K1 := K.1
  refine g_aload_n K1 0 dX11_since_0 rfl ?_
  refine g_iload_n K1 1 dX11_since_1 rfl ?_
  obtain ⟨r1, hct, h⟩ := h
  refine h_callV K1 (st := []) [.int x1] (hct w (gl g)) q_clX11 lyp_0 rfl ok_X11_noPew ml_X11_145 ⟨Nat.le_of_ble_eq_true rfl, Nat.le_of_ble_eq_true rfl⟩ (Nat.le_of_ble_eq_true rfl) dX11_since_2 ?_
  show q_Gs w g 5 [(0, .ref 0), (1, .int x1), (2, .int x2)] [.int r1] (q_mm I L)
  refine g_if_ne K1 16 dX11_since_5 rfl (fun hc => ?_) (fun hc => ?_)
  · replace h := h.2 hc
    refine g_bipush K1 (-2) dX11_since_16 rfl ?_
    obtain ⟨hr, hI, hL⟩ := h
    subst hr hI hL
    exact g_ireturn K rfl dX11_since_18
  · replace h := h.1 hc
    refine g_aload_n K1 0 dX11_since_8 rfl ?_
    refine g_iload_n K1 2 dX11_since_9 rfl ?_
    obtain ⟨r2, hct, h⟩ := h
    refine h_callV K1 (st := []) [.int x2] (hct w (gl g)) q_clX11 lyp_0 rfl ok_X11_noHour ml_X11_176 ⟨Nat.le_of_ble_eq_true rfl, Nat.le_of_ble_eq_true rfl⟩ (Nat.le_of_ble_eq_true rfl) dX11_since_10 ?_
    show q_Gs w g 13 [(0, .ref 0), (1, .int x1), (2, .int x2)] [.int r2] (q_mm I L)
    refine g_if_eq K1 19 dX11_since_13 rfl (fun hc => ?_) (fun hc => ?_)
    · replace h := h.1 hc
      refine g_aload_n K1 0 dX11_since_19 rfl ?_
      obtain ⟨I3, hct, h⟩ := h
      refine h_callV K1 (st := []) [] (hct w (gl g)) q_clX11 lyp_0 rfl ok_X11_settledCourse ml_X11_179 ⟨Nat.le_of_ble_eq_true rfl, Nat.le_of_ble_eq_true rfl⟩ (Nat.le_of_ble_eq_true rfl) dX11_since_20 ?_
      show q_Gs w g 23 [(0, .ref 0), (1, .int x1), (2, .int x2)] [.ref 75] (q_mm I3 L)
      refine h_getO K1 q_clX3 3 79 lyp_75 fkX3_3 rfl fl_X11_200 dX11_since_23 ?_
      refine g_iload_n K1 1 dX11_since_26 rfl ?_
      refine g_iload_n K1 2 dX11_since_27 rfl ?_
      obtain ⟨r4, hct, h⟩ := h
      refine h_callS K1 (st := [.ref 79]) [.int x1, .int x2] (hct w (gl g)) ok_X11_cell ml_X11_189 ⟨Nat.le_of_ble_eq_true rfl, Nat.le_of_ble_eq_true rfl⟩ (Nat.le_of_ble_eq_true rfl) dX11_since_28 ?_
      show q_Gs w g 31 [(0, .ref 0), (1, .int x1), (2, .int x2)] [.int r4, .ref 79] (q_mm I3 L)
      obtain ⟨hg, h⟩ := h
      refine h_iaload K1 lyp_79 hg dX11_since_31 ?_
      obtain ⟨hr, hI, hL⟩ := h
      subst hr hI hL
      exact g_ireturn K rfl dX11_since_32
    · replace h := h.2 hc
      refine g_bipush K1 (-2) dX11_since_16 rfl ?_
      obtain ⟨hr, hI, hL⟩ := h
      subst hr hI hL
      exact g_ireturn K rfl dX11_since_18
theorem c0_X11_since {r : Option Value} {I I' : Nat → Nat → Int32} {L L' : Nat → Nat → Int64} {x1 : Int32} {x2 : Int32} (h : v_X11_since_0 r I' L' I L x1 x2) : q_C kX11_since [.ref 0, .int x1, .int x2] I L r I' L' := fun w l => q_ct (by decide) (Nat.le_of_ble_eq_true rfl) (Nat.le_refl _) (fun g _ K => h w g K)
abbrev v_X11_sorts_0 (r : Option Value) (I' : Nat → Nat → Int32) (L' : Nat → Nat → Int64) (I : Nat → Nat → Int32) (L : Nat → Nat → Int64) (x1 : Int32) : Prop := q_W kX11_sorts 0 [(0, .ref 0), (1, .int x1)] [] I L r I' L'
abbrev v_X11_sorts_21 (r : Option Value) (I' : Nat → Nat → Int32) (L' : Nat → Nat → Int64) (I : Nat → Nat → Int32) (L : Nat → Nat → Int64) (x1 : Int32) (x3 : Int32) (x4 : Int32) : Prop := q_W kX11_sorts 21 [(0, .ref 0), (1, .int x1), (2, .ref 75), (3, .int x3), (4, .int x4)] [] I L r I' L'
set_option maxRecDepth 20000 in
set_option maxHeartbeats 2000000 in
theorem vc_X11_sorts_0 {r : Option Value} {I' : Nat → Nat → Int32} {L' : Nat → Nat → Int64} {I : Nat → Nat → Int32} {L : Nat → Nat → Int64} {x1 : Int32} (h : (∃ r1, q_C kX11_noHour [.ref 0, .int x1] I L (some (.int r1)) I L ∧ ((r1 = 0 → (∃ I2, q_C kX11_settledCourse [.ref 0] I L (some (.ref 75)) I2 L ∧ (v_X11_sorts_21 r I' L' I2 L x1 0 0))) ∧ (¬ r1 = 0 → (r = some (.int (-2)) ∧ I' = I ∧ L' = L))))) : v_X11_sorts_0 r I' L' I L x1 := by
  intro w g K
  have K1 := K.1
  refine g_aload_n K1 0 dX11_sorts_0 rfl ?_
  refine g_iload_n K1 1 dX11_sorts_1 rfl ?_
  obtain ⟨r1, hct, h⟩ := h
  refine h_callV K1 (st := []) [.int x1] (hct w (gl g)) q_clX11 lyp_0 rfl ok_X11_noHour ml_X11_176 ⟨Nat.le_of_ble_eq_true rfl, Nat.le_of_ble_eq_true rfl⟩ (Nat.le_of_ble_eq_true rfl) dX11_sorts_2 ?_
  show q_Gs w g 5 [(0, .ref 0), (1, .int x1)] [.int r1] (q_mm I L)
  refine g_if_eq K1 11 dX11_sorts_5 rfl (fun hc => ?_) (fun hc => ?_)
  · replace h := h.1 hc
    refine g_aload_n K1 0 dX11_sorts_11 rfl ?_
    obtain ⟨I2, hct, h⟩ := h
    refine h_callV K1 (st := []) [] (hct w (gl g)) q_clX11 lyp_0 rfl ok_X11_settledCourse ml_X11_179 ⟨Nat.le_of_ble_eq_true rfl, Nat.le_of_ble_eq_true rfl⟩ (Nat.le_of_ble_eq_true rfl) dX11_sorts_12 ?_
    show q_Gs w g 15 [(0, .ref 0), (1, .int x1)] [.ref 75] (q_mm I2 L)
    refine g_astore_n K1 dX11_sorts_15 rfl (by decide) rfl ?_
    refine g_iconst K1 0 dX11_sorts_16 rfl ?_
    refine g_istore_n K1 dX11_sorts_17 rfl (by decide) rfl ?_
    refine g_iconst K1 0 dX11_sorts_18 rfl ?_
    refine g_istore K1 dX11_sorts_19 (by decide) rfl ?_
    exact g_perm [3, 4, 2, 1, 0] rfl (h w g K)
  · replace h := h.2 hc
    refine g_bipush K1 (-2) dX11_sorts_8 rfl ?_
    obtain ⟨hr, hI, hL⟩ := h
    subst hr hI hL
    exact g_ireturn K rfl dX11_sorts_10
set_option maxRecDepth 20000 in
set_option maxHeartbeats 2000000 in
theorem vc_X11_sorts_21 {r : Option Value} {I' : Nat → Nat → Int32} {L' : Nat → Nat → Int64} {I : Nat → Nat → Int32} {L : Nat → Nat → Int64} {x1 : Int32} {x3 : Int32} {x4 : Int32} (h : (((I 12 4) ≤ x4 → (r = some (.int x3) ∧ I' = I ∧ L' = L)) ∧ (¬ (I 12 4) ≤ x4 → (∃ r1, q_C kX3_sayingSame [.ref 75, .int x4, .int x1] I L (some (.int r1)) I L ∧ ((r1 = 0 → (v_X11_sorts_21 r I' L' I L x1 x3 (x4 + 1))) ∧ (¬ r1 = 0 → (((r1 &&& (((1 : Int32) <<< (x4 &&& 31)) - 1)) = 0 → (v_X11_sorts_21 r I' L' I L x1 (x3 + 1) (x4 + 1))) ∧ (¬ (r1 &&& (((1 : Int32) <<< (x4 &&& 31)) - 1)) = 0 → (v_X11_sorts_21 r I' L' I L x1 x3 (x4 + 1)))))))))) : v_X11_sorts_21 r I' L' I L x1 x3 x4 := by
  intro w g K
  have K1 := K.1
  refine g_iload K1 4 dX11_sorts_21 rfl ?_
  refine g_aload_n K1 0 dX11_sorts_23 rfl ?_
  refine h_getO K1 q_clX11 5 12 lyp_0 fkX11_5 rfl fl_X11_35 dX11_sorts_24 ?_
  refine h_getI K1 q_clX5 4 lyp_12 fkX5_4 fl_X11_214 dX11_sorts_27 ?_
  refine g_icmp_ge K1 68 dX11_sorts_30 rfl (fun hc => ?_) (fun hc => ?_)
  · replace h := h.1 hc
    refine g_iload_n K1 3 dX11_sorts_68 rfl ?_
    obtain ⟨hr, hI, hL⟩ := h
    subst hr hI hL
    exact g_ireturn K rfl dX11_sorts_69
  · replace h := h.2 hc
    refine g_aload_n K1 2 dX11_sorts_33 rfl ?_
    refine g_iload K1 4 dX11_sorts_34 rfl ?_
    refine g_iload_n K1 1 dX11_sorts_36 rfl ?_
    obtain ⟨r1, hct, h⟩ := h
    refine h_callV K1 (st := []) [.int x4, .int x1] (hct w (gl g)) q_clX3 lyp_75 rfl ok_X3_sayingSame ml_X11_224 ⟨Nat.le_of_ble_eq_true rfl, Nat.le_of_ble_eq_true rfl⟩ (Nat.le_of_ble_eq_true rfl) dX11_sorts_37 ?_
    show q_Gs w g 40 [(0, .ref 0), (1, .int x1), (2, .ref 75), (3, .int x3), (4, .int x4)] [.int r1] (q_mm I L)
    refine g_istore K1 dX11_sorts_40 (by decide) rfl ?_
    refine g_iload K1 0 dX11_sorts_42 rfl ?_
    refine g_if_eq K1 62 dX11_sorts_44 rfl (fun hc => ?_) (fun hc => ?_)
    · replace h := h.1 hc
      refine g_iinc K1 (x4 + 1) 5 dX11_sorts_62 rfl rfl (by decide) rfl ?_
      refine g_goto K1 21 dX11_sorts_65 rfl ?_
      exact g_perm [2, 3, 4, 5, 0] rfl (h w g K)
    · replace h := h.2 hc
      refine g_iload K1 0 dX11_sorts_47 rfl ?_
      refine g_iconst K1 1 dX11_sorts_49 rfl ?_
      refine g_iload K1 5 dX11_sorts_50 rfl ?_
      refine g_ishl K1 dX11_sorts_52 ?_
      refine g_iconst K1 1 dX11_sorts_53 rfl ?_
      refine g_isub K1 dX11_sorts_54 ?_
      refine g_iand K1 dX11_sorts_55 ?_
      refine g_if_ne K1 62 dX11_sorts_56 rfl (fun hc => ?_) (fun hc => ?_)
      · replace h := h.2 hc
        refine g_iinc K1 (x4 + 1) 5 dX11_sorts_62 rfl rfl (by decide) rfl ?_
        refine g_goto K1 21 dX11_sorts_65 rfl ?_
        exact g_perm [2, 3, 4, 5, 0] rfl (h w g K)
      · replace h := h.1 hc
        refine g_iinc K1 (x3 + 1) 4 dX11_sorts_59 rfl rfl (by decide) rfl ?_
        refine g_iinc K1 (x4 + 1) 5 dX11_sorts_62 rfl rfl (by decide) rfl ?_
        refine g_goto K1 21 dX11_sorts_65 rfl ?_
        exact g_perm [3, 4, 5, 1, 0] rfl (h w g K)
theorem c0_X11_sorts {r : Option Value} {I I' : Nat → Nat → Int32} {L L' : Nat → Nat → Int64} {x1 : Int32} (h : v_X11_sorts_0 r I' L' I L x1) : q_C kX11_sorts [.ref 0, .int x1] I L r I' L' := fun w l => q_ct (by decide) (Nat.le_of_ble_eq_true rfl) (Nat.le_refl _) (fun g _ K => h w g K)
abbrev v_X11_spoken_0 (r : Option Value) (I' : Nat → Nat → Int32) (L' : Nat → Nat → Int64) (I : Nat → Nat → Int32) (L : Nat → Nat → Int64) (x1 : Int32) (x2 : Int32) : Prop := q_W kX11_spoken 0 [(0, .ref 0), (1, .int x1), (2, .int x2)] [] I L r I' L'
abbrev v_X11_spoken_29 (r : Option Value) (I' : Nat → Nat → Int32) (L' : Nat → Nat → Int64) (I : Nat → Nat → Int32) (L : Nat → Nat → Int64) (x1 : Int32) (x2 : Int32) (x4 : Int32) (x5 : Int32) : Prop := q_W kX11_spoken 29 [(0, .ref 0), (1, .int x1), (2, .int x2), (3, .ref 75), (4, .int x4), (5, .int x5)] [] I L r I' L'
abbrev v_X11_spoken_44 (r : Option Value) (I' : Nat → Nat → Int32) (L' : Nat → Nat → Int64) (I : Nat → Nat → Int32) (L : Nat → Nat → Int64) (x1 : Int32) (x2 : Int32) (x4 : Int32) (x5 : Int32) (x6 : Int32) : Prop := q_W kX11_spoken 44 [(0, .ref 0), (1, .int x1), (2, .int x2), (3, .ref 75), (4, .int x4), (5, .int x5), (6, .int x6)] [] I L r I' L'
set_option maxRecDepth 20000 in
set_option maxHeartbeats 2000000 in
theorem vc_X11_spoken_0 {r : Option Value} {I' : Nat → Nat → Int32} {L' : Nat → Nat → Int64} {I : Nat → Nat → Int32} {L : Nat → Nat → Int64} {x1 : Int32} {x2 : Int32} (h : (∃ r1, q_C kX11_noLetter [.int x1] I L (some (.int r1)) I L ∧ ((r1 = 0 → (∃ r2, q_C kX11_noHour [.ref 0, .int x2] I L (some (.int r2)) I L ∧ ((r2 = 0 → (∃ I3, q_C kX11_settledCourse [.ref 0] I L (some (.ref 75)) I3 L ∧ (v_X11_spoken_29 r I' L' I3 L x1 x2 0 0))) ∧ (¬ r2 = 0 → (r = some (.int (-2)) ∧ I' = I ∧ L' = L))))) ∧ (¬ r1 = 0 → (r = some (.int (-2)) ∧ I' = I ∧ L' = L))))) : v_X11_spoken_0 r I' L' I L x1 x2 := by
  intro w g K
  have K1 := K.1
  refine g_iload_n K1 1 dX11_spoken_0 rfl ?_
  obtain ⟨r1, hct, h⟩ := h
  refine h_callS K1 (st := []) [.int x1] (hct w (gl g)) ok_X11_noLetter ml_X11_233 ⟨Nat.le_of_ble_eq_true rfl, Nat.le_of_ble_eq_true rfl⟩ (Nat.le_of_ble_eq_true rfl) dX11_spoken_1 ?_
  show q_Gs w g 4 [(0, .ref 0), (1, .int x1), (2, .int x2)] [.int r1] (q_mm I L)
  refine g_if_ne K1 15 dX11_spoken_4 rfl (fun hc => ?_) (fun hc => ?_)
  · replace h := h.2 hc
    refine g_bipush K1 (-2) dX11_spoken_15 rfl ?_
    obtain ⟨hr, hI, hL⟩ := h
    subst hr hI hL
    exact g_ireturn K rfl dX11_spoken_17
  · replace h := h.1 hc
    refine g_aload_n K1 0 dX11_spoken_7 rfl ?_
    refine g_iload_n K1 2 dX11_spoken_8 rfl ?_
    obtain ⟨r2, hct, h⟩ := h
    refine h_callV K1 (st := []) [.int x2] (hct w (gl g)) q_clX11 lyp_0 rfl ok_X11_noHour ml_X11_176 ⟨Nat.le_of_ble_eq_true rfl, Nat.le_of_ble_eq_true rfl⟩ (Nat.le_of_ble_eq_true rfl) dX11_spoken_9 ?_
    show q_Gs w g 12 [(0, .ref 0), (1, .int x1), (2, .int x2)] [.int r2] (q_mm I L)
    refine g_if_eq K1 18 dX11_spoken_12 rfl (fun hc => ?_) (fun hc => ?_)
    · replace h := h.1 hc
      refine g_aload_n K1 0 dX11_spoken_18 rfl ?_
      obtain ⟨I3, hct, h⟩ := h
      refine h_callV K1 (st := []) [] (hct w (gl g)) q_clX11 lyp_0 rfl ok_X11_settledCourse ml_X11_179 ⟨Nat.le_of_ble_eq_true rfl, Nat.le_of_ble_eq_true rfl⟩ (Nat.le_of_ble_eq_true rfl) dX11_spoken_19 ?_
      show q_Gs w g 22 [(0, .ref 0), (1, .int x1), (2, .int x2)] [.ref 75] (q_mm I3 L)
      refine g_astore_n K1 dX11_spoken_22 rfl (by decide) rfl ?_
      refine g_iconst K1 0 dX11_spoken_23 rfl ?_
      refine g_istore K1 dX11_spoken_24 (by decide) rfl ?_
      refine g_iconst K1 0 dX11_spoken_26 rfl ?_
      refine g_istore K1 dX11_spoken_27 (by decide) rfl ?_
      exact g_perm [3, 4, 5, 2, 1, 0] rfl (h w g K)
    · replace h := h.2 hc
      refine g_bipush K1 (-2) dX11_spoken_15 rfl ?_
      obtain ⟨hr, hI, hL⟩ := h
      subst hr hI hL
      exact g_ireturn K rfl dX11_spoken_17
set_option maxRecDepth 20000 in
set_option maxHeartbeats 2000000 in
theorem vc_X11_spoken_29 {r : Option Value} {I' : Nat → Nat → Int32} {L' : Nat → Nat → Int64} {I : Nat → Nat → Int32} {L : Nat → Nat → Int64} {x1 : Int32} {x2 : Int32} {x4 : Int32} {x5 : Int32} (h : (((I 12 4) ≤ x5 → (r = some (.int x4) ∧ I' = I ∧ L' = L)) ∧ (¬ (I 12 4) ≤ x5 → (v_X11_spoken_44 r I' L' I L x1 x2 x4 x5 0)))) : v_X11_spoken_29 r I' L' I L x1 x2 x4 x5 := by
  intro w g K
  have K1 := K.1
  refine g_iload K1 5 dX11_spoken_29 rfl ?_
  refine g_aload_n K1 0 dX11_spoken_31 rfl ?_
  refine h_getO K1 q_clX11 5 12 lyp_0 fkX11_5 rfl fl_X11_35 dX11_spoken_32 ?_
  refine h_getI K1 q_clX5 4 lyp_12 fkX5_4 fl_X11_214 dX11_spoken_35 ?_
  refine g_icmp_ge K1 86 dX11_spoken_38 rfl (fun hc => ?_) (fun hc => ?_)
  · replace h := h.1 hc
    refine g_iload K1 4 dX11_spoken_86 rfl ?_
    obtain ⟨hr, hI, hL⟩ := h
    subst hr hI hL
    exact g_ireturn K rfl dX11_spoken_88
  · replace h := h.2 hc
    refine g_iconst K1 0 dX11_spoken_41 rfl ?_
    refine g_istore K1 dX11_spoken_42 (by decide) rfl ?_
    exact g_perm [1, 2, 3, 4, 5, 6, 0] rfl (h w g K)
set_option maxRecDepth 20000 in
set_option maxHeartbeats 2000000 in
theorem vc_X11_spoken_44 {r : Option Value} {I' : Nat → Nat → Int32} {L' : Nat → Nat → Int64} {I : Nat → Nat → Int32} {L : Nat → Nat → Int64} {x1 : Int32} {x2 : Int32} {x4 : Int32} {x5 : Int32} {x6 : Int32} (h : ((6 ≤ x6 → (v_X11_spoken_29 r I' L' I L x1 x2 x4 (x5 + 1))) ∧ (¬ 6 ≤ x6 → (∃ r1, q_C kX11_cell [.int x5, .int x2] I L (some (.int r1)) I L ∧ (vp_in r1 91 ∧ (∃ r2, q_C kX7_letterAt [.int (I 77 r1.toNatClampNeg), .int x6] I L (some (.int r2)) I L ∧ ((r2 = x1 → (v_X11_spoken_44 r I' L' I L x1 x2 (x4 + 1) x5 (x6 + 1))) ∧ (¬ r2 = x1 → (v_X11_spoken_44 r I' L' I L x1 x2 x4 x5 (x6 + 1)))))))))) : v_X11_spoken_44 r I' L' I L x1 x2 x4 x5 x6 := by
  intro w g K
  have K1 := K.1
  refine g_iload K1 6 dX11_spoken_44 rfl ?_
  refine g_bipush K1 6 dX11_spoken_46 rfl ?_
  refine g_icmp_ge K1 80 dX11_spoken_48 rfl (fun hc => ?_) (fun hc => ?_)
  · replace h := h.1 hc
    refine g_iinc K1 (x5 + 1) 5 dX11_spoken_80 rfl rfl (by decide) rfl ?_
    refine g_goto K1 29 dX11_spoken_83 rfl ?_
    exact g_perm [1, 2, 3, 4, 5, 0] rfl (h w g K)
  · replace h := h.2 hc
    refine g_aload_n K1 3 dX11_spoken_51 rfl ?_
    refine h_getO K1 q_clX3 1 77 lyp_75 fkX3_1 rfl fl_X11_186 dX11_spoken_52 ?_
    refine g_iload K1 5 dX11_spoken_55 rfl ?_
    refine g_iload_n K1 2 dX11_spoken_57 rfl ?_
    obtain ⟨r1, hct, h⟩ := h
    refine h_callS K1 (st := [.ref 77]) [.int x5, .int x2] (hct w (gl g)) ok_X11_cell ml_X11_189 ⟨Nat.le_of_ble_eq_true rfl, Nat.le_of_ble_eq_true rfl⟩ (Nat.le_of_ble_eq_true rfl) dX11_spoken_58 ?_
    show q_Gs w g 61 [(0, .ref 0), (1, .int x1), (2, .int x2), (3, .ref 75), (4, .int x4), (5, .int x5), (6, .int x6)] [.int r1, .ref 77] (q_mm I L)
    obtain ⟨hg, h⟩ := h
    refine h_iaload K1 lyp_77 hg dX11_spoken_61 ?_
    refine g_iload K1 6 dX11_spoken_62 rfl ?_
    obtain ⟨r2, hct, h⟩ := h
    refine h_callS K1 (st := []) [.int (I 77 r1.toNatClampNeg), .int x6] (hct w (gl g)) ok_X7_letterAt ml_X11_236 ⟨Nat.le_of_ble_eq_true rfl, Nat.le_of_ble_eq_true rfl⟩ (Nat.le_of_ble_eq_true rfl) dX11_spoken_64 ?_
    show q_Gs w g 67 [(0, .ref 0), (1, .int x1), (2, .int x2), (3, .ref 75), (4, .int x4), (5, .int x5), (6, .int x6)] [.int r2] (q_mm I L)
    refine g_iload_n K1 1 dX11_spoken_67 rfl ?_
    refine g_icmp_ne K1 74 dX11_spoken_68 rfl (fun hc => ?_) (fun hc => ?_)
    · replace h := h.2 hc
      refine g_iinc K1 (x6 + 1) 6 dX11_spoken_74 rfl rfl (by decide) rfl ?_
      refine g_goto K1 44 dX11_spoken_77 rfl ?_
      exact g_perm [1, 2, 3, 4, 5, 6, 0] rfl (h w g K)
    · replace h := h.1 hc
      refine g_iinc K1 (x4 + 1) 4 dX11_spoken_71 rfl rfl (by decide) rfl ?_
      refine g_iinc K1 (x6 + 1) 6 dX11_spoken_74 rfl rfl (by decide) rfl ?_
      refine g_goto K1 44 dX11_spoken_77 rfl ?_
      exact g_perm [2, 3, 4, 5, 1, 6, 0] rfl (h w g K)
theorem c0_X11_spoken {r : Option Value} {I I' : Nat → Nat → Int32} {L L' : Nat → Nat → Int64} {x1 : Int32} {x2 : Int32} (h : v_X11_spoken_0 r I' L' I L x1 x2) : q_C kX11_spoken [.ref 0, .int x1, .int x2] I L r I' L' := fun w l => q_ct (by decide) (Nat.le_of_ble_eq_true rfl) (Nat.le_refl _) (fun g _ K => h w g K)
abbrev v_X11_still_0 (r : Option Value) (I' : Nat → Nat → Int32) (L' : Nat → Nat → Int64) (I : Nat → Nat → Int32) (L : Nat → Nat → Int64)  : Prop := q_W kX11_still 0 [(0, .ref 0)] [] I L r I' L'
abbrev v_X11_still_23 (r : Option Value) (I' : Nat → Nat → Int32) (L' : Nat → Nat → Int64) (I : Nat → Nat → Int32) (L : Nat → Nat → Int64) (x2 : Int32) : Prop := q_W kX11_still 23 [(1, .ref 75), (2, .int x2)] [] I L r I' L'
set_option maxRecDepth 20000 in
set_option maxHeartbeats 2000000 in
theorem vc_X11_still_0 {r : Option Value} {I' : Nat → Nat → Int32} {L' : Nat → Nat → Int64} {I : Nat → Nat → Int32} {L : Nat → Nat → Int64}  (h : (∃ r1, q_C kX11_noNight [.ref 0] I L (some (.int r1)) I L ∧ ((r1 = 0 → (∃ I2, q_C kX11_settledCourse [.ref 0] I L (some (.ref 75)) I2 L ∧ (v_X11_still_23 r I' L' I2 L (I2 12 1)))) ∧ (¬ r1 = 0 → (r = some (.int (-2)) ∧ I' = I ∧ L' = L))))) : v_X11_still_0 r I' L' I L  := by
  intro w g K
  have K1 := K.1
  refine g_aload_n K1 0 dX11_still_0 rfl ?_
  obtain ⟨r1, hct, h⟩ := h
  refine h_callV K1 (st := []) [] (hct w (gl g)) q_clX11 lyp_0 rfl ok_X11_noNight ml_X11_210 ⟨Nat.le_of_ble_eq_true rfl, Nat.le_of_ble_eq_true rfl⟩ (Nat.le_of_ble_eq_true rfl) dX11_still_1 ?_
  show q_Gs w g 4 [(0, .ref 0)] [.int r1] (q_mm I L)
  refine g_if_eq K1 10 dX11_still_4 rfl (fun hc => ?_) (fun hc => ?_)
  · replace h := h.1 hc
    refine g_aload_n K1 0 dX11_still_10 rfl ?_
    obtain ⟨I2, hct, h⟩ := h
    refine h_callV K1 (st := []) [] (hct w (gl g)) q_clX11 lyp_0 rfl ok_X11_settledCourse ml_X11_179 ⟨Nat.le_of_ble_eq_true rfl, Nat.le_of_ble_eq_true rfl⟩ (Nat.le_of_ble_eq_true rfl) dX11_still_11 ?_
    show q_Gs w g 14 [(0, .ref 0)] [.ref 75] (q_mm I2 L)
    refine g_astore_n K1 dX11_still_14 rfl (by decide) rfl ?_
    refine g_aload_n K1 1 dX11_still_15 rfl ?_
    refine h_getO K1 q_clX11 5 12 lyp_0 fkX11_5 rfl fl_X11_35 dX11_still_16 ?_
    refine h_getI K1 q_clX5 1 lyp_12 fkX5_1 fl_X11_203 dX11_still_19 ?_
    refine g_istore_n K1 dX11_still_22 rfl (by decide) rfl ?_
    exact g_perm [1, 0] rfl (h w g K)
  · replace h := h.2 hc
    refine g_bipush K1 (-2) dX11_still_7 rfl ?_
    obtain ⟨hr, hI, hL⟩ := h
    subst hr hI hL
    exact g_ireturn K rfl dX11_still_9
set_option maxRecDepth 20000 in
set_option maxHeartbeats 2000000 in
theorem vc_X11_still_23 {r : Option Value} {I' : Nat → Nat → Int32} {L' : Nat → Nat → Int64} {I : Nat → Nat → Int32} {L : Nat → Nat → Int64} {x2 : Int32} (h : ((x2 ≤ 0 → (r = some (.int x2) ∧ I' = I ∧ L' = L)) ∧ (¬ x2 ≤ 0 → (∃ r1, q_C kX3_otherwise [.ref 75, .int x2, .int (x2 - 1)] I L (some (.int r1)) I L ∧ ((r1 = 0 → (v_X11_still_23 r I' L' I L (x2 + (-1)))) ∧ (¬ r1 = 0 → (r = some (.int x2) ∧ I' = I ∧ L' = L))))))) : v_X11_still_23 r I' L' I L x2 := by
  intro w g K
  have K1 := K.1
  refine g_iload_n K1 1 dX11_still_23 rfl ?_
  refine g_if_le K1 44 dX11_still_24 rfl (fun hc => ?_) (fun hc => ?_)
  · replace h := h.1 hc
    refine g_iload_n K1 1 dX11_still_44 rfl ?_
    obtain ⟨hr, hI, hL⟩ := h
    subst hr hI hL
    exact g_ireturn K rfl dX11_still_45
  · replace h := h.2 hc
    refine g_aload_n K1 0 dX11_still_27 rfl ?_
    refine g_iload_n K1 1 dX11_still_28 rfl ?_
    refine g_iload_n K1 1 dX11_still_29 rfl ?_
    refine g_iconst K1 1 dX11_still_30 rfl ?_
    refine g_isub K1 dX11_still_31 ?_
    obtain ⟨r1, hct, h⟩ := h
    refine h_callV K1 (st := []) [.int x2, .int (x2 - 1)] (hct w (gl g)) q_clX3 lyp_75 rfl ok_X3_otherwise ml_X11_221 ⟨Nat.le_of_ble_eq_true rfl, Nat.le_of_ble_eq_true rfl⟩ (Nat.le_of_ble_eq_true rfl) dX11_still_32 ?_
    show q_Gs w g 35 [(1, .ref 75), (2, .int x2)] [.int r1] (q_mm I L)
    refine g_if_ne K1 44 dX11_still_35 rfl (fun hc => ?_) (fun hc => ?_)
    · replace h := h.2 hc
      refine g_iload_n K1 1 dX11_still_44 rfl ?_
      obtain ⟨hr, hI, hL⟩ := h
      subst hr hI hL
      exact g_ireturn K rfl dX11_still_45
    · replace h := h.1 hc
      refine g_iinc K1 (x2 + (-1)) 1 dX11_still_38 rfl rfl (by decide) rfl ?_
      refine g_goto K1 23 dX11_still_41 rfl ?_
      exact g_perm [1, 0] rfl (h w g K)
theorem c0_X11_still {r : Option Value} {I I' : Nat → Nat → Int32} {L L' : Nat → Nat → Int64}  (h : v_X11_still_0 r I' L' I L ) : q_C kX11_still [.ref 0] I L r I' L' := fun w l => q_ct (by decide) (Nat.le_of_ble_eq_true rfl) (Nat.le_refl _) (fun g _ K => h w g K)
abbrev v_X11_taught_0 (r : Option Value) (I' : Nat → Nat → Int32) (L' : Nat → Nat → Int64) (I : Nat → Nat → Int32) (L : Nat → Nat → Int64) (x1 : Int32) : Prop := q_W kX11_taught 0 [(0, .ref 0), (1, .int x1)] [] I L r I' L'
abbrev v_X11_taught_21 (r : Option Value) (I' : Nat → Nat → Int32) (L' : Nat → Nat → Int64) (I : Nat → Nat → Int32) (L : Nat → Nat → Int64) (x1 : Int32) (x3 : Int32) (x4 : Int32) : Prop := q_W kX11_taught 21 [(0, .ref 0), (1, .int x1), (2, .ref 75), (3, .int x3), (4, .int x4)] [] I L r I' L'
abbrev v_X11_taught_36 (r : Option Value) (I' : Nat → Nat → Int32) (L' : Nat → Nat → Int64) (I : Nat → Nat → Int32) (L : Nat → Nat → Int64) (x1 : Int32) (x3 : Int32) (x4 : Int32) (x5 : Int32) : Prop := q_W kX11_taught 36 [(0, .ref 0), (1, .int x1), (2, .ref 75), (3, .int x3), (4, .int x4), (5, .int x5)] [] I L r I' L'
set_option maxRecDepth 20000 in
set_option maxHeartbeats 2000000 in
theorem vc_X11_taught_0 {r : Option Value} {I' : Nat → Nat → Int32} {L' : Nat → Nat → Int64} {I : Nat → Nat → Int32} {L : Nat → Nat → Int64} {x1 : Int32} (h : (∃ r1, q_C kX11_noPew [.ref 0, .int x1] I L (some (.int r1)) I L ∧ ((r1 = 0 → (∃ I2, q_C kX11_settledCourse [.ref 0] I L (some (.ref 75)) I2 L ∧ (v_X11_taught_21 r I' L' I2 L x1 0 0))) ∧ (¬ r1 = 0 → (r = some (.int (-2)) ∧ I' = I ∧ L' = L))))) : v_X11_taught_0 r I' L' I L x1 := by
  intro w g K
  have K1 := K.1
  refine g_aload_n K1 0 dX11_taught_0 rfl ?_
  refine g_iload_n K1 1 dX11_taught_1 rfl ?_
  obtain ⟨r1, hct, h⟩ := h
  refine h_callV K1 (st := []) [.int x1] (hct w (gl g)) q_clX11 lyp_0 rfl ok_X11_noPew ml_X11_145 ⟨Nat.le_of_ble_eq_true rfl, Nat.le_of_ble_eq_true rfl⟩ (Nat.le_of_ble_eq_true rfl) dX11_taught_2 ?_
  show q_Gs w g 5 [(0, .ref 0), (1, .int x1)] [.int r1] (q_mm I L)
  refine g_if_eq K1 11 dX11_taught_5 rfl (fun hc => ?_) (fun hc => ?_)
  · replace h := h.1 hc
    refine g_aload_n K1 0 dX11_taught_11 rfl ?_
    obtain ⟨I2, hct, h⟩ := h
    refine h_callV K1 (st := []) [] (hct w (gl g)) q_clX11 lyp_0 rfl ok_X11_settledCourse ml_X11_179 ⟨Nat.le_of_ble_eq_true rfl, Nat.le_of_ble_eq_true rfl⟩ (Nat.le_of_ble_eq_true rfl) dX11_taught_12 ?_
    show q_Gs w g 15 [(0, .ref 0), (1, .int x1)] [.ref 75] (q_mm I2 L)
    refine g_astore_n K1 dX11_taught_15 rfl (by decide) rfl ?_
    refine g_iconst K1 0 dX11_taught_16 rfl ?_
    refine g_istore_n K1 dX11_taught_17 rfl (by decide) rfl ?_
    refine g_iconst K1 0 dX11_taught_18 rfl ?_
    refine g_istore K1 dX11_taught_19 (by decide) rfl ?_
    exact g_perm [3, 4, 2, 1, 0] rfl (h w g K)
  · replace h := h.2 hc
    refine g_bipush K1 (-2) dX11_taught_8 rfl ?_
    obtain ⟨hr, hI, hL⟩ := h
    subst hr hI hL
    exact g_ireturn K rfl dX11_taught_10
set_option maxRecDepth 20000 in
set_option maxHeartbeats 2000000 in
theorem vc_X11_taught_21 {r : Option Value} {I' : Nat → Nat → Int32} {L' : Nat → Nat → Int64} {I : Nat → Nat → Int32} {L : Nat → Nat → Int64} {x1 : Int32} {x3 : Int32} {x4 : Int32} (h : (((I 12 1) < x4 → (r = some (.int x3) ∧ I' = I ∧ L' = L)) ∧ (¬ (I 12 1) < x4 → (v_X11_taught_36 r I' L' I L x1 x3 x4 0)))) : v_X11_taught_21 r I' L' I L x1 x3 x4 := by
  intro w g K
  have K1 := K.1
  refine g_iload K1 4 dX11_taught_21 rfl ?_
  refine g_aload_n K1 0 dX11_taught_23 rfl ?_
  refine h_getO K1 q_clX11 5 12 lyp_0 fkX11_5 rfl fl_X11_35 dX11_taught_24 ?_
  refine h_getI K1 q_clX5 1 lyp_12 fkX5_1 fl_X11_203 dX11_taught_27 ?_
  refine g_icmp_gt K1 83 dX11_taught_30 rfl (fun hc => ?_) (fun hc => ?_)
  · replace h := h.1 hc
    refine g_iload_n K1 3 dX11_taught_83 rfl ?_
    obtain ⟨hr, hI, hL⟩ := h
    subst hr hI hL
    exact g_ireturn K rfl dX11_taught_84
  · replace h := h.2 hc
    refine g_iconst K1 0 dX11_taught_33 rfl ?_
    refine g_istore K1 dX11_taught_34 (by decide) rfl ?_
    exact g_perm [1, 2, 3, 4, 5, 0] rfl (h w g K)
set_option maxRecDepth 20000 in
set_option maxHeartbeats 2000000 in
theorem vc_X11_taught_36 {r : Option Value} {I' : Nat → Nat → Int32} {L' : Nat → Nat → Int64} {I : Nat → Nat → Int32} {L : Nat → Nat → Int64} {x1 : Int32} {x3 : Int32} {x4 : Int32} {x5 : Int32} (h : (((I 12 4) ≤ x5 → (v_X11_taught_21 r I' L' I L x1 x3 (x4 + 1))) ∧ (¬ (I 12 4) ≤ x5 → (∃ r1, q_C kX11_cell [.int x5, .int x4] I L (some (.int r1)) I L ∧ (vp_in r1 91 ∧ (((I 78 r1.toNatClampNeg) = x1 → (v_X11_taught_36 r I' L' I L x1 (x3 ||| ((1 : Int32) <<< (x5 &&& 31))) x4 (x5 + 1))) ∧ (¬ (I 78 r1.toNatClampNeg) = x1 → (v_X11_taught_36 r I' L' I L x1 x3 x4 (x5 + 1))))))))) : v_X11_taught_36 r I' L' I L x1 x3 x4 x5 := by
  intro w g K
  have K1 := K.1
  refine g_iload K1 5 dX11_taught_36 rfl ?_
  refine g_aload_n K1 0 dX11_taught_38 rfl ?_
  refine h_getO K1 q_clX11 5 12 lyp_0 fkX11_5 rfl fl_X11_35 dX11_taught_39 ?_
  refine h_getI K1 q_clX5 4 lyp_12 fkX5_4 fl_X11_214 dX11_taught_42 ?_
  refine g_icmp_ge K1 77 dX11_taught_45 rfl (fun hc => ?_) (fun hc => ?_)
  · replace h := h.1 hc
    refine g_iinc K1 (x4 + 1) 4 dX11_taught_77 rfl rfl (by decide) rfl ?_
    refine g_goto K1 21 dX11_taught_80 rfl ?_
    exact g_perm [1, 2, 3, 4, 0] rfl (h w g K)
  · replace h := h.2 hc
    refine g_aload_n K1 2 dX11_taught_48 rfl ?_
    refine h_getO K1 q_clX3 2 78 lyp_75 fkX3_2 rfl fl_X11_197 dX11_taught_49 ?_
    refine g_iload K1 5 dX11_taught_52 rfl ?_
    refine g_iload K1 4 dX11_taught_54 rfl ?_
    obtain ⟨r1, hct, h⟩ := h
    refine h_callS K1 (st := [.ref 78]) [.int x5, .int x4] (hct w (gl g)) ok_X11_cell ml_X11_189 ⟨Nat.le_of_ble_eq_true rfl, Nat.le_of_ble_eq_true rfl⟩ (Nat.le_of_ble_eq_true rfl) dX11_taught_56 ?_
    show q_Gs w g 59 [(0, .ref 0), (1, .int x1), (2, .ref 75), (3, .int x3), (4, .int x4), (5, .int x5)] [.int r1, .ref 78] (q_mm I L)
    obtain ⟨hg, h⟩ := h
    refine h_iaload K1 lyp_78 hg dX11_taught_59 ?_
    refine g_iload_n K1 1 dX11_taught_60 rfl ?_
    refine g_icmp_ne K1 71 dX11_taught_61 rfl (fun hc => ?_) (fun hc => ?_)
    · replace h := h.2 hc
      refine g_iinc K1 (x5 + 1) 5 dX11_taught_71 rfl rfl (by decide) rfl ?_
      refine g_goto K1 36 dX11_taught_74 rfl ?_
      exact g_perm [1, 2, 3, 4, 5, 0] rfl (h w g K)
    · replace h := h.1 hc
      refine g_iload_n K1 3 dX11_taught_64 rfl ?_
      refine g_iconst K1 1 dX11_taught_65 rfl ?_
      refine g_iload K1 5 dX11_taught_66 rfl ?_
      refine g_ishl K1 dX11_taught_68 ?_
      refine g_ior K1 dX11_taught_69 ?_
      refine g_istore_n K1 dX11_taught_70 rfl (by decide) rfl ?_
      refine g_iinc K1 (x5 + 1) 5 dX11_taught_71 rfl rfl (by decide) rfl ?_
      refine g_goto K1 36 dX11_taught_74 rfl ?_
      exact g_perm [2, 3, 4, 1, 5, 0] rfl (h w g K)
theorem c0_X11_taught {r : Option Value} {I I' : Nat → Nat → Int32} {L L' : Nat → Nat → Int64} {x1 : Int32} (h : v_X11_taught_0 r I' L' I L x1) : q_C kX11_taught [.ref 0, .int x1] I L r I' L' := fun w l => q_ct (by decide) (Nat.le_of_ble_eq_true rfl) (Nat.le_refl _) (fun g _ K => h w g K)
abbrev v_X11_told_0 (r : Option Value) (I' : Nat → Nat → Int32) (L' : Nat → Nat → Int64) (I : Nat → Nat → Int32) (L : Nat → Nat → Int64) (x1 : Int32) (x2 : Int32) : Prop := q_W kX11_told 0 [(0, .ref 0), (1, .int x1), (2, .int x2)] [] I L r I' L'
set_option maxRecDepth 20000 in
set_option maxHeartbeats 2000000 in
theorem vc_X11_told_0 {r : Option Value} {I' : Nat → Nat → Int32} {L' : Nat → Nat → Int64} {I : Nat → Nat → Int32} {L : Nat → Nat → Int64} {x1 : Int32} {x2 : Int32} (h : ((x1 < 0 → (r = some (.int (-2)) ∧ I' = I ∧ L' = L)) ∧ (¬ x1 < 0 → ((x1 < (I 12 6) → (vp_in x1 4 ∧ (∃ r1, q_C kX11_letterOrNone [.int (I 18 x1.toNatClampNeg), .int x2] I L (some (.int r1)) I L ∧ (r = some (.int r1) ∧ I' = I ∧ L' = L)))) ∧ (¬ x1 < (I 12 6) → (r = some (.int (-2)) ∧ I' = I ∧ L' = L)))))) : v_X11_told_0 r I' L' I L x1 x2 := by
  intro w g K
  have K1 := K.1
  refine g_iload_n K1 1 dX11_told_0 rfl ?_
  refine g_if_lt K1 15 dX11_told_1 rfl (fun hc => ?_) (fun hc => ?_)
  · replace h := h.1 hc
    refine g_bipush K1 (-2) dX11_told_15 rfl ?_
    obtain ⟨hr, hI, hL⟩ := h
    subst hr hI hL
    exact g_ireturn K rfl dX11_told_17
  · replace h := h.2 hc
    refine g_iload_n K1 1 dX11_told_4 rfl ?_
    refine g_aload_n K1 0 dX11_told_5 rfl ?_
    refine h_getO K1 q_clX11 5 12 lyp_0 fkX11_5 rfl fl_X11_35 dX11_told_6 ?_
    refine h_getI K1 q_clX5 6 lyp_12 fkX5_6 fl_X11_166 dX11_told_9 ?_
    refine g_icmp_lt K1 18 dX11_told_12 rfl (fun hc => ?_) (fun hc => ?_)
    · replace h := h.1 hc
      refine g_aload_n K1 0 dX11_told_18 rfl ?_
      refine h_getO K1 q_clX11 5 12 lyp_0 fkX11_5 rfl fl_X11_35 dX11_told_19 ?_
      refine h_getO K1 q_clX5 13 18 lyp_12 fkX5_13 rfl fl_X11_169 dX11_told_22 ?_
      refine g_iload_n K1 1 dX11_told_25 rfl ?_
      obtain ⟨hg, h⟩ := h
      refine h_iaload K1 lyp_18 hg dX11_told_26 ?_
      refine g_iload_n K1 2 dX11_told_27 rfl ?_
      obtain ⟨r1, hct, h⟩ := h
      refine h_callS K1 (st := []) [.int (I 18 x1.toNatClampNeg), .int x2] (hct w (gl g)) ok_X11_letterOrNone ml_X11_172 ⟨Nat.le_of_ble_eq_true rfl, Nat.le_of_ble_eq_true rfl⟩ (Nat.le_of_ble_eq_true rfl) dX11_told_28 ?_
      show q_Gs w g 31 [(0, .ref 0), (1, .int x1), (2, .int x2)] [.int r1] (q_mm I L)
      obtain ⟨hr, hI, hL⟩ := h
      subst hr hI hL
      exact g_ireturn K rfl dX11_told_31
    · replace h := h.2 hc
      refine g_bipush K1 (-2) dX11_told_15 rfl ?_
      obtain ⟨hr, hI, hL⟩ := h
      subst hr hI hL
      exact g_ireturn K rfl dX11_told_17
theorem c0_X11_told {r : Option Value} {I I' : Nat → Nat → Int32} {L L' : Nat → Nat → Int64} {x1 : Int32} {x2 : Int32} (h : v_X11_told_0 r I' L' I L x1 x2) : q_C kX11_told [.ref 0, .int x1, .int x2] I L r I' L' := fun w l => q_ct (by decide) (Nat.le_of_ble_eq_true rfl) (Nat.le_refl _) (fun g _ K => h w g K)
abbrev v_X11_turned_0 (r : Option Value) (I' : Nat → Nat → Int32) (L' : Nat → Nat → Int64) (I : Nat → Nat → Int32) (L : Nat → Nat → Int64) (x1 : Int32) : Prop := q_W kX11_turned 0 [(0, .ref 0), (1, .int x1)] [] I L r I' L'
set_option maxRecDepth 20000 in
set_option maxHeartbeats 2000000 in
theorem vc_X11_turned_0 {r : Option Value} {I' : Nat → Nat → Int32} {L' : Nat → Nat → Int64} {I : Nat → Nat → Int32} {L : Nat → Nat → Int64} {x1 : Int32} (h : (∃ r1, q_C kX11_noHour [.ref 0, .int x1] I L (some (.int r1)) I L ∧ ((r1 = 0 → (∃ I2, q_C kX11_settledCourse [.ref 0] I L (some (.ref 75)) I2 L ∧ ((x1 = 0 → (vp_in 0 13 ∧ (r = some (.int (I2 76 (0 : Int32).toNatClampNeg)) ∧ I' = I2 ∧ L' = L))) ∧ (¬ x1 = 0 → (∃ r3, q_C kX3_otherwise [.ref 75, .int x1, .int (x1 - 1)] I2 L (some (.int r3)) I2 L ∧ (r = some (.int r3) ∧ I' = I2 ∧ L' = L)))))) ∧ (¬ r1 = 0 → (r = some (.int (-2)) ∧ I' = I ∧ L' = L))))) : v_X11_turned_0 r I' L' I L x1 := by
  intro w g K
  have K1 := K.1
  refine g_aload_n K1 0 dX11_turned_0 rfl ?_
  refine g_iload_n K1 1 dX11_turned_1 rfl ?_
  obtain ⟨r1, hct, h⟩ := h
  refine h_callV K1 (st := []) [.int x1] (hct w (gl g)) q_clX11 lyp_0 rfl ok_X11_noHour ml_X11_176 ⟨Nat.le_of_ble_eq_true rfl, Nat.le_of_ble_eq_true rfl⟩ (Nat.le_of_ble_eq_true rfl) dX11_turned_2 ?_
  show q_Gs w g 5 [(0, .ref 0), (1, .int x1)] [.int r1] (q_mm I L)
  refine g_if_eq K1 11 dX11_turned_5 rfl (fun hc => ?_) (fun hc => ?_)
  · replace h := h.1 hc
    refine g_aload_n K1 0 dX11_turned_11 rfl ?_
    obtain ⟨I2, hct, h⟩ := h
    refine h_callV K1 (st := []) [] (hct w (gl g)) q_clX11 lyp_0 rfl ok_X11_settledCourse ml_X11_179 ⟨Nat.le_of_ble_eq_true rfl, Nat.le_of_ble_eq_true rfl⟩ (Nat.le_of_ble_eq_true rfl) dX11_turned_12 ?_
    show q_Gs w g 15 [(0, .ref 0), (1, .int x1)] [.ref 75] (q_mm I2 L)
    refine g_astore_n K1 dX11_turned_15 rfl (by decide) rfl ?_
    refine g_iload_n K1 2 dX11_turned_16 rfl ?_
    refine g_if_ne K1 29 dX11_turned_17 rfl (fun hc => ?_) (fun hc => ?_)
    · replace h := h.2 hc
      refine g_aload_n K1 0 dX11_turned_29 rfl ?_
      refine g_iload_n K1 2 dX11_turned_30 rfl ?_
      refine g_iload_n K1 2 dX11_turned_31 rfl ?_
      refine g_iconst K1 1 dX11_turned_32 rfl ?_
      refine g_isub K1 dX11_turned_33 ?_
      obtain ⟨r3, hct, h⟩ := h
      refine h_callV K1 (st := []) [.int x1, .int (x1 - 1)] (hct w (gl g)) q_clX3 lyp_75 rfl ok_X3_otherwise ml_X11_221 ⟨Nat.le_of_ble_eq_true rfl, Nat.le_of_ble_eq_true rfl⟩ (Nat.le_of_ble_eq_true rfl) dX11_turned_34 ?_
      show q_Gs w g 37 [(2, .ref 75), (0, .ref 0), (1, .int x1)] [.int r3] (q_mm I2 L)
      obtain ⟨hr, hI, hL⟩ := h
      subst hr hI hL
      exact g_ireturn K rfl dX11_turned_37
    · replace h := h.1 hc
      refine g_aload_n K1 0 dX11_turned_20 rfl ?_
      refine h_getO K1 q_clX3 0 76 lyp_75 fkX3_0 rfl fl_X11_183 dX11_turned_21 ?_
      refine g_iconst K1 0 dX11_turned_24 rfl ?_
      obtain ⟨hg, h⟩ := h
      refine h_iaload K1 lyp_76 hg dX11_turned_25 ?_
      refine g_goto K1 37 dX11_turned_26 rfl ?_
      obtain ⟨hr, hI, hL⟩ := h
      subst hr hI hL
      exact g_ireturn K rfl dX11_turned_37
  · replace h := h.2 hc
    refine g_bipush K1 (-2) dX11_turned_8 rfl ?_
    obtain ⟨hr, hI, hL⟩ := h
    subst hr hI hL
    exact g_ireturn K rfl dX11_turned_10
theorem c0_X11_turned {r : Option Value} {I I' : Nat → Nat → Int32} {L L' : Nat → Nat → Int64} {x1 : Int32} (h : v_X11_turned_0 r I' L' I L x1) : q_C kX11_turned [.ref 0, .int x1] I L r I' L' := fun w l => q_ct (by decide) (Nat.le_of_ble_eq_true rfl) (Nat.le_refl _) (fun g _ K => h w g K)
abbrev v_X11_undo_0 (r : Option Value) (I' : Nat → Nat → Int32) (L' : Nat → Nat → Int64) (I : Nat → Nat → Int32) (L : Nat → Nat → Int64)  : Prop := q_W kX11_undo 0 [(0, .ref 0)] [] I L r I' L'
set_option maxRecDepth 20000 in
set_option maxHeartbeats 2000000 in
theorem vc_X11_undo_0 {r : Option Value} {I' : Nat → Nat → Int32} {L' : Nat → Nat → Int64} {I : Nat → Nat → Int32} {L : Nat → Nat → Int64}  (h : (∃ r1, q_C kX11_noNight [.ref 0] I L (some (.int r1)) I L ∧ ((r1 = 0 → (((I 21 0) = 0 → (r = some (.int (-5)) ∧ I' = I ∧ L' = L)) ∧ (¬ (I 21 0) = 0 → (∃ I2, q_C kX11_unsettle [.ref 0] (up2 I 21 0 ((I 21 0) - 1)) L none I2 L ∧ (r = some (.int (I2 21 0)) ∧ I' = I2 ∧ L' = L))))) ∧ (¬ r1 = 0 → (r = some (.int (-2)) ∧ I' = I ∧ L' = L))))) : v_X11_undo_0 r I' L' I L  := by
  intro w g K
  have K1 := K.1
  refine g_aload_n K1 0 dX11_undo_0 rfl ?_
  obtain ⟨r1, hct, h⟩ := h
  refine h_callV K1 (st := []) [] (hct w (gl g)) q_clX11 lyp_0 rfl ok_X11_noNight ml_X11_210 ⟨Nat.le_of_ble_eq_true rfl, Nat.le_of_ble_eq_true rfl⟩ (Nat.le_of_ble_eq_true rfl) dX11_undo_1 ?_
  show q_Gs w g 4 [(0, .ref 0)] [.int r1] (q_mm I L)
  refine g_if_eq K1 10 dX11_undo_4 rfl (fun hc => ?_) (fun hc => ?_)
  · replace h := h.1 hc
    refine g_aload_n K1 0 dX11_undo_10 rfl ?_
    refine h_getO K1 q_clX11 6 21 lyp_0 fkX11_6 rfl fl_X11_42 dX11_undo_11 ?_
    refine h_getI K1 q_clX0 0 lyp_21 fkX0_0 fl_X11_136 dX11_undo_14 ?_
    refine g_if_ne K1 23 dX11_undo_17 rfl (fun hc => ?_) (fun hc => ?_)
    · replace h := h.2 hc
      refine g_aload_n K1 0 dX11_undo_23 rfl ?_
      refine h_getO K1 q_clX11 6 21 lyp_0 fkX11_6 rfl fl_X11_42 dX11_undo_24 ?_
      refine g_dup K1 dX11_undo_27 rfl ?_
      refine h_getI K1 q_clX0 0 lyp_21 fkX0_0 fl_X11_136 dX11_undo_28 ?_
      refine g_iconst K1 1 dX11_undo_31 rfl ?_
      refine g_isub K1 dX11_undo_32 ?_
      refine h_putI K1 q_clX0 0 lyp_21 fkX0_0 fl_X11_136 rfl rfl rfl dX11_undo_33 ?_
      refine g_aload_n K1 0 dX11_undo_36 rfl ?_
      obtain ⟨I2, hct, h⟩ := h
      refine h_callV K1 (st := []) [] (hct w (gl g)) q_clX11 lyp_0 rfl ok_X11_unsettle ml_X11_139 ⟨Nat.le_of_ble_eq_true rfl, Nat.le_of_ble_eq_true rfl⟩ (Nat.le_of_ble_eq_true rfl) dX11_undo_37 ?_
      show q_Gs w g 40 [(0, .ref 0)] [] (q_mm I2 L)
      refine g_aload_n K1 0 dX11_undo_40 rfl ?_
      refine h_getO K1 q_clX11 6 21 lyp_0 fkX11_6 rfl fl_X11_42 dX11_undo_41 ?_
      refine h_getI K1 q_clX0 0 lyp_21 fkX0_0 fl_X11_136 dX11_undo_44 ?_
      obtain ⟨hr, hI, hL⟩ := h
      subst hr hI hL
      exact g_ireturn K rfl dX11_undo_47
    · replace h := h.1 hc
      refine g_bipush K1 (-5) dX11_undo_20 rfl ?_
      obtain ⟨hr, hI, hL⟩ := h
      subst hr hI hL
      exact g_ireturn K rfl dX11_undo_22
  · replace h := h.2 hc
    refine g_bipush K1 (-2) dX11_undo_7 rfl ?_
    obtain ⟨hr, hI, hL⟩ := h
    subst hr hI hL
    exact g_ireturn K rfl dX11_undo_9
theorem c0_X11_undo {r : Option Value} {I I' : Nat → Nat → Int32} {L L' : Nat → Nat → Int64}  (h : v_X11_undo_0 r I' L' I L ) : q_C kX11_undo [.ref 0] I L r I' L' := fun w l => q_ct (by decide) (Nat.le_of_ble_eq_true rfl) (Nat.le_refl _) (fun g _ K => h w g K)
abbrev v_X11_unsettle_0 (r : Option Value) (I' : Nat → Nat → Int32) (L' : Nat → Nat → Int64) (I : Nat → Nat → Int32) (L : Nat → Nat → Int64)  : Prop := q_W kX11_unsettle 0 [(0, .ref 0)] [] I L r I' L'
set_option maxRecDepth 20000 in
set_option maxHeartbeats 2000000 in
theorem vc_X11_unsettle_0 {r : Option Value} {I' : Nat → Nat → Int32} {L' : Nat → Nat → Int64} {I : Nat → Nat → Int32} {L : Nat → Nat → Int64}  (h : (∃ I1, q_C kX8_forget [.ref 88] (up2 I 0 18 0) L none I1 L ∧ (r = none ∧ I' = I1 ∧ L' = L))) : v_X11_unsettle_0 r I' L' I L  := by
  intro w g K
  have K1 := K.1
  refine g_aload_n K1 0 dX11_unsettle_0 rfl ?_
  refine g_iconst K1 0 dX11_unsettle_1 rfl ?_
  refine h_putI K1 q_clX11 18 lyp_0 fkX11_18 fl_X11_116 rfl (by decide) (by decide) dX11_unsettle_2 ?_
  refine g_aload_n K1 0 dX11_unsettle_5 rfl ?_
  refine h_getO K1 q_clX11 14 88 lyp_0 fkX11_14 rfl fl_X11_89 dX11_unsettle_6 ?_
  obtain ⟨I1, hct, h⟩ := h
  refine h_callV K1 (st := []) [] (hct w (gl g)) q_clX8 lyp_88 rfl ok_X8_forget ml_X11_430 ⟨Nat.le_of_ble_eq_true rfl, Nat.le_of_ble_eq_true rfl⟩ (Nat.le_of_ble_eq_true rfl) dX11_unsettle_9 ?_
  show q_Gs w g 12 [(0, .ref 0)] [] (q_mm I1 L)
  obtain ⟨hr, hI, hL⟩ := h
  subst hr hI hL
  exact g_vreturn K rfl dX11_unsettle_12
theorem c0_X11_unsettle {r : Option Value} {I I' : Nat → Nat → Int32} {L L' : Nat → Nat → Int64}  (h : v_X11_unsettle_0 r I' L' I L ) : q_C kX11_unsettle [.ref 0] I L r I' L' := fun w l => q_ct (by decide) (Nat.le_of_ble_eq_true rfl) (Nat.le_refl _) (fun g _ K => h w g K)
abbrev v_X11_ways_0 (r : Option Value) (I' : Nat → Nat → Int32) (L' : Nat → Nat → Int64) (I : Nat → Nat → Int32) (L : Nat → Nat → Int64) (x1 : Int32) (x2 : Int32) (x3 : Int32) : Prop := q_W kX11_ways 0 [(0, .ref 0), (1, .int x1), (2, .int x2), (3, .int x3)] [] I L r I' L'
set_option maxRecDepth 20000 in
set_option maxHeartbeats 2000000 in
theorem vc_X11_ways_0 {r : Option Value} {I' : Nat → Nat → Int32} {L' : Nat → Nat → Int64} {I : Nat → Nat → Int32} {L : Nat → Nat → Int64} {x1 : Int32} {x2 : Int32} {x3 : Int32} (h : (∃ r1, q_C kX11_hearingRefusal [.ref 0, .int x1, .int x2, .int x3] I L (some (.int r1)) I L ∧ ((r1 = 0 → (∃ r2, q_C kX9_saying [.ref 25, .int x1] I L (some (.int r2)) I L ∧ (∃ I3, q_C kX4_seek [.ref 90, .int r2, .int x2, .int x3] I L none I3 L ∧ (r = some (.int (I3 90 1)) ∧ I' = I3 ∧ L' = L)))) ∧ (¬ r1 = 0 → (r = some (.int r1) ∧ I' = I ∧ L' = L))))) : v_X11_ways_0 r I' L' I L x1 x2 x3 := by
  intro w g K
  have K1 := K.1
  refine g_aload_n K1 0 dX11_ways_0 rfl ?_
  refine g_iload_n K1 1 dX11_ways_1 rfl ?_
  refine g_iload_n K1 2 dX11_ways_2 rfl ?_
  refine g_iload_n K1 3 dX11_ways_3 rfl ?_
  obtain ⟨r1, hct, h⟩ := h
  refine h_callV K1 (st := []) [.int x1, .int x2, .int x3] (hct w (gl g)) q_clX11 lyp_0 rfl ok_X11_hearingRefusal ml_X11_244 ⟨Nat.le_of_ble_eq_true rfl, Nat.le_of_ble_eq_true rfl⟩ (Nat.le_of_ble_eq_true rfl) dX11_ways_4 ?_
  show q_Gs w g 7 [(0, .ref 0), (1, .int x1), (2, .int x2), (3, .int x3)] [.int r1] (q_mm I L)
  refine g_istore K1 dX11_ways_7 (by decide) rfl ?_
  refine g_iload K1 0 dX11_ways_9 rfl ?_
  refine g_if_eq K1 17 dX11_ways_11 rfl (fun hc => ?_) (fun hc => ?_)
  · replace h := h.1 hc
    refine g_aload_n K1 1 dX11_ways_17 rfl ?_
    refine h_getO K1 q_clX11 15 90 lyp_0 fkX11_15 rfl fl_X11_96 dX11_ways_18 ?_
    refine g_aload_n K1 1 dX11_ways_21 rfl ?_
    refine h_getO K1 q_clX11 7 25 lyp_0 fkX11_7 rfl fl_X11_49 dX11_ways_22 ?_
    refine g_iload_n K1 2 dX11_ways_25 rfl ?_
    obtain ⟨r2, hct, h⟩ := h
    refine h_callV K1 (st := [.ref 90]) [.int x1] (hct w (gl g)) q_clX9 lyp_25 rfl ok_X9_saying ml_X11_248 ⟨Nat.le_of_ble_eq_true rfl, Nat.le_of_ble_eq_true rfl⟩ (Nat.le_of_ble_eq_true rfl) dX11_ways_26 ?_
    show q_Gs w g 29 [(4, .int r1), (0, .ref 0), (1, .int x1), (2, .int x2), (3, .int x3)] [.int r2, .ref 90] (q_mm I L)
    refine g_iload_n K1 3 dX11_ways_29 rfl ?_
    refine g_iload_n K1 4 dX11_ways_30 rfl ?_
    obtain ⟨I3, hct, h⟩ := h
    refine h_callV K1 (st := []) [.int r2, .int x2, .int x3] (hct w (gl g)) q_clX4 lyp_90 rfl ok_X4_seek ml_X11_254 ⟨Nat.le_of_ble_eq_true rfl, Nat.le_of_ble_eq_true rfl⟩ (Nat.le_of_ble_eq_true rfl) dX11_ways_31 ?_
    show q_Gs w g 34 [(4, .int r1), (0, .ref 0), (1, .int x1), (2, .int x2), (3, .int x3)] [] (q_mm I3 L)
    refine g_aload_n K1 1 dX11_ways_34 rfl ?_
    refine h_getO K1 q_clX11 15 90 lyp_0 fkX11_15 rfl fl_X11_96 dX11_ways_35 ?_
    refine h_getI K1 q_clX4 1 lyp_90 fkX4_1 fl_X11_258 dX11_ways_38 ?_
    obtain ⟨hr, hI, hL⟩ := h
    subst hr hI hL
    exact g_ireturn K rfl dX11_ways_41
  · replace h := h.2 hc
    refine g_iload K1 0 dX11_ways_14 rfl ?_
    obtain ⟨hr, hI, hL⟩ := h
    subst hr hI hL
    exact g_ireturn K rfl dX11_ways_16
theorem c0_X11_ways {r : Option Value} {I I' : Nat → Nat → Int32} {L L' : Nat → Nat → Int64} {x1 : Int32} {x2 : Int32} {x3 : Int32} (h : v_X11_ways_0 r I' L' I L x1 x2 x3) : q_C kX11_ways [.ref 0, .int x1, .int x2, .int x3] I L r I' L' := fun w l => q_ct (by decide) (Nat.le_of_ble_eq_true rfl) (Nat.le_refl _) (fun g _ K => h w g K)
abbrev v_X11_when_0 (r : Option Value) (I' : Nat → Nat → Int32) (L' : Nat → Nat → Int64) (I : Nat → Nat → Int32) (L : Nat → Nat → Int64) (x1 : Int32) : Prop := q_W kX11_when 0 [(0, .ref 0), (1, .int x1)] [] I L r I' L'
abbrev v_X11_when_18 (r : Option Value) (I' : Nat → Nat → Int32) (L' : Nat → Nat → Int64) (I : Nat → Nat → Int32) (L : Nat → Nat → Int64) (x1 : Int32) (x3 : Int32) : Prop := q_W kX11_when 18 [(0, .ref 0), (1, .int x1), (2, .ref 75), (3, .int x3)] [] I L r I' L'
set_option maxRecDepth 20000 in
set_option maxHeartbeats 2000000 in
theorem vc_X11_when_0 {r : Option Value} {I' : Nat → Nat → Int32} {L' : Nat → Nat → Int64} {I : Nat → Nat → Int32} {L : Nat → Nat → Int64} {x1 : Int32} (h : (∃ r1, q_C kX11_noPew [.ref 0, .int x1] I L (some (.int r1)) I L ∧ ((r1 = 0 → (∃ I2, q_C kX11_settledCourse [.ref 0] I L (some (.ref 75)) I2 L ∧ (v_X11_when_18 r I' L' I2 L x1 0))) ∧ (¬ r1 = 0 → (r = some (.int (-2)) ∧ I' = I ∧ L' = L))))) : v_X11_when_0 r I' L' I L x1 := by
  intro w g K
  have K1 := K.1
  refine g_aload_n K1 0 dX11_when_0 rfl ?_
  refine g_iload_n K1 1 dX11_when_1 rfl ?_
  obtain ⟨r1, hct, h⟩ := h
  refine h_callV K1 (st := []) [.int x1] (hct w (gl g)) q_clX11 lyp_0 rfl ok_X11_noPew ml_X11_145 ⟨Nat.le_of_ble_eq_true rfl, Nat.le_of_ble_eq_true rfl⟩ (Nat.le_of_ble_eq_true rfl) dX11_when_2 ?_
  show q_Gs w g 5 [(0, .ref 0), (1, .int x1)] [.int r1] (q_mm I L)
  refine g_if_eq K1 11 dX11_when_5 rfl (fun hc => ?_) (fun hc => ?_)
  · replace h := h.1 hc
    refine g_aload_n K1 0 dX11_when_11 rfl ?_
    obtain ⟨I2, hct, h⟩ := h
    refine h_callV K1 (st := []) [] (hct w (gl g)) q_clX11 lyp_0 rfl ok_X11_settledCourse ml_X11_179 ⟨Nat.le_of_ble_eq_true rfl, Nat.le_of_ble_eq_true rfl⟩ (Nat.le_of_ble_eq_true rfl) dX11_when_12 ?_
    show q_Gs w g 15 [(0, .ref 0), (1, .int x1)] [.ref 75] (q_mm I2 L)
    refine g_astore_n K1 dX11_when_15 rfl (by decide) rfl ?_
    refine g_iconst K1 0 dX11_when_16 rfl ?_
    refine g_istore_n K1 dX11_when_17 rfl (by decide) rfl ?_
    exact g_perm [2, 3, 1, 0] rfl (h w g K)
  · replace h := h.2 hc
    refine g_bipush K1 (-2) dX11_when_8 rfl ?_
    obtain ⟨hr, hI, hL⟩ := h
    subst hr hI hL
    exact g_ireturn K rfl dX11_when_10
set_option maxRecDepth 20000 in
set_option maxHeartbeats 2000000 in
theorem vc_X11_when_18 {r : Option Value} {I' : Nat → Nat → Int32} {L' : Nat → Nat → Int64} {I : Nat → Nat → Int32} {L : Nat → Nat → Int64} {x1 : Int32} {x3 : Int32} (h : (((I 12 1) < x3 → (r = some (.int (-1)) ∧ I' = I ∧ L' = L)) ∧ (¬ (I 12 1) < x3 → (∃ r1, q_C kX3_isLit [.ref 75, .int x1, .int x3] I L (some (.int r1)) I L ∧ ((r1 = 0 → (v_X11_when_18 r I' L' I L x1 (x3 + 1))) ∧ (¬ r1 = 0 → (r = some (.int x3) ∧ I' = I ∧ L' = L))))))) : v_X11_when_18 r I' L' I L x1 x3 := by
  intro w g K
  have K1 := K.1
  refine g_iload_n K1 3 dX11_when_18 rfl ?_
  refine g_aload_n K1 0 dX11_when_19 rfl ?_
  refine h_getO K1 q_clX11 5 12 lyp_0 fkX11_5 rfl fl_X11_35 dX11_when_20 ?_
  refine h_getI K1 q_clX5 1 lyp_12 fkX5_1 fl_X11_203 dX11_when_23 ?_
  refine g_icmp_gt K1 46 dX11_when_26 rfl (fun hc => ?_) (fun hc => ?_)
  · replace h := h.1 hc
    refine g_iconst K1 (-1) dX11_when_46 rfl ?_
    obtain ⟨hr, hI, hL⟩ := h
    subst hr hI hL
    exact g_ireturn K rfl dX11_when_47
  · replace h := h.2 hc
    refine g_aload_n K1 2 dX11_when_29 rfl ?_
    refine g_iload_n K1 1 dX11_when_30 rfl ?_
    refine g_iload_n K1 3 dX11_when_31 rfl ?_
    obtain ⟨r1, hct, h⟩ := h
    refine h_callV K1 (st := []) [.int x1, .int x3] (hct w (gl g)) q_clX3 lyp_75 rfl ok_X3_isLit ml_X11_206 ⟨Nat.le_of_ble_eq_true rfl, Nat.le_of_ble_eq_true rfl⟩ (Nat.le_of_ble_eq_true rfl) dX11_when_32 ?_
    show q_Gs w g 35 [(0, .ref 0), (1, .int x1), (2, .ref 75), (3, .int x3)] [.int r1] (q_mm I L)
    refine g_if_eq K1 40 dX11_when_35 rfl (fun hc => ?_) (fun hc => ?_)
    · replace h := h.1 hc
      refine g_iinc K1 (x3 + 1) 3 dX11_when_40 rfl rfl (by decide) rfl ?_
      refine g_goto K1 18 dX11_when_43 rfl ?_
      exact g_perm [1, 2, 3, 0] rfl (h w g K)
    · replace h := h.2 hc
      refine g_iload_n K1 3 dX11_when_38 rfl ?_
      obtain ⟨hr, hI, hL⟩ := h
      subst hr hI hL
      exact g_ireturn K rfl dX11_when_39
theorem c0_X11_when {r : Option Value} {I I' : Nat → Nat → Int32} {L L' : Nat → Nat → Int64} {x1 : Int32} (h : v_X11_when_0 r I' L' I L x1) : q_C kX11_when [.ref 0, .int x1] I L r I' L' := fun w l => q_ct (by decide) (Nat.le_of_ble_eq_true rfl) (Nat.le_refl _) (fun g _ K => h w g K)
abbrev v_X11_whom_0 (r : Option Value) (I' : Nat → Nat → Int32) (L' : Nat → Nat → Int64) (I : Nat → Nat → Int32) (L : Nat → Nat → Int64) (x1 : Int32) : Prop := q_W kX11_whom 0 [(0, .ref 0), (1, .int x1)] [] I L r I' L'
set_option maxRecDepth 20000 in
set_option maxHeartbeats 2000000 in
theorem vc_X11_whom_0 {r : Option Value} {I' : Nat → Nat → Int32} {L' : Nat → Nat → Int64} {I : Nat → Nat → Int32} {L : Nat → Nat → Int64} {x1 : Int32} (h : (∃ r1, q_C kX11_originRefusal [.ref 0, .int x1] I L (some (.int r1)) I L ∧ ((r1 = 0 → (∃ r2 I3, q_C kX2_origins [.ref 92, .int x1] I L (some (.int r2)) I3 L ∧ (r = some (.int r2) ∧ I' = I3 ∧ L' = L))) ∧ (¬ r1 = 0 → (r = some (.int r1) ∧ I' = I ∧ L' = L))))) : v_X11_whom_0 r I' L' I L x1 := by
  intro w g K
  have K1 := K.1
  refine g_aload_n K1 0 dX11_whom_0 rfl ?_
  refine g_iload_n K1 1 dX11_whom_1 rfl ?_
  obtain ⟨r1, hct, h⟩ := h
  refine h_callV K1 (st := []) [.int x1] (hct w (gl g)) q_clX11 lyp_0 rfl ok_X11_originRefusal ml_X11_306 ⟨Nat.le_of_ble_eq_true rfl, Nat.le_of_ble_eq_true rfl⟩ (Nat.le_of_ble_eq_true rfl) dX11_whom_2 ?_
  show q_Gs w g 5 [(0, .ref 0), (1, .int x1)] [.int r1] (q_mm I L)
  refine g_istore_n K1 dX11_whom_5 rfl (by decide) rfl ?_
  refine g_iload_n K1 0 dX11_whom_6 rfl ?_
  refine g_if_eq K1 14 dX11_whom_7 rfl (fun hc => ?_) (fun hc => ?_)
  · replace h := h.1 hc
    refine g_aload_n K1 1 dX11_whom_14 rfl ?_
    refine h_getO K1 q_clX11 16 92 lyp_0 fkX11_16 rfl fl_X11_105 dX11_whom_15 ?_
    refine g_iload_n K1 2 dX11_whom_18 rfl ?_
    obtain ⟨r2, I3, hct, h⟩ := h
    refine h_callV K1 (st := []) [.int x1] (hct w (gl g)) q_clX2 lyp_92 rfl ok_X2_origins ml_X11_309 ⟨Nat.le_of_ble_eq_true rfl, Nat.le_of_ble_eq_true rfl⟩ (Nat.le_of_ble_eq_true rfl) dX11_whom_19 ?_
    show q_Gs w g 22 [(2, .int r1), (0, .ref 0), (1, .int x1)] [.int r2] (q_mm I3 L)
    obtain ⟨hr, hI, hL⟩ := h
    subst hr hI hL
    exact g_ireturn K rfl dX11_whom_22
  · replace h := h.2 hc
    refine g_iload_n K1 0 dX11_whom_10 rfl ?_
    refine g_goto K1 22 dX11_whom_11 rfl ?_
    obtain ⟨hr, hI, hL⟩ := h
    subst hr hI hL
    exact g_ireturn K rfl dX11_whom_22
theorem c0_X11_whom {r : Option Value} {I I' : Nat → Nat → Int32} {L L' : Nat → Nat → Int64} {x1 : Int32} (h : v_X11_whom_0 r I' L' I L x1) : q_C kX11_whom [.ref 0, .int x1] I L r I' L' := fun w l => q_ct (by decide) (Nat.le_of_ble_eq_true rfl) (Nat.le_refl _) (fun g _ K => h w g K)
abbrev v_X11_words_0 (r : Option Value) (I' : Nat → Nat → Int32) (L' : Nat → Nat → Int64) (I : Nat → Nat → Int32) (L : Nat → Nat → Int64) (x1 : Int32) : Prop := q_W kX11_words 0 [(0, .ref 0), (1, .int x1)] [] I L r I' L'
set_option maxRecDepth 20000 in
set_option maxHeartbeats 2000000 in
theorem vc_X11_words_0 {r : Option Value} {I' : Nat → Nat → Int32} {L' : Nat → Nat → Int64} {I : Nat → Nat → Int32} {L : Nat → Nat → Int64} {x1 : Int32} (h : (∃ r1, q_C kX11_noHour [.ref 0, .int x1] I L (some (.int r1)) I L ∧ ((r1 = 0 → (∃ I2, q_C kX11_settledCourse [.ref 0] I L (some (.ref 75)) I2 L ∧ (∃ r3, q_C kX3_lettersSaid [.ref 75, .int x1] I2 L (some (.int r3)) I2 L ∧ (r = some (.int r3) ∧ I' = I2 ∧ L' = L)))) ∧ (¬ r1 = 0 → (r = some (.int (-2)) ∧ I' = I ∧ L' = L))))) : v_X11_words_0 r I' L' I L x1 := by
  intro w g K
  have K1 := K.1
  refine g_aload_n K1 0 dX11_words_0 rfl ?_
  refine g_iload_n K1 1 dX11_words_1 rfl ?_
  obtain ⟨r1, hct, h⟩ := h
  refine h_callV K1 (st := []) [.int x1] (hct w (gl g)) q_clX11 lyp_0 rfl ok_X11_noHour ml_X11_176 ⟨Nat.le_of_ble_eq_true rfl, Nat.le_of_ble_eq_true rfl⟩ (Nat.le_of_ble_eq_true rfl) dX11_words_2 ?_
  show q_Gs w g 5 [(0, .ref 0), (1, .int x1)] [.int r1] (q_mm I L)
  refine g_if_eq K1 13 dX11_words_5 rfl (fun hc => ?_) (fun hc => ?_)
  · replace h := h.1 hc
    refine g_aload_n K1 0 dX11_words_13 rfl ?_
    obtain ⟨I2, hct, h⟩ := h
    refine h_callV K1 (st := []) [] (hct w (gl g)) q_clX11 lyp_0 rfl ok_X11_settledCourse ml_X11_179 ⟨Nat.le_of_ble_eq_true rfl, Nat.le_of_ble_eq_true rfl⟩ (Nat.le_of_ble_eq_true rfl) dX11_words_14 ?_
    show q_Gs w g 17 [(0, .ref 0), (1, .int x1)] [.ref 75] (q_mm I2 L)
    refine g_iload_n K1 1 dX11_words_17 rfl ?_
    obtain ⟨r3, hct, h⟩ := h
    refine h_callV K1 (st := []) [.int x1] (hct w (gl g)) q_clX3 lyp_75 rfl ok_X3_lettersSaid ml_X11_230 ⟨Nat.le_of_ble_eq_true rfl, Nat.le_of_ble_eq_true rfl⟩ (Nat.le_of_ble_eq_true rfl) dX11_words_18 ?_
    show q_Gs w g 21 [(0, .ref 0), (1, .int x1)] [.int r3] (q_mm I2 L)
    obtain ⟨hr, hI, hL⟩ := h
    subst hr hI hL
    exact g_ireturn K rfl dX11_words_21
  · replace h := h.2 hc
    refine g_bipush K1 (-2) dX11_words_8 rfl ?_
    refine g_goto K1 21 dX11_words_10 rfl ?_
    obtain ⟨hr, hI, hL⟩ := h
    subst hr hI hL
    exact g_ireturn K rfl dX11_words_21
theorem c0_X11_words {r : Option Value} {I I' : Nat → Nat → Int32} {L L' : Nat → Nat → Int64} {x1 : Int32} (h : v_X11_words_0 r I' L' I L x1) : q_C kX11_words [.ref 0, .int x1] I L r I' L' := fun w l => q_ct (by decide) (Nat.le_of_ble_eq_true rfl) (Nat.le_refl _) (fun g _ K => h w g K)
abbrev v_X11_worth_0 (r : Option Value) (I' : Nat → Nat → Int32) (L' : Nat → Nat → Int64) (I : Nat → Nat → Int32) (L : Nat → Nat → Int64) (x1 : Int32) : Prop := q_W kX11_worth 0 [(0, .ref 0), (1, .int x1)] [] I L r I' L'
set_option maxRecDepth 20000 in
set_option maxHeartbeats 2000000 in
theorem vc_X11_worth_0 {r : Option Value} {I' : Nat → Nat → Int32} {L' : Nat → Nat → Int64} {I : Nat → Nat → Int32} {L : Nat → Nat → Int64} {x1 : Int32} (h : (∃ r1, q_C kX11_noNight [.ref 0] I L (some (.int r1)) I L ∧ ((r1 = 0 → (∃ r2, q_C kX5_allPews [.ref 12] I L (some (.int r2)) I L ∧ (((x1 &&& (r2 ^^^ (-1))) = 0 → (∃ r3 I4, q_C kX8_worthOf [.ref 88, .int x1] I L (some (.int r3)) I4 L ∧ (r = some (.int r3) ∧ I' = I4 ∧ L' = L))) ∧ (¬ (x1 &&& (r2 ^^^ (-1))) = 0 → (r = some (.int (-2)) ∧ I' = I ∧ L' = L))))) ∧ (¬ r1 = 0 → (r = some (.int (-2)) ∧ I' = I ∧ L' = L))))) : v_X11_worth_0 r I' L' I L x1 := by
  intro w g K
  have K1 := K.1
  refine g_aload_n K1 0 dX11_worth_0 rfl ?_
  obtain ⟨r1, hct, h⟩ := h
  refine h_callV K1 (st := []) [] (hct w (gl g)) q_clX11 lyp_0 rfl ok_X11_noNight ml_X11_210 ⟨Nat.le_of_ble_eq_true rfl, Nat.le_of_ble_eq_true rfl⟩ (Nat.le_of_ble_eq_true rfl) dX11_worth_1 ?_
  show q_Gs w g 4 [(0, .ref 0), (1, .int x1)] [.int r1] (q_mm I L)
  refine g_if_ne K1 21 dX11_worth_4 rfl (fun hc => ?_) (fun hc => ?_)
  · replace h := h.2 hc
    refine g_bipush K1 (-2) dX11_worth_21 rfl ?_
    obtain ⟨hr, hI, hL⟩ := h
    subst hr hI hL
    exact g_ireturn K rfl dX11_worth_23
  · replace h := h.1 hc
    refine g_iload_n K1 1 dX11_worth_7 rfl ?_
    refine g_aload_n K1 0 dX11_worth_8 rfl ?_
    refine h_getO K1 q_clX11 5 12 lyp_0 fkX11_5 rfl fl_X11_35 dX11_worth_9 ?_
    obtain ⟨r2, hct, h⟩ := h
    refine h_callV K1 (st := [.int x1]) [] (hct w (gl g)) q_clX5 lyp_12 rfl ok_X5_allPews ml_X11_217 ⟨Nat.le_of_ble_eq_true rfl, Nat.le_of_ble_eq_true rfl⟩ (Nat.le_of_ble_eq_true rfl) dX11_worth_12 ?_
    show q_Gs w g 15 [(0, .ref 0), (1, .int x1)] [.int r2, .int x1] (q_mm I L)
    refine g_iconst K1 (-1) dX11_worth_15 rfl ?_
    refine g_ixor K1 dX11_worth_16 ?_
    refine g_iand K1 dX11_worth_17 ?_
    refine g_if_eq K1 24 dX11_worth_18 rfl (fun hc => ?_) (fun hc => ?_)
    · replace h := h.1 hc
      refine g_aload_n K1 0 dX11_worth_24 rfl ?_
      refine h_getO K1 q_clX11 14 88 lyp_0 fkX11_14 rfl fl_X11_89 dX11_worth_25 ?_
      refine g_iload_n K1 1 dX11_worth_28 rfl ?_
      obtain ⟨r3, I4, hct, h⟩ := h
      refine h_callV K1 (st := []) [.int x1] (hct w (gl g)) q_clX8 lyp_88 rfl ok_X8_worthOf ml_X11_273 ⟨Nat.le_of_ble_eq_true rfl, Nat.le_of_ble_eq_true rfl⟩ (Nat.le_of_ble_eq_true rfl) dX11_worth_29 ?_
      show q_Gs w g 32 [(0, .ref 0), (1, .int x1)] [.int r3] (q_mm I4 L)
      obtain ⟨hr, hI, hL⟩ := h
      subst hr hI hL
      exact g_ireturn K rfl dX11_worth_32
    · replace h := h.2 hc
      refine g_bipush K1 (-2) dX11_worth_21 rfl ?_
      obtain ⟨hr, hI, hL⟩ := h
      subst hr hI hL
      exact g_ireturn K rfl dX11_worth_23
theorem c0_X11_worth {r : Option Value} {I I' : Nat → Nat → Int32} {L L' : Nat → Nat → Int64} {x1 : Int32} (h : v_X11_worth_0 r I' L' I L x1) : q_C kX11_worth [.ref 0, .int x1] I L r I' L' := fun w l => q_ct (by decide) (Nat.le_of_ble_eq_true rfl) (Nat.le_refl _) (fun g _ K => h w g K)
abbrev v_X11_write_0 (r : Option Value) (I' : Nat → Nat → Int32) (L' : Nat → Nat → Int64) (I : Nat → Nat → Int32) (L : Nat → Nat → Int64) (x1 : Int32) (x2 : Int32) (x3 : Int64) : Prop := q_W kX11_write 0 [(0, .ref 0), (1, .int x1), (2, .int x2), (3, .long x3)] [] I L r I' L'
set_option maxRecDepth 20000 in
set_option maxHeartbeats 2000000 in
theorem vc_X11_write_0 {r : Option Value} {I' : Nat → Nat → Int32} {L' : Nat → Nat → Int64} {I : Nat → Nat → Int32} {L : Nat → Nat → Int64} {x1 : Int32} {x2 : Int32} {x3 : Int64} (h : (∃ r1, q_C kX9_noSlot [.int x1] I L (some (.int r1)) I L ∧ ((r1 = 0 → (∃ r2, q_C kX9_hasRow [.ref 25, .int x1] I L (some (.int r2)) I L ∧ ((r2 = 0 → (r = some (.int (-6)) ∧ I' = I ∧ L' = L)) ∧ (¬ r2 = 0 → (∃ r3, q_C kX9_areBeyond [.ref 25, .int x1, .int x2, .int 1] I L (some (.int r3)) I L ∧ ((r3 = 0 → (∃ L4, q_C kX9_put [.ref 25, .int x1, .int x2, .long x3] I L none I L4 ∧ (r = some (.int 0) ∧ I' = I ∧ L' = L4))) ∧ (¬ r3 = 0 → (r = some (.int (-7)) ∧ I' = I ∧ L' = L)))))))) ∧ (¬ r1 = 0 → (r = some (.int (-2)) ∧ I' = I ∧ L' = L))))) : v_X11_write_0 r I' L' I L x1 x2 x3 := by
  intro w g K
  have K1 := K.1
  refine g_iload_n K1 1 dX11_write_0 rfl ?_
  obtain ⟨r1, hct, h⟩ := h
  refine h_callS K1 (st := []) [.int x1] (hct w (gl g)) ok_X9_noSlot ml_X11_264 ⟨Nat.le_of_ble_eq_true rfl, Nat.le_of_ble_eq_true rfl⟩ (Nat.le_of_ble_eq_true rfl) dX11_write_1 ?_
  show q_Gs w g 4 [(0, .ref 0), (1, .int x1), (2, .int x2), (3, .long x3)] [.int r1] (q_mm I L)
  refine g_if_eq K1 10 dX11_write_4 rfl (fun hc => ?_) (fun hc => ?_)
  · replace h := h.1 hc
    refine g_aload_n K1 0 dX11_write_10 rfl ?_
    refine h_getO K1 q_clX11 7 25 lyp_0 fkX11_7 rfl fl_X11_49 dX11_write_11 ?_
    refine g_iload_n K1 1 dX11_write_14 rfl ?_
    obtain ⟨r2, hct, h⟩ := h
    refine h_callV K1 (st := []) [.int x1] (hct w (gl g)) q_clX9 lyp_25 rfl ok_X9_hasRow ml_X11_267 ⟨Nat.le_of_ble_eq_true rfl, Nat.le_of_ble_eq_true rfl⟩ (Nat.le_of_ble_eq_true rfl) dX11_write_15 ?_
    show q_Gs w g 18 [(0, .ref 0), (1, .int x1), (2, .int x2), (3, .long x3)] [.int r2] (q_mm I L)
    refine g_if_ne K1 24 dX11_write_18 rfl (fun hc => ?_) (fun hc => ?_)
    · replace h := h.2 hc
      refine g_aload_n K1 0 dX11_write_24 rfl ?_
      refine h_getO K1 q_clX11 7 25 lyp_0 fkX11_7 rfl fl_X11_49 dX11_write_25 ?_
      refine g_iload_n K1 1 dX11_write_28 rfl ?_
      refine g_iload_n K1 2 dX11_write_29 rfl ?_
      refine g_iconst K1 1 dX11_write_30 rfl ?_
      obtain ⟨r3, hct, h⟩ := h
      refine h_callV K1 (st := []) [.int x1, .int x2, .int 1] (hct w (gl g)) q_clX9 lyp_25 rfl ok_X9_areBeyond ml_X11_409 ⟨Nat.le_of_ble_eq_true rfl, Nat.le_of_ble_eq_true rfl⟩ (Nat.le_of_ble_eq_true rfl) dX11_write_31 ?_
      show q_Gs w g 34 [(0, .ref 0), (1, .int x1), (2, .int x2), (3, .long x3)] [.int r3] (q_mm I L)
      refine g_if_eq K1 40 dX11_write_34 rfl (fun hc => ?_) (fun hc => ?_)
      · replace h := h.1 hc
        refine g_aload_n K1 0 dX11_write_40 rfl ?_
        refine h_getO K1 q_clX11 7 25 lyp_0 fkX11_7 rfl fl_X11_49 dX11_write_41 ?_
        refine g_iload_n K1 1 dX11_write_44 rfl ?_
        refine g_iload_n K1 2 dX11_write_45 rfl ?_
        refine g_lload_n K1 3 dX11_write_46 rfl ?_
        obtain ⟨L4, hct, h⟩ := h
        refine h_callV K1 (st := []) [.int x1, .int x2, .long x3] (hct w (gl g)) q_clX9 lyp_25 rfl ok_X9_put ml_X11_413 ⟨Nat.le_of_ble_eq_true rfl, Nat.le_of_ble_eq_true rfl⟩ (Nat.le_of_ble_eq_true rfl) dX11_write_47 ?_
        show q_Gs w g 50 [(0, .ref 0), (1, .int x1), (2, .int x2), (3, .long x3)] [] (q_mm I L4)
        refine g_iconst K1 0 dX11_write_50 rfl ?_
        obtain ⟨hr, hI, hL⟩ := h
        subst hr hI hL
        exact g_ireturn K rfl dX11_write_51
      · replace h := h.2 hc
        refine g_bipush K1 (-7) dX11_write_37 rfl ?_
        obtain ⟨hr, hI, hL⟩ := h
        subst hr hI hL
        exact g_ireturn K rfl dX11_write_39
    · replace h := h.1 hc
      refine g_bipush K1 (-6) dX11_write_21 rfl ?_
      obtain ⟨hr, hI, hL⟩ := h
      subst hr hI hL
      exact g_ireturn K rfl dX11_write_23
  · replace h := h.2 hc
    refine g_bipush K1 (-2) dX11_write_7 rfl ?_
    obtain ⟨hr, hI, hL⟩ := h
    subst hr hI hL
    exact g_ireturn K rfl dX11_write_9
theorem c0_X11_write {r : Option Value} {I I' : Nat → Nat → Int32} {L L' : Nat → Nat → Int64} {x1 : Int32} {x2 : Int32} {x3 : Int64} (h : v_X11_write_0 r I' L' I L x1 x2 x3) : q_C kX11_write [.ref 0, .int x1, .int x2, .long x3] I L r I' L' := fun w l => q_ct (by decide) (Nat.le_of_ble_eq_true rfl) (Nat.le_refl _) (fun g _ K => h w g K)
