abbrev v_X12_advance_0 (r : Option Value) (I' : Nat → Nat → Int32) (L' : Nat → Nat → Int64) (I : Nat → Nat → Int32) (L : Nat → Nat → Int64)  : Prop := q_W kX12_advance 0 [(0, .ref 96)] [] I L r I' L'
abbrev v_X12_advance_83 (r : Option Value) (I' : Nat → Nat → Int32) (L' : Nat → Nat → Int64) (I : Nat → Nat → Int32) (L : Nat → Nat → Int64)  : Prop := q_W kX12_advance 83 [(0, .ref 96)] [] I L r I' L'
abbrev v_X12_advance_144 (r : Option Value) (I' : Nat → Nat → Int32) (L' : Nat → Nat → Int64) (I : Nat → Nat → Int32) (L : Nat → Nat → Int64)  : Prop := q_W kX12_advance 144 [(0, .ref 96)] [] I L r I' L'
set_option maxRecDepth 20000 in
set_option maxHeartbeats 2000000 in
theorem vc_X12_advance_0 {r : Option Value} {I' : Nat → Nat → Int32} {L' : Nat → Nat → Int64} {I : Nat → Nat → Int32} {L : Nat → Nat → Int64}  (h : (∃ r1, q_C kX12_see [.ref 96, .int (I 96 8)] I L (some (.int r1)) I L ∧ ((r1 = 32 → (v_X12_advance_0 r I' L' (up2 I 96 8 ((I 96 8) + 1)) L)) ∧ (¬ r1 = 32 → (∃ r2, q_C kX12_see [.ref 96, .int (I 96 8)] I L (some (.int r2)) I L ∧ ((r2 = 10 → (v_X12_advance_0 r I' L' (up2 I 96 8 ((I 96 8) + 1)) L)) ∧ (¬ r2 = 10 → (∃ r3, q_C kX12_see [.ref 96, .int ((up2 I 96 9 (I 96 8)) 96 8)] (up2 I 96 9 (I 96 8)) L (some (.int r3)) (up2 I 96 9 (I 96 8)) L ∧ ((r3 = (-1) → (r = none ∧ I' = (up2 (up2 I 96 9 (I 96 8)) 96 10 0) ∧ L' = L)) ∧ (¬ r3 = (-1) → (∃ r4, q_C kX12_in [.long r3.toInt64, .long 97, .long 122] (up2 I 96 9 (I 96 8)) L (some (.int r4)) (up2 I 96 9 (I 96 8)) L ∧ ((r4 = 0 → (∃ r5, q_C kX12_in [.long r3.toInt64, .long 48, .long 57] (up2 I 96 9 (I 96 8)) L (some (.int r5)) (up2 I 96 9 (I 96 8)) L ∧ ((r5 = 0 → ((r3 = 59 → ∀ I7, I7 = (up2 (up2 (up2 I 96 9 (I 96 8)) 96 10 3) 96 8 (((up2 (up2 I 96 9 (I 96 8)) 96 10 3) 96 8) + 1)) → (r = none ∧ I' = I7 ∧ L' = L)) ∧ (¬ r3 = 59 → ∀ I6, I6 = (up2 (up2 (up2 I 96 9 (I 96 8)) 96 10 4) 96 8 (((up2 (up2 I 96 9 (I 96 8)) 96 10 4) 96 8) + 1)) → (r = none ∧ I' = I6 ∧ L' = L)))) ∧ (¬ r5 = 0 → (v_X12_advance_144 r I' L' (up2 (up2 I 96 9 (I 96 8)) 96 11 0) L))))) ∧ (¬ r4 = 0 → (v_X12_advance_83 r I' L' (up2 I 96 9 (I 96 8)) L)))))))))))))) : v_X12_advance_0 r I' L' I L  := by
  intro w g K
  have K1 := K.1
  refine g_aload_n K1 0 dX12_advance_0 rfl ?_
  refine g_aload_n K1 0 dX12_advance_1 rfl ?_
  refine h_getI K1 q_clX12 8 lyp_96 fkX12_8 fl_X12_91 dX12_advance_2 ?_
  obtain ⟨r1, hct, h⟩ := h
  refine h_callV K1 (st := []) [.int (I 96 8)] (hct w (gl g)) q_clX12 lyp_96 rfl ok_X12_see ml_X12_94 ⟨Nat.le_of_ble_eq_true rfl, Nat.le_of_ble_eq_true rfl⟩ (Nat.le_of_ble_eq_true rfl) dX12_advance_5 ?_
  show q_Gs w g 8 [(0, .ref 96)] [.int r1] (q_mm I L)
  refine g_bipush K1 32 dX12_advance_8 rfl ?_
  refine g_icmp_eq K1 26 dX12_advance_10 rfl (fun hc => ?_) (fun hc => ?_)
  · replace h := h.1 hc
    refine g_aload_n K1 0 dX12_advance_26 rfl ?_
    refine g_dup K1 dX12_advance_27 rfl ?_
    refine h_getI K1 q_clX12 8 lyp_96 fkX12_8 fl_X12_91 dX12_advance_28 ?_
    refine g_iconst K1 1 dX12_advance_31 rfl ?_
    refine g_iadd K1 dX12_advance_32 ?_
    refine h_putI K1 q_clX12 8 lyp_96 fkX12_8 fl_X12_91 rfl rfl rfl dX12_advance_33 ?_
    refine g_goto K1 0 dX12_advance_36 rfl ?_
    exact g_perm [0] rfl (h w g K)
  · replace h := h.2 hc
    refine g_aload_n K1 0 dX12_advance_13 rfl ?_
    refine g_aload_n K1 0 dX12_advance_14 rfl ?_
    refine h_getI K1 q_clX12 8 lyp_96 fkX12_8 fl_X12_91 dX12_advance_15 ?_
    obtain ⟨r2, hct, h⟩ := h
    refine h_callV K1 (st := []) [.int (I 96 8)] (hct w (gl g)) q_clX12 lyp_96 rfl ok_X12_see ml_X12_94 ⟨Nat.le_of_ble_eq_true rfl, Nat.le_of_ble_eq_true rfl⟩ (Nat.le_of_ble_eq_true rfl) dX12_advance_18 ?_
    show q_Gs w g 21 [(0, .ref 96)] [.int r2] (q_mm I L)
    refine g_bipush K1 10 dX12_advance_21 rfl ?_
    refine g_icmp_ne K1 39 dX12_advance_23 rfl (fun hc => ?_) (fun hc => ?_)
    · replace h := h.2 hc
      refine g_aload_n K1 0 dX12_advance_39 rfl ?_
      refine g_aload_n K1 0 dX12_advance_40 rfl ?_
      refine h_getI K1 q_clX12 8 lyp_96 fkX12_8 fl_X12_91 dX12_advance_41 ?_
      refine h_putI K1 q_clX12 9 lyp_96 fkX12_9 fl_X12_98 rfl rfl rfl dX12_advance_44 ?_
      refine g_aload_n K1 0 dX12_advance_47 rfl ?_
      refine g_aload_n K1 0 dX12_advance_48 rfl ?_
      refine h_getI K1 q_clX12 8 lyp_96 fkX12_8 fl_X12_91 dX12_advance_49 ?_
      obtain ⟨r3, hct, h⟩ := h
      refine h_callV K1 (st := []) [.int ((up2 I 96 9 (I 96 8)) 96 8)] (hct w (gl g)) q_clX12 lyp_96 rfl ok_X12_see ml_X12_94 ⟨Nat.le_of_ble_eq_true rfl, Nat.le_of_ble_eq_true rfl⟩ (Nat.le_of_ble_eq_true rfl) dX12_advance_52 ?_
      show q_Gs w g 55 [(0, .ref 96)] [.int r3] (q_mm (up2 I 96 9 (I 96 8)) L)
      refine g_istore_n K1 dX12_advance_55 rfl (by decide) rfl ?_
      refine g_iload_n K1 0 dX12_advance_56 rfl ?_
      refine g_iconst K1 (-1) dX12_advance_57 rfl ?_
      refine g_icmp_ne K1 69 dX12_advance_58 rfl (fun hc => ?_) (fun hc => ?_)
      · replace h := h.2 hc
        refine g_iload_n K1 0 dX12_advance_69 rfl ?_
        refine g_i2l K1 dX12_advance_70 ?_
        refine g_ldc2_w K1 97 dX12_advance_71 cn_X12_104 ?_
        refine g_ldc2_w K1 122 dX12_advance_74 cn_X12_106 ?_
        obtain ⟨r4, hct, h⟩ := h
        refine h_callS K1 (st := []) [.long r3.toInt64, .long 97, .long 122] (hct w (gl g)) ok_X12_in ml_X12_70 ⟨Nat.le_of_ble_eq_true rfl, Nat.le_of_ble_eq_true rfl⟩ (Nat.le_of_ble_eq_true rfl) dX12_advance_77 ?_
        show q_Gs w g 80 [(1, .int r3), (0, .ref 96)] [.int r4] (q_mm (up2 I 96 9 (I 96 8)) L)
        refine g_if_eq K1 125 dX12_advance_80 rfl (fun hc => ?_) (fun hc => ?_)
        · replace h := h.1 hc
          refine g_iload_n K1 0 dX12_advance_125 rfl ?_
          refine g_i2l K1 dX12_advance_126 ?_
          refine g_ldc2_w K1 48 dX12_advance_127 cn_X12_108 ?_
          refine g_ldc2_w K1 57 dX12_advance_130 cn_X12_110 ?_
          obtain ⟨r5, hct, h⟩ := h
          refine h_callS K1 (st := []) [.long r3.toInt64, .long 48, .long 57] (hct w (gl g)) ok_X12_in ml_X12_70 ⟨Nat.le_of_ble_eq_true rfl, Nat.le_of_ble_eq_true rfl⟩ (Nat.le_of_ble_eq_true rfl) dX12_advance_133 ?_
          show q_Gs w g 136 [(1, .int r3), (0, .ref 96)] [.int r5] (q_mm (up2 I 96 9 (I 96 8)) L)
          refine g_if_eq K1 214 dX12_advance_136 rfl (fun hc => ?_) (fun hc => ?_)
          · replace h := h.1 hc
            refine g_aload_n K1 1 dX12_advance_214 rfl ?_
            refine g_iload_n K1 0 dX12_advance_215 rfl ?_
            refine g_bipush K1 59 dX12_advance_216 rfl ?_
            refine g_icmp_ne K1 225 dX12_advance_218 rfl (fun hc => ?_) (fun hc => ?_)
            · replace h := h.2 hc
              refine g_iconst K1 4 dX12_advance_225 rfl ?_
              refine h_putI K1 q_clX12 10 lyp_96 fkX12_10 fl_X12_101 rfl rfl rfl dX12_advance_226 ?_
              refine g_aload_n K1 1 dX12_advance_229 rfl ?_
              refine g_dup K1 dX12_advance_230 rfl ?_
              refine h_getI K1 q_clX12 8 lyp_96 fkX12_8 fl_X12_91 dX12_advance_231 ?_
              refine g_iconst K1 1 dX12_advance_234 rfl ?_
              refine g_iadd K1 dX12_advance_235 ?_
              refine h_putI K1 q_clX12 8 lyp_96 fkX12_8 fl_X12_91 rfl rfl rfl dX12_advance_236 ?_
              refine g_nameMI (fun I6 hI6 => ?_)
              replace h := h I6 hI6
              obtain ⟨hr, hI, hL⟩ := h
              subst hr hI hL
              exact g_vreturn K rfl dX12_advance_239
            · replace h := h.1 hc
              refine g_iconst K1 3 dX12_advance_221 rfl ?_
              refine g_goto K1 226 dX12_advance_222 rfl ?_
              refine h_putI K1 q_clX12 10 lyp_96 fkX12_10 fl_X12_101 rfl rfl rfl dX12_advance_226 ?_
              refine g_aload_n K1 1 dX12_advance_229 rfl ?_
              refine g_dup K1 dX12_advance_230 rfl ?_
              refine h_getI K1 q_clX12 8 lyp_96 fkX12_8 fl_X12_91 dX12_advance_231 ?_
              refine g_iconst K1 1 dX12_advance_234 rfl ?_
              refine g_iadd K1 dX12_advance_235 ?_
              refine h_putI K1 q_clX12 8 lyp_96 fkX12_8 fl_X12_91 rfl rfl rfl dX12_advance_236 ?_
              refine g_nameMI (fun I7 hI7 => ?_)
              replace h := h I7 hI7
              obtain ⟨hr, hI, hL⟩ := h
              subst hr hI hL
              exact g_vreturn K rfl dX12_advance_239
          · replace h := h.2 hc
            refine g_aload_n K1 1 dX12_advance_139 rfl ?_
            refine g_iconst K1 0 dX12_advance_140 rfl ?_
            refine h_putI K1 q_clX12 11 lyp_96 fkX12_11 fl_X12_112 rfl rfl rfl dX12_advance_141 ?_
            exact g_perm [1] rfl (h w g K)
        · replace h := h.2 hc
          exact g_perm [1] rfl (h w g K)
      · replace h := h.1 hc
        refine g_aload_n K1 1 dX12_advance_61 rfl ?_
        refine g_iconst K1 0 dX12_advance_62 rfl ?_
        refine h_putI K1 q_clX12 10 lyp_96 fkX12_10 fl_X12_101 rfl rfl rfl dX12_advance_63 ?_
        refine g_goto K1 239 dX12_advance_66 rfl ?_
        obtain ⟨hr, hI, hL⟩ := h
        subst hr hI hL
        exact g_vreturn K rfl dX12_advance_239
    · replace h := h.1 hc
      refine g_aload_n K1 0 dX12_advance_26 rfl ?_
      refine g_dup K1 dX12_advance_27 rfl ?_
      refine h_getI K1 q_clX12 8 lyp_96 fkX12_8 fl_X12_91 dX12_advance_28 ?_
      refine g_iconst K1 1 dX12_advance_31 rfl ?_
      refine g_iadd K1 dX12_advance_32 ?_
      refine h_putI K1 q_clX12 8 lyp_96 fkX12_8 fl_X12_91 rfl rfl rfl dX12_advance_33 ?_
      refine g_goto K1 0 dX12_advance_36 rfl ?_
      exact g_perm [0] rfl (h w g K)
set_option maxRecDepth 20000 in
set_option maxHeartbeats 2000000 in
theorem vc_X12_advance_83 {r : Option Value} {I' : Nat → Nat → Int32} {L' : Nat → Nat → Int64} {I : Nat → Nat → Int32} {L : Nat → Nat → Int64}  (h : (∃ r1, q_C kX12_see [.ref 96, .int (I 96 8)] I L (some (.int r1)) I L ∧ (∃ r2, q_C kX12_in [.long r1.toInt64, .long 97, .long 122] I L (some (.int r2)) I L ∧ ((r2 = 0 → (r = none ∧ I' = (up2 I 96 10 1) ∧ L' = L)) ∧ (¬ r2 = 0 → (v_X12_advance_83 r I' L' (up2 I 96 8 ((I 96 8) + 1)) L)))))) : v_X12_advance_83 r I' L' I L  := by
  intro w g K
  have K1 := K.1
  refine g_aload_n K1 0 dX12_advance_83 rfl ?_
  refine g_aload_n K1 0 dX12_advance_84 rfl ?_
  refine h_getI K1 q_clX12 8 lyp_96 fkX12_8 fl_X12_91 dX12_advance_85 ?_
  obtain ⟨r1, hct, h⟩ := h
  refine h_callV K1 (st := []) [.int (I 96 8)] (hct w (gl g)) q_clX12 lyp_96 rfl ok_X12_see ml_X12_94 ⟨Nat.le_of_ble_eq_true rfl, Nat.le_of_ble_eq_true rfl⟩ (Nat.le_of_ble_eq_true rfl) dX12_advance_88 ?_
  show q_Gs w g 91 [(0, .ref 96)] [.int r1] (q_mm I L)
  refine g_i2l K1 dX12_advance_91 ?_
  refine g_ldc2_w K1 97 dX12_advance_92 cn_X12_104 ?_
  refine g_ldc2_w K1 122 dX12_advance_95 cn_X12_106 ?_
  obtain ⟨r2, hct, h⟩ := h
  refine h_callS K1 (st := []) [.long r1.toInt64, .long 97, .long 122] (hct w (gl g)) ok_X12_in ml_X12_70 ⟨Nat.le_of_ble_eq_true rfl, Nat.le_of_ble_eq_true rfl⟩ (Nat.le_of_ble_eq_true rfl) dX12_advance_98 ?_
  show q_Gs w g 101 [(0, .ref 96)] [.int r2] (q_mm I L)
  refine g_if_eq K1 117 dX12_advance_101 rfl (fun hc => ?_) (fun hc => ?_)
  · replace h := h.1 hc
    refine g_aload_n K1 0 dX12_advance_117 rfl ?_
    refine g_iconst K1 1 dX12_advance_118 rfl ?_
    refine h_putI K1 q_clX12 10 lyp_96 fkX12_10 fl_X12_101 rfl rfl rfl dX12_advance_119 ?_
    refine g_goto K1 239 dX12_advance_122 rfl ?_
    obtain ⟨hr, hI, hL⟩ := h
    subst hr hI hL
    exact g_vreturn K rfl dX12_advance_239
  · replace h := h.2 hc
    refine g_aload_n K1 0 dX12_advance_104 rfl ?_
    refine g_dup K1 dX12_advance_105 rfl ?_
    refine h_getI K1 q_clX12 8 lyp_96 fkX12_8 fl_X12_91 dX12_advance_106 ?_
    refine g_iconst K1 1 dX12_advance_109 rfl ?_
    refine g_iadd K1 dX12_advance_110 ?_
    refine h_putI K1 q_clX12 8 lyp_96 fkX12_8 fl_X12_91 rfl rfl rfl dX12_advance_111 ?_
    refine g_goto K1 83 dX12_advance_114 rfl ?_
    exact g_perm [0] rfl (h w g K)
set_option maxRecDepth 20000 in
set_option maxHeartbeats 2000000 in
theorem vc_X12_advance_144 {r : Option Value} {I' : Nat → Nat → Int32} {L' : Nat → Nat → Int64} {I : Nat → Nat → Int32} {L : Nat → Nat → Int64}  (h : (∃ r1, q_C kX12_see [.ref 96, .int (I 96 8)] I L (some (.int r1)) I L ∧ (∃ r2, q_C kX12_in [.long r1.toInt64, .long 48, .long 57] I L (some (.int r2)) I L ∧ ((r2 = 0 → (r = none ∧ I' = (up2 I 96 10 2) ∧ L' = L)) ∧ (¬ r2 = 0 → (∃ r3, q_C kX12_see [.ref 96, .int (I 96 8)] I L (some (.int r3)) I L ∧ ∀ I4, I4 = (up2 I 96 11 (if (((10 * (I 96 11)) + r3) - 48) < 99999 then (((10 * (I 96 11)) + r3) - 48) else 99999)) → (v_X12_advance_144 r I' L' (up2 I4 96 8 ((I4 96 8) + 1)) L))))))) : v_X12_advance_144 r I' L' I L  := by
  intro w g K
  have K1 := K.1
  refine g_aload_n K1 0 dX12_advance_144 rfl ?_
  refine g_aload_n K1 0 dX12_advance_145 rfl ?_
  refine h_getI K1 q_clX12 8 lyp_96 fkX12_8 fl_X12_91 dX12_advance_146 ?_
  obtain ⟨r1, hct, h⟩ := h
  refine h_callV K1 (st := []) [.int (I 96 8)] (hct w (gl g)) q_clX12 lyp_96 rfl ok_X12_see ml_X12_94 ⟨Nat.le_of_ble_eq_true rfl, Nat.le_of_ble_eq_true rfl⟩ (Nat.le_of_ble_eq_true rfl) dX12_advance_149 ?_
  show q_Gs w g 152 [(0, .ref 96)] [.int r1] (q_mm I L)
  refine g_i2l K1 dX12_advance_152 ?_
  refine g_ldc2_w K1 48 dX12_advance_153 cn_X12_108 ?_
  refine g_ldc2_w K1 57 dX12_advance_156 cn_X12_110 ?_
  obtain ⟨r2, hct, h⟩ := h
  refine h_callS K1 (st := []) [.long r1.toInt64, .long 48, .long 57] (hct w (gl g)) ok_X12_in ml_X12_70 ⟨Nat.le_of_ble_eq_true rfl, Nat.le_of_ble_eq_true rfl⟩ (Nat.le_of_ble_eq_true rfl) dX12_advance_159 ?_
  show q_Gs w g 162 [(0, .ref 96)] [.int r2] (q_mm I L)
  refine g_if_eq K1 206 dX12_advance_162 rfl (fun hc => ?_) (fun hc => ?_)
  · replace h := h.1 hc
    refine g_aload_n K1 0 dX12_advance_206 rfl ?_
    refine g_iconst K1 2 dX12_advance_207 rfl ?_
    refine h_putI K1 q_clX12 10 lyp_96 fkX12_10 fl_X12_101 rfl rfl rfl dX12_advance_208 ?_
    refine g_goto K1 239 dX12_advance_211 rfl ?_
    obtain ⟨hr, hI, hL⟩ := h
    subst hr hI hL
    exact g_vreturn K rfl dX12_advance_239
  · replace h := h.2 hc
    refine g_aload_n K1 0 dX12_advance_165 rfl ?_
    refine g_ldc K1 99999 dX12_advance_166 cn_X12_115 ?_
    refine g_bipush K1 10 dX12_advance_168 rfl ?_
    refine g_aload_n K1 0 dX12_advance_170 rfl ?_
    refine h_getI K1 q_clX12 11 lyp_96 fkX12_11 fl_X12_112 dX12_advance_171 ?_
    refine g_imul K1 dX12_advance_174 ?_
    refine g_aload_n K1 0 dX12_advance_175 rfl ?_
    refine g_aload_n K1 0 dX12_advance_176 rfl ?_
    refine h_getI K1 q_clX12 8 lyp_96 fkX12_8 fl_X12_91 dX12_advance_177 ?_
    obtain ⟨r3, hct, h⟩ := h
    refine h_callV K1 (st := [.int (10 * (I 96 11)), .int 99999, .ref 96]) [.int (I 96 8)] (hct w (gl g)) q_clX12 lyp_96 rfl ok_X12_see ml_X12_94 ⟨Nat.le_of_ble_eq_true rfl, Nat.le_of_ble_eq_true rfl⟩ (Nat.le_of_ble_eq_true rfl) dX12_advance_180 ?_
    show q_Gs w g 183 [(0, .ref 96)] [.int r3, .int (10 * (I 96 11)), .int 99999, .ref 96] (q_mm I L)
    refine g_iadd K1 dX12_advance_183 ?_
    refine g_bipush K1 48 dX12_advance_184 rfl ?_
    refine g_isub K1 dX12_advance_186 ?_
    refine h_mmin K1 (by exact Nat.le_of_ble_eq_true rfl) ⟨Nat.le_of_ble_eq_true rfl, Nat.le_of_ble_eq_true rfl⟩ ml_X12_116 dX12_advance_187 ?_
    refine h_putI K1 q_clX12 11 lyp_96 fkX12_11 fl_X12_112 rfl rfl rfl dX12_advance_190 ?_
    refine g_nameMI (fun I4 hI4 => ?_)
    replace h := h I4 hI4
    refine g_aload_n K1 0 dX12_advance_193 rfl ?_
    refine g_dup K1 dX12_advance_194 rfl ?_
    refine h_getI K1 q_clX12 8 lyp_96 fkX12_8 fl_X12_91 dX12_advance_195 ?_
    refine g_iconst K1 1 dX12_advance_198 rfl ?_
    refine g_iadd K1 dX12_advance_199 ?_
    refine h_putI K1 q_clX12 8 lyp_96 fkX12_8 fl_X12_91 rfl rfl rfl dX12_advance_200 ?_
    refine g_goto K1 144 dX12_advance_203 rfl ?_
    exact g_perm [0] rfl (h w g K)
theorem c0_X12_advance {r : Option Value} {I I' : Nat → Nat → Int32} {L L' : Nat → Nat → Int64}  (h : v_X12_advance_0 r I' L' I L ) : q_C kX12_advance [.ref 96] I L r I' L' := fun w l => q_ct (by decide) (Nat.le_of_ble_eq_true rfl) (Nat.le_refl _) (fun g _ K => h w g K)
abbrev v_X12_alike_0 (r : Option Value) (I' : Nat → Nat → Int32) (L' : Nat → Nat → Int64) (I : Nat → Nat → Int32) (L : Nat → Nat → Int64) (x1 : Int32) (x2 : Int32) : Prop := q_W kX12_alike 0 [(0, .ref 96), (1, .int x1), (2, .int x2)] [] I L r I' L'
set_option maxRecDepth 20000 in
set_option maxHeartbeats 2000000 in
theorem vc_X12_alike_0 {r : Option Value} {I' : Nat → Nat → Int32} {L' : Nat → Nat → Int64} {I : Nat → Nat → Int32} {L : Nat → Nat → Int64} {x1 : Int32} {x2 : Int32} (h : (∃ r1 I2, q_C kX12_asksHour [.ref 96, .int x2] I L (some (.int r1)) I2 L ∧ ((r1 = 0 → (r = some (.int (-2)) ∧ I' = I2 ∧ L' = L)) ∧ (¬ r1 = 0 → (∃ r3, q_C kX12_isPew [.ref 96, .long x1.toInt64] I2 L (some (.int r3)) I2 L ∧ ((r3 = 0 → (r = some (.int (-2)) ∧ I' = I2 ∧ L' = L)) ∧ (¬ r3 = 0 → (∃ r4, q_C kX12_alikeTo [.ref 96, .int x1, .int x2] I2 L (some (.int r4)) I2 L ∧ (r = some (.int r4) ∧ I' = I2 ∧ L' = L))))))))) : v_X12_alike_0 r I' L' I L x1 x2 := by
  intro w g K
  have K1 := K.1
  refine g_aload_n K1 0 dX12_alike_0 rfl ?_
  refine g_iload_n K1 2 dX12_alike_1 rfl ?_
  obtain ⟨r1, I2, hct, h⟩ := h
  refine h_callV K1 (st := []) [.int x2] (hct w (gl g)) q_clX12 lyp_96 rfl ok_X12_asksHour ml_X12_318 ⟨Nat.le_of_ble_eq_true rfl, Nat.le_of_ble_eq_true rfl⟩ (Nat.le_of_ble_eq_true rfl) dX12_alike_2 ?_
  show q_Gs w g 5 [(0, .ref 96), (1, .int x1), (2, .int x2)] [.int r1] (q_mm I2 L)
  refine g_if_eq K1 26 dX12_alike_5 rfl (fun hc => ?_) (fun hc => ?_)
  · replace h := h.1 hc
    refine g_bipush K1 (-2) dX12_alike_26 rfl ?_
    obtain ⟨hr, hI, hL⟩ := h
    subst hr hI hL
    exact g_ireturn K rfl dX12_alike_28
  · replace h := h.2 hc
    refine g_aload_n K1 0 dX12_alike_8 rfl ?_
    refine g_iload_n K1 1 dX12_alike_9 rfl ?_
    refine g_i2l K1 dX12_alike_10 ?_
    obtain ⟨r3, hct, h⟩ := h
    refine h_callV K1 (st := []) [.long x1.toInt64] (hct w (gl g)) q_clX12 lyp_96 rfl ok_X12_isPew ml_X12_218 ⟨Nat.le_of_ble_eq_true rfl, Nat.le_of_ble_eq_true rfl⟩ (Nat.le_of_ble_eq_true rfl) dX12_alike_11 ?_
    show q_Gs w g 14 [(0, .ref 96), (1, .int x1), (2, .int x2)] [.int r3] (q_mm I2 L)
    refine g_if_eq K1 26 dX12_alike_14 rfl (fun hc => ?_) (fun hc => ?_)
    · replace h := h.1 hc
      refine g_bipush K1 (-2) dX12_alike_26 rfl ?_
      obtain ⟨hr, hI, hL⟩ := h
      subst hr hI hL
      exact g_ireturn K rfl dX12_alike_28
    · replace h := h.2 hc
      refine g_aload_n K1 0 dX12_alike_17 rfl ?_
      refine g_iload_n K1 1 dX12_alike_18 rfl ?_
      refine g_iload_n K1 2 dX12_alike_19 rfl ?_
      obtain ⟨r4, hct, h⟩ := h
      refine h_callV K1 (st := []) [.int x1, .int x2] (hct w (gl g)) q_clX12 lyp_96 rfl ok_X12_alikeTo ml_X12_331 ⟨Nat.le_of_ble_eq_true rfl, Nat.le_of_ble_eq_true rfl⟩ (Nat.le_of_ble_eq_true rfl) dX12_alike_20 ?_
      show q_Gs w g 23 [(0, .ref 96), (1, .int x1), (2, .int x2)] [.int r4] (q_mm I2 L)
      refine g_goto K1 28 dX12_alike_23 rfl ?_
      obtain ⟨hr, hI, hL⟩ := h
      subst hr hI hL
      exact g_ireturn K rfl dX12_alike_28
theorem c0_X12_alike {r : Option Value} {I I' : Nat → Nat → Int32} {L L' : Nat → Nat → Int64} {x1 : Int32} {x2 : Int32} (h : v_X12_alike_0 r I' L' I L x1 x2) : q_C kX12_alike [.ref 96, .int x1, .int x2] I L r I' L' := fun w l => q_ct (by decide) (Nat.le_of_ble_eq_true rfl) (Nat.le_refl _) (fun g _ K => h w g K)
abbrev v_X12_alikeTo_0 (r : Option Value) (I' : Nat → Nat → Int32) (L' : Nat → Nat → Int64) (I : Nat → Nat → Int32) (L : Nat → Nat → Int64) (x1 : Int32) (x2 : Int32) : Prop := q_W kX12_alikeTo 0 [(0, .ref 96), (1, .int x1), (2, .int x2)] [] I L r I' L'
abbrev v_X12_alikeTo_5 (r : Option Value) (I' : Nat → Nat → Int32) (L' : Nat → Nat → Int64) (I : Nat → Nat → Int32) (L : Nat → Nat → Int64) (x1 : Int32) (x2 : Int32) (x3 : Int32) (x4 : Int32) : Prop := q_W kX12_alikeTo 5 [(0, .ref 96), (1, .int x1), (2, .int x2), (3, .int x3), (4, .int x4)] [] I L r I' L'
set_option maxRecDepth 20000 in
set_option maxHeartbeats 2000000 in
theorem vc_X12_alikeTo_0 {r : Option Value} {I' : Nat → Nat → Int32} {L' : Nat → Nat → Int64} {I : Nat → Nat → Int32} {L : Nat → Nat → Int64} {x1 : Int32} {x2 : Int32} (h : (v_X12_alikeTo_5 r I' L' I L x1 x2 0 0)) : v_X12_alikeTo_0 r I' L' I L x1 x2 := by
  intro w g K
  have K1 := K.1
  refine g_iconst K1 0 dX12_alikeTo_0 rfl ?_
  refine g_istore_n K1 dX12_alikeTo_1 rfl (by decide) rfl ?_
  refine g_iconst K1 0 dX12_alikeTo_2 rfl ?_
  refine g_istore K1 dX12_alikeTo_3 (by decide) rfl ?_
  exact g_perm [2, 3, 4, 1, 0] rfl (h w g K)
set_option maxRecDepth 20000 in
set_option maxHeartbeats 2000000 in
theorem vc_X12_alikeTo_5 {r : Option Value} {I' : Nat → Nat → Int32} {L' : Nat → Nat → Int64} {I : Nat → Nat → Int32} {L : Nat → Nat → Int64} {x1 : Int32} {x2 : Int32} {x3 : Int32} {x4 : Int32} (h : (∃ r1, q_C kX12_pews [.ref 96] I L (some (.int r1)) I L ∧ ((r1 ≤ x4 → (r = some (.int x3) ∧ I' = I ∧ L' = L)) ∧ (¬ r1 ≤ x4 → (∃ r2, q_C kX12_saysOf [.ref 96, .int x1, .int x2] I L (some (.int r2)) I L ∧ ((r2 ≤ 0 → (v_X12_alikeTo_5 r I' L' I L x1 x2 (x3 ||| 0) (x4 + 1))) ∧ (¬ r2 ≤ 0 → (∃ r3, q_C kX12_saysOf [.ref 96, .int x4, .int x2] I L (some (.int r3)) I L ∧ (∃ r4, q_C kX12_saysOf [.ref 96, .int x1, .int x2] I L (some (.int r4)) I L ∧ ((r3 = r4 → (v_X12_alikeTo_5 r I' L' I L x1 x2 (x3 ||| ((1 : Int32) <<< (x4 &&& 31))) (x4 + 1))) ∧ (¬ r3 = r4 → (v_X12_alikeTo_5 r I' L' I L x1 x2 (x3 ||| 0) (x4 + 1))))))))))))) : v_X12_alikeTo_5 r I' L' I L x1 x2 x3 x4 := by
  intro w g K
  have K1 := K.1
  refine g_iload K1 4 dX12_alikeTo_5 rfl ?_
  refine g_aload_n K1 0 dX12_alikeTo_7 rfl ?_
  obtain ⟨r1, hct, h⟩ := h
  refine h_callV K1 (st := [.int x4]) [] (hct w (gl g)) q_clX12 lyp_96 rfl ok_X12_pews ml_X12_74 ⟨Nat.le_of_ble_eq_true rfl, Nat.le_of_ble_eq_true rfl⟩ (Nat.le_of_ble_eq_true rfl) dX12_alikeTo_8 ?_
  show q_Gs w g 11 [(0, .ref 96), (1, .int x1), (2, .int x2), (3, .int x3), (4, .int x4)] [.int r1, .int x4] (q_mm I L)
  refine g_icmp_ge K1 56 dX12_alikeTo_11 rfl (fun hc => ?_) (fun hc => ?_)
  · replace h := h.1 hc
    refine g_iload_n K1 3 dX12_alikeTo_56 rfl ?_
    obtain ⟨hr, hI, hL⟩ := h
    subst hr hI hL
    exact g_ireturn K rfl dX12_alikeTo_57
  · replace h := h.2 hc
    refine g_iload_n K1 3 dX12_alikeTo_14 rfl ?_
    refine g_aload_n K1 0 dX12_alikeTo_15 rfl ?_
    refine g_iload_n K1 1 dX12_alikeTo_16 rfl ?_
    refine g_iload_n K1 2 dX12_alikeTo_17 rfl ?_
    obtain ⟨r2, hct, h⟩ := h
    refine h_callV K1 (st := [.int x3]) [.int x1, .int x2] (hct w (gl g)) q_clX12 lyp_96 rfl ok_X12_saysOf ml_X12_275 ⟨Nat.le_of_ble_eq_true rfl, Nat.le_of_ble_eq_true rfl⟩ (Nat.le_of_ble_eq_true rfl) dX12_alikeTo_18 ?_
    show q_Gs w g 21 [(0, .ref 96), (1, .int x1), (2, .int x2), (3, .int x3), (4, .int x4)] [.int r2, .int x3] (q_mm I L)
    refine g_if_le K1 47 dX12_alikeTo_21 rfl (fun hc => ?_) (fun hc => ?_)
    · replace h := h.1 hc
      refine g_iconst K1 0 dX12_alikeTo_47 rfl ?_
      refine g_ior K1 dX12_alikeTo_48 ?_
      refine g_istore_n K1 dX12_alikeTo_49 rfl (by decide) rfl ?_
      refine g_iinc K1 (x4 + 1) 4 dX12_alikeTo_50 rfl rfl (by decide) rfl ?_
      refine g_goto K1 5 dX12_alikeTo_53 rfl ?_
      exact g_perm [2, 3, 4, 1, 0] rfl (h w g K)
    · replace h := h.2 hc
      refine g_aload_n K1 0 dX12_alikeTo_24 rfl ?_
      refine g_iload K1 4 dX12_alikeTo_25 rfl ?_
      refine g_iload_n K1 2 dX12_alikeTo_27 rfl ?_
      obtain ⟨r3, hct, h⟩ := h
      refine h_callV K1 (st := [.int x3]) [.int x4, .int x2] (hct w (gl g)) q_clX12 lyp_96 rfl ok_X12_saysOf ml_X12_275 ⟨Nat.le_of_ble_eq_true rfl, Nat.le_of_ble_eq_true rfl⟩ (Nat.le_of_ble_eq_true rfl) dX12_alikeTo_28 ?_
      show q_Gs w g 31 [(0, .ref 96), (1, .int x1), (2, .int x2), (3, .int x3), (4, .int x4)] [.int r3, .int x3] (q_mm I L)
      refine g_aload_n K1 0 dX12_alikeTo_31 rfl ?_
      refine g_iload_n K1 1 dX12_alikeTo_32 rfl ?_
      refine g_iload_n K1 2 dX12_alikeTo_33 rfl ?_
      obtain ⟨r4, hct, h⟩ := h
      refine h_callV K1 (st := [.int r3, .int x3]) [.int x1, .int x2] (hct w (gl g)) q_clX12 lyp_96 rfl ok_X12_saysOf ml_X12_275 ⟨Nat.le_of_ble_eq_true rfl, Nat.le_of_ble_eq_true rfl⟩ (Nat.le_of_ble_eq_true rfl) dX12_alikeTo_34 ?_
      show q_Gs w g 37 [(0, .ref 96), (1, .int x1), (2, .int x2), (3, .int x3), (4, .int x4)] [.int r4, .int r3, .int x3] (q_mm I L)
      refine g_icmp_ne K1 47 dX12_alikeTo_37 rfl (fun hc => ?_) (fun hc => ?_)
      · replace h := h.2 hc
        refine g_iconst K1 0 dX12_alikeTo_47 rfl ?_
        refine g_ior K1 dX12_alikeTo_48 ?_
        refine g_istore_n K1 dX12_alikeTo_49 rfl (by decide) rfl ?_
        refine g_iinc K1 (x4 + 1) 4 dX12_alikeTo_50 rfl rfl (by decide) rfl ?_
        refine g_goto K1 5 dX12_alikeTo_53 rfl ?_
        exact g_perm [2, 3, 4, 1, 0] rfl (h w g K)
      · replace h := h.1 hc
        refine g_iconst K1 1 dX12_alikeTo_40 rfl ?_
        refine g_iload K1 4 dX12_alikeTo_41 rfl ?_
        refine g_ishl K1 dX12_alikeTo_43 ?_
        refine g_goto K1 48 dX12_alikeTo_44 rfl ?_
        refine g_ior K1 dX12_alikeTo_48 ?_
        refine g_istore_n K1 dX12_alikeTo_49 rfl (by decide) rfl ?_
        refine g_iinc K1 (x4 + 1) 4 dX12_alikeTo_50 rfl rfl (by decide) rfl ?_
        refine g_goto K1 5 dX12_alikeTo_53 rfl ?_
        exact g_perm [2, 3, 4, 1, 0] rfl (h w g K)
theorem c0_X12_alikeTo {r : Option Value} {I I' : Nat → Nat → Int32} {L L' : Nat → Nat → Int64} {x1 : Int32} {x2 : Int32} (h : v_X12_alikeTo_0 r I' L' I L x1 x2) : q_C kX12_alikeTo [.ref 96, .int x1, .int x2] I L r I' L' := fun w l => q_ct (by decide) (Nat.le_of_ble_eq_true rfl) (Nat.le_refl _) (fun g _ K => h w g K)
abbrev v_X12_allPews_0 (r : Option Value) (I' : Nat → Nat → Int32) (L' : Nat → Nat → Int64) (I : Nat → Nat → Int32) (L : Nat → Nat → Int64)  : Prop := q_W kX12_allPews 0 [(0, .ref 96)] [] I L r I' L'
set_option maxRecDepth 20000 in
set_option maxHeartbeats 2000000 in
theorem vc_X12_allPews_0 {r : Option Value} {I' : Nat → Nat → Int32} {L' : Nat → Nat → Int64} {I : Nat → Nat → Int32} {L : Nat → Nat → Int64}  (h : (∃ r1, q_C kX12_pews [.ref 96] I L (some (.int r1)) I L ∧ (r = some (.int (((1 : Int32) <<< (r1 &&& 31)) - 1)) ∧ I' = I ∧ L' = L))) : v_X12_allPews_0 r I' L' I L  := by
  intro w g K
  have K1 := K.1
  refine g_iconst K1 1 dX12_allPews_0 rfl ?_
  refine g_aload_n K1 0 dX12_allPews_1 rfl ?_
  obtain ⟨r1, hct, h⟩ := h
  refine h_callV K1 (st := [.int 1]) [] (hct w (gl g)) q_clX12 lyp_96 rfl ok_X12_pews ml_X12_74 ⟨Nat.le_of_ble_eq_true rfl, Nat.le_of_ble_eq_true rfl⟩ (Nat.le_of_ble_eq_true rfl) dX12_allPews_2 ?_
  show q_Gs w g 5 [(0, .ref 96)] [.int r1, .int 1] (q_mm I L)
  refine g_ishl K1 dX12_allPews_5 ?_
  refine g_iconst K1 1 dX12_allPews_6 rfl ?_
  refine g_isub K1 dX12_allPews_7 ?_
  obtain ⟨hr, hI, hL⟩ := h
  subst hr hI hL
  exact g_ireturn K rfl dX12_allPews_8
theorem c0_X12_allPews {r : Option Value} {I I' : Nat → Nat → Int32} {L L' : Nat → Nat → Int64}  (h : v_X12_allPews_0 r I' L' I L ) : q_C kX12_allPews [.ref 96] I L r I' L' := fun w l => q_ct (by decide) (Nat.le_of_ble_eq_true rfl) (Nat.le_refl _) (fun g _ K => h w g K)
abbrev v_X12_anew_0 (r : Option Value) (I' : Nat → Nat → Int32) (L' : Nat → Nat → Int64) (I : Nat → Nat → Int32) (L : Nat → Nat → Int64)  : Prop := q_W kX12_anew 0 [(0, .ref 96)] [] I L r I' L'
set_option maxRecDepth 20000 in
set_option maxHeartbeats 2000000 in
theorem vc_X12_anew_0 {r : Option Value} {I' : Nat → Nat → Int32} {L' : Nat → Nat → Int64} {I : Nat → Nat → Int32} {L : Nat → Nat → Int64}  (h : (∃ r1, q_C kX12_isNight [.ref 96] I L (some (.int r1)) I L ∧ ((r1 = 0 → (r = some (.int (-2)) ∧ I' = I ∧ L' = L)) ∧ (¬ r1 = 0 → (vp_in 7 104 ∧ (vp_in 7 104 ∧ (r = some (.int (I 97 (7 : Int32).toNatClampNeg)) ∧ I' = (up2 I 97 (7 : Int32).toNatClampNeg 0) ∧ L' = L))))))) : v_X12_anew_0 r I' L' I L  := by
  intro w g K
  have K1 := K.1
  refine g_aload_n K1 0 dX12_anew_0 rfl ?_
  obtain ⟨r1, hct, h⟩ := h
  refine h_callV K1 (st := []) [] (hct w (gl g)) q_clX12 lyp_96 rfl ok_X12_isNight ml_X12_78 ⟨Nat.le_of_ble_eq_true rfl, Nat.le_of_ble_eq_true rfl⟩ (Nat.le_of_ble_eq_true rfl) dX12_anew_1 ?_
  show q_Gs w g 4 [(0, .ref 96)] [.int r1] (q_mm I L)
  refine g_if_ne K1 10 dX12_anew_4 rfl (fun hc => ?_) (fun hc => ?_)
  · replace h := h.2 hc
    refine g_aload_n K1 0 dX12_anew_10 rfl ?_
    refine h_getO K1 q_clX12 1 97 lyp_96 fkX12_1 rfl fl_X12_9 dX12_anew_11 ?_
    refine g_bipush K1 7 dX12_anew_14 rfl ?_
    obtain ⟨hg, h⟩ := h
    refine h_iaload K1 lyp_97 hg dX12_anew_16 ?_
    refine g_istore_n K1 dX12_anew_17 rfl (by decide) rfl ?_
    refine g_aload_n K1 1 dX12_anew_18 rfl ?_
    refine h_getO K1 q_clX12 1 97 lyp_96 fkX12_1 rfl fl_X12_9 dX12_anew_19 ?_
    refine g_bipush K1 7 dX12_anew_22 rfl ?_
    refine g_iconst K1 0 dX12_anew_24 rfl ?_
    obtain ⟨hg, h⟩ := h
    refine h_iastore K1 lyp_97 hg dX12_anew_25 ?_
    refine g_iload_n K1 0 dX12_anew_26 rfl ?_
    obtain ⟨hr, hI, hL⟩ := h
    subst hr hI hL
    exact g_ireturn K rfl dX12_anew_27
  · replace h := h.1 hc
    refine g_bipush K1 (-2) dX12_anew_7 rfl ?_
    obtain ⟨hr, hI, hL⟩ := h
    subst hr hI hL
    exact g_ireturn K rfl dX12_anew_9
theorem c0_X12_anew {r : Option Value} {I I' : Nat → Nat → Int32} {L L' : Nat → Nat → Int64}  (h : v_X12_anew_0 r I' L' I L ) : q_C kX12_anew [.ref 96] I L r I' L' := fun w l => q_ct (by decide) (Nat.le_of_ble_eq_true rfl) (Nat.le_refl _) (fun g _ K => h w g K)
abbrev v_X12_areTwo_0 (r : Option Value) (I' : Nat → Nat → Int32) (L' : Nat → Nat → Int64) (I : Nat → Nat → Int32) (L : Nat → Nat → Int64) (x1 : Int32) (x2 : Int32) : Prop := q_W kX12_areTwo 0 [(0, .ref 96), (1, .int x1), (2, .int x2)] [] I L r I' L'
set_option maxRecDepth 20000 in
set_option maxHeartbeats 2000000 in
theorem vc_X12_areTwo_0 {r : Option Value} {I' : Nat → Nat → Int32} {L' : Nat → Nat → Int64} {I : Nat → Nat → Int32} {L : Nat → Nat → Int64} {x1 : Int32} {x2 : Int32} (h : (∃ r1, q_C kX12_isPew [.ref 96, .long x1.toInt64] I L (some (.int r1)) I L ∧ ((r1 = 0 → (r = some (.int 0) ∧ I' = I ∧ L' = L)) ∧ (¬ r1 = 0 → (∃ r2, q_C kX12_isPew [.ref 96, .long x2.toInt64] I L (some (.int r2)) I L ∧ ((r2 = 0 → (r = some (.int 0) ∧ I' = I ∧ L' = L)) ∧ (¬ r2 = 0 → ((x1 = x2 → (r = some (.int 0) ∧ I' = I ∧ L' = L)) ∧ (¬ x1 = x2 → (r = some (.int 1) ∧ I' = I ∧ L' = L)))))))))) : v_X12_areTwo_0 r I' L' I L x1 x2 := by
  intro w g K
  have K1 := K.1
  refine g_aload_n K1 0 dX12_areTwo_0 rfl ?_
  refine g_iload_n K1 1 dX12_areTwo_1 rfl ?_
  refine g_i2l K1 dX12_areTwo_2 ?_
  obtain ⟨r1, hct, h⟩ := h
  refine h_callV K1 (st := []) [.long x1.toInt64] (hct w (gl g)) q_clX12 lyp_96 rfl ok_X12_isPew ml_X12_218 ⟨Nat.le_of_ble_eq_true rfl, Nat.le_of_ble_eq_true rfl⟩ (Nat.le_of_ble_eq_true rfl) dX12_areTwo_3 ?_
  show q_Gs w g 6 [(0, .ref 96), (1, .int x1), (2, .int x2)] [.int r1] (q_mm I L)
  refine g_if_eq K1 27 dX12_areTwo_6 rfl (fun hc => ?_) (fun hc => ?_)
  · replace h := h.1 hc
    refine g_iconst K1 0 dX12_areTwo_27 rfl ?_
    obtain ⟨hr, hI, hL⟩ := h
    subst hr hI hL
    exact g_zreturn K rfl (by decide) dX12_areTwo_28
  · replace h := h.2 hc
    refine g_aload_n K1 0 dX12_areTwo_9 rfl ?_
    refine g_iload_n K1 2 dX12_areTwo_10 rfl ?_
    refine g_i2l K1 dX12_areTwo_11 ?_
    obtain ⟨r2, hct, h⟩ := h
    refine h_callV K1 (st := []) [.long x2.toInt64] (hct w (gl g)) q_clX12 lyp_96 rfl ok_X12_isPew ml_X12_218 ⟨Nat.le_of_ble_eq_true rfl, Nat.le_of_ble_eq_true rfl⟩ (Nat.le_of_ble_eq_true rfl) dX12_areTwo_12 ?_
    show q_Gs w g 15 [(0, .ref 96), (1, .int x1), (2, .int x2)] [.int r2] (q_mm I L)
    refine g_if_eq K1 27 dX12_areTwo_15 rfl (fun hc => ?_) (fun hc => ?_)
    · replace h := h.1 hc
      refine g_iconst K1 0 dX12_areTwo_27 rfl ?_
      obtain ⟨hr, hI, hL⟩ := h
      subst hr hI hL
      exact g_zreturn K rfl (by decide) dX12_areTwo_28
    · replace h := h.2 hc
      refine g_iload_n K1 1 dX12_areTwo_18 rfl ?_
      refine g_iload_n K1 2 dX12_areTwo_19 rfl ?_
      refine g_icmp_eq K1 27 dX12_areTwo_20 rfl (fun hc => ?_) (fun hc => ?_)
      · replace h := h.1 hc
        refine g_iconst K1 0 dX12_areTwo_27 rfl ?_
        obtain ⟨hr, hI, hL⟩ := h
        subst hr hI hL
        exact g_zreturn K rfl (by decide) dX12_areTwo_28
      · replace h := h.2 hc
        refine g_iconst K1 1 dX12_areTwo_23 rfl ?_
        refine g_goto K1 28 dX12_areTwo_24 rfl ?_
        obtain ⟨hr, hI, hL⟩ := h
        subst hr hI hL
        exact g_zreturn K rfl (by decide) dX12_areTwo_28
theorem c0_X12_areTwo {r : Option Value} {I I' : Nat → Nat → Int32} {L L' : Nat → Nat → Int64} {x1 : Int32} {x2 : Int32} (h : v_X12_areTwo_0 r I' L' I L x1 x2) : q_C kX12_areTwo [.ref 96, .int x1, .int x2] I L r I' L' := fun w l => q_ct (by decide) (Nat.le_of_ble_eq_true rfl) (Nat.le_refl _) (fun g _ K => h w g K)
abbrev v_X12_asItIs_0 (r : Option Value) (I' : Nat → Nat → Int32) (L' : Nat → Nat → Int64) (I : Nat → Nat → Int32) (L : Nat → Nat → Int64)  : Prop := q_W kX12_asItIs 0 [(0, .ref 96)] [] I L r I' L'
set_option maxRecDepth 20000 in
set_option maxHeartbeats 2000000 in
theorem vc_X12_asItIs_0 {r : Option Value} {I' : Nat → Nat → Int32} {L' : Nat → Nat → Int64} {I : Nat → Nat → Int32} {L : Nat → Nat → Int64}  (h : (vp_in 1 104 ∧ ∀ I1, I1 = (up2 (up2 (up2 I 96 16 (I 97 (1 : Int32).toNatClampNeg)) 96 17 0) 96 18 (-1)) → ∀ I2, I2 = (up2 (up2 (up2 (up2 (up2 I1 96 19 1) 96 20 (-1)) 96 21 (-1)) 96 22 (-1)) 96 23 (-1)) → (r = none ∧ I' = (up2 I2 96 15 0) ∧ L' = L))) : v_X12_asItIs_0 r I' L' I L  := by
  intro w g K
  have K1 := K.1
  refine g_aload_n K1 0 dX12_asItIs_0 rfl ?_
  refine g_aload_n K1 0 dX12_asItIs_1 rfl ?_
  refine h_getO K1 q_clX12 1 97 lyp_96 fkX12_1 rfl fl_X12_9 dX12_asItIs_2 ?_
  refine g_iconst K1 1 dX12_asItIs_5 rfl ?_
  obtain ⟨hg, h⟩ := h
  refine h_iaload K1 lyp_97 hg dX12_asItIs_6 ?_
  refine h_putI K1 q_clX12 16 lyp_96 fkX12_16 fl_X12_243 rfl rfl rfl dX12_asItIs_7 ?_
  refine g_aload_n K1 0 dX12_asItIs_10 rfl ?_
  refine g_iconst K1 0 dX12_asItIs_11 rfl ?_
  refine h_putI K1 q_clX12 17 lyp_96 fkX12_17 fl_X12_246 rfl rfl rfl dX12_asItIs_12 ?_
  refine g_aload_n K1 0 dX12_asItIs_15 rfl ?_
  refine g_iconst K1 (-1) dX12_asItIs_16 rfl ?_
  refine h_putI K1 q_clX12 18 lyp_96 fkX12_18 fl_X12_249 rfl rfl rfl dX12_asItIs_17 ?_
  refine g_nameMI (fun I1 hI1 => ?_)
  replace h := h I1 hI1
  refine g_aload_n K1 0 dX12_asItIs_20 rfl ?_
  refine g_iconst K1 1 dX12_asItIs_21 rfl ?_
  refine h_putI K1 q_clX12 19 lyp_96 fkX12_19 fl_X12_252 rfl rfl rfl dX12_asItIs_22 ?_
  refine g_aload_n K1 0 dX12_asItIs_25 rfl ?_
  refine g_iconst K1 (-1) dX12_asItIs_26 rfl ?_
  refine h_putI K1 q_clX12 20 lyp_96 fkX12_20 fl_X12_255 rfl rfl rfl dX12_asItIs_27 ?_
  refine g_aload_n K1 0 dX12_asItIs_30 rfl ?_
  refine g_iconst K1 (-1) dX12_asItIs_31 rfl ?_
  refine h_putI K1 q_clX12 21 lyp_96 fkX12_21 fl_X12_258 rfl rfl rfl dX12_asItIs_32 ?_
  refine g_aload_n K1 0 dX12_asItIs_35 rfl ?_
  refine g_iconst K1 (-1) dX12_asItIs_36 rfl ?_
  refine h_putI K1 q_clX12 22 lyp_96 fkX12_22 fl_X12_261 rfl rfl rfl dX12_asItIs_37 ?_
  refine g_aload_n K1 0 dX12_asItIs_40 rfl ?_
  refine g_iconst K1 (-1) dX12_asItIs_41 rfl ?_
  refine h_putI K1 q_clX12 23 lyp_96 fkX12_23 fl_X12_264 rfl rfl rfl dX12_asItIs_42 ?_
  refine g_nameMI (fun I2 hI2 => ?_)
  replace h := h I2 hI2
  refine g_aload_n K1 0 dX12_asItIs_45 rfl ?_
  refine g_iconst K1 0 dX12_asItIs_46 rfl ?_
  refine h_putI K1 q_clX12 15 lyp_96 fkX12_15 fl_X12_234 rfl rfl rfl dX12_asItIs_47 ?_
  obtain ⟨hr, hI, hL⟩ := h
  subst hr hI hL
  exact g_vreturn K rfl dX12_asItIs_50
theorem c0_X12_asItIs {r : Option Value} {I I' : Nat → Nat → Int32} {L L' : Nat → Nat → Int64}  (h : v_X12_asItIs_0 r I' L' I L ) : q_C kX12_asItIs [.ref 96] I L r I' L' := fun w l => q_ct (by decide) (Nat.le_of_ble_eq_true rfl) (Nat.le_refl _) (fun g _ K => h w g K)
abbrev v_X12_ask_0 (r : Option Value) (I' : Nat → Nat → Int32) (L' : Nat → Nat → Int64) (I : Nat → Nat → Int32) (L : Nat → Nat → Int64) (x1 : Int32) : Prop := q_W kX12_ask 0 [(0, .ref 96), (1, .int x1)] [] I L r I' L'
set_option maxRecDepth 20000 in
set_option maxHeartbeats 2000000 in
theorem vc_X12_ask_0 {r : Option Value} {I' : Nat → Nat → Int32} {L' : Nat → Nat → Int64} {I : Nat → Nat → Int32} {L : Nat → Nat → Int64} {x1 : Int32} (h : (∃ r1 I2, q_C kX12_askWhom [.ref 96, .int x1] I L (some (.int r1)) I2 L ∧ ((0 ≤ r1 → (∃ r3 I4, q_C kX12_whomOf [.ref 96, .int x1] I2 L (some (.int r3)) I4 L ∧ (∃ r5 I6, q_C kX12_askOf [.ref 96, .int r3] I4 L (some (.int r5)) I6 L ∧ (r = some (.int r5) ∧ I' = I6 ∧ L' = L)))) ∧ (¬ 0 ≤ r1 → (r = some (.int r1) ∧ I' = I2 ∧ L' = L))))) : v_X12_ask_0 r I' L' I L x1 := by
  intro w g K
  have K1 := K.1
  refine g_aload_n K1 0 dX12_ask_0 rfl ?_
  refine g_iload_n K1 1 dX12_ask_1 rfl ?_
  obtain ⟨r1, I2, hct, h⟩ := h
  refine h_callV K1 (st := []) [.int x1] (hct w (gl g)) q_clX12 lyp_96 rfl ok_X12_askWhom ml_X12_407 ⟨Nat.le_of_ble_eq_true rfl, Nat.le_of_ble_eq_true rfl⟩ (Nat.le_of_ble_eq_true rfl) dX12_ask_2 ?_
  show q_Gs w g 5 [(0, .ref 96), (1, .int x1)] [.int r1] (q_mm I2 L)
  refine g_istore_n K1 dX12_ask_5 rfl (by decide) rfl ?_
  refine g_iload_n K1 0 dX12_ask_6 rfl ?_
  refine g_if_ge K1 14 dX12_ask_7 rfl (fun hc => ?_) (fun hc => ?_)
  · replace h := h.1 hc
    refine g_aload_n K1 1 dX12_ask_14 rfl ?_
    refine g_aload_n K1 1 dX12_ask_15 rfl ?_
    refine g_iload_n K1 2 dX12_ask_16 rfl ?_
    obtain ⟨r3, I4, hct, h⟩ := h
    refine h_callV K1 (st := [.ref 96]) [.int x1] (hct w (gl g)) q_clX12 lyp_96 rfl ok_X12_whomOf ml_X12_410 ⟨Nat.le_of_ble_eq_true rfl, Nat.le_of_ble_eq_true rfl⟩ (Nat.le_of_ble_eq_true rfl) dX12_ask_17 ?_
    show q_Gs w g 20 [(2, .int r1), (0, .ref 96), (1, .int x1)] [.int r3, .ref 96] (q_mm I4 L)
    obtain ⟨r5, I6, hct, h⟩ := h
    refine h_callV K1 (st := []) [.int r3] (hct w (gl g)) q_clX12 lyp_96 rfl ok_X12_askOf ml_X12_419 ⟨Nat.le_of_ble_eq_true rfl, Nat.le_of_ble_eq_true rfl⟩ (Nat.le_of_ble_eq_true rfl) dX12_ask_20 ?_
    show q_Gs w g 23 [(2, .int r1), (0, .ref 96), (1, .int x1)] [.int r5] (q_mm I6 L)
    obtain ⟨hr, hI, hL⟩ := h
    subst hr hI hL
    exact g_ireturn K rfl dX12_ask_23
  · replace h := h.2 hc
    refine g_iload_n K1 0 dX12_ask_10 rfl ?_
    refine g_goto K1 23 dX12_ask_11 rfl ?_
    obtain ⟨hr, hI, hL⟩ := h
    subst hr hI hL
    exact g_ireturn K rfl dX12_ask_23
theorem c0_X12_ask {r : Option Value} {I I' : Nat → Nat → Int32} {L L' : Nat → Nat → Int64} {x1 : Int32} (h : v_X12_ask_0 r I' L' I L x1) : q_C kX12_ask [.ref 96, .int x1] I L r I' L' := fun w l => q_ct (by decide) (Nat.le_of_ble_eq_true rfl) (Nat.le_refl _) (fun g _ K => h w g K)
abbrev v_X12_askFirst_0 (r : Option Value) (I' : Nat → Nat → Int32) (L' : Nat → Nat → Int64) (I : Nat → Nat → Int32) (L : Nat → Nat → Int64) (x1 : Int32) (x2 : Int32) (x3 : Int32) : Prop := q_W kX12_askFirst 0 [(0, .ref 96), (1, .int x1), (2, .int x2), (3, .int x3)] [] I L r I' L'
set_option maxRecDepth 20000 in
set_option maxHeartbeats 2000000 in
theorem vc_X12_askFirst_0 {r : Option Value} {I' : Nat → Nat → Int32} {L' : Nat → Nat → Int64} {I : Nat → Nat → Int32} {L : Nat → Nat → Int64} {x1 : Int32} {x2 : Int32} {x3 : Int32} (h : (∃ r1 I2, q_C kX12_askRow [.ref 96, .int x1, .int x2, .int x3] I L (some (.int r1)) I2 L ∧ ((r1 = 0 → (∃ I3, q_C kX12_layFirst [.ref 96, .int x2, .int x3] I2 L none I3 L ∧ (r = some (.int r1) ∧ I' = I3 ∧ L' = L))) ∧ (¬ r1 = 0 → (r = some (.int r1) ∧ I' = I2 ∧ L' = L))))) : v_X12_askFirst_0 r I' L' I L x1 x2 x3 := by
  intro w g K
  have K1 := K.1
  refine g_aload_n K1 0 dX12_askFirst_0 rfl ?_
  refine g_iload_n K1 1 dX12_askFirst_1 rfl ?_
  refine g_iload_n K1 2 dX12_askFirst_2 rfl ?_
  refine g_iload_n K1 3 dX12_askFirst_3 rfl ?_
  obtain ⟨r1, I2, hct, h⟩ := h
  refine h_callV K1 (st := []) [.int x1, .int x2, .int x3] (hct w (gl g)) q_clX12 lyp_96 rfl ok_X12_askRow ml_X12_355 ⟨Nat.le_of_ble_eq_true rfl, Nat.le_of_ble_eq_true rfl⟩ (Nat.le_of_ble_eq_true rfl) dX12_askFirst_4 ?_
  show q_Gs w g 7 [(0, .ref 96), (1, .int x1), (2, .int x2), (3, .int x3)] [.int r1] (q_mm I2 L)
  refine g_istore K1 dX12_askFirst_7 (by decide) rfl ?_
  refine g_iload K1 0 dX12_askFirst_9 rfl ?_
  refine g_if_ne K1 20 dX12_askFirst_11 rfl (fun hc => ?_) (fun hc => ?_)
  · replace h := h.2 hc
    refine g_iload K1 0 dX12_askFirst_20 rfl ?_
    obtain ⟨hr, hI, hL⟩ := h
    subst hr hI hL
    exact g_ireturn K rfl dX12_askFirst_22
  · replace h := h.1 hc
    refine g_aload_n K1 1 dX12_askFirst_14 rfl ?_
    refine g_iload_n K1 3 dX12_askFirst_15 rfl ?_
    refine g_iload_n K1 4 dX12_askFirst_16 rfl ?_
    obtain ⟨I3, hct, h⟩ := h
    refine h_callV K1 (st := []) [.int x2, .int x3] (hct w (gl g)) q_clX12 lyp_96 rfl ok_X12_layFirst ml_X12_371 ⟨Nat.le_of_ble_eq_true rfl, Nat.le_of_ble_eq_true rfl⟩ (Nat.le_of_ble_eq_true rfl) dX12_askFirst_17 ?_
    show q_Gs w g 20 [(4, .int r1), (0, .ref 96), (1, .int x1), (2, .int x2), (3, .int x3)] [] (q_mm I3 L)
    refine g_iload K1 0 dX12_askFirst_20 rfl ?_
    obtain ⟨hr, hI, hL⟩ := h
    subst hr hI hL
    exact g_ireturn K rfl dX12_askFirst_22
theorem c0_X12_askFirst {r : Option Value} {I I' : Nat → Nat → Int32} {L L' : Nat → Nat → Int64} {x1 : Int32} {x2 : Int32} {x3 : Int32} (h : v_X12_askFirst_0 r I' L' I L x1 x2 x3) : q_C kX12_askFirst [.ref 96, .int x1, .int x2, .int x3] I L r I' L' := fun w l => q_ct (by decide) (Nat.le_of_ble_eq_true rfl) (Nat.le_refl _) (fun g _ K => h w g K)
abbrev v_X12_askHeard_0 (r : Option Value) (I' : Nat → Nat → Int32) (L' : Nat → Nat → Int64) (I : Nat → Nat → Int32) (L : Nat → Nat → Int64) (x1 : Int32) : Prop := q_W kX12_askHeard 0 [(0, .ref 96), (1, .int x1)] [] I L r I' L'
abbrev v_X12_askHeard_46 (r : Option Value) (I' : Nat → Nat → Int32) (L' : Nat → Nat → Int64) (I : Nat → Nat → Int32) (L : Nat → Nat → Int64) (x1 : Int32) (x2 : Int32) : Prop := q_W kX12_askHeard 46 [(0, .ref 96), (1, .int x1), (2, .int x2)] [] I L r I' L'
set_option maxRecDepth 20000 in
set_option maxHeartbeats 2000000 in
theorem vc_X12_askHeard_0 {r : Option Value} {I' : Nat → Nat → Int32} {L' : Nat → Nat → Int64} {I : Nat → Nat → Int32} {L : Nat → Nat → Int64} {x1 : Int32} (h : (∃ r1, q_C kX12_isSlot [.int x1] I L (some (.int r1)) I L ∧ ((r1 = 0 → (r = some (.int (-2)) ∧ I' = I ∧ L' = L)) ∧ (¬ r1 = 0 → (∃ r2, q_C kX12_isNight [.ref 96] I L (some (.int r2)) I L ∧ ((r2 = 0 → (r = some (.int (-2)) ∧ I' = I ∧ L' = L)) ∧ (¬ r2 = 0 → (vp_in x1 4 ∧ (((I 109 x1.toNatClampNeg) = (-1) → (r = some (.int (-6)) ∧ I' = I ∧ L' = L)) ∧ (¬ (I 109 x1.toNatClampNeg) = (-1) → (vp_in x1 4 ∧ ((((I 109 x1.toNatClampNeg) - (I 109 x1.toNatClampNeg) / 3 * 3) = 0 → (v_X12_askHeard_46 r I' L' I L x1 0)) ∧ (¬ ((I 109 x1.toNatClampNeg) - (I 109 x1.toNatClampNeg) / 3 * 3) = 0 → (r = some (.int (-2)) ∧ I' = I ∧ L' = L)))))))))))))) : v_X12_askHeard_0 r I' L' I L x1 := by
  intro w g K
  have K1 := K.1
  refine g_iload_n K1 1 dX12_askHeard_0 rfl ?_
  obtain ⟨r1, hct, h⟩ := h
  refine h_callS K1 (st := []) [.int x1] (hct w (gl g)) ok_X12_isSlot ml_X12_343 ⟨Nat.le_of_ble_eq_true rfl, Nat.le_of_ble_eq_true rfl⟩ (Nat.le_of_ble_eq_true rfl) dX12_askHeard_1 ?_
  show q_Gs w g 4 [(0, .ref 96), (1, .int x1)] [.int r1] (q_mm I L)
  refine g_if_eq K1 14 dX12_askHeard_4 rfl (fun hc => ?_) (fun hc => ?_)
  · replace h := h.1 hc
    refine g_bipush K1 (-2) dX12_askHeard_14 rfl ?_
    obtain ⟨hr, hI, hL⟩ := h
    subst hr hI hL
    exact g_ireturn K rfl dX12_askHeard_16
  · replace h := h.2 hc
    refine g_aload_n K1 0 dX12_askHeard_7 rfl ?_
    obtain ⟨r2, hct, h⟩ := h
    refine h_callV K1 (st := []) [] (hct w (gl g)) q_clX12 lyp_96 rfl ok_X12_isNight ml_X12_78 ⟨Nat.le_of_ble_eq_true rfl, Nat.le_of_ble_eq_true rfl⟩ (Nat.le_of_ble_eq_true rfl) dX12_askHeard_8 ?_
    show q_Gs w g 11 [(0, .ref 96), (1, .int x1)] [.int r2] (q_mm I L)
    refine g_if_ne K1 17 dX12_askHeard_11 rfl (fun hc => ?_) (fun hc => ?_)
    · replace h := h.2 hc
      refine g_aload_n K1 0 dX12_askHeard_17 rfl ?_
      refine h_getO K1 q_clX12 37 109 lyp_96 fkX12_37 rfl fl_X12_52 dX12_askHeard_18 ?_
      refine g_iload_n K1 1 dX12_askHeard_21 rfl ?_
      obtain ⟨hg, h⟩ := h
      refine h_iaload K1 lyp_109 hg dX12_askHeard_22 ?_
      refine g_iconst K1 (-1) dX12_askHeard_23 rfl ?_
      refine g_icmp_ne K1 30 dX12_askHeard_24 rfl (fun hc => ?_) (fun hc => ?_)
      · replace h := h.2 hc
        refine g_aload_n K1 0 dX12_askHeard_30 rfl ?_
        refine h_getO K1 q_clX12 37 109 lyp_96 fkX12_37 rfl fl_X12_52 dX12_askHeard_31 ?_
        refine g_iload_n K1 1 dX12_askHeard_34 rfl ?_
        obtain ⟨hg, h⟩ := h
        refine h_iaload K1 lyp_109 hg dX12_askHeard_35 ?_
        refine g_iconst K1 3 dX12_askHeard_36 rfl ?_
        refine g_irem K1 dX12_askHeard_37 (by decide) ?_
        refine g_if_eq K1 44 dX12_askHeard_38 rfl (fun hc => ?_) (fun hc => ?_)
        · replace h := h.1 hc
          refine g_iconst K1 0 dX12_askHeard_44 rfl ?_
          refine g_istore_n K1 dX12_askHeard_45 rfl (by decide) rfl ?_
          exact g_perm [1, 2, 0] rfl (h w g K)
        · replace h := h.2 hc
          refine g_bipush K1 (-2) dX12_askHeard_41 rfl ?_
          obtain ⟨hr, hI, hL⟩ := h
          subst hr hI hL
          exact g_ireturn K rfl dX12_askHeard_43
      · replace h := h.1 hc
        refine g_bipush K1 (-6) dX12_askHeard_27 rfl ?_
        obtain ⟨hr, hI, hL⟩ := h
        subst hr hI hL
        exact g_ireturn K rfl dX12_askHeard_29
    · replace h := h.1 hc
      refine g_bipush K1 (-2) dX12_askHeard_14 rfl ?_
      obtain ⟨hr, hI, hL⟩ := h
      subst hr hI hL
      exact g_ireturn K rfl dX12_askHeard_16
set_option maxRecDepth 20000 in
set_option maxHeartbeats 2000000 in
theorem vc_X12_askHeard_46 {r : Option Value} {I' : Nat → Nat → Int32} {L' : Nat → Nat → Int64} {I : Nat → Nat → Int32} {L : Nat → Nat → Int64} {x1 : Int32} {x2 : Int32} (h : (vp_in x1 4 ∧ (((I 109 x1.toNatClampNeg) ≤ x2 → (∃ I1, q_C kX12_asItIs [.ref 96] I L none I1 L ∧ (r = some (.int 0) ∧ I' = I1 ∧ L' = L))) ∧ (¬ (I 109 x1.toNatClampNeg) ≤ x2 → (∃ r2, q_C kX12_numberAt [.ref 96, .int x1, .int x2] I L (some (.long r2)) I L ∧ (∃ r3, q_C kX12_isPew [.ref 96, .long r2] I L (some (.int r3)) I L ∧ ((r3 = 0 → (r = some (.int (-2)) ∧ I' = I ∧ L' = L)) ∧ (¬ r3 = 0 → (∃ r4, q_C kX12_numberAt [.ref 96, .int x1, .int (x2 + 1)] I L (some (.long r4)) I L ∧ (∃ r5, q_C kX12_isHour [.ref 96, .long r4] I L (some (.int r5)) I L ∧ ((r5 = 0 → (r = some (.int (-2)) ∧ I' = I ∧ L' = L)) ∧ (¬ r5 = 0 → (∃ r6, q_C kX12_numberAt [.ref 96, .int x1, .int (x2 + 2)] I L (some (.long r6)) I L ∧ (∃ r7, q_C kX12_in [.long r6, .long 0, .long 6] I L (some (.int r7)) I L ∧ ((r7 = 0 → (r = some (.int (-2)) ∧ I' = I ∧ L' = L)) ∧ (¬ r7 = 0 → (v_X12_askHeard_46 r I' L' I L x1 (x2 + 3)))))))))))))))))) : v_X12_askHeard_46 r I' L' I L x1 x2 := by
  intro w g K
  have K1 := K.1
  refine g_iload_n K1 2 dX12_askHeard_46 rfl ?_
  refine g_aload_n K1 0 dX12_askHeard_47 rfl ?_
  refine h_getO K1 q_clX12 37 109 lyp_96 fkX12_37 rfl fl_X12_52 dX12_askHeard_48 ?_
  refine g_iload_n K1 1 dX12_askHeard_51 rfl ?_
  obtain ⟨hg, h⟩ := h
  refine h_iaload K1 lyp_109 hg dX12_askHeard_52 ?_
  refine g_icmp_ge K1 111 dX12_askHeard_53 rfl (fun hc => ?_) (fun hc => ?_)
  · replace h := h.1 hc
    refine g_aload_n K1 0 dX12_askHeard_111 rfl ?_
    obtain ⟨I1, hct, h⟩ := h
    refine h_callV K1 (st := []) [] (hct w (gl g)) q_clX12 lyp_96 rfl ok_X12_asItIs ml_X12_297 ⟨Nat.le_of_ble_eq_true rfl, Nat.le_of_ble_eq_true rfl⟩ (Nat.le_of_ble_eq_true rfl) dX12_askHeard_112 ?_
    show q_Gs w g 115 [(0, .ref 96), (1, .int x1), (2, .int x2)] [] (q_mm I1 L)
    refine g_iconst K1 0 dX12_askHeard_115 rfl ?_
    obtain ⟨hr, hI, hL⟩ := h
    subst hr hI hL
    exact g_ireturn K rfl dX12_askHeard_116
  · replace h := h.2 hc
    refine g_aload_n K1 0 dX12_askHeard_56 rfl ?_
    refine g_aload_n K1 0 dX12_askHeard_57 rfl ?_
    refine g_iload_n K1 1 dX12_askHeard_58 rfl ?_
    refine g_iload_n K1 2 dX12_askHeard_59 rfl ?_
    obtain ⟨r2, hct, h⟩ := h
    refine h_callV K1 (st := [.ref 96]) [.int x1, .int x2] (hct w (gl g)) q_clX12 lyp_96 rfl ok_X12_numberAt ml_X12_351 ⟨Nat.le_of_ble_eq_true rfl, Nat.le_of_ble_eq_true rfl⟩ (Nat.le_of_ble_eq_true rfl) dX12_askHeard_60 ?_
    show q_Gs w g 63 [(0, .ref 96), (1, .int x1), (2, .int x2)] [.long r2, .ref 96] (q_mm I L)
    obtain ⟨r3, hct, h⟩ := h
    refine h_callV K1 (st := []) [.long r2] (hct w (gl g)) q_clX12 lyp_96 rfl ok_X12_isPew ml_X12_218 ⟨Nat.le_of_ble_eq_true rfl, Nat.le_of_ble_eq_true rfl⟩ (Nat.le_of_ble_eq_true rfl) dX12_askHeard_63 ?_
    show q_Gs w g 66 [(0, .ref 96), (1, .int x1), (2, .int x2)] [.int r3] (q_mm I L)
    refine g_if_eq K1 102 dX12_askHeard_66 rfl (fun hc => ?_) (fun hc => ?_)
    · replace h := h.1 hc
      refine g_bipush K1 (-2) dX12_askHeard_102 rfl ?_
      obtain ⟨hr, hI, hL⟩ := h
      subst hr hI hL
      exact g_ireturn K rfl dX12_askHeard_104
    · replace h := h.2 hc
      refine g_aload_n K1 0 dX12_askHeard_69 rfl ?_
      refine g_aload_n K1 0 dX12_askHeard_70 rfl ?_
      refine g_iload_n K1 1 dX12_askHeard_71 rfl ?_
      refine g_iload_n K1 2 dX12_askHeard_72 rfl ?_
      refine g_iconst K1 1 dX12_askHeard_73 rfl ?_
      refine g_iadd K1 dX12_askHeard_74 ?_
      obtain ⟨r4, hct, h⟩ := h
      refine h_callV K1 (st := [.ref 96]) [.int x1, .int (x2 + 1)] (hct w (gl g)) q_clX12 lyp_96 rfl ok_X12_numberAt ml_X12_351 ⟨Nat.le_of_ble_eq_true rfl, Nat.le_of_ble_eq_true rfl⟩ (Nat.le_of_ble_eq_true rfl) dX12_askHeard_75 ?_
      show q_Gs w g 78 [(0, .ref 96), (1, .int x1), (2, .int x2)] [.long r4, .ref 96] (q_mm I L)
      obtain ⟨r5, hct, h⟩ := h
      refine h_callV K1 (st := []) [.long r4] (hct w (gl g)) q_clX12 lyp_96 rfl ok_X12_isHour ml_X12_306 ⟨Nat.le_of_ble_eq_true rfl, Nat.le_of_ble_eq_true rfl⟩ (Nat.le_of_ble_eq_true rfl) dX12_askHeard_78 ?_
      show q_Gs w g 81 [(0, .ref 96), (1, .int x1), (2, .int x2)] [.int r5] (q_mm I L)
      refine g_if_eq K1 102 dX12_askHeard_81 rfl (fun hc => ?_) (fun hc => ?_)
      · replace h := h.1 hc
        refine g_bipush K1 (-2) dX12_askHeard_102 rfl ?_
        obtain ⟨hr, hI, hL⟩ := h
        subst hr hI hL
        exact g_ireturn K rfl dX12_askHeard_104
      · replace h := h.2 hc
        refine g_aload_n K1 0 dX12_askHeard_84 rfl ?_
        refine g_iload_n K1 1 dX12_askHeard_85 rfl ?_
        refine g_iload_n K1 2 dX12_askHeard_86 rfl ?_
        refine g_iconst K1 2 dX12_askHeard_87 rfl ?_
        refine g_iadd K1 dX12_askHeard_88 ?_
        obtain ⟨r6, hct, h⟩ := h
        refine h_callV K1 (st := []) [.int x1, .int (x2 + 2)] (hct w (gl g)) q_clX12 lyp_96 rfl ok_X12_numberAt ml_X12_351 ⟨Nat.le_of_ble_eq_true rfl, Nat.le_of_ble_eq_true rfl⟩ (Nat.le_of_ble_eq_true rfl) dX12_askHeard_89 ?_
        show q_Gs w g 92 [(0, .ref 96), (1, .int x1), (2, .int x2)] [.long r6] (q_mm I L)
        refine g_lconst K1 0 dX12_askHeard_92 rfl ?_
        refine g_ldc2_w K1 6 dX12_askHeard_93 cn_X12_346 ?_
        obtain ⟨r7, hct, h⟩ := h
        refine h_callS K1 (st := []) [.long r6, .long 0, .long 6] (hct w (gl g)) ok_X12_in ml_X12_70 ⟨Nat.le_of_ble_eq_true rfl, Nat.le_of_ble_eq_true rfl⟩ (Nat.le_of_ble_eq_true rfl) dX12_askHeard_96 ?_
        show q_Gs w g 99 [(0, .ref 96), (1, .int x1), (2, .int x2)] [.int r7] (q_mm I L)
        refine g_if_ne K1 105 dX12_askHeard_99 rfl (fun hc => ?_) (fun hc => ?_)
        · replace h := h.2 hc
          refine g_iinc K1 (x2 + 3) 2 dX12_askHeard_105 rfl rfl (by decide) rfl ?_
          refine g_goto K1 46 dX12_askHeard_108 rfl ?_
          exact g_perm [1, 2, 0] rfl (h w g K)
        · replace h := h.1 hc
          refine g_bipush K1 (-2) dX12_askHeard_102 rfl ?_
          obtain ⟨hr, hI, hL⟩ := h
          subst hr hI hL
          exact g_ireturn K rfl dX12_askHeard_104
theorem c0_X12_askHeard {r : Option Value} {I I' : Nat → Nat → Int32} {L L' : Nat → Nat → Int64} {x1 : Int32} (h : v_X12_askHeard_0 r I' L' I L x1) : q_C kX12_askHeard [.ref 96, .int x1] I L r I' L' := fun w l => q_ct (by decide) (Nat.le_of_ble_eq_true rfl) (Nat.le_refl _) (fun g _ K => h w g K)
abbrev v_X12_askOf_0 (r : Option Value) (I' : Nat → Nat → Int32) (L' : Nat → Nat → Int64) (I : Nat → Nat → Int32) (L : Nat → Nat → Int64) (x1 : Int32) : Prop := q_W kX12_askOf 0 [(0, .ref 96), (1, .int x1)] [] I L r I' L'
abbrev v_X12_askOf_12 (r : Option Value) (I' : Nat → Nat → Int32) (L' : Nat → Nat → Int64) (I : Nat → Nat → Int32) (L : Nat → Nat → Int64) (x1 : Int32) (x2 : Int32) (x3 : Int32) : Prop := q_W kX12_askOf 12 [(0, .ref 96), (1, .int x1), (2, .int x2), (3, .int x3)] [] I L r I' L'
abbrev v_X12_askOf_23 (r : Option Value) (I' : Nat → Nat → Int32) (L' : Nat → Nat → Int64) (I : Nat → Nat → Int32) (L : Nat → Nat → Int64) (x1 : Int32) (x2 : Int32) (x3 : Int32) (x4 : Int32) : Prop := q_W kX12_askOf 23 [(0, .ref 96), (1, .int x1), (2, .int x2), (3, .int x3), (4, .int x4)] [] I L r I' L'
set_option maxRecDepth 20000 in
set_option maxHeartbeats 2000000 in
theorem vc_X12_askOf_0 {r : Option Value} {I' : Nat → Nat → Int32} {L' : Nat → Nat → Int64} {I : Nat → Nat → Int32} {L : Nat → Nat → Int64} {x1 : Int32} (h : (∃ r1, q_C kX12_bits [.int x1] I L (some (.int r1)) I L ∧ (v_X12_askOf_12 r I' L' (up2 I 96 33 r1) L x1 (-1) 0))) : v_X12_askOf_0 r I' L' I L x1 := by
  intro w g K
  have K1 := K.1
  refine g_aload_n K1 0 dX12_askOf_0 rfl ?_
  refine g_iload_n K1 1 dX12_askOf_1 rfl ?_
  obtain ⟨r1, hct, h⟩ := h
  refine h_callS K1 (st := [.ref 96]) [.int x1] (hct w (gl g)) ok_X12_bits ml_X12_315 ⟨Nat.le_of_ble_eq_true rfl, Nat.le_of_ble_eq_true rfl⟩ (Nat.le_of_ble_eq_true rfl) dX12_askOf_2 ?_
  show q_Gs w g 5 [(0, .ref 96), (1, .int x1)] [.int r1, .ref 96] (q_mm I L)
  refine h_putI K1 q_clX12 33 lyp_96 fkX12_33 fl_X12_413 rfl rfl rfl dX12_askOf_5 ?_
  refine g_iconst K1 (-1) dX12_askOf_8 rfl ?_
  refine g_istore_n K1 dX12_askOf_9 rfl (by decide) rfl ?_
  refine g_iconst K1 0 dX12_askOf_10 rfl ?_
  refine g_istore_n K1 dX12_askOf_11 rfl (by decide) rfl ?_
  exact g_perm [2, 3, 1, 0] rfl (h w g K)
set_option maxRecDepth 20000 in
set_option maxHeartbeats 2000000 in
theorem vc_X12_askOf_12 {r : Option Value} {I' : Nat → Nat → Int32} {L' : Nat → Nat → Int64} {I : Nat → Nat → Int32} {L : Nat → Nat → Int64} {x1 : Int32} {x2 : Int32} {x3 : Int32} (h : (∃ r1, q_C kX12_pews [.ref 96] I L (some (.int r1)) I L ∧ ((r1 ≤ x3 → (r = some (.int x2) ∧ I' = I ∧ L' = L)) ∧ (¬ r1 ≤ x3 → (v_X12_askOf_23 r I' L' I L x1 x2 x3 0))))) : v_X12_askOf_12 r I' L' I L x1 x2 x3 := by
  intro w g K
  have K1 := K.1
  refine g_iload_n K1 3 dX12_askOf_12 rfl ?_
  refine g_aload_n K1 0 dX12_askOf_13 rfl ?_
  obtain ⟨r1, hct, h⟩ := h
  refine h_callV K1 (st := [.int x3]) [] (hct w (gl g)) q_clX12 lyp_96 rfl ok_X12_pews ml_X12_74 ⟨Nat.le_of_ble_eq_true rfl, Nat.le_of_ble_eq_true rfl⟩ (Nat.le_of_ble_eq_true rfl) dX12_askOf_14 ?_
  show q_Gs w g 17 [(0, .ref 96), (1, .int x1), (2, .int x2), (3, .int x3)] [.int r1, .int x3] (q_mm I L)
  refine g_icmp_ge K1 84 dX12_askOf_17 rfl (fun hc => ?_) (fun hc => ?_)
  · replace h := h.1 hc
    refine g_iload_n K1 2 dX12_askOf_84 rfl ?_
    obtain ⟨hr, hI, hL⟩ := h
    subst hr hI hL
    exact g_ireturn K rfl dX12_askOf_85
  · replace h := h.2 hc
    refine g_iconst K1 0 dX12_askOf_20 rfl ?_
    refine g_istore K1 dX12_askOf_21 (by decide) rfl ?_
    exact g_perm [1, 2, 3, 4, 0] rfl (h w g K)
set_option maxRecDepth 20000 in
set_option maxHeartbeats 2000000 in
theorem vc_X12_askOf_23 {r : Option Value} {I' : Nat → Nat → Int32} {L' : Nat → Nat → Int64} {I : Nat → Nat → Int32} {L : Nat → Nat → Int64} {x1 : Int32} {x2 : Int32} {x3 : Int32} {x4 : Int32} (h : (∃ r1, q_C kX12_hours [.ref 96] I L (some (.int r1)) I L ∧ ((r1 < x4 → (v_X12_askOf_12 r I' L' I L x1 x2 (x3 + 1))) ∧ (¬ r1 < x4 → (∃ r2, q_C kX12_worstOf [.ref 96, .int x1, .int ((7 * x4) + x3)] I L (some (.int r2)) I L ∧ ((r2 < (I 96 33) → (v_X12_askOf_23 r I' L' (up2 I 96 33 r2) L x1 ((100 * x3) + x4) x3 (x4 + 1))) ∧ (¬ r2 < (I 96 33) → (v_X12_askOf_23 r I' L' I L x1 x2 x3 (x4 + 1))))))))) : v_X12_askOf_23 r I' L' I L x1 x2 x3 x4 := by
  intro w g K
  have K1 := K.1
  refine g_iload K1 4 dX12_askOf_23 rfl ?_
  refine g_aload_n K1 0 dX12_askOf_25 rfl ?_
  obtain ⟨r1, hct, h⟩ := h
  refine h_callV K1 (st := [.int x4]) [] (hct w (gl g)) q_clX12 lyp_96 rfl ok_X12_hours ml_X12_82 ⟨Nat.le_of_ble_eq_true rfl, Nat.le_of_ble_eq_true rfl⟩ (Nat.le_of_ble_eq_true rfl) dX12_askOf_26 ?_
  show q_Gs w g 29 [(0, .ref 96), (1, .int x1), (2, .int x2), (3, .int x3), (4, .int x4)] [.int r1, .int x4] (q_mm I L)
  refine g_icmp_gt K1 78 dX12_askOf_29 rfl (fun hc => ?_) (fun hc => ?_)
  · replace h := h.1 hc
    refine g_iinc K1 (x3 + 1) 3 dX12_askOf_78 rfl rfl (by decide) rfl ?_
    refine g_goto K1 12 dX12_askOf_81 rfl ?_
    exact g_perm [1, 2, 3, 0] rfl (h w g K)
  · replace h := h.2 hc
    refine g_aload_n K1 0 dX12_askOf_32 rfl ?_
    refine g_iload_n K1 1 dX12_askOf_33 rfl ?_
    refine g_bipush K1 7 dX12_askOf_34 rfl ?_
    refine g_iload K1 4 dX12_askOf_36 rfl ?_
    refine g_imul K1 dX12_askOf_38 ?_
    refine g_iload_n K1 3 dX12_askOf_39 rfl ?_
    refine g_iadd K1 dX12_askOf_40 ?_
    obtain ⟨r2, hct, h⟩ := h
    refine h_callV K1 (st := []) [.int x1, .int ((7 * x4) + x3)] (hct w (gl g)) q_clX12 lyp_96 rfl ok_X12_worstOf ml_X12_416 ⟨Nat.le_of_ble_eq_true rfl, Nat.le_of_ble_eq_true rfl⟩ (Nat.le_of_ble_eq_true rfl) dX12_askOf_41 ?_
    show q_Gs w g 44 [(0, .ref 96), (1, .int x1), (2, .int x2), (3, .int x3), (4, .int x4)] [.int r2] (q_mm I L)
    refine g_istore K1 dX12_askOf_44 (by decide) rfl ?_
    refine g_iload K1 0 dX12_askOf_46 rfl ?_
    refine g_aload_n K1 1 dX12_askOf_48 rfl ?_
    refine h_getI K1 q_clX12 33 lyp_96 fkX12_33 fl_X12_413 dX12_askOf_49 ?_
    refine g_icmp_lt K1 58 dX12_askOf_52 rfl (fun hc => ?_) (fun hc => ?_)
    · replace h := h.1 hc
      refine g_aload_n K1 1 dX12_askOf_58 rfl ?_
      refine g_iload K1 0 dX12_askOf_59 rfl ?_
      refine h_putI K1 q_clX12 33 lyp_96 fkX12_33 fl_X12_413 rfl rfl rfl dX12_askOf_61 ?_
      refine g_bipush K1 100 dX12_askOf_64 rfl ?_
      refine g_iload_n K1 4 dX12_askOf_66 rfl ?_
      refine g_imul K1 dX12_askOf_67 ?_
      refine g_iload K1 5 dX12_askOf_68 rfl ?_
      refine g_iadd K1 dX12_askOf_70 ?_
      refine g_istore_n K1 dX12_askOf_71 rfl (by decide) rfl ?_
      refine g_iinc K1 (x4 + 1) 5 dX12_askOf_72 rfl rfl (by decide) rfl ?_
      refine g_goto K1 23 dX12_askOf_75 rfl ?_
      exact g_perm [3, 4, 1, 5, 0] rfl (h w g K)
    · replace h := h.2 hc
      refine g_goto K1 72 dX12_askOf_55 rfl ?_
      refine g_iinc K1 (x4 + 1) 5 dX12_askOf_72 rfl rfl (by decide) rfl ?_
      refine g_goto K1 23 dX12_askOf_75 rfl ?_
      exact g_perm [2, 3, 4, 5, 0] rfl (h w g K)
theorem c0_X12_askOf {r : Option Value} {I I' : Nat → Nat → Int32} {L L' : Nat → Nat → Int64} {x1 : Int32} (h : v_X12_askOf_0 r I' L' I L x1) : q_C kX12_askOf [.ref 96, .int x1] I L r I' L' := fun w l => q_ct (by decide) (Nat.le_of_ble_eq_true rfl) (Nat.le_refl _) (fun g _ K => h w g K)
abbrev v_X12_askRow_0 (r : Option Value) (I' : Nat → Nat → Int32) (L' : Nat → Nat → Int64) (I : Nat → Nat → Int32) (L : Nat → Nat → Int64) (x1 : Int32) (x2 : Int32) (x3 : Int32) : Prop := q_W kX12_askRow 0 [(0, .ref 96), (1, .int x1), (2, .int x2), (3, .int x3)] [] I L r I' L'
abbrev v_X12_askRow_69 (r : Option Value) (I' : Nat → Nat → Int32) (L' : Nat → Nat → Int64) (I : Nat → Nat → Int32) (L : Nat → Nat → Int64) (x1 : Int32) (x4 : Int32) : Prop := q_W kX12_askRow 69 [(0, .ref 96), (1, .int x1), (4, .int x4)] [] I L r I' L'
set_option maxRecDepth 20000 in
set_option maxHeartbeats 2000000 in
theorem vc_X12_askRow_0 {r : Option Value} {I' : Nat → Nat → Int32} {L' : Nat → Nat → Int64} {I : Nat → Nat → Int32} {L : Nat → Nat → Int64} {x1 : Int32} {x2 : Int32} {x3 : Int32} (h : (∃ r1, q_C kX12_isSlot [.int x1] I L (some (.int r1)) I L ∧ ((r1 = 0 → (r = some (.int (-2)) ∧ I' = I ∧ L' = L)) ∧ (¬ r1 = 0 → (∃ r2, q_C kX12_isPew [.ref 96, .long x2.toInt64] I L (some (.int r2)) I L ∧ ((r2 = 0 → (r = some (.int (-2)) ∧ I' = I ∧ L' = L)) ∧ (¬ r2 = 0 → (∃ r3, q_C kX12_isPew [.ref 96, .long x3.toInt64] I L (some (.int r3)) I L ∧ ((r3 = 0 → (r = some (.int (-2)) ∧ I' = I ∧ L' = L)) ∧ (¬ r3 = 0 → (vp_in x1 4 ∧ (((I 109 x1.toNatClampNeg) = (-1) → (r = some (.int (-6)) ∧ I' = I ∧ L' = L)) ∧ (¬ (I 109 x1.toNatClampNeg) = (-1) → (vp_in x1 4 ∧ (∃ r4, q_C kX12_in [.long ((I 109 x1.toNatClampNeg) : Int32).toInt64, .long 1, .long 6] I L (some (.int r4)) I L ∧ ((r4 = 0 → (r = some (.int (-2)) ∧ I' = I ∧ L' = L)) ∧ (¬ r4 = 0 → (v_X12_askRow_69 r I' L' (up2 I 96 28 0) L x1 0)))))))))))))))))) : v_X12_askRow_0 r I' L' I L x1 x2 x3 := by
  intro w g K
  have K1 := K.1
  refine g_iload_n K1 1 dX12_askRow_0 rfl ?_
  obtain ⟨r1, hct, h⟩ := h
  refine h_callS K1 (st := []) [.int x1] (hct w (gl g)) ok_X12_isSlot ml_X12_343 ⟨Nat.le_of_ble_eq_true rfl, Nat.le_of_ble_eq_true rfl⟩ (Nat.le_of_ble_eq_true rfl) dX12_askRow_1 ?_
  show q_Gs w g 4 [(0, .ref 96), (1, .int x1), (2, .int x2), (3, .int x3)] [.int r1] (q_mm I L)
  refine g_if_eq K1 25 dX12_askRow_4 rfl (fun hc => ?_) (fun hc => ?_)
  · replace h := h.1 hc
    refine g_bipush K1 (-2) dX12_askRow_25 rfl ?_
    obtain ⟨hr, hI, hL⟩ := h
    subst hr hI hL
    exact g_ireturn K rfl dX12_askRow_27
  · replace h := h.2 hc
    refine g_aload_n K1 0 dX12_askRow_7 rfl ?_
    refine g_iload_n K1 2 dX12_askRow_8 rfl ?_
    refine g_i2l K1 dX12_askRow_9 ?_
    obtain ⟨r2, hct, h⟩ := h
    refine h_callV K1 (st := []) [.long x2.toInt64] (hct w (gl g)) q_clX12 lyp_96 rfl ok_X12_isPew ml_X12_218 ⟨Nat.le_of_ble_eq_true rfl, Nat.le_of_ble_eq_true rfl⟩ (Nat.le_of_ble_eq_true rfl) dX12_askRow_10 ?_
    show q_Gs w g 13 [(0, .ref 96), (1, .int x1), (2, .int x2), (3, .int x3)] [.int r2] (q_mm I L)
    refine g_if_eq K1 25 dX12_askRow_13 rfl (fun hc => ?_) (fun hc => ?_)
    · replace h := h.1 hc
      refine g_bipush K1 (-2) dX12_askRow_25 rfl ?_
      obtain ⟨hr, hI, hL⟩ := h
      subst hr hI hL
      exact g_ireturn K rfl dX12_askRow_27
    · replace h := h.2 hc
      refine g_aload_n K1 0 dX12_askRow_16 rfl ?_
      refine g_iload_n K1 3 dX12_askRow_17 rfl ?_
      refine g_i2l K1 dX12_askRow_18 ?_
      obtain ⟨r3, hct, h⟩ := h
      refine h_callV K1 (st := []) [.long x3.toInt64] (hct w (gl g)) q_clX12 lyp_96 rfl ok_X12_isPew ml_X12_218 ⟨Nat.le_of_ble_eq_true rfl, Nat.le_of_ble_eq_true rfl⟩ (Nat.le_of_ble_eq_true rfl) dX12_askRow_19 ?_
      show q_Gs w g 22 [(0, .ref 96), (1, .int x1), (2, .int x2), (3, .int x3)] [.int r3] (q_mm I L)
      refine g_if_ne K1 28 dX12_askRow_22 rfl (fun hc => ?_) (fun hc => ?_)
      · replace h := h.2 hc
        refine g_aload_n K1 0 dX12_askRow_28 rfl ?_
        refine h_getO K1 q_clX12 37 109 lyp_96 fkX12_37 rfl fl_X12_52 dX12_askRow_29 ?_
        refine g_iload_n K1 1 dX12_askRow_32 rfl ?_
        obtain ⟨hg, h⟩ := h
        refine h_iaload K1 lyp_109 hg dX12_askRow_33 ?_
        refine g_iconst K1 (-1) dX12_askRow_34 rfl ?_
        refine g_icmp_ne K1 41 dX12_askRow_35 rfl (fun hc => ?_) (fun hc => ?_)
        · replace h := h.2 hc
          refine g_aload_n K1 0 dX12_askRow_41 rfl ?_
          refine h_getO K1 q_clX12 37 109 lyp_96 fkX12_37 rfl fl_X12_52 dX12_askRow_42 ?_
          refine g_iload_n K1 1 dX12_askRow_45 rfl ?_
          obtain ⟨hg, h⟩ := h
          refine h_iaload K1 lyp_109 hg dX12_askRow_46 ?_
          refine g_i2l K1 dX12_askRow_47 ?_
          refine g_lconst K1 1 dX12_askRow_48 rfl ?_
          refine g_ldc2_w K1 6 dX12_askRow_49 cn_X12_346 ?_
          obtain ⟨r4, hct, h⟩ := h
          refine h_callS K1 (st := []) [.long ((I 109 x1.toNatClampNeg) : Int32).toInt64, .long 1, .long 6] (hct w (gl g)) ok_X12_in ml_X12_70 ⟨Nat.le_of_ble_eq_true rfl, Nat.le_of_ble_eq_true rfl⟩ (Nat.le_of_ble_eq_true rfl) dX12_askRow_52 ?_
          show q_Gs w g 55 [(0, .ref 96), (1, .int x1), (2, .int x2), (3, .int x3)] [.int r4] (q_mm I L)
          refine g_if_ne K1 61 dX12_askRow_55 rfl (fun hc => ?_) (fun hc => ?_)
          · replace h := h.2 hc
            refine g_aload_n K1 0 dX12_askRow_61 rfl ?_
            refine g_iconst K1 0 dX12_askRow_62 rfl ?_
            refine h_putI K1 q_clX12 28 lyp_96 fkX12_28 fl_X12_348 rfl rfl rfl dX12_askRow_63 ?_
            refine g_iconst K1 0 dX12_askRow_66 rfl ?_
            refine g_istore K1 dX12_askRow_67 (by decide) rfl ?_
            exact g_perm [1, 2, 0] rfl (h w g K)
          · replace h := h.1 hc
            refine g_bipush K1 (-2) dX12_askRow_58 rfl ?_
            obtain ⟨hr, hI, hL⟩ := h
            subst hr hI hL
            exact g_ireturn K rfl dX12_askRow_60
        · replace h := h.1 hc
          refine g_bipush K1 (-6) dX12_askRow_38 rfl ?_
          obtain ⟨hr, hI, hL⟩ := h
          subst hr hI hL
          exact g_ireturn K rfl dX12_askRow_40
      · replace h := h.1 hc
        refine g_bipush K1 (-2) dX12_askRow_25 rfl ?_
        obtain ⟨hr, hI, hL⟩ := h
        subst hr hI hL
        exact g_ireturn K rfl dX12_askRow_27
set_option maxRecDepth 20000 in
set_option maxHeartbeats 2000000 in
theorem vc_X12_askRow_69 {r : Option Value} {I' : Nat → Nat → Int32} {L' : Nat → Nat → Int64} {I : Nat → Nat → Int32} {L : Nat → Nat → Int64} {x1 : Int32} {x4 : Int32} (h : (vp_in x1 4 ∧ (((I 109 x1.toNatClampNeg) ≤ x4 → (r = some (.int 0) ∧ I' = I ∧ L' = L)) ∧ (¬ (I 109 x1.toNatClampNeg) ≤ x4 → (∃ r1, q_C kX12_numberAt [.ref 96, .int x1, .int x4] I L (some (.long r1)) I L ∧ (∃ r2, q_C kX12_in [.long r1, .long 1, .long 4] I L (some (.int r2)) I L ∧ ((r2 = 0 → (r = some (.int (-2)) ∧ I' = I ∧ L' = L)) ∧ (¬ r2 = 0 → (∃ r3, q_C kX12_numberAt [.ref 96, .int x1, .int x4] I L (some (.long r3)) I L ∧ (v_X12_askRow_69 r I' L' (up2 I 96 28 ((5 * (I 96 28)) + r3.toInt32)) L x1 (x4 + 1))))))))))) : v_X12_askRow_69 r I' L' I L x1 x4 := by
  intro w g K
  have K1 := K.1
  refine g_iload K1 2 dX12_askRow_69 rfl ?_
  refine g_aload_n K1 0 dX12_askRow_71 rfl ?_
  refine h_getO K1 q_clX12 37 109 lyp_96 fkX12_37 rfl fl_X12_52 dX12_askRow_72 ?_
  refine g_iload_n K1 1 dX12_askRow_75 rfl ?_
  obtain ⟨hg, h⟩ := h
  refine h_iaload K1 lyp_109 hg dX12_askRow_76 ?_
  refine g_icmp_ge K1 125 dX12_askRow_77 rfl (fun hc => ?_) (fun hc => ?_)
  · replace h := h.1 hc
    refine g_iconst K1 0 dX12_askRow_125 rfl ?_
    obtain ⟨hr, hI, hL⟩ := h
    subst hr hI hL
    exact g_ireturn K rfl dX12_askRow_126
  · replace h := h.2 hc
    refine g_aload_n K1 0 dX12_askRow_80 rfl ?_
    refine g_iload_n K1 1 dX12_askRow_81 rfl ?_
    refine g_iload K1 2 dX12_askRow_82 rfl ?_
    obtain ⟨r1, hct, h⟩ := h
    refine h_callV K1 (st := []) [.int x1, .int x4] (hct w (gl g)) q_clX12 lyp_96 rfl ok_X12_numberAt ml_X12_351 ⟨Nat.le_of_ble_eq_true rfl, Nat.le_of_ble_eq_true rfl⟩ (Nat.le_of_ble_eq_true rfl) dX12_askRow_84 ?_
    show q_Gs w g 87 [(0, .ref 96), (1, .int x1), (4, .int x4)] [.long r1] (q_mm I L)
    refine g_lconst K1 1 dX12_askRow_87 rfl ?_
    refine g_ldc2_w K1 4 dX12_askRow_88 cn_X12_183 ?_
    obtain ⟨r2, hct, h⟩ := h
    refine h_callS K1 (st := []) [.long r1, .long 1, .long 4] (hct w (gl g)) ok_X12_in ml_X12_70 ⟨Nat.le_of_ble_eq_true rfl, Nat.le_of_ble_eq_true rfl⟩ (Nat.le_of_ble_eq_true rfl) dX12_askRow_91 ?_
    show q_Gs w g 94 [(0, .ref 96), (1, .int x1), (4, .int x4)] [.int r2] (q_mm I L)
    refine g_if_ne K1 100 dX12_askRow_94 rfl (fun hc => ?_) (fun hc => ?_)
    · replace h := h.2 hc
      refine g_aload_n K1 0 dX12_askRow_100 rfl ?_
      refine g_iconst K1 5 dX12_askRow_101 rfl ?_
      refine g_aload_n K1 0 dX12_askRow_102 rfl ?_
      refine h_getI K1 q_clX12 28 lyp_96 fkX12_28 fl_X12_348 dX12_askRow_103 ?_
      refine g_imul K1 dX12_askRow_106 ?_
      refine g_aload_n K1 0 dX12_askRow_107 rfl ?_
      refine g_iload_n K1 1 dX12_askRow_108 rfl ?_
      refine g_iload K1 2 dX12_askRow_109 rfl ?_
      obtain ⟨r3, hct, h⟩ := h
      refine h_callV K1 (st := [.int (5 * (I 96 28)), .ref 96]) [.int x1, .int x4] (hct w (gl g)) q_clX12 lyp_96 rfl ok_X12_numberAt ml_X12_351 ⟨Nat.le_of_ble_eq_true rfl, Nat.le_of_ble_eq_true rfl⟩ (Nat.le_of_ble_eq_true rfl) dX12_askRow_111 ?_
      show q_Gs w g 114 [(0, .ref 96), (1, .int x1), (4, .int x4)] [.long r3, .int (5 * (I 96 28)), .ref 96] (q_mm I L)
      refine g_l2i K1 dX12_askRow_114 ?_
      refine g_iadd K1 dX12_askRow_115 ?_
      refine h_putI K1 q_clX12 28 lyp_96 fkX12_28 fl_X12_348 rfl rfl rfl dX12_askRow_116 ?_
      refine g_iinc K1 (x4 + 1) 2 dX12_askRow_119 rfl rfl (by decide) rfl ?_
      refine g_goto K1 69 dX12_askRow_122 rfl ?_
      exact g_perm [1, 2, 0] rfl (h w g K)
    · replace h := h.1 hc
      refine g_bipush K1 (-2) dX12_askRow_97 rfl ?_
      obtain ⟨hr, hI, hL⟩ := h
      subst hr hI hL
      exact g_ireturn K rfl dX12_askRow_99
theorem c0_X12_askRow {r : Option Value} {I I' : Nat → Nat → Int32} {L L' : Nat → Nat → Int64} {x1 : Int32} {x2 : Int32} {x3 : Int32} (h : v_X12_askRow_0 r I' L' I L x1 x2 x3) : q_C kX12_askRow [.ref 96, .int x1, .int x2, .int x3] I L r I' L' := fun w l => q_ct (by decide) (Nat.le_of_ble_eq_true rfl) (Nat.le_refl _) (fun g _ K => h w g K)
abbrev v_X12_askWhom_0 (r : Option Value) (I' : Nat → Nat → Int32) (L' : Nat → Nat → Int64) (I : Nat → Nat → Int32) (L : Nat → Nat → Int64) (x1 : Int32) : Prop := q_W kX12_askWhom 0 [(0, .ref 96), (1, .int x1)] [] I L r I' L'
set_option maxRecDepth 20000 in
set_option maxHeartbeats 2000000 in
theorem vc_X12_askWhom_0 {r : Option Value} {I' : Nat → Nat → Int32} {L' : Nat → Nat → Int64} {I : Nat → Nat → Int32} {L : Nat → Nat → Int64} {x1 : Int32} (h : (∃ r1, q_C kX12_isSlot [.int x1] I L (some (.int r1)) I L ∧ ((r1 = 0 → (∃ r2 I3, q_C kX12_askHeard [.ref 96, .int x1] I L (some (.int r2)) I3 L ∧ (r = some (.int r2) ∧ I' = I3 ∧ L' = L))) ∧ (¬ r1 = 0 → (vp_in 5 104 ∧ (((I 97 (5 : Int32).toNatClampNeg) = 0 → (r = some (.int (-2)) ∧ I' = I ∧ L' = L)) ∧ (¬ (I 97 (5 : Int32).toNatClampNeg) = 0 → (∃ r4 I5, q_C kX12_askHeard [.ref 96, .int x1] I L (some (.int r4)) I5 L ∧ (r = some (.int r4) ∧ I' = I5 ∧ L' = L))))))))) : v_X12_askWhom_0 r I' L' I L x1 := by
  intro w g K
  have K1 := K.1
  refine g_iload_n K1 1 dX12_askWhom_0 rfl ?_
  obtain ⟨r1, hct, h⟩ := h
  refine h_callS K1 (st := []) [.int x1] (hct w (gl g)) ok_X12_isSlot ml_X12_343 ⟨Nat.le_of_ble_eq_true rfl, Nat.le_of_ble_eq_true rfl⟩ (Nat.le_of_ble_eq_true rfl) dX12_askWhom_1 ?_
  show q_Gs w g 4 [(0, .ref 96), (1, .int x1)] [.int r1] (q_mm I L)
  refine g_if_eq K1 21 dX12_askWhom_4 rfl (fun hc => ?_) (fun hc => ?_)
  · replace h := h.1 hc
    refine g_aload_n K1 0 dX12_askWhom_21 rfl ?_
    refine g_iload_n K1 1 dX12_askWhom_22 rfl ?_
    obtain ⟨r2, I3, hct, h⟩ := h
    refine h_callV K1 (st := []) [.int x1] (hct w (gl g)) q_clX12 lyp_96 rfl ok_X12_askHeard ml_X12_401 ⟨Nat.le_of_ble_eq_true rfl, Nat.le_of_ble_eq_true rfl⟩ (Nat.le_of_ble_eq_true rfl) dX12_askWhom_23 ?_
    show q_Gs w g 26 [(0, .ref 96), (1, .int x1)] [.int r2] (q_mm I3 L)
    obtain ⟨hr, hI, hL⟩ := h
    subst hr hI hL
    exact g_ireturn K rfl dX12_askWhom_26
  · replace h := h.2 hc
    refine g_aload_n K1 0 dX12_askWhom_7 rfl ?_
    refine h_getO K1 q_clX12 1 97 lyp_96 fkX12_1 rfl fl_X12_9 dX12_askWhom_8 ?_
    refine g_iconst K1 5 dX12_askWhom_11 rfl ?_
    obtain ⟨hg, h⟩ := h
    refine h_iaload K1 lyp_97 hg dX12_askWhom_12 ?_
    refine g_if_ne K1 21 dX12_askWhom_13 rfl (fun hc => ?_) (fun hc => ?_)
    · replace h := h.2 hc
      refine g_aload_n K1 0 dX12_askWhom_21 rfl ?_
      refine g_iload_n K1 1 dX12_askWhom_22 rfl ?_
      obtain ⟨r4, I5, hct, h⟩ := h
      refine h_callV K1 (st := []) [.int x1] (hct w (gl g)) q_clX12 lyp_96 rfl ok_X12_askHeard ml_X12_401 ⟨Nat.le_of_ble_eq_true rfl, Nat.le_of_ble_eq_true rfl⟩ (Nat.le_of_ble_eq_true rfl) dX12_askWhom_23 ?_
      show q_Gs w g 26 [(0, .ref 96), (1, .int x1)] [.int r4] (q_mm I5 L)
      obtain ⟨hr, hI, hL⟩ := h
      subst hr hI hL
      exact g_ireturn K rfl dX12_askWhom_26
    · replace h := h.1 hc
      refine g_bipush K1 (-2) dX12_askWhom_16 rfl ?_
      refine g_goto K1 26 dX12_askWhom_18 rfl ?_
      obtain ⟨hr, hI, hL⟩ := h
      subst hr hI hL
      exact g_ireturn K rfl dX12_askWhom_26
theorem c0_X12_askWhom {r : Option Value} {I I' : Nat → Nat → Int32} {L L' : Nat → Nat → Int64} {x1 : Int32} (h : v_X12_askWhom_0 r I' L' I L x1) : q_C kX12_askWhom [.ref 96, .int x1] I L r I' L' := fun w l => q_ct (by decide) (Nat.le_of_ble_eq_true rfl) (Nat.le_refl _) (fun g _ K => h w g K)
abbrev v_X12_asksHour_0 (r : Option Value) (I' : Nat → Nat → Int32) (L' : Nat → Nat → Int64) (I : Nat → Nat → Int32) (L : Nat → Nat → Int64) (x1 : Int32) : Prop := q_W kX12_asksHour 0 [(0, .ref 96), (1, .int x1)] [] I L r I' L'
set_option maxRecDepth 20000 in
set_option maxHeartbeats 2000000 in
theorem vc_X12_asksHour_0 {r : Option Value} {I' : Nat → Nat → Int32} {L' : Nat → Nat → Int64} {I : Nat → Nat → Int32} {L : Nat → Nat → Int64} {x1 : Int32} (h : (∃ r1 I2, q_C kX12_asksNight [.ref 96] I L (some (.int r1)) I2 L ∧ (∃ r3, q_C kX12_isHour [.ref 96, .long x1.toInt64] I2 L (some (.int r3)) I2 L ∧ ((r3 = 0 ∨ r3 = 1) ∧ (r = some (.int r3) ∧ I' = I2 ∧ L' = L))))) : v_X12_asksHour_0 r I' L' I L x1 := by
  intro w g K
  have K1 := K.1
  refine g_aload_n K1 0 dX12_asksHour_0 rfl ?_
  obtain ⟨r1, I2, hct, h⟩ := h
  refine h_callV K1 (st := []) [] (hct w (gl g)) q_clX12 lyp_96 rfl ok_X12_asksNight ml_X12_303 ⟨Nat.le_of_ble_eq_true rfl, Nat.le_of_ble_eq_true rfl⟩ (Nat.le_of_ble_eq_true rfl) dX12_asksHour_1 ?_
  show q_Gs w g 4 [(0, .ref 96), (1, .int x1)] [.int r1] (q_mm I2 L)
  refine g_pop K1 dX12_asksHour_4 rfl ?_
  refine g_aload_n K1 0 dX12_asksHour_5 rfl ?_
  refine g_iload_n K1 1 dX12_asksHour_6 rfl ?_
  refine g_i2l K1 dX12_asksHour_7 ?_
  obtain ⟨r3, hct, h⟩ := h
  refine h_callV K1 (st := []) [.long x1.toInt64] (hct w (gl g)) q_clX12 lyp_96 rfl ok_X12_isHour ml_X12_306 ⟨Nat.le_of_ble_eq_true rfl, Nat.le_of_ble_eq_true rfl⟩ (Nat.le_of_ble_eq_true rfl) dX12_asksHour_8 ?_
  show q_Gs w g 11 [(0, .ref 96), (1, .int x1)] [.int r3] (q_mm I2 L)
  obtain ⟨hz, h⟩ := h
  obtain ⟨hr, hI, hL⟩ := h
  subst hr hI hL
  exact g_zreturn K rfl (narZ hz) dX12_asksHour_11
theorem c0_X12_asksHour {r : Option Value} {I I' : Nat → Nat → Int32} {L L' : Nat → Nat → Int64} {x1 : Int32} (h : v_X12_asksHour_0 r I' L' I L x1) : q_C kX12_asksHour [.ref 96, .int x1] I L r I' L' := fun w l => q_ct (by decide) (Nat.le_of_ble_eq_true rfl) (Nat.le_refl _) (fun g _ K => h w g K)
abbrev v_X12_asksNight_0 (r : Option Value) (I' : Nat → Nat → Int32) (L' : Nat → Nat → Int64) (I : Nat → Nat → Int32) (L : Nat → Nat → Int64)  : Prop := q_W kX12_asksNight 0 [(0, .ref 96)] [] I L r I' L'
set_option maxRecDepth 20000 in
set_option maxHeartbeats 2000000 in
theorem vc_X12_asksNight_0 {r : Option Value} {I' : Nat → Nat → Int32} {L' : Nat → Nat → Int64} {I : Nat → Nat → Int32} {L : Nat → Nat → Int64}  (h : (∃ I1, q_C kX12_asItIs [.ref 96] I L none I1 L ∧ (∃ I2, q_C kX12_goAll [.ref 96] I1 L none I2 L ∧ (∃ r3, q_C kX12_isNight [.ref 96] I2 L (some (.int r3)) I2 L ∧ ((r3 = 0 ∨ r3 = 1) ∧ (r = some (.int r3) ∧ I' = I2 ∧ L' = L)))))) : v_X12_asksNight_0 r I' L' I L  := by
  intro w g K
  have K1 := K.1
  refine g_aload_n K1 0 dX12_asksNight_0 rfl ?_
  obtain ⟨I1, hct, h⟩ := h
  refine h_callV K1 (st := []) [] (hct w (gl g)) q_clX12 lyp_96 rfl ok_X12_asItIs ml_X12_297 ⟨Nat.le_of_ble_eq_true rfl, Nat.le_of_ble_eq_true rfl⟩ (Nat.le_of_ble_eq_true rfl) dX12_asksNight_1 ?_
  show q_Gs w g 4 [(0, .ref 96)] [] (q_mm I1 L)
  refine g_aload_n K1 0 dX12_asksNight_4 rfl ?_
  obtain ⟨I2, hct, h⟩ := h
  refine h_callV K1 (st := []) [] (hct w (gl g)) q_clX12 lyp_96 rfl ok_X12_goAll ml_X12_300 ⟨Nat.le_of_ble_eq_true rfl, Nat.le_of_ble_eq_true rfl⟩ (Nat.le_of_ble_eq_true rfl) dX12_asksNight_5 ?_
  show q_Gs w g 8 [(0, .ref 96)] [] (q_mm I2 L)
  refine g_aload_n K1 0 dX12_asksNight_8 rfl ?_
  obtain ⟨r3, hct, h⟩ := h
  refine h_callV K1 (st := []) [] (hct w (gl g)) q_clX12 lyp_96 rfl ok_X12_isNight ml_X12_78 ⟨Nat.le_of_ble_eq_true rfl, Nat.le_of_ble_eq_true rfl⟩ (Nat.le_of_ble_eq_true rfl) dX12_asksNight_9 ?_
  show q_Gs w g 12 [(0, .ref 96)] [.int r3] (q_mm I2 L)
  obtain ⟨hz, h⟩ := h
  obtain ⟨hr, hI, hL⟩ := h
  subst hr hI hL
  exact g_zreturn K rfl (narZ hz) dX12_asksNight_12
theorem c0_X12_asksNight {r : Option Value} {I I' : Nat → Nat → Int32} {L L' : Nat → Nat → Int64}  (h : v_X12_asksNight_0 r I' L' I L ) : q_C kX12_asksNight [.ref 96] I L r I' L' := fun w l => q_ct (by decide) (Nat.le_of_ble_eq_true rfl) (Nat.le_refl _) (fun g _ K => h w g K)
abbrev v_X12_asksPew_0 (r : Option Value) (I' : Nat → Nat → Int32) (L' : Nat → Nat → Int64) (I : Nat → Nat → Int32) (L : Nat → Nat → Int64) (x1 : Int32) : Prop := q_W kX12_asksPew 0 [(0, .ref 96), (1, .int x1)] [] I L r I' L'
set_option maxRecDepth 20000 in
set_option maxHeartbeats 2000000 in
theorem vc_X12_asksPew_0 {r : Option Value} {I' : Nat → Nat → Int32} {L' : Nat → Nat → Int64} {I : Nat → Nat → Int32} {L : Nat → Nat → Int64} {x1 : Int32} (h : (∃ r1 I2, q_C kX12_asksNight [.ref 96] I L (some (.int r1)) I2 L ∧ (∃ r3, q_C kX12_isPew [.ref 96, .long x1.toInt64] I2 L (some (.int r3)) I2 L ∧ ((r3 = 0 ∨ r3 = 1) ∧ (r = some (.int r3) ∧ I' = I2 ∧ L' = L))))) : v_X12_asksPew_0 r I' L' I L x1 := by
  intro w g K
  have K1 := K.1
  refine g_aload_n K1 0 dX12_asksPew_0 rfl ?_
  obtain ⟨r1, I2, hct, h⟩ := h
  refine h_callV K1 (st := []) [] (hct w (gl g)) q_clX12 lyp_96 rfl ok_X12_asksNight ml_X12_303 ⟨Nat.le_of_ble_eq_true rfl, Nat.le_of_ble_eq_true rfl⟩ (Nat.le_of_ble_eq_true rfl) dX12_asksPew_1 ?_
  show q_Gs w g 4 [(0, .ref 96), (1, .int x1)] [.int r1] (q_mm I2 L)
  refine g_pop K1 dX12_asksPew_4 rfl ?_
  refine g_aload_n K1 0 dX12_asksPew_5 rfl ?_
  refine g_iload_n K1 1 dX12_asksPew_6 rfl ?_
  refine g_i2l K1 dX12_asksPew_7 ?_
  obtain ⟨r3, hct, h⟩ := h
  refine h_callV K1 (st := []) [.long x1.toInt64] (hct w (gl g)) q_clX12 lyp_96 rfl ok_X12_isPew ml_X12_218 ⟨Nat.le_of_ble_eq_true rfl, Nat.le_of_ble_eq_true rfl⟩ (Nat.le_of_ble_eq_true rfl) dX12_asksPew_8 ?_
  show q_Gs w g 11 [(0, .ref 96), (1, .int x1)] [.int r3] (q_mm I2 L)
  obtain ⟨hz, h⟩ := h
  obtain ⟨hr, hI, hL⟩ := h
  subst hr hI hL
  exact g_zreturn K rfl (narZ hz) dX12_asksPew_11
theorem c0_X12_asksPew {r : Option Value} {I I' : Nat → Nat → Int32} {L L' : Nat → Nat → Int64} {x1 : Int32} (h : v_X12_asksPew_0 r I' L' I L x1) : q_C kX12_asksPew [.ref 96, .int x1] I L r I' L' := fun w l => q_ct (by decide) (Nat.le_of_ble_eq_true rfl) (Nat.le_refl _) (fun g _ K => h w g K)
abbrev v_X12_back_0 (r : Option Value) (I' : Nat → Nat → Int32) (L' : Nat → Nat → Int64) (I : Nat → Nat → Int32) (L : Nat → Nat → Int64) (x1 : Int32) : Prop := q_W kX12_back 0 [(0, .ref 96), (1, .int x1)] [] I L r I' L'
abbrev v_X12_back_29 (r : Option Value) (I' : Nat → Nat → Int32) (L' : Nat → Nat → Int64) (I : Nat → Nat → Int32) (L : Nat → Nat → Int64) (x1 : Int32) (x2 : Int32) : Prop := q_W kX12_back 29 [(0, .ref 96), (1, .int x1), (2, .int x2)] [] I L r I' L'
set_option maxRecDepth 20000 in
set_option maxHeartbeats 2000000 in
theorem vc_X12_back_0 {r : Option Value} {I' : Nat → Nat → Int32} {L' : Nat → Nat → Int64} {I : Nat → Nat → Int32} {L : Nat → Nat → Int64} {x1 : Int32} (h : (∃ r1, q_C kX12_in [.long x1.toInt64, .long 0, .long 2] I L (some (.int r1)) I L ∧ ((r1 = 0 → (r = some (.int (-2)) ∧ I' = I ∧ L' = L)) ∧ (¬ r1 = 0 → (vp_in x1 3 ∧ (((I 99 x1.toNatClampNeg) = 0 → (r = some (.int (-6)) ∧ I' = I ∧ L' = L)) ∧ (¬ (I 99 x1.toNatClampNeg) = 0 → (v_X12_back_29 r I' L' I L x1 0)))))))) : v_X12_back_0 r I' L' I L x1 := by
  intro w g K
  have K1 := K.1
  refine g_iload_n K1 1 dX12_back_0 rfl ?_
  refine g_i2l K1 dX12_back_1 ?_
  refine g_lconst K1 0 dX12_back_2 rfl ?_
  refine g_ldc2_w K1 2 dX12_back_3 cn_X12_68 ?_
  obtain ⟨r1, hct, h⟩ := h
  refine h_callS K1 (st := []) [.long x1.toInt64, .long 0, .long 2] (hct w (gl g)) ok_X12_in ml_X12_70 ⟨Nat.le_of_ble_eq_true rfl, Nat.le_of_ble_eq_true rfl⟩ (Nat.le_of_ble_eq_true rfl) dX12_back_6 ?_
  show q_Gs w g 9 [(0, .ref 96), (1, .int x1)] [.int r1] (q_mm I L)
  refine g_if_ne K1 15 dX12_back_9 rfl (fun hc => ?_) (fun hc => ?_)
  · replace h := h.2 hc
    refine g_aload_n K1 0 dX12_back_15 rfl ?_
    refine h_getO K1 q_clX12 3 99 lyp_96 fkX12_3 rfl fl_X12_16 dX12_back_16 ?_
    refine g_iload_n K1 1 dX12_back_19 rfl ?_
    obtain ⟨hg, h⟩ := h
    refine h_zaload K1 lyp_99 hg dX12_back_20 ?_
    refine g_if_ne K1 27 dX12_back_21 rfl (fun hc => ?_) (fun hc => ?_)
    · replace h := h.2 hc
      refine g_iconst K1 0 dX12_back_27 rfl ?_
      refine g_istore_n K1 dX12_back_28 rfl (by decide) rfl ?_
      exact g_perm [1, 2, 0] rfl (h w g K)
    · replace h := h.1 hc
      refine g_bipush K1 (-6) dX12_back_24 rfl ?_
      obtain ⟨hr, hI, hL⟩ := h
      subst hr hI hL
      exact g_ireturn K rfl dX12_back_26
  · replace h := h.1 hc
    refine g_bipush K1 (-2) dX12_back_12 rfl ?_
    obtain ⟨hr, hI, hL⟩ := h
    subst hr hI hL
    exact g_ireturn K rfl dX12_back_14
set_option maxRecDepth 20000 in
set_option maxHeartbeats 2000000 in
theorem vc_X12_back_29 {r : Option Value} {I' : Nat → Nat → Int32} {L' : Nat → Nat → Int64} {I : Nat → Nat → Int32} {L : Nat → Nat → Int64} {x1 : Int32} {x2 : Int32} (h : ((104 ≤ x2 → (r = some (.int 0) ∧ I' = I ∧ L' = L)) ∧ (¬ 104 ≤ x2 → (vp_in ((104 * x1) + x2) 312 ∧ (vp_in x2 104 ∧ ∀ I1, I1 = (up2 I 97 x2.toNatClampNeg (I 98 (((104 * x1) + x2) : Int32).toNatClampNeg)) → (v_X12_back_29 r I' L' I1 L x1 (x2 + 1))))))) : v_X12_back_29 r I' L' I L x1 x2 := by
  intro w g K
  have K1 := K.1
  refine g_iload_n K1 2 dX12_back_29 rfl ?_
  refine g_bipush K1 104 dX12_back_30 rfl ?_
  refine g_icmp_ge K1 58 dX12_back_32 rfl (fun hc => ?_) (fun hc => ?_)
  · replace h := h.1 hc
    refine g_iconst K1 0 dX12_back_58 rfl ?_
    obtain ⟨hr, hI, hL⟩ := h
    subst hr hI hL
    exact g_ireturn K rfl dX12_back_59
  · replace h := h.2 hc
    refine g_aload_n K1 0 dX12_back_35 rfl ?_
    refine h_getO K1 q_clX12 1 97 lyp_96 fkX12_1 rfl fl_X12_9 dX12_back_36 ?_
    refine g_iload_n K1 2 dX12_back_39 rfl ?_
    refine g_aload_n K1 0 dX12_back_40 rfl ?_
    refine h_getO K1 q_clX12 2 98 lyp_96 fkX12_2 rfl fl_X12_13 dX12_back_41 ?_
    refine g_bipush K1 104 dX12_back_44 rfl ?_
    refine g_iload_n K1 1 dX12_back_46 rfl ?_
    refine g_imul K1 dX12_back_47 ?_
    refine g_iload_n K1 2 dX12_back_48 rfl ?_
    refine g_iadd K1 dX12_back_49 ?_
    obtain ⟨hg, h⟩ := h
    refine h_iaload K1 lyp_98 hg dX12_back_50 ?_
    obtain ⟨hg, h⟩ := h
    refine h_iastore K1 lyp_97 hg dX12_back_51 ?_
    refine g_nameMI (fun I1 hI1 => ?_)
    replace h := h I1 hI1
    refine g_iinc K1 (x2 + 1) 2 dX12_back_52 rfl rfl (by decide) rfl ?_
    refine g_goto K1 29 dX12_back_55 rfl ?_
    exact g_perm [1, 2, 0] rfl (h w g K)
theorem c0_X12_back {r : Option Value} {I I' : Nat → Nat → Int32} {L L' : Nat → Nat → Int64} {x1 : Int32} (h : v_X12_back_0 r I' L' I L x1) : q_C kX12_back [.ref 96, .int x1] I L r I' L' := fun w l => q_ct (by decide) (Nat.le_of_ble_eq_true rfl) (Nat.le_refl _) (fun g _ K => h w g K)
abbrev v_X12_beginHour_0 (r : Option Value) (I' : Nat → Nat → Int32) (L' : Nat → Nat → Int64) (I : Nat → Nat → Int32) (L : Nat → Nat → Int64) (x1 : Int32) : Prop := q_W kX12_beginHour 0 [(0, .ref 96), (1, .int x1)] [] I L r I' L'
abbrev v_X12_beginHour_2 (r : Option Value) (I' : Nat → Nat → Int32) (L' : Nat → Nat → Int64) (I : Nat → Nat → Int32) (L : Nat → Nat → Int64) (x1 : Int32) (x2 : Int32) : Prop := q_W kX12_beginHour 2 [(0, .ref 96), (1, .int x1), (2, .int x2)] [] I L r I' L'
abbrev v_X12_beginHour_69 (r : Option Value) (I' : Nat → Nat → Int32) (L' : Nat → Nat → Int64) (I : Nat → Nat → Int32) (L : Nat → Nat → Int64) (x1 : Int32) : Prop := q_W kX12_beginHour 69 [(0, .ref 96), (1, .int x1)] [] I L r I' L'
abbrev v_X12_beginHour_93 (r : Option Value) (I' : Nat → Nat → Int32) (L' : Nat → Nat → Int64) (I : Nat → Nat → Int32) (L : Nat → Nat → Int64) (x1 : Int32) (x2 : Int32) : Prop := q_W kX12_beginHour 93 [(0, .ref 96), (1, .int x1), (2, .int x2)] [] I L r I' L'
abbrev v_X12_beginHour_153 (r : Option Value) (I' : Nat → Nat → Int32) (L' : Nat → Nat → Int64) (I : Nat → Nat → Int32) (L : Nat → Nat → Int64) (x1 : Int32) (x2 : Int32) : Prop := q_W kX12_beginHour 153 [(0, .ref 96), (1, .int x1), (2, .int x2)] [] I L r I' L'
set_option maxRecDepth 20000 in
set_option maxHeartbeats 2000000 in
theorem vc_X12_beginHour_0 {r : Option Value} {I' : Nat → Nat → Int32} {L' : Nat → Nat → Int64} {I : Nat → Nat → Int32} {L : Nat → Nat → Int64} {x1 : Int32} (h : (v_X12_beginHour_2 r I' L' I L x1 0)) : v_X12_beginHour_0 r I' L' I L x1 := by
  intro w g K
  have K1 := K.1
  refine g_iconst K1 0 dX12_beginHour_0 rfl ?_
  refine g_istore_n K1 dX12_beginHour_1 rfl (by decide) rfl ?_
  exact g_perm [1, 2, 0] rfl (h w g K)
set_option maxRecDepth 20000 in
set_option maxHeartbeats 2000000 in
theorem vc_X12_beginHour_2 {r : Option Value} {I' : Nat → Nat → Int32} {L' : Nat → Nat → Int64} {I : Nat → Nat → Int32} {L : Nat → Nat → Int64} {x1 : Int32} {x2 : Int32} (h : (vp_in 7 104 ∧ (((I 97 (7 : Int32).toNatClampNeg) ≤ x2 → (v_X12_beginHour_69 r I' L' I L x1)) ∧ (¬ (I 97 (7 : Int32).toNatClampNeg) ≤ x2 → (((I 96 18) = (-1) → (vp_in (74 + x2) 104 ∧ (((I 97 ((74 + x2) : Int32).toNatClampNeg) < 10000 → (v_X12_beginHour_2 r I' L' I L x1 (x2 + 1))) ∧ (¬ (I 97 ((74 + x2) : Int32).toNatClampNeg) < 10000 → ((((I 97 ((74 + x2) : Int32).toNatClampNeg) - (I 97 ((74 + x2) : Int32).toNatClampNeg) / 100 * 100) = x1 → (∃ I1, q_C kX12_lights [.ref 96, .int (((I 97 ((74 + x2) : Int32).toNatClampNeg) / 100) - ((I 97 ((74 + x2) : Int32).toNatClampNeg) / 100) / 100 * 100), .int ((I 97 ((74 + x2) : Int32).toNatClampNeg) / 10000), .int x1] I L none I1 L ∧ (v_X12_beginHour_2 r I' L' I1 L x1 (x2 + 1)))) ∧ (¬ ((I 97 ((74 + x2) : Int32).toNatClampNeg) - (I 97 ((74 + x2) : Int32).toNatClampNeg) / 100 * 100) = x1 → (v_X12_beginHour_2 r I' L' I L x1 (x2 + 1)))))))) ∧ (¬ (I 96 18) = (-1) → (v_X12_beginHour_69 r I' L' I L x1))))))) : v_X12_beginHour_2 r I' L' I L x1 x2 := by
  intro w g K
  have K1 := K.1
  refine g_iload_n K1 2 dX12_beginHour_2 rfl ?_
  refine g_aload_n K1 0 dX12_beginHour_3 rfl ?_
  refine h_getO K1 q_clX12 1 97 lyp_96 fkX12_1 rfl fl_X12_9 dX12_beginHour_4 ?_
  refine g_bipush K1 7 dX12_beginHour_7 rfl ?_
  obtain ⟨hg, h⟩ := h
  refine h_iaload K1 lyp_97 hg dX12_beginHour_9 ?_
  refine g_icmp_ge K1 69 dX12_beginHour_10 rfl (fun hc => ?_) (fun hc => ?_)
  · replace h := h.1 hc
    exact g_perm [0, 1] rfl (h w g K)
  · replace h := h.2 hc
    refine g_aload_n K1 0 dX12_beginHour_13 rfl ?_
    refine h_getI K1 q_clX12 18 lyp_96 fkX12_18 fl_X12_249 dX12_beginHour_14 ?_
    refine g_iconst K1 (-1) dX12_beginHour_17 rfl ?_
    refine g_icmp_ne K1 69 dX12_beginHour_18 rfl (fun hc => ?_) (fun hc => ?_)
    · replace h := h.2 hc
      exact g_perm [0, 1] rfl (h w g K)
    · replace h := h.1 hc
      refine g_aload_n K1 0 dX12_beginHour_21 rfl ?_
      refine h_getO K1 q_clX12 1 97 lyp_96 fkX12_1 rfl fl_X12_9 dX12_beginHour_22 ?_
      refine g_bipush K1 74 dX12_beginHour_25 rfl ?_
      refine g_iload_n K1 2 dX12_beginHour_27 rfl ?_
      refine g_iadd K1 dX12_beginHour_28 ?_
      obtain ⟨hg, h⟩ := h
      refine h_iaload K1 lyp_97 hg dX12_beginHour_29 ?_
      refine g_istore_n K1 dX12_beginHour_30 rfl (by decide) rfl ?_
      refine g_iload_n K1 0 dX12_beginHour_31 rfl ?_
      refine g_sipush K1 10000 dX12_beginHour_32 rfl ?_
      refine g_icmp_lt K1 63 dX12_beginHour_35 rfl (fun hc => ?_) (fun hc => ?_)
      · replace h := h.1 hc
        refine g_iinc K1 (x2 + 1) 3 dX12_beginHour_63 rfl rfl (by decide) rfl ?_
        refine g_goto K1 2 dX12_beginHour_66 rfl ?_
        exact g_perm [2, 3, 0] rfl (h w g K)
      · replace h := h.2 hc
        refine g_iload_n K1 0 dX12_beginHour_38 rfl ?_
        refine g_bipush K1 100 dX12_beginHour_39 rfl ?_
        refine g_irem K1 dX12_beginHour_41 (by decide) ?_
        refine g_iload_n K1 2 dX12_beginHour_42 rfl ?_
        refine g_icmp_ne K1 63 dX12_beginHour_43 rfl (fun hc => ?_) (fun hc => ?_)
        · replace h := h.2 hc
          refine g_iinc K1 (x2 + 1) 3 dX12_beginHour_63 rfl rfl (by decide) rfl ?_
          refine g_goto K1 2 dX12_beginHour_66 rfl ?_
          exact g_perm [2, 3, 0] rfl (h w g K)
        · replace h := h.1 hc
          refine g_aload_n K1 1 dX12_beginHour_46 rfl ?_
          refine g_iload_n K1 0 dX12_beginHour_47 rfl ?_
          refine g_bipush K1 100 dX12_beginHour_48 rfl ?_
          refine g_idiv K1 dX12_beginHour_50 (by decide) ?_
          refine g_bipush K1 100 dX12_beginHour_51 rfl ?_
          refine g_irem K1 dX12_beginHour_53 (by decide) ?_
          refine g_iload_n K1 0 dX12_beginHour_54 rfl ?_
          refine g_sipush K1 10000 dX12_beginHour_55 rfl ?_
          refine g_idiv K1 dX12_beginHour_58 (by decide) ?_
          refine g_iload_n K1 2 dX12_beginHour_59 rfl ?_
          obtain ⟨I1, hct, h⟩ := h
          refine h_callV K1 (st := []) [.int (((I 97 ((74 + x2) : Int32).toNatClampNeg) / 100) - ((I 97 ((74 + x2) : Int32).toNatClampNeg) / 100) / 100 * 100), .int ((I 97 ((74 + x2) : Int32).toNatClampNeg) / 10000), .int x1] (hct w (gl g)) q_clX12 lyp_96 rfl ok_X12_lights ml_X12_271 ⟨Nat.le_of_ble_eq_true rfl, Nat.le_of_ble_eq_true rfl⟩ (Nat.le_of_ble_eq_true rfl) dX12_beginHour_60 ?_
          show q_Gs w g 63 [(3, .int (I 97 ((74 + x2) : Int32).toNatClampNeg)), (0, .ref 96), (1, .int x1), (2, .int x2)] [] (q_mm I1 L)
          refine g_iinc K1 (x2 + 1) 3 dX12_beginHour_63 rfl rfl (by decide) rfl ?_
          refine g_goto K1 2 dX12_beginHour_66 rfl ?_
          exact g_perm [2, 3, 0] rfl (h w g K)
set_option maxRecDepth 20000 in
set_option maxHeartbeats 2000000 in
theorem vc_X12_beginHour_69 {r : Option Value} {I' : Nat → Nat → Int32} {L' : Nat → Nat → Int64} {I : Nat → Nat → Int32} {L : Nat → Nat → Int64} {x1 : Int32} (h : ((x1 = 0 → (((I 96 20) = (-1) → (v_X12_beginHour_93 r I' L' I L x1 0)) ∧ (¬ (I 96 20) = (-1) → (∃ I1, q_C kX12_lights [.ref 96, .int (I 96 20), .int 1, .int 0] I L none I1 L ∧ (v_X12_beginHour_93 r I' L' I1 L x1 0))))) ∧ (¬ x1 = 0 → (v_X12_beginHour_93 r I' L' I L x1 0)))) : v_X12_beginHour_69 r I' L' I L x1 := by
  intro w g K
  have K1 := K.1
  refine g_iload_n K1 1 dX12_beginHour_69 rfl ?_
  refine g_if_ne K1 91 dX12_beginHour_70 rfl (fun hc => ?_) (fun hc => ?_)
  · replace h := h.2 hc
    refine g_iconst K1 0 dX12_beginHour_91 rfl ?_
    refine g_istore_n K1 dX12_beginHour_92 rfl (by decide) rfl ?_
    exact g_perm [1, 2, 0] rfl (h w g K)
  · replace h := h.1 hc
    refine g_aload_n K1 0 dX12_beginHour_73 rfl ?_
    refine h_getI K1 q_clX12 20 lyp_96 fkX12_20 fl_X12_255 dX12_beginHour_74 ?_
    refine g_iconst K1 (-1) dX12_beginHour_77 rfl ?_
    refine g_icmp_eq K1 91 dX12_beginHour_78 rfl (fun hc => ?_) (fun hc => ?_)
    · replace h := h.1 hc
      refine g_iconst K1 0 dX12_beginHour_91 rfl ?_
      refine g_istore_n K1 dX12_beginHour_92 rfl (by decide) rfl ?_
      exact g_perm [1, 2, 0] rfl (h w g K)
    · replace h := h.2 hc
      refine g_aload_n K1 0 dX12_beginHour_81 rfl ?_
      refine g_aload_n K1 0 dX12_beginHour_82 rfl ?_
      refine h_getI K1 q_clX12 20 lyp_96 fkX12_20 fl_X12_255 dX12_beginHour_83 ?_
      refine g_iconst K1 1 dX12_beginHour_86 rfl ?_
      refine g_iconst K1 0 dX12_beginHour_87 rfl ?_
      obtain ⟨I1, hct, h⟩ := h
      refine h_callV K1 (st := []) [.int (I 96 20), .int 1, .int 0] (hct w (gl g)) q_clX12 lyp_96 rfl ok_X12_lights ml_X12_271 ⟨Nat.le_of_ble_eq_true rfl, Nat.le_of_ble_eq_true rfl⟩ (Nat.le_of_ble_eq_true rfl) dX12_beginHour_88 ?_
      show q_Gs w g 91 [(0, .ref 96), (1, .int x1)] [] (q_mm I1 L)
      refine g_iconst K1 0 dX12_beginHour_91 rfl ?_
      refine g_istore_n K1 dX12_beginHour_92 rfl (by decide) rfl ?_
      exact g_perm [1, 2, 0] rfl (h w g K)
set_option maxRecDepth 20000 in
set_option maxHeartbeats 2000000 in
theorem vc_X12_beginHour_93 {r : Option Value} {I' : Nat → Nat → Int32} {L' : Nat → Nat → Int64} {I : Nat → Nat → Int32} {L : Nat → Nat → Int64} {x1 : Int32} {x2 : Int32} (h : (vp_in 6 104 ∧ (((I 97 (6 : Int32).toNatClampNeg) ≤ x2 → (v_X12_beginHour_153 r I' L' I L x1 0)) ∧ (¬ (I 97 (6 : Int32).toNatClampNeg) ≤ x2 → (vp_in ((62 + (2 * x2)) + 1) 104 ∧ (((I 97 (((62 + (2 * x2)) + 1) : Int32).toNatClampNeg) = x1 → ((x2 = (I 96 23) → (v_X12_beginHour_93 r I' L' I L x1 (x2 + 1))) ∧ (¬ x2 = (I 96 23) → (vp_in (62 + (2 * x2)) 104 ∧ (∃ I1, q_C kX12_putsOut [.ref 96, .int (I 97 ((62 + (2 * x2)) : Int32).toNatClampNeg), .int x1] I L none I1 L ∧ (v_X12_beginHour_93 r I' L' I1 L x1 (x2 + 1))))))) ∧ (¬ (I 97 (((62 + (2 * x2)) + 1) : Int32).toNatClampNeg) = x1 → (v_X12_beginHour_93 r I' L' I L x1 (x2 + 1))))))))) : v_X12_beginHour_93 r I' L' I L x1 x2 := by
  intro w g K
  have K1 := K.1
  refine g_iload_n K1 2 dX12_beginHour_93 rfl ?_
  refine g_aload_n K1 0 dX12_beginHour_94 rfl ?_
  refine h_getO K1 q_clX12 1 97 lyp_96 fkX12_1 rfl fl_X12_9 dX12_beginHour_95 ?_
  refine g_bipush K1 6 dX12_beginHour_98 rfl ?_
  obtain ⟨hg, h⟩ := h
  refine h_iaload K1 lyp_97 hg dX12_beginHour_100 ?_
  refine g_icmp_ge K1 151 dX12_beginHour_101 rfl (fun hc => ?_) (fun hc => ?_)
  · replace h := h.1 hc
    refine g_iconst K1 0 dX12_beginHour_151 rfl ?_
    refine g_istore_n K1 dX12_beginHour_152 rfl (by decide) rfl ?_
    exact g_perm [1, 2, 0] rfl (h w g K)
  · replace h := h.2 hc
    refine g_aload_n K1 0 dX12_beginHour_104 rfl ?_
    refine h_getO K1 q_clX12 1 97 lyp_96 fkX12_1 rfl fl_X12_9 dX12_beginHour_105 ?_
    refine g_bipush K1 62 dX12_beginHour_108 rfl ?_
    refine g_iconst K1 2 dX12_beginHour_110 rfl ?_
    refine g_iload_n K1 2 dX12_beginHour_111 rfl ?_
    refine g_imul K1 dX12_beginHour_112 ?_
    refine g_iadd K1 dX12_beginHour_113 ?_
    refine g_iconst K1 1 dX12_beginHour_114 rfl ?_
    refine g_iadd K1 dX12_beginHour_115 ?_
    obtain ⟨hg, h⟩ := h
    refine h_iaload K1 lyp_97 hg dX12_beginHour_116 ?_
    refine g_iload_n K1 1 dX12_beginHour_117 rfl ?_
    refine g_icmp_ne K1 145 dX12_beginHour_118 rfl (fun hc => ?_) (fun hc => ?_)
    · replace h := h.2 hc
      refine g_iinc K1 (x2 + 1) 2 dX12_beginHour_145 rfl rfl (by decide) rfl ?_
      refine g_goto K1 93 dX12_beginHour_148 rfl ?_
      exact g_perm [1, 2, 0] rfl (h w g K)
    · replace h := h.1 hc
      refine g_iload_n K1 2 dX12_beginHour_121 rfl ?_
      refine g_aload_n K1 0 dX12_beginHour_122 rfl ?_
      refine h_getI K1 q_clX12 23 lyp_96 fkX12_23 fl_X12_264 dX12_beginHour_123 ?_
      refine g_icmp_eq K1 145 dX12_beginHour_126 rfl (fun hc => ?_) (fun hc => ?_)
      · replace h := h.1 hc
        refine g_iinc K1 (x2 + 1) 2 dX12_beginHour_145 rfl rfl (by decide) rfl ?_
        refine g_goto K1 93 dX12_beginHour_148 rfl ?_
        exact g_perm [1, 2, 0] rfl (h w g K)
      · replace h := h.2 hc
        refine g_aload_n K1 0 dX12_beginHour_129 rfl ?_
        refine g_aload_n K1 0 dX12_beginHour_130 rfl ?_
        refine h_getO K1 q_clX12 1 97 lyp_96 fkX12_1 rfl fl_X12_9 dX12_beginHour_131 ?_
        refine g_bipush K1 62 dX12_beginHour_134 rfl ?_
        refine g_iconst K1 2 dX12_beginHour_136 rfl ?_
        refine g_iload_n K1 2 dX12_beginHour_137 rfl ?_
        refine g_imul K1 dX12_beginHour_138 ?_
        refine g_iadd K1 dX12_beginHour_139 ?_
        obtain ⟨hg, h⟩ := h
        refine h_iaload K1 lyp_97 hg dX12_beginHour_140 ?_
        refine g_iload_n K1 1 dX12_beginHour_141 rfl ?_
        obtain ⟨I1, hct, h⟩ := h
        refine h_callV K1 (st := []) [.int (I 97 ((62 + (2 * x2)) : Int32).toNatClampNeg), .int x1] (hct w (gl g)) q_clX12 lyp_96 rfl ok_X12_putsOut ml_X12_267 ⟨Nat.le_of_ble_eq_true rfl, Nat.le_of_ble_eq_true rfl⟩ (Nat.le_of_ble_eq_true rfl) dX12_beginHour_142 ?_
        show q_Gs w g 145 [(0, .ref 96), (1, .int x1), (2, .int x2)] [] (q_mm I1 L)
        refine g_iinc K1 (x2 + 1) 2 dX12_beginHour_145 rfl rfl (by decide) rfl ?_
        refine g_goto K1 93 dX12_beginHour_148 rfl ?_
        exact g_perm [1, 2, 0] rfl (h w g K)
set_option maxRecDepth 20000 in
set_option maxHeartbeats 2000000 in
theorem vc_X12_beginHour_153 {r : Option Value} {I' : Nat → Nat → Int32} {L' : Nat → Nat → Int64} {I : Nat → Nat → Int32} {L : Nat → Nat → Int64} {x1 : Int32} {x2 : Int32} (h : (vp_in 7 104 ∧ (((I 97 (7 : Int32).toNatClampNeg) ≤ x2 → (((I 96 22) = x1 → (∃ I1, q_C kX12_putsOut [.ref 96, .int (I 96 21), .int x1] I L none I1 L ∧ (r = none ∧ I' = I1 ∧ L' = L))) ∧ (¬ (I 96 22) = x1 → (r = none ∧ I' = I ∧ L' = L)))) ∧ (¬ (I 97 (7 : Int32).toNatClampNeg) ≤ x2 → (vp_in (74 + x2) 104 ∧ ((10000 ≤ (I 97 ((74 + x2) : Int32).toNatClampNeg) → (v_X12_beginHour_153 r I' L' I L x1 (x2 + 1))) ∧ (¬ 10000 ≤ (I 97 ((74 + x2) : Int32).toNatClampNeg) → ((((I 97 ((74 + x2) : Int32).toNatClampNeg) - (I 97 ((74 + x2) : Int32).toNatClampNeg) / 100 * 100) = x1 → (∃ I2, q_C kX12_putsOut [.ref 96, .int ((I 97 ((74 + x2) : Int32).toNatClampNeg) / 100), .int x1] I L none I2 L ∧ (v_X12_beginHour_153 r I' L' I2 L x1 (x2 + 1)))) ∧ (¬ ((I 97 ((74 + x2) : Int32).toNatClampNeg) - (I 97 ((74 + x2) : Int32).toNatClampNeg) / 100 * 100) = x1 → (v_X12_beginHour_153 r I' L' I L x1 (x2 + 1))))))))))) : v_X12_beginHour_153 r I' L' I L x1 x2 := by
  intro w g K
  have K1 := K.1
  refine g_iload_n K1 2 dX12_beginHour_153 rfl ?_
  refine g_aload_n K1 0 dX12_beginHour_154 rfl ?_
  refine h_getO K1 q_clX12 1 97 lyp_96 fkX12_1 rfl fl_X12_9 dX12_beginHour_155 ?_
  refine g_bipush K1 7 dX12_beginHour_158 rfl ?_
  obtain ⟨hg, h⟩ := h
  refine h_iaload K1 lyp_97 hg dX12_beginHour_160 ?_
  refine g_icmp_ge K1 204 dX12_beginHour_161 rfl (fun hc => ?_) (fun hc => ?_)
  · replace h := h.1 hc
    refine g_aload_n K1 0 dX12_beginHour_204 rfl ?_
    refine h_getI K1 q_clX12 22 lyp_96 fkX12_22 fl_X12_261 dX12_beginHour_205 ?_
    refine g_iload_n K1 1 dX12_beginHour_208 rfl ?_
    refine g_icmp_ne K1 221 dX12_beginHour_209 rfl (fun hc => ?_) (fun hc => ?_)
    · replace h := h.2 hc
      obtain ⟨hr, hI, hL⟩ := h
      subst hr hI hL
      exact g_vreturn K rfl dX12_beginHour_221
    · replace h := h.1 hc
      refine g_aload_n K1 0 dX12_beginHour_212 rfl ?_
      refine g_aload_n K1 0 dX12_beginHour_213 rfl ?_
      refine h_getI K1 q_clX12 21 lyp_96 fkX12_21 fl_X12_258 dX12_beginHour_214 ?_
      refine g_iload_n K1 1 dX12_beginHour_217 rfl ?_
      obtain ⟨I1, hct, h⟩ := h
      refine h_callV K1 (st := []) [.int (I 96 21), .int x1] (hct w (gl g)) q_clX12 lyp_96 rfl ok_X12_putsOut ml_X12_267 ⟨Nat.le_of_ble_eq_true rfl, Nat.le_of_ble_eq_true rfl⟩ (Nat.le_of_ble_eq_true rfl) dX12_beginHour_218 ?_
      show q_Gs w g 221 [(0, .ref 96), (1, .int x1), (2, .int x2)] [] (q_mm I1 L)
      obtain ⟨hr, hI, hL⟩ := h
      subst hr hI hL
      exact g_vreturn K rfl dX12_beginHour_221
  · replace h := h.2 hc
    refine g_aload_n K1 0 dX12_beginHour_164 rfl ?_
    refine h_getO K1 q_clX12 1 97 lyp_96 fkX12_1 rfl fl_X12_9 dX12_beginHour_165 ?_
    refine g_bipush K1 74 dX12_beginHour_168 rfl ?_
    refine g_iload_n K1 2 dX12_beginHour_170 rfl ?_
    refine g_iadd K1 dX12_beginHour_171 ?_
    obtain ⟨hg, h⟩ := h
    refine h_iaload K1 lyp_97 hg dX12_beginHour_172 ?_
    refine g_istore_n K1 dX12_beginHour_173 rfl (by decide) rfl ?_
    refine g_iload_n K1 0 dX12_beginHour_174 rfl ?_
    refine g_sipush K1 10000 dX12_beginHour_175 rfl ?_
    refine g_icmp_ge K1 198 dX12_beginHour_178 rfl (fun hc => ?_) (fun hc => ?_)
    · replace h := h.1 hc
      refine g_iinc K1 (x2 + 1) 3 dX12_beginHour_198 rfl rfl (by decide) rfl ?_
      refine g_goto K1 153 dX12_beginHour_201 rfl ?_
      exact g_perm [2, 3, 0] rfl (h w g K)
    · replace h := h.2 hc
      refine g_iload_n K1 0 dX12_beginHour_181 rfl ?_
      refine g_bipush K1 100 dX12_beginHour_182 rfl ?_
      refine g_irem K1 dX12_beginHour_184 (by decide) ?_
      refine g_iload_n K1 2 dX12_beginHour_185 rfl ?_
      refine g_icmp_ne K1 198 dX12_beginHour_186 rfl (fun hc => ?_) (fun hc => ?_)
      · replace h := h.2 hc
        refine g_iinc K1 (x2 + 1) 3 dX12_beginHour_198 rfl rfl (by decide) rfl ?_
        refine g_goto K1 153 dX12_beginHour_201 rfl ?_
        exact g_perm [2, 3, 0] rfl (h w g K)
      · replace h := h.1 hc
        refine g_aload_n K1 1 dX12_beginHour_189 rfl ?_
        refine g_iload_n K1 0 dX12_beginHour_190 rfl ?_
        refine g_bipush K1 100 dX12_beginHour_191 rfl ?_
        refine g_idiv K1 dX12_beginHour_193 (by decide) ?_
        refine g_iload_n K1 2 dX12_beginHour_194 rfl ?_
        obtain ⟨I2, hct, h⟩ := h
        refine h_callV K1 (st := []) [.int ((I 97 ((74 + x2) : Int32).toNatClampNeg) / 100), .int x1] (hct w (gl g)) q_clX12 lyp_96 rfl ok_X12_putsOut ml_X12_267 ⟨Nat.le_of_ble_eq_true rfl, Nat.le_of_ble_eq_true rfl⟩ (Nat.le_of_ble_eq_true rfl) dX12_beginHour_195 ?_
        show q_Gs w g 198 [(3, .int (I 97 ((74 + x2) : Int32).toNatClampNeg)), (0, .ref 96), (1, .int x1), (2, .int x2)] [] (q_mm I2 L)
        refine g_iinc K1 (x2 + 1) 3 dX12_beginHour_198 rfl rfl (by decide) rfl ?_
        refine g_goto K1 153 dX12_beginHour_201 rfl ?_
        exact g_perm [2, 3, 0] rfl (h w g K)
theorem c0_X12_beginHour {r : Option Value} {I I' : Nat → Nat → Int32} {L L' : Nat → Nat → Int64} {x1 : Int32} (h : v_X12_beginHour_0 r I' L' I L x1) : q_C kX12_beginHour [.ref 96, .int x1] I L r I' L' := fun w l => q_ct (by decide) (Nat.le_of_ble_eq_true rfl) (Nat.le_refl _) (fun g _ K => h w g K)
abbrev v_X12_beginNight_0 (r : Option Value) (I' : Nat → Nat → Int32) (L' : Nat → Nat → Int64) (I : Nat → Nat → Int32) (L : Nat → Nat → Int64)  : Prop := q_W kX12_beginNight 0 [(0, .ref 96)] [] I L r I' L'
abbrev v_X12_beginNight_2 (r : Option Value) (I' : Nat → Nat → Int32) (L' : Nat → Nat → Int64) (I : Nat → Nat → Int32) (L : Nat → Nat → Int64) (x1 : Int32) : Prop := q_W kX12_beginNight 2 [(0, .ref 96), (1, .int x1)] [] I L r I' L'
abbrev v_X12_beginNight_54 (r : Option Value) (I' : Nat → Nat → Int32) (L' : Nat → Nat → Int64) (I : Nat → Nat → Int32) (L : Nat → Nat → Int64) (x1 : Int32) : Prop := q_W kX12_beginNight 54 [(0, .ref 96), (1, .int x1)] [] I L r I' L'
set_option maxRecDepth 20000 in
set_option maxHeartbeats 2000000 in
theorem vc_X12_beginNight_0 {r : Option Value} {I' : Nat → Nat → Int32} {L' : Nat → Nat → Int64} {I : Nat → Nat → Int32} {L : Nat → Nat → Int64}  (h : (v_X12_beginNight_2 r I' L' I L 0)) : v_X12_beginNight_0 r I' L' I L  := by
  intro w g K
  have K1 := K.1
  refine g_iconst K1 0 dX12_beginNight_0 rfl ?_
  refine g_istore_n K1 dX12_beginNight_1 rfl (by decide) rfl ?_
  exact g_perm [1, 0] rfl (h w g K)
set_option maxRecDepth 20000 in
set_option maxHeartbeats 2000000 in
theorem vc_X12_beginNight_2 {r : Option Value} {I' : Nat → Nat → Int32} {L' : Nat → Nat → Int64} {I : Nat → Nat → Int32} {L : Nat → Nat → Int64} {x1 : Int32} (h : (∃ r1, q_C kX12_pews [.ref 96] I L (some (.int r1)) I L ∧ ((r1 ≤ x1 → (v_X12_beginNight_54 r I' L' I L 0)) ∧ (¬ r1 ≤ x1 → (∃ I2, q_C kX12_putsOut [.ref 96, .int x1, .int 0] I L none I2 L ∧ (((I2 96 18) = (-1) → (v_X12_beginNight_2 r I' L' I2 L (x1 + 1))) ∧ (¬ (I2 96 18) = (-1) → (∃ r3, q_C kX12_bit [.int (I2 96 18), .int x1] I2 L (some (.int r3)) I2 L ∧ ((r3 = 1 → (∃ I4, q_C kX12_lights [.ref 96, .int x1, .int (I2 96 19), .int 0] I2 L none I4 L ∧ (v_X12_beginNight_2 r I' L' I4 L (x1 + 1)))) ∧ (¬ r3 = 1 → (v_X12_beginNight_2 r I' L' I2 L (x1 + 1)))))))))))) : v_X12_beginNight_2 r I' L' I L x1 := by
  intro w g K
  have K1 := K.1
  refine g_iload_n K1 1 dX12_beginNight_2 rfl ?_
  refine g_aload_n K1 0 dX12_beginNight_3 rfl ?_
  obtain ⟨r1, hct, h⟩ := h
  refine h_callV K1 (st := [.int x1]) [] (hct w (gl g)) q_clX12 lyp_96 rfl ok_X12_pews ml_X12_74 ⟨Nat.le_of_ble_eq_true rfl, Nat.le_of_ble_eq_true rfl⟩ (Nat.le_of_ble_eq_true rfl) dX12_beginNight_4 ?_
  show q_Gs w g 7 [(0, .ref 96), (1, .int x1)] [.int r1, .int x1] (q_mm I L)
  refine g_icmp_ge K1 52 dX12_beginNight_7 rfl (fun hc => ?_) (fun hc => ?_)
  · replace h := h.1 hc
    refine g_iconst K1 0 dX12_beginNight_52 rfl ?_
    refine g_istore_n K1 dX12_beginNight_53 rfl (by decide) rfl ?_
    exact g_perm [1, 0] rfl (h w g K)
  · replace h := h.2 hc
    refine g_aload_n K1 0 dX12_beginNight_10 rfl ?_
    refine g_iload_n K1 1 dX12_beginNight_11 rfl ?_
    refine g_iconst K1 0 dX12_beginNight_12 rfl ?_
    obtain ⟨I2, hct, h⟩ := h
    refine h_callV K1 (st := []) [.int x1, .int 0] (hct w (gl g)) q_clX12 lyp_96 rfl ok_X12_putsOut ml_X12_267 ⟨Nat.le_of_ble_eq_true rfl, Nat.le_of_ble_eq_true rfl⟩ (Nat.le_of_ble_eq_true rfl) dX12_beginNight_13 ?_
    show q_Gs w g 16 [(0, .ref 96), (1, .int x1)] [] (q_mm I2 L)
    refine g_aload_n K1 0 dX12_beginNight_16 rfl ?_
    refine h_getI K1 q_clX12 18 lyp_96 fkX12_18 fl_X12_249 dX12_beginNight_17 ?_
    refine g_iconst K1 (-1) dX12_beginNight_20 rfl ?_
    refine g_icmp_eq K1 46 dX12_beginNight_21 rfl (fun hc => ?_) (fun hc => ?_)
    · replace h := h.1 hc
      refine g_iinc K1 (x1 + 1) 1 dX12_beginNight_46 rfl rfl (by decide) rfl ?_
      refine g_goto K1 2 dX12_beginNight_49 rfl ?_
      exact g_perm [1, 0] rfl (h w g K)
    · replace h := h.2 hc
      refine g_aload_n K1 0 dX12_beginNight_24 rfl ?_
      refine h_getI K1 q_clX12 18 lyp_96 fkX12_18 fl_X12_249 dX12_beginNight_25 ?_
      refine g_iload_n K1 1 dX12_beginNight_28 rfl ?_
      obtain ⟨r3, hct, h⟩ := h
      refine h_callS K1 (st := []) [.int (I2 96 18), .int x1] (hct w (gl g)) ok_X12_bit ml_X12_237 ⟨Nat.le_of_ble_eq_true rfl, Nat.le_of_ble_eq_true rfl⟩ (Nat.le_of_ble_eq_true rfl) dX12_beginNight_29 ?_
      show q_Gs w g 32 [(0, .ref 96), (1, .int x1)] [.int r3] (q_mm I2 L)
      refine g_iconst K1 1 dX12_beginNight_32 rfl ?_
      refine g_icmp_ne K1 46 dX12_beginNight_33 rfl (fun hc => ?_) (fun hc => ?_)
      · replace h := h.2 hc
        refine g_iinc K1 (x1 + 1) 1 dX12_beginNight_46 rfl rfl (by decide) rfl ?_
        refine g_goto K1 2 dX12_beginNight_49 rfl ?_
        exact g_perm [1, 0] rfl (h w g K)
      · replace h := h.1 hc
        refine g_aload_n K1 0 dX12_beginNight_36 rfl ?_
        refine g_iload_n K1 1 dX12_beginNight_37 rfl ?_
        refine g_aload_n K1 0 dX12_beginNight_38 rfl ?_
        refine h_getI K1 q_clX12 19 lyp_96 fkX12_19 fl_X12_252 dX12_beginNight_39 ?_
        refine g_iconst K1 0 dX12_beginNight_42 rfl ?_
        obtain ⟨I4, hct, h⟩ := h
        refine h_callV K1 (st := []) [.int x1, .int (I2 96 19), .int 0] (hct w (gl g)) q_clX12 lyp_96 rfl ok_X12_lights ml_X12_271 ⟨Nat.le_of_ble_eq_true rfl, Nat.le_of_ble_eq_true rfl⟩ (Nat.le_of_ble_eq_true rfl) dX12_beginNight_43 ?_
        show q_Gs w g 46 [(0, .ref 96), (1, .int x1)] [] (q_mm I4 L)
        refine g_iinc K1 (x1 + 1) 1 dX12_beginNight_46 rfl rfl (by decide) rfl ?_
        refine g_goto K1 2 dX12_beginNight_49 rfl ?_
        exact g_perm [1, 0] rfl (h w g K)
set_option maxRecDepth 20000 in
set_option maxHeartbeats 2000000 in
theorem vc_X12_beginNight_54 {r : Option Value} {I' : Nat → Nat → Int32} {L' : Nat → Nat → Int64} {I : Nat → Nat → Int32} {L : Nat → Nat → Int64} {x1 : Int32} (h : (vp_in 5 104 ∧ (((I 97 (5 : Int32).toNatClampNeg) ≤ x1 → (r = none ∧ I' = I ∧ L' = L)) ∧ (¬ (I 97 (5 : Int32).toNatClampNeg) ≤ x1 → (((I 96 18) = (-1) → (vp_in (54 + (2 * x1)) 104 ∧ (vp_in ((54 + (2 * x1)) + 1) 104 ∧ (∃ I1, q_C kX12_lights [.ref 96, .int (I 97 ((54 + (2 * x1)) : Int32).toNatClampNeg), .int (I 97 (((54 + (2 * x1)) + 1) : Int32).toNatClampNeg), .int 0] I L none I1 L ∧ (v_X12_beginNight_54 r I' L' I1 L (x1 + 1)))))) ∧ (¬ (I 96 18) = (-1) → (r = none ∧ I' = I ∧ L' = L))))))) : v_X12_beginNight_54 r I' L' I L x1 := by
  intro w g K
  have K1 := K.1
  refine g_iload_n K1 1 dX12_beginNight_54 rfl ?_
  refine g_aload_n K1 0 dX12_beginNight_55 rfl ?_
  refine h_getO K1 q_clX12 1 97 lyp_96 fkX12_1 rfl fl_X12_9 dX12_beginNight_56 ?_
  refine g_iconst K1 5 dX12_beginNight_59 rfl ?_
  obtain ⟨hg, h⟩ := h
  refine h_iaload K1 lyp_97 hg dX12_beginNight_60 ?_
  refine g_icmp_ge K1 107 dX12_beginNight_61 rfl (fun hc => ?_) (fun hc => ?_)
  · replace h := h.1 hc
    obtain ⟨hr, hI, hL⟩ := h
    subst hr hI hL
    exact g_vreturn K rfl dX12_beginNight_107
  · replace h := h.2 hc
    refine g_aload_n K1 0 dX12_beginNight_64 rfl ?_
    refine h_getI K1 q_clX12 18 lyp_96 fkX12_18 fl_X12_249 dX12_beginNight_65 ?_
    refine g_iconst K1 (-1) dX12_beginNight_68 rfl ?_
    refine g_icmp_ne K1 107 dX12_beginNight_69 rfl (fun hc => ?_) (fun hc => ?_)
    · replace h := h.2 hc
      obtain ⟨hr, hI, hL⟩ := h
      subst hr hI hL
      exact g_vreturn K rfl dX12_beginNight_107
    · replace h := h.1 hc
      refine g_aload_n K1 0 dX12_beginNight_72 rfl ?_
      refine g_aload_n K1 0 dX12_beginNight_73 rfl ?_
      refine h_getO K1 q_clX12 1 97 lyp_96 fkX12_1 rfl fl_X12_9 dX12_beginNight_74 ?_
      refine g_bipush K1 54 dX12_beginNight_77 rfl ?_
      refine g_iconst K1 2 dX12_beginNight_79 rfl ?_
      refine g_iload_n K1 1 dX12_beginNight_80 rfl ?_
      refine g_imul K1 dX12_beginNight_81 ?_
      refine g_iadd K1 dX12_beginNight_82 ?_
      obtain ⟨hg, h⟩ := h
      refine h_iaload K1 lyp_97 hg dX12_beginNight_83 ?_
      refine g_aload_n K1 0 dX12_beginNight_84 rfl ?_
      refine h_getO K1 q_clX12 1 97 lyp_96 fkX12_1 rfl fl_X12_9 dX12_beginNight_85 ?_
      refine g_bipush K1 54 dX12_beginNight_88 rfl ?_
      refine g_iconst K1 2 dX12_beginNight_90 rfl ?_
      refine g_iload_n K1 1 dX12_beginNight_91 rfl ?_
      refine g_imul K1 dX12_beginNight_92 ?_
      refine g_iadd K1 dX12_beginNight_93 ?_
      refine g_iconst K1 1 dX12_beginNight_94 rfl ?_
      refine g_iadd K1 dX12_beginNight_95 ?_
      obtain ⟨hg, h⟩ := h
      refine h_iaload K1 lyp_97 hg dX12_beginNight_96 ?_
      refine g_iconst K1 0 dX12_beginNight_97 rfl ?_
      obtain ⟨I1, hct, h⟩ := h
      refine h_callV K1 (st := []) [.int (I 97 ((54 + (2 * x1)) : Int32).toNatClampNeg), .int (I 97 (((54 + (2 * x1)) + 1) : Int32).toNatClampNeg), .int 0] (hct w (gl g)) q_clX12 lyp_96 rfl ok_X12_lights ml_X12_271 ⟨Nat.le_of_ble_eq_true rfl, Nat.le_of_ble_eq_true rfl⟩ (Nat.le_of_ble_eq_true rfl) dX12_beginNight_98 ?_
      show q_Gs w g 101 [(0, .ref 96), (1, .int x1)] [] (q_mm I1 L)
      refine g_iinc K1 (x1 + 1) 1 dX12_beginNight_101 rfl rfl (by decide) rfl ?_
      refine g_goto K1 54 dX12_beginNight_104 rfl ?_
      exact g_perm [1, 0] rfl (h w g K)
theorem c0_X12_beginNight {r : Option Value} {I I' : Nat → Nat → Int32} {L L' : Nat → Nat → Int64}  (h : v_X12_beginNight_0 r I' L' I L ) : q_C kX12_beginNight [.ref 96] I L r I' L' := fun w l => q_ct (by decide) (Nat.le_of_ble_eq_true rfl) (Nat.le_refl _) (fun g _ K => h w g K)
abbrev v_X12_best_0 (r : Option Value) (I' : Nat → Nat → Int32) (L' : Nat → Nat → Int64) (I : Nat → Nat → Int32) (L : Nat → Nat → Int64)  : Prop := q_W kX12_best 0 [(0, .ref 96)] [] I L r I' L'
abbrev v_X12_best_20 (r : Option Value) (I' : Nat → Nat → Int32) (L' : Nat → Nat → Int64) (I : Nat → Nat → Int32) (L : Nat → Nat → Int64) (x1 : Int32) (x2 : Int32) (x3 : Int32) : Prop := q_W kX12_best 20 [(0, .ref 96), (1, .int x1), (2, .int x2), (3, .int x3)] [] I L r I' L'
set_option maxRecDepth 20000 in
set_option maxHeartbeats 2000000 in
theorem vc_X12_best_0 {r : Option Value} {I' : Nat → Nat → Int32} {L' : Nat → Nat → Int64} {I : Nat → Nat → Int32} {L : Nat → Nat → Int64}  (h : (∃ I1, q_C kX12_asItIs [.ref 96] I L none I1 L ∧ (∃ r2, q_C kX12_isNight [.ref 96] I1 L (some (.int r2)) I1 L ∧ ((r2 = 0 → (r = some (.int (-2)) ∧ I' = I1 ∧ L' = L)) ∧ (¬ r2 = 0 → (v_X12_best_20 r I' L' I1 L (-1) (-1) 0)))))) : v_X12_best_0 r I' L' I L  := by
  intro w g K
  have K1 := K.1
  refine g_aload_n K1 0 dX12_best_0 rfl ?_
  obtain ⟨I1, hct, h⟩ := h
  refine h_callV K1 (st := []) [] (hct w (gl g)) q_clX12 lyp_96 rfl ok_X12_asItIs ml_X12_297 ⟨Nat.le_of_ble_eq_true rfl, Nat.le_of_ble_eq_true rfl⟩ (Nat.le_of_ble_eq_true rfl) dX12_best_1 ?_
  show q_Gs w g 4 [(0, .ref 96)] [] (q_mm I1 L)
  refine g_aload_n K1 0 dX12_best_4 rfl ?_
  obtain ⟨r2, hct, h⟩ := h
  refine h_callV K1 (st := []) [] (hct w (gl g)) q_clX12 lyp_96 rfl ok_X12_isNight ml_X12_78 ⟨Nat.le_of_ble_eq_true rfl, Nat.le_of_ble_eq_true rfl⟩ (Nat.le_of_ble_eq_true rfl) dX12_best_5 ?_
  show q_Gs w g 8 [(0, .ref 96)] [.int r2] (q_mm I1 L)
  refine g_if_ne K1 14 dX12_best_8 rfl (fun hc => ?_) (fun hc => ?_)
  · replace h := h.2 hc
    refine g_iconst K1 (-1) dX12_best_14 rfl ?_
    refine g_istore_n K1 dX12_best_15 rfl (by decide) rfl ?_
    refine g_iconst K1 (-1) dX12_best_16 rfl ?_
    refine g_istore_n K1 dX12_best_17 rfl (by decide) rfl ?_
    refine g_iconst K1 0 dX12_best_18 rfl ?_
    refine g_istore_n K1 dX12_best_19 rfl (by decide) rfl ?_
    exact g_perm [3, 2, 1, 0] rfl (h w g K)
  · replace h := h.1 hc
    refine g_bipush K1 (-2) dX12_best_11 rfl ?_
    obtain ⟨hr, hI, hL⟩ := h
    subst hr hI hL
    exact g_ireturn K rfl dX12_best_13
set_option maxRecDepth 20000 in
set_option maxHeartbeats 2000000 in
theorem vc_X12_best_20 {r : Option Value} {I' : Nat → Nat → Int32} {L' : Nat → Nat → Int64} {I : Nat → Nat → Int32} {L : Nat → Nat → Int64} {x1 : Int32} {x2 : Int32} {x3 : Int32} (h : (∃ r1, q_C kX12_pews [.ref 96] I L (some (.int r1)) I L ∧ ((r1 ≤ x3 → (r = some (.int x1) ∧ I' = I ∧ L' = L)) ∧ (¬ r1 ≤ x3 → (∃ r2 I3, q_C kX12_worthOf [.ref 96, .int ((1 : Int32) <<< (x3 &&& 31))] I L (some (.int r2)) I3 L ∧ ((x2 < r2 → (v_X12_best_20 r I' L' I3 L x3 r2 (x3 + 1))) ∧ (¬ x2 < r2 → (v_X12_best_20 r I' L' I3 L x1 x2 (x3 + 1))))))))) : v_X12_best_20 r I' L' I L x1 x2 x3 := by
  intro w g K
  have K1 := K.1
  refine g_iload_n K1 3 dX12_best_20 rfl ?_
  refine g_aload_n K1 0 dX12_best_21 rfl ?_
  obtain ⟨r1, hct, h⟩ := h
  refine h_callV K1 (st := [.int x3]) [] (hct w (gl g)) q_clX12 lyp_96 rfl ok_X12_pews ml_X12_74 ⟨Nat.le_of_ble_eq_true rfl, Nat.le_of_ble_eq_true rfl⟩ (Nat.le_of_ble_eq_true rfl) dX12_best_22 ?_
  show q_Gs w g 25 [(0, .ref 96), (1, .int x1), (2, .int x2), (3, .int x3)] [.int r1, .int x3] (q_mm I L)
  refine g_icmp_ge K1 57 dX12_best_25 rfl (fun hc => ?_) (fun hc => ?_)
  · replace h := h.1 hc
    refine g_iload_n K1 1 dX12_best_57 rfl ?_
    obtain ⟨hr, hI, hL⟩ := h
    subst hr hI hL
    exact g_ireturn K rfl dX12_best_58
  · replace h := h.2 hc
    refine g_aload_n K1 0 dX12_best_28 rfl ?_
    refine g_iconst K1 1 dX12_best_29 rfl ?_
    refine g_iload_n K1 3 dX12_best_30 rfl ?_
    refine g_ishl K1 dX12_best_31 ?_
    obtain ⟨r2, I3, hct, h⟩ := h
    refine h_callV K1 (st := []) [.int ((1 : Int32) <<< (x3 &&& 31))] (hct w (gl g)) q_clX12 lyp_96 rfl ok_X12_worthOf ml_X12_380 ⟨Nat.le_of_ble_eq_true rfl, Nat.le_of_ble_eq_true rfl⟩ (Nat.le_of_ble_eq_true rfl) dX12_best_32 ?_
    show q_Gs w g 35 [(0, .ref 96), (1, .int x1), (2, .int x2), (3, .int x3)] [.int r2] (q_mm I3 L)
    refine g_istore K1 dX12_best_35 (by decide) rfl ?_
    refine g_iload K1 0 dX12_best_37 rfl ?_
    refine g_iload_n K1 3 dX12_best_39 rfl ?_
    refine g_icmp_gt K1 46 dX12_best_40 rfl (fun hc => ?_) (fun hc => ?_)
    · replace h := h.1 hc
      refine g_iload K1 0 dX12_best_46 rfl ?_
      refine g_istore_n K1 dX12_best_48 rfl (by decide) rfl ?_
      refine g_iload_n K1 4 dX12_best_49 rfl ?_
      refine g_istore_n K1 dX12_best_50 rfl (by decide) rfl ?_
      refine g_iinc K1 (x3 + 1) 4 dX12_best_51 rfl rfl (by decide) rfl ?_
      refine g_goto K1 20 dX12_best_54 rfl ?_
      exact g_perm [4, 1, 2, 0] rfl (h w g K)
    · replace h := h.2 hc
      refine g_goto K1 51 dX12_best_43 rfl ?_
      refine g_iinc K1 (x3 + 1) 4 dX12_best_51 rfl rfl (by decide) rfl ?_
      refine g_goto K1 20 dX12_best_54 rfl ?_
      exact g_perm [2, 3, 4, 0] rfl (h w g K)
theorem c0_X12_best {r : Option Value} {I I' : Nat → Nat → Int32} {L L' : Nat → Nat → Int64}  (h : v_X12_best_0 r I' L' I L ) : q_C kX12_best [.ref 96] I L r I' L' := fun w l => q_ct (by decide) (Nat.le_of_ble_eq_true rfl) (Nat.le_refl _) (fun g _ K => h w g K)
abbrev v_X12_bit_0 (r : Option Value) (I' : Nat → Nat → Int32) (L' : Nat → Nat → Int64) (I : Nat → Nat → Int32) (L : Nat → Nat → Int64) (x0 : Int32) (x1 : Int32) : Prop := q_W kX12_bit 0 [(0, .int x0), (1, .int x1)] [] I L r I' L'
set_option maxRecDepth 20000 in
set_option maxHeartbeats 2000000 in
theorem vc_X12_bit_0 {r : Option Value} {I' : Nat → Nat → Int32} {L' : Nat → Nat → Int64} {I : Nat → Nat → Int32} {L : Nat → Nat → Int64} {x0 : Int32} {x1 : Int32} (h : (r = some (.int ((x0 >>> (x1 &&& 31)) &&& 1)) ∧ I' = I ∧ L' = L)) : v_X12_bit_0 r I' L' I L x0 x1 := by
  intro w g K
  have K1 := K.1
  refine g_iload_n K1 0 dX12_bit_0 rfl ?_
  refine g_iload_n K1 1 dX12_bit_1 rfl ?_
  refine g_ishr K1 dX12_bit_2 ?_
  refine g_iconst K1 1 dX12_bit_3 rfl ?_
  refine g_iand K1 dX12_bit_4 ?_
  obtain ⟨hr, hI, hL⟩ := h
  subst hr hI hL
  exact g_ireturn K rfl dX12_bit_5
theorem c0_X12_bit {r : Option Value} {I I' : Nat → Nat → Int32} {L L' : Nat → Nat → Int64} {x0 : Int32} {x1 : Int32} (h : v_X12_bit_0 r I' L' I L x0 x1) : q_C kX12_bit [.int x0, .int x1] I L r I' L' := fun w l => q_ct (by decide) (Nat.le_of_ble_eq_true rfl) (Nat.le_refl _) (fun g _ K => h w g K)
abbrev v_X12_bits_0 (r : Option Value) (I' : Nat → Nat → Int32) (L' : Nat → Nat → Int64) (I : Nat → Nat → Int32) (L : Nat → Nat → Int64) (x0 : Int32) : Prop := q_W kX12_bits 0 [(0, .int x0)] [] I L r I' L'
abbrev v_X12_bits_4 (r : Option Value) (I' : Nat → Nat → Int32) (L' : Nat → Nat → Int64) (I : Nat → Nat → Int32) (L : Nat → Nat → Int64) (x0 : Int32) (x1 : Int32) (x2 : Int32) : Prop := q_W kX12_bits 4 [(0, .int x0), (1, .int x1), (2, .int x2)] [] I L r I' L'
set_option maxRecDepth 20000 in
set_option maxHeartbeats 2000000 in
theorem vc_X12_bits_0 {r : Option Value} {I' : Nat → Nat → Int32} {L' : Nat → Nat → Int64} {I : Nat → Nat → Int32} {L : Nat → Nat → Int64} {x0 : Int32} (h : (v_X12_bits_4 r I' L' I L x0 0 0)) : v_X12_bits_0 r I' L' I L x0 := by
  intro w g K
  have K1 := K.1
  refine g_iconst K1 0 dX12_bits_0 rfl ?_
  refine g_istore_n K1 dX12_bits_1 rfl (by decide) rfl ?_
  refine g_iconst K1 0 dX12_bits_2 rfl ?_
  refine g_istore_n K1 dX12_bits_3 rfl (by decide) rfl ?_
  exact g_perm [2, 1, 0] rfl (h w g K)
set_option maxRecDepth 20000 in
set_option maxHeartbeats 2000000 in
theorem vc_X12_bits_4 {r : Option Value} {I' : Nat → Nat → Int32} {L' : Nat → Nat → Int64} {I : Nat → Nat → Int32} {L : Nat → Nat → Int64} {x0 : Int32} {x1 : Int32} {x2 : Int32} (h : ((16 ≤ x2 → (r = some (.int x1) ∧ I' = I ∧ L' = L)) ∧ (¬ 16 ≤ x2 → (v_X12_bits_4 r I' L' I L x0 (x1 + ((x0 >>> (x2 &&& 31)) &&& 1)) (x2 + 1))))) : v_X12_bits_4 r I' L' I L x0 x1 x2 := by
  intro w g K
  have K1 := K.1
  refine g_iload_n K1 2 dX12_bits_4 rfl ?_
  refine g_bipush K1 16 dX12_bits_5 rfl ?_
  refine g_icmp_ge K1 24 dX12_bits_7 rfl (fun hc => ?_) (fun hc => ?_)
  · replace h := h.1 hc
    refine g_iload_n K1 1 dX12_bits_24 rfl ?_
    obtain ⟨hr, hI, hL⟩ := h
    subst hr hI hL
    exact g_ireturn K rfl dX12_bits_25
  · replace h := h.2 hc
    refine g_iload_n K1 1 dX12_bits_10 rfl ?_
    refine g_iload_n K1 0 dX12_bits_11 rfl ?_
    refine g_iload_n K1 2 dX12_bits_12 rfl ?_
    refine g_ishr K1 dX12_bits_13 ?_
    refine g_iconst K1 1 dX12_bits_14 rfl ?_
    refine g_iand K1 dX12_bits_15 ?_
    refine g_iadd K1 dX12_bits_16 ?_
    refine g_istore_n K1 dX12_bits_17 rfl (by decide) rfl ?_
    refine g_iinc K1 (x2 + 1) 2 dX12_bits_18 rfl rfl (by decide) rfl ?_
    refine g_goto K1 4 dX12_bits_21 rfl ?_
    exact g_perm [2, 1, 0] rfl (h w g K)
theorem c0_X12_bits {r : Option Value} {I I' : Nat → Nat → Int32} {L L' : Nat → Nat → Int64} {x0 : Int32} (h : v_X12_bits_0 r I' L' I L x0) : q_C kX12_bits [.int x0] I L r I' L' := fun w l => q_ct (by decide) (Nat.le_of_ble_eq_true rfl) (Nat.le_refl _) (fun g _ K => h w g K)
abbrev v_X12_by_0 (r : Option Value) (I' : Nat → Nat → Int32) (L' : Nat → Nat → Int64) (I : Nat → Nat → Int32) (L : Nat → Nat → Int64) (x1 : Int32) : Prop := q_W kX12_by 0 [(0, .ref 96), (1, .int x1)] [] I L r I' L'
set_option maxRecDepth 20000 in
set_option maxHeartbeats 2000000 in
theorem vc_X12_by_0 {r : Option Value} {I' : Nat → Nat → Int32} {L' : Nat → Nat → Int64} {I : Nat → Nat → Int32} {L : Nat → Nat → Int64} {x1 : Int32} (h : (∃ r1 I2, q_C kX12_asksNight [.ref 96] I L (some (.int r1)) I2 L ∧ ((r1 = 0 → (r = some (.int (-2)) ∧ I' = I2 ∧ L' = L)) ∧ (¬ r1 = 0 → (∃ r3, q_C kX12_in [.long x1.toInt64, .long 0, .long 3] I2 L (some (.int r3)) I2 L ∧ ((r3 = 0 → (r = some (.int (-2)) ∧ I' = I2 ∧ L' = L)) ∧ (¬ r3 = 0 → (∃ I4, q_C kX12_goBy [.ref 96, .int x1] I2 L none I4 L ∧ (∃ r5, q_C kX12_litLast [.ref 96] I4 L (some (.int r5)) I4 L ∧ (r = some (.int r5) ∧ I' = I4 ∧ L' = L)))))))))) : v_X12_by_0 r I' L' I L x1 := by
  intro w g K
  have K1 := K.1
  refine g_aload_n K1 0 dX12_by_0 rfl ?_
  obtain ⟨r1, I2, hct, h⟩ := h
  refine h_callV K1 (st := []) [] (hct w (gl g)) q_clX12 lyp_96 rfl ok_X12_asksNight ml_X12_303 ⟨Nat.le_of_ble_eq_true rfl, Nat.le_of_ble_eq_true rfl⟩ (Nat.le_of_ble_eq_true rfl) dX12_by_1 ?_
  show q_Gs w g 4 [(0, .ref 96), (1, .int x1)] [.int r1] (q_mm I2 L)
  refine g_if_eq K1 19 dX12_by_4 rfl (fun hc => ?_) (fun hc => ?_)
  · replace h := h.1 hc
    refine g_bipush K1 (-2) dX12_by_19 rfl ?_
    obtain ⟨hr, hI, hL⟩ := h
    subst hr hI hL
    exact g_ireturn K rfl dX12_by_21
  · replace h := h.2 hc
    refine g_iload_n K1 1 dX12_by_7 rfl ?_
    refine g_i2l K1 dX12_by_8 ?_
    refine g_lconst K1 0 dX12_by_9 rfl ?_
    refine g_ldc2_w K1 3 dX12_by_10 cn_X12_422 ?_
    obtain ⟨r3, hct, h⟩ := h
    refine h_callS K1 (st := []) [.long x1.toInt64, .long 0, .long 3] (hct w (gl g)) ok_X12_in ml_X12_70 ⟨Nat.le_of_ble_eq_true rfl, Nat.le_of_ble_eq_true rfl⟩ (Nat.le_of_ble_eq_true rfl) dX12_by_13 ?_
    show q_Gs w g 16 [(0, .ref 96), (1, .int x1)] [.int r3] (q_mm I2 L)
    refine g_if_ne K1 22 dX12_by_16 rfl (fun hc => ?_) (fun hc => ?_)
    · replace h := h.2 hc
      refine g_aload_n K1 0 dX12_by_22 rfl ?_
      refine g_iload_n K1 1 dX12_by_23 rfl ?_
      obtain ⟨I4, hct, h⟩ := h
      refine h_callV K1 (st := []) [.int x1] (hct w (gl g)) q_clX12 lyp_96 rfl ok_X12_goBy ml_X12_424 ⟨Nat.le_of_ble_eq_true rfl, Nat.le_of_ble_eq_true rfl⟩ (Nat.le_of_ble_eq_true rfl) dX12_by_24 ?_
      show q_Gs w g 27 [(0, .ref 96), (1, .int x1)] [] (q_mm I4 L)
      refine g_aload_n K1 0 dX12_by_27 rfl ?_
      obtain ⟨r5, hct, h⟩ := h
      refine h_callV K1 (st := []) [] (hct w (gl g)) q_clX12 lyp_96 rfl ok_X12_litLast ml_X12_312 ⟨Nat.le_of_ble_eq_true rfl, Nat.le_of_ble_eq_true rfl⟩ (Nat.le_of_ble_eq_true rfl) dX12_by_28 ?_
      show q_Gs w g 31 [(0, .ref 96), (1, .int x1)] [.int r5] (q_mm I4 L)
      obtain ⟨hr, hI, hL⟩ := h
      subst hr hI hL
      exact g_ireturn K rfl dX12_by_31
    · replace h := h.1 hc
      refine g_bipush K1 (-2) dX12_by_19 rfl ?_
      obtain ⟨hr, hI, hL⟩ := h
      subst hr hI hL
      exact g_ireturn K rfl dX12_by_21
theorem c0_X12_by {r : Option Value} {I I' : Nat → Nat → Int32} {L L' : Nat → Nat → Int64} {x1 : Int32} (h : v_X12_by_0 r I' L' I L x1) : q_C kX12_by [.ref 96, .int x1] I L r I' L' := fun w l => q_ct (by decide) (Nat.le_of_ble_eq_true rfl) (Nat.le_refl _) (fun g _ K => h w g K)
abbrev v_X12_chance_0 (r : Option Value) (I' : Nat → Nat → Int32) (L' : Nat → Nat → Int64) (I : Nat → Nat → Int32) (L : Nat → Nat → Int64) (x1 : Int32) (x2 : Int32) (x3 : Int32) : Prop := q_W kX12_chance 0 [(0, .ref 96), (1, .int x1), (2, .int x2), (3, .int x3)] [] I L r I' L'
set_option maxRecDepth 20000 in
set_option maxHeartbeats 2000000 in
theorem vc_X12_chance_0 {r : Option Value} {I' : Nat → Nat → Int32} {L' : Nat → Nat → Int64} {I : Nat → Nat → Int32} {L : Nat → Nat → Int64} {x1 : Int32} {x2 : Int32} {x3 : Int32} (h : (∃ r1, q_C kX12_isPew [.ref 96, .long x1.toInt64] I L (some (.int r1)) I L ∧ ((r1 = 0 → (r = some (.long (-2)) ∧ I' = I ∧ L' = L)) ∧ (¬ r1 = 0 → (∃ r2, q_C kX12_isSilence [.ref 96, .int x2, .int x3] I L (some (.int r2)) I L ∧ ((r2 = 0 → (r = some (.long (-2)) ∧ I' = I ∧ L' = L)) ∧ (¬ r2 = 0 → (∃ I3 L4, q_C kX12_laySilence [.ref 96, .int x1, .int x2] I L none I3 L4 ∧ (∃ r5, q_C kX12_part [.long (L4 96 35), .long (L4 96 34), .int x3] I3 L4 (some (.long r5)) I3 L4 ∧ (r = some (.long r5) ∧ I' = I3 ∧ L' = L4)))))))))) : v_X12_chance_0 r I' L' I L x1 x2 x3 := by
  intro w g K
  have K1 := K.1
  refine g_aload_n K1 0 dX12_chance_0 rfl ?_
  refine g_iload_n K1 1 dX12_chance_1 rfl ?_
  refine g_i2l K1 dX12_chance_2 ?_
  obtain ⟨r1, hct, h⟩ := h
  refine h_callV K1 (st := []) [.long x1.toInt64] (hct w (gl g)) q_clX12 lyp_96 rfl ok_X12_isPew ml_X12_218 ⟨Nat.le_of_ble_eq_true rfl, Nat.le_of_ble_eq_true rfl⟩ (Nat.le_of_ble_eq_true rfl) dX12_chance_3 ?_
  show q_Gs w g 6 [(0, .ref 96), (1, .int x1), (2, .int x2), (3, .int x3)] [.int r1] (q_mm I L)
  refine g_if_eq K1 18 dX12_chance_6 rfl (fun hc => ?_) (fun hc => ?_)
  · replace h := h.1 hc
    refine g_ldc2_w K1 (-2) dX12_chance_18 cn_X12_458 ?_
    obtain ⟨hr, hI, hL⟩ := h
    subst hr hI hL
    exact g_lreturn K rfl dX12_chance_21
  · replace h := h.2 hc
    refine g_aload_n K1 0 dX12_chance_9 rfl ?_
    refine g_iload_n K1 2 dX12_chance_10 rfl ?_
    refine g_iload_n K1 3 dX12_chance_11 rfl ?_
    obtain ⟨r2, hct, h⟩ := h
    refine h_callV K1 (st := []) [.int x2, .int x3] (hct w (gl g)) q_clX12 lyp_96 rfl ok_X12_isSilence ml_X12_455 ⟨Nat.le_of_ble_eq_true rfl, Nat.le_of_ble_eq_true rfl⟩ (Nat.le_of_ble_eq_true rfl) dX12_chance_12 ?_
    show q_Gs w g 15 [(0, .ref 96), (1, .int x1), (2, .int x2), (3, .int x3)] [.int r2] (q_mm I L)
    refine g_if_ne K1 22 dX12_chance_15 rfl (fun hc => ?_) (fun hc => ?_)
    · replace h := h.2 hc
      refine g_aload_n K1 0 dX12_chance_22 rfl ?_
      refine g_iload_n K1 1 dX12_chance_23 rfl ?_
      refine g_iload_n K1 2 dX12_chance_24 rfl ?_
      obtain ⟨I3, L4, hct, h⟩ := h
      refine h_callV K1 (st := []) [.int x1, .int x2] (hct w (gl g)) q_clX12 lyp_96 rfl ok_X12_laySilence ml_X12_460 ⟨Nat.le_of_ble_eq_true rfl, Nat.le_of_ble_eq_true rfl⟩ (Nat.le_of_ble_eq_true rfl) dX12_chance_25 ?_
      show q_Gs w g 28 [(0, .ref 96), (1, .int x1), (2, .int x2), (3, .int x3)] [] (q_mm I3 L4)
      refine g_aload_n K1 0 dX12_chance_28 rfl ?_
      refine h_getL K1 q_clX12 35 lyp_96 fkX12_35 fl_X12_447 dX12_chance_29 ?_
      refine g_aload_n K1 0 dX12_chance_32 rfl ?_
      refine h_getL K1 q_clX12 34 lyp_96 fkX12_34 fl_X12_443 dX12_chance_33 ?_
      refine g_iload_n K1 3 dX12_chance_36 rfl ?_
      obtain ⟨r5, hct, h⟩ := h
      refine h_callS K1 (st := []) [.long (L4 96 35), .long (L4 96 34), .int x3] (hct w (gl g)) ok_X12_part ml_X12_394 ⟨Nat.le_of_ble_eq_true rfl, Nat.le_of_ble_eq_true rfl⟩ (Nat.le_of_ble_eq_true rfl) dX12_chance_37 ?_
      show q_Gs w g 40 [(0, .ref 96), (1, .int x1), (2, .int x2), (3, .int x3)] [.long r5] (q_mm I3 L4)
      obtain ⟨hr, hI, hL⟩ := h
      subst hr hI hL
      exact g_lreturn K rfl dX12_chance_40
    · replace h := h.1 hc
      refine g_ldc2_w K1 (-2) dX12_chance_18 cn_X12_458 ?_
      obtain ⟨hr, hI, hL⟩ := h
      subst hr hI hL
      exact g_lreturn K rfl dX12_chance_21
theorem c0_X12_chance {r : Option Value} {I I' : Nat → Nat → Int32} {L L' : Nat → Nat → Int64} {x1 : Int32} {x2 : Int32} {x3 : Int32} (h : v_X12_chance_0 r I' L' I L x1 x2 x3) : q_C kX12_chance [.ref 96, .int x1, .int x2, .int x3] I L r I' L' := fun w l => q_ct (by decide) (Nat.le_of_ble_eq_true rfl) (Nat.le_refl _) (fun g _ K => h w g K)
abbrev v_X12_changed_0 (r : Option Value) (I' : Nat → Nat → Int32) (L' : Nat → Nat → Int64) (I : Nat → Nat → Int32) (L : Nat → Nat → Int64) (x1 : Int32) (x2 : Int32) : Prop := q_W kX12_changed 0 [(0, .ref 96), (1, .int x1), (2, .int x2)] [] I L r I' L'
abbrev v_X12_changed_61 (r : Option Value) (I' : Nat → Nat → Int32) (L' : Nat → Nat → Int64) (I : Nat → Nat → Int32) (L : Nat → Nat → Int64) (x1 : Int32) (x2 : Int32) (x3 : Int32) (x4 : Int32) (x5 : Int32) (x6 : Int32) : Prop := q_W kX12_changed 61 [(0, .ref 96), (1, .int x1), (2, .int x2), (3, .int x3), (4, .int x4), (5, .int x5), (6, .int x6)] [] I L r I' L'
abbrev v_X12_changed_86 (r : Option Value) (I' : Nat → Nat → Int32) (L' : Nat → Nat → Int64) (I : Nat → Nat → Int32) (L : Nat → Nat → Int64) (x1 : Int32) (x2 : Int32) (x3 : Int32) (x4 : Int32) (x5 : Int32) (x6 : Int32) (s0 : Int32) (s1 : Int32) : Prop := q_W kX12_changed 86 [(0, .ref 96), (1, .int x1), (2, .int x2), (3, .int x3), (4, .int x4), (5, .int x5), (6, .int x6)] [.int s1, .int s0] I L r I' L'
set_option maxRecDepth 20000 in
set_option maxHeartbeats 2000000 in
theorem vc_X12_changed_0 {r : Option Value} {I' : Nat → Nat → Int32} {L' : Nat → Nat → Int64} {I : Nat → Nat → Int32} {L : Nat → Nat → Int64} {x1 : Int32} {x2 : Int32} (h : (∃ r1, q_C kX12_ruleOf [.ref 96, .int x1, .int 0] I L (some (.int r1)) I L ∧ (∃ r2, q_C kX12_longOf [.int x2] I L (some (.int r2)) I L ∧ ((r1 = 0 → (r = some (.int x2) ∧ I' = I ∧ L' = L)) ∧ (¬ r1 = 0 → ((r1 = 2 → (r = some (.int (x2 / 5)) ∧ I' = I ∧ L' = L)) ∧ (¬ r1 = 2 → ((r1 = 3 → ((r2 = 6 → (r = some (.int x2) ∧ I' = I ∧ L' = L)) ∧ (¬ r2 = 6 → (∃ r3, q_C kX12_ruleOf [.ref 96, .int x1, .int 1] I L (some (.int r3)) I L ∧ (r = some (.int ((5 * x2) + r3)) ∧ I' = I ∧ L' = L))))) ∧ (¬ r1 = 3 → (v_X12_changed_61 r I' L' I L x1 x2 r1 r2 0 0)))))))))) : v_X12_changed_0 r I' L' I L x1 x2 := by
  intro w g K
  have K1 := K.1
  refine g_aload_n K1 0 dX12_changed_0 rfl ?_
  refine g_iload_n K1 1 dX12_changed_1 rfl ?_
  refine g_iconst K1 0 dX12_changed_2 rfl ?_
  obtain ⟨r1, hct, h⟩ := h
  refine h_callV K1 (st := []) [.int x1, .int 0] (hct w (gl g)) q_clX12 lyp_96 rfl ok_X12_ruleOf ml_X12_222 ⟨Nat.le_of_ble_eq_true rfl, Nat.le_of_ble_eq_true rfl⟩ (Nat.le_of_ble_eq_true rfl) dX12_changed_3 ?_
  show q_Gs w g 6 [(0, .ref 96), (1, .int x1), (2, .int x2)] [.int r1] (q_mm I L)
  refine g_istore_n K1 dX12_changed_6 rfl (by decide) rfl ?_
  refine g_iload_n K1 3 dX12_changed_7 rfl ?_
  obtain ⟨r2, hct, h⟩ := h
  refine h_callS K1 (st := []) [.int x2] (hct w (gl g)) ok_X12_longOf ml_X12_225 ⟨Nat.le_of_ble_eq_true rfl, Nat.le_of_ble_eq_true rfl⟩ (Nat.le_of_ble_eq_true rfl) dX12_changed_8 ?_
  show q_Gs w g 11 [(3, .int r1), (0, .ref 96), (1, .int x1), (2, .int x2)] [.int r2] (q_mm I L)
  refine g_istore K1 dX12_changed_11 (by decide) rfl ?_
  refine g_iload_n K1 1 dX12_changed_13 rfl ?_
  refine g_if_ne K1 19 dX12_changed_14 rfl (fun hc => ?_) (fun hc => ?_)
  · replace h := h.2 hc
    refine g_iload_n K1 1 dX12_changed_19 rfl ?_
    refine g_iconst K1 2 dX12_changed_20 rfl ?_
    refine g_icmp_ne K1 28 dX12_changed_21 rfl (fun hc => ?_) (fun hc => ?_)
    · replace h := h.2 hc
      refine g_iload_n K1 1 dX12_changed_28 rfl ?_
      refine g_iconst K1 3 dX12_changed_29 rfl ?_
      refine g_icmp_ne K1 55 dX12_changed_30 rfl (fun hc => ?_) (fun hc => ?_)
      · replace h := h.2 hc
        refine g_iconst K1 0 dX12_changed_55 rfl ?_
        refine g_istore K1 dX12_changed_56 (by decide) rfl ?_
        refine g_iconst K1 0 dX12_changed_58 rfl ?_
        refine g_istore K1 dX12_changed_59 (by decide) rfl ?_
        exact g_perm [4, 5, 6, 3, 2, 1, 0] rfl (h w g K)
      · replace h := h.1 hc
        refine g_iload K1 0 dX12_changed_33 rfl ?_
        refine g_bipush K1 6 dX12_changed_35 rfl ?_
        refine g_icmp_ne K1 44 dX12_changed_37 rfl (fun hc => ?_) (fun hc => ?_)
        · replace h := h.2 hc
          refine g_iconst K1 5 dX12_changed_44 rfl ?_
          refine g_iload_n K1 4 dX12_changed_45 rfl ?_
          refine g_imul K1 dX12_changed_46 ?_
          refine g_aload_n K1 2 dX12_changed_47 rfl ?_
          refine g_iload_n K1 3 dX12_changed_48 rfl ?_
          refine g_iconst K1 1 dX12_changed_49 rfl ?_
          obtain ⟨r3, hct, h⟩ := h
          refine h_callV K1 (st := [.int (5 * x2)]) [.int x1, .int 1] (hct w (gl g)) q_clX12 lyp_96 rfl ok_X12_ruleOf ml_X12_222 ⟨Nat.le_of_ble_eq_true rfl, Nat.le_of_ble_eq_true rfl⟩ (Nat.le_of_ble_eq_true rfl) dX12_changed_50 ?_
          show q_Gs w g 53 [(4, .int r2), (3, .int r1), (0, .ref 96), (1, .int x1), (2, .int x2)] [.int r3, .int (5 * x2)] (q_mm I L)
          refine g_iadd K1 dX12_changed_53 ?_
          obtain ⟨hr, hI, hL⟩ := h
          subst hr hI hL
          exact g_ireturn K rfl dX12_changed_54
        · replace h := h.1 hc
          refine g_iload_n K1 4 dX12_changed_40 rfl ?_
          refine g_goto K1 54 dX12_changed_41 rfl ?_
          obtain ⟨hr, hI, hL⟩ := h
          subst hr hI hL
          exact g_ireturn K rfl dX12_changed_54
    · replace h := h.1 hc
      refine g_iload_n K1 4 dX12_changed_24 rfl ?_
      refine g_iconst K1 5 dX12_changed_25 rfl ?_
      refine g_idiv K1 dX12_changed_26 (by decide) ?_
      obtain ⟨hr, hI, hL⟩ := h
      subst hr hI hL
      exact g_ireturn K rfl dX12_changed_27
  · replace h := h.1 hc
    refine g_iload_n K1 4 dX12_changed_17 rfl ?_
    obtain ⟨hr, hI, hL⟩ := h
    subst hr hI hL
    exact g_ireturn K rfl dX12_changed_18
set_option maxRecDepth 20000 in
set_option maxHeartbeats 2000000 in
theorem vc_X12_changed_61 {r : Option Value} {I' : Nat → Nat → Int32} {L' : Nat → Nat → Int64} {I : Nat → Nat → Int32} {L : Nat → Nat → Int64} {x1 : Int32} {x2 : Int32} {x3 : Int32} {x4 : Int32} {x5 : Int32} {x6 : Int32} (h : ((x4 ≤ x6 → (r = some (.int x5) ∧ I' = I ∧ L' = L)) ∧ (¬ x4 ≤ x6 → ((x3 = 1 → (v_X12_changed_86 r I' L' I L x1 x2 x3 x4 x5 x6 x2 ((x4 - 1) - x6))) ∧ (¬ x3 = 1 → (v_X12_changed_86 r I' L' I L x1 x2 x3 x4 x5 x6 x2 x6)))))) : v_X12_changed_61 r I' L' I L x1 x2 x3 x4 x5 x6 := by
  intro w g K
  have K1 := K.1
  refine g_iload K1 6 dX12_changed_61 rfl ?_
  refine g_iload K1 4 dX12_changed_63 rfl ?_
  refine g_icmp_ge K1 131 dX12_changed_65 rfl (fun hc => ?_) (fun hc => ?_)
  · replace h := h.1 hc
    refine g_iload K1 5 dX12_changed_131 rfl ?_
    obtain ⟨hr, hI, hL⟩ := h
    subst hr hI hL
    exact g_ireturn K rfl dX12_changed_133
  · replace h := h.2 hc
    refine g_iload_n K1 2 dX12_changed_68 rfl ?_
    refine g_iload_n K1 3 dX12_changed_69 rfl ?_
    refine g_iconst K1 1 dX12_changed_70 rfl ?_
    refine g_icmp_ne K1 84 dX12_changed_71 rfl (fun hc => ?_) (fun hc => ?_)
    · replace h := h.2 hc
      refine g_iload K1 6 dX12_changed_84 rfl ?_
      exact g_perm [0, 1, 2, 3, 4, 5, 6] rfl (h w g K)
    · replace h := h.1 hc
      refine g_iload K1 4 dX12_changed_74 rfl ?_
      refine g_iconst K1 1 dX12_changed_76 rfl ?_
      refine g_isub K1 dX12_changed_77 ?_
      refine g_iload K1 6 dX12_changed_78 rfl ?_
      refine g_isub K1 dX12_changed_80 ?_
      refine g_goto K1 86 dX12_changed_81 rfl ?_
      exact g_perm [0, 1, 2, 3, 4, 5, 6] rfl (h w g K)
set_option maxRecDepth 20000 in
set_option maxHeartbeats 2000000 in
theorem vc_X12_changed_86 {r : Option Value} {I' : Nat → Nat → Int32} {L' : Nat → Nat → Int64} {I : Nat → Nat → Int32} {L : Nat → Nat → Int64} {x1 : Int32} {x2 : Int32} {x3 : Int32} {x4 : Int32} {x5 : Int32} {x6 : Int32} {s0 : Int32} {s1 : Int32} (h : (∃ r1, q_C kX12_letterOf [.int s0, .int s1] I L (some (.int r1)) I L ∧ ((x3 = 4 → (∃ r2, q_C kX12_ruleOf [.ref 96, .int x1, .int 1] I L (some (.int r2)) I L ∧ ((r1 = r2 → (∃ r3, q_C kX12_ruleOf [.ref 96, .int x1, .int 2] I L (some (.int r3)) I L ∧ (v_X12_changed_61 r I' L' I L x1 x2 x3 x4 ((5 * x5) + r3) (x6 + 1)))) ∧ (¬ r1 = r2 → (v_X12_changed_61 r I' L' I L x1 x2 x3 x4 ((5 * x5) + r1) (x6 + 1)))))) ∧ (¬ x3 = 4 → (v_X12_changed_61 r I' L' I L x1 x2 x3 x4 ((5 * x5) + r1) (x6 + 1)))))) : v_X12_changed_86 r I' L' I L x1 x2 x3 x4 x5 x6 s0 s1 := by
  intro w g K
  have K1 := K.1
  obtain ⟨r1, hct, h⟩ := h
  refine h_callS K1 (st := []) [.int s0, .int s1] (hct w (gl g)) ok_X12_letterOf ml_X12_228 ⟨Nat.le_of_ble_eq_true rfl, Nat.le_of_ble_eq_true rfl⟩ (Nat.le_of_ble_eq_true rfl) dX12_changed_86 ?_
  show q_Gs w g 89 [(0, .ref 96), (1, .int x1), (2, .int x2), (3, .int x3), (4, .int x4), (5, .int x5), (6, .int x6)] [.int r1] (q_mm I L)
  refine g_istore K1 dX12_changed_89 (by decide) rfl ?_
  refine g_iconst K1 5 dX12_changed_91 rfl ?_
  refine g_iload K1 6 dX12_changed_92 rfl ?_
  refine g_imul K1 dX12_changed_94 ?_
  refine g_iload_n K1 4 dX12_changed_95 rfl ?_
  refine g_iconst K1 4 dX12_changed_96 rfl ?_
  refine g_icmp_ne K1 120 dX12_changed_97 rfl (fun hc => ?_) (fun hc => ?_)
  · replace h := h.2 hc
    refine g_iload K1 0 dX12_changed_120 rfl ?_
    refine g_iadd K1 dX12_changed_122 ?_
    refine g_istore K1 dX12_changed_123 (by decide) rfl ?_
    refine g_iinc K1 (x6 + 1) 7 dX12_changed_125 rfl rfl (by decide) rfl ?_
    refine g_goto K1 61 dX12_changed_128 rfl ?_
    exact g_perm [3, 4, 5, 6, 7, 1, 0] rfl (h w g K)
  · replace h := h.1 hc
    refine g_iload K1 0 dX12_changed_100 rfl ?_
    refine g_aload_n K1 1 dX12_changed_102 rfl ?_
    refine g_iload_n K1 2 dX12_changed_103 rfl ?_
    refine g_iconst K1 1 dX12_changed_104 rfl ?_
    obtain ⟨r2, hct, h⟩ := h
    refine h_callV K1 (st := [.int r1, .int (5 * x5)]) [.int x1, .int 1] (hct w (gl g)) q_clX12 lyp_96 rfl ok_X12_ruleOf ml_X12_222 ⟨Nat.le_of_ble_eq_true rfl, Nat.le_of_ble_eq_true rfl⟩ (Nat.le_of_ble_eq_true rfl) dX12_changed_105 ?_
    show q_Gs w g 108 [(7, .int r1), (0, .ref 96), (1, .int x1), (2, .int x2), (3, .int x3), (4, .int x4), (5, .int x5), (6, .int x6)] [.int r2, .int r1, .int (5 * x5)] (q_mm I L)
    refine g_icmp_ne K1 120 dX12_changed_108 rfl (fun hc => ?_) (fun hc => ?_)
    · replace h := h.2 hc
      refine g_iload K1 0 dX12_changed_120 rfl ?_
      refine g_iadd K1 dX12_changed_122 ?_
      refine g_istore K1 dX12_changed_123 (by decide) rfl ?_
      refine g_iinc K1 (x6 + 1) 7 dX12_changed_125 rfl rfl (by decide) rfl ?_
      refine g_goto K1 61 dX12_changed_128 rfl ?_
      exact g_perm [3, 4, 5, 6, 7, 1, 0] rfl (h w g K)
    · replace h := h.1 hc
      refine g_aload_n K1 1 dX12_changed_111 rfl ?_
      refine g_iload_n K1 2 dX12_changed_112 rfl ?_
      refine g_iconst K1 2 dX12_changed_113 rfl ?_
      obtain ⟨r3, hct, h⟩ := h
      refine h_callV K1 (st := [.int (5 * x5)]) [.int x1, .int 2] (hct w (gl g)) q_clX12 lyp_96 rfl ok_X12_ruleOf ml_X12_222 ⟨Nat.le_of_ble_eq_true rfl, Nat.le_of_ble_eq_true rfl⟩ (Nat.le_of_ble_eq_true rfl) dX12_changed_114 ?_
      show q_Gs w g 117 [(7, .int r1), (0, .ref 96), (1, .int x1), (2, .int x2), (3, .int x3), (4, .int x4), (5, .int x5), (6, .int x6)] [.int r3, .int (5 * x5)] (q_mm I L)
      refine g_goto K1 122 dX12_changed_117 rfl ?_
      refine g_iadd K1 dX12_changed_122 ?_
      refine g_istore K1 dX12_changed_123 (by decide) rfl ?_
      refine g_iinc K1 (x6 + 1) 7 dX12_changed_125 rfl rfl (by decide) rfl ?_
      refine g_goto K1 61 dX12_changed_128 rfl ?_
      exact g_perm [3, 4, 5, 6, 7, 1, 0] rfl (h w g K)
theorem c0_X12_changed {r : Option Value} {I I' : Nat → Nat → Int32} {L L' : Nat → Nat → Int64} {x1 : Int32} {x2 : Int32} (h : v_X12_changed_0 r I' L' I L x1 x2) : q_C kX12_changed [.ref 96, .int x1, .int x2] I L r I' L' := fun w l => q_ct (by decide) (Nat.le_of_ble_eq_true rfl) (Nat.le_refl _) (fun g _ K => h w g K)
abbrev v_X12_clipped_0 (r : Option Value) (I' : Nat → Nat → Int32) (L' : Nat → Nat → Int64) (I : Nat → Nat → Int32) (L : Nat → Nat → Int64) (x0 : Int64) (x2 : Int32) : Prop := q_W kX12_clipped 0 [(0, .long x0), (2, .int x2)] [] I L r I' L'
set_option maxRecDepth 20000 in
set_option maxHeartbeats 2000000 in
theorem vc_X12_clipped_0 {r : Option Value} {I' : Nat → Nat → Int32} {L' : Nat → Nat → Int64} {I : Nat → Nat → Int32} {L : Nat → Nat → Int64} {x0 : Int64} {x2 : Int32} (h : (r = some (.long ((x0 <<< (((64 - ((8 : Int32) <<< (x2 &&& 31))) : Int32).toInt64 &&& 63)) >>> (((64 - ((8 : Int32) <<< (x2 &&& 31))) : Int32).toInt64 &&& 63))) ∧ I' = I ∧ L' = L)) : v_X12_clipped_0 r I' L' I L x0 x2 := by
  intro w g K
  have K1 := K.1
  refine g_bipush K1 64 dX12_clipped_0 rfl ?_
  refine g_bipush K1 8 dX12_clipped_2 rfl ?_
  refine g_iload_n K1 1 dX12_clipped_4 rfl ?_
  refine g_ishl K1 dX12_clipped_5 ?_
  refine g_isub K1 dX12_clipped_6 ?_
  refine g_istore_n K1 dX12_clipped_7 rfl (by decide) rfl ?_
  refine g_lload_n K1 1 dX12_clipped_8 rfl ?_
  refine g_iload_n K1 0 dX12_clipped_9 rfl ?_
  refine g_lshl K1 dX12_clipped_10 ?_
  refine g_iload_n K1 0 dX12_clipped_11 rfl ?_
  refine g_lshr K1 dX12_clipped_12 ?_
  obtain ⟨hr, hI, hL⟩ := h
  subst hr hI hL
  exact g_lreturn K rfl dX12_clipped_13
theorem c0_X12_clipped {r : Option Value} {I I' : Nat → Nat → Int32} {L L' : Nat → Nat → Int64} {x0 : Int64} {x2 : Int32} (h : v_X12_clipped_0 r I' L' I L x0 x2) : q_C kX12_clipped [.long x0, .int x2] I L r I' L' := fun w l => q_ct (by decide) (Nat.le_of_ble_eq_true rfl) (Nat.le_refl _) (fun g _ K => h w g K)
abbrev v_X12_count_0 (r : Option Value) (I' : Nat → Nat → Int32) (L' : Nat → Nat → Int64) (I : Nat → Nat → Int32) (L : Nat → Nat → Int64) (x1 : Int32) : Prop := q_W kX12_count 0 [(0, .ref 96), (1, .int x1)] [] I L r I' L'
abbrev v_X12_count_42 (r : Option Value) (I' : Nat → Nat → Int32) (L' : Nat → Nat → Int64) (I : Nat → Nat → Int32) (L : Nat → Nat → Int64) (x2 : Int32) (x3 : Int32) : Prop := q_W kX12_count 42 [(0, .ref 96), (2, .int x2), (3, .int x3)] [] I L r I' L'
set_option maxRecDepth 20000 in
set_option maxHeartbeats 2000000 in
theorem vc_X12_count_0 {r : Option Value} {I' : Nat → Nat → Int32} {L' : Nat → Nat → Int64} {I : Nat → Nat → Int32} {L : Nat → Nat → Int64} {x1 : Int32} (h : (∃ r1, q_C kX12_in [.long x1.toInt64, .long 0, .long 8] I L (some (.int r1)) I L ∧ ((r1 = 0 → ((x1 = 9 → (r = some (.int (I 96 5)) ∧ I' = I ∧ L' = L)) ∧ (¬ x1 = 9 → ((x1 = 10 → (v_X12_count_42 r I' L' I L 0 0)) ∧ (¬ x1 = 10 → (r = some (.int (-1)) ∧ I' = I ∧ L' = L)))))) ∧ (¬ r1 = 0 → (vp_in x1 104 ∧ (r = some (.int (I 97 x1.toNatClampNeg)) ∧ I' = I ∧ L' = L)))))) : v_X12_count_0 r I' L' I L x1 := by
  intro w g K
  have K1 := K.1
  refine g_iload_n K1 1 dX12_count_0 rfl ?_
  refine g_i2l K1 dX12_count_1 ?_
  refine g_lconst K1 0 dX12_count_2 rfl ?_
  refine g_ldc2_w K1 8 dX12_count_3 cn_X12_487 ?_
  obtain ⟨r1, hct, h⟩ := h
  refine h_callS K1 (st := []) [.long x1.toInt64, .long 0, .long 8] (hct w (gl g)) ok_X12_in ml_X12_70 ⟨Nat.le_of_ble_eq_true rfl, Nat.le_of_ble_eq_true rfl⟩ (Nat.le_of_ble_eq_true rfl) dX12_count_6 ?_
  show q_Gs w g 9 [(0, .ref 96), (1, .int x1)] [.int r1] (q_mm I L)
  refine g_if_eq K1 19 dX12_count_9 rfl (fun hc => ?_) (fun hc => ?_)
  · replace h := h.1 hc
    refine g_iload_n K1 1 dX12_count_19 rfl ?_
    refine g_bipush K1 9 dX12_count_20 rfl ?_
    refine g_icmp_ne K1 30 dX12_count_22 rfl (fun hc => ?_) (fun hc => ?_)
    · replace h := h.2 hc
      refine g_iload_n K1 1 dX12_count_30 rfl ?_
      refine g_bipush K1 10 dX12_count_31 rfl ?_
      refine g_icmp_eq K1 38 dX12_count_33 rfl (fun hc => ?_) (fun hc => ?_)
      · replace h := h.1 hc
        refine g_iconst K1 0 dX12_count_38 rfl ?_
        refine g_istore_n K1 dX12_count_39 rfl (by decide) rfl ?_
        refine g_iconst K1 0 dX12_count_40 rfl ?_
        refine g_istore_n K1 dX12_count_41 rfl (by decide) rfl ?_
        exact g_perm [2, 1, 0] rfl (h w g K)
      · replace h := h.2 hc
        refine g_iconst K1 (-1) dX12_count_36 rfl ?_
        obtain ⟨hr, hI, hL⟩ := h
        subst hr hI hL
        exact g_ireturn K rfl dX12_count_37
    · replace h := h.1 hc
      refine g_aload_n K1 0 dX12_count_25 rfl ?_
      refine h_getI K1 q_clX12 5 lyp_96 fkX12_5 fl_X12_85 dX12_count_26 ?_
      obtain ⟨hr, hI, hL⟩ := h
      subst hr hI hL
      exact g_ireturn K rfl dX12_count_29
  · replace h := h.2 hc
    refine g_aload_n K1 0 dX12_count_12 rfl ?_
    refine h_getO K1 q_clX12 1 97 lyp_96 fkX12_1 rfl fl_X12_9 dX12_count_13 ?_
    refine g_iload_n K1 1 dX12_count_16 rfl ?_
    obtain ⟨hg, h⟩ := h
    refine h_iaload K1 lyp_97 hg dX12_count_17 ?_
    obtain ⟨hr, hI, hL⟩ := h
    subst hr hI hL
    exact g_ireturn K rfl dX12_count_18
set_option maxRecDepth 20000 in
set_option maxHeartbeats 2000000 in
theorem vc_X12_count_42 {r : Option Value} {I' : Nat → Nat → Int32} {L' : Nat → Nat → Int64} {I : Nat → Nat → Int32} {L : Nat → Nat → Int64} {x2 : Int32} {x3 : Int32} (h : ((4 ≤ x3 → (r = some (.int x2) ∧ I' = I ∧ L' = L)) ∧ (¬ 4 ≤ x3 → (vp_in x3 4 ∧ (((I 109 x3.toNatClampNeg) = (-1) → (v_X12_count_42 r I' L' I L (x2 + 0) (x3 + 1))) ∧ (¬ (I 109 x3.toNatClampNeg) = (-1) → (v_X12_count_42 r I' L' I L (x2 + 1) (x3 + 1)))))))) : v_X12_count_42 r I' L' I L x2 x3 := by
  intro w g K
  have K1 := K.1
  refine g_iload_n K1 2 dX12_count_42 rfl ?_
  refine g_iconst K1 4 dX12_count_43 rfl ?_
  refine g_icmp_ge K1 71 dX12_count_44 rfl (fun hc => ?_) (fun hc => ?_)
  · replace h := h.1 hc
    refine g_iload_n K1 1 dX12_count_71 rfl ?_
    obtain ⟨hr, hI, hL⟩ := h
    subst hr hI hL
    exact g_ireturn K rfl dX12_count_72
  · replace h := h.2 hc
    refine g_iload_n K1 1 dX12_count_47 rfl ?_
    refine g_aload_n K1 0 dX12_count_48 rfl ?_
    refine h_getO K1 q_clX12 37 109 lyp_96 fkX12_37 rfl fl_X12_52 dX12_count_49 ?_
    refine g_iload_n K1 2 dX12_count_52 rfl ?_
    obtain ⟨hg, h⟩ := h
    refine h_iaload K1 lyp_109 hg dX12_count_53 ?_
    refine g_iconst K1 (-1) dX12_count_54 rfl ?_
    refine g_icmp_ne K1 62 dX12_count_55 rfl (fun hc => ?_) (fun hc => ?_)
    · replace h := h.2 hc
      refine g_iconst K1 1 dX12_count_62 rfl ?_
      refine g_iadd K1 dX12_count_63 ?_
      refine g_istore_n K1 dX12_count_64 rfl (by decide) rfl ?_
      refine g_iinc K1 (x3 + 1) 2 dX12_count_65 rfl rfl (by decide) rfl ?_
      refine g_goto K1 42 dX12_count_68 rfl ?_
      exact g_perm [2, 1, 0] rfl (h w g K)
    · replace h := h.1 hc
      refine g_iconst K1 0 dX12_count_58 rfl ?_
      refine g_goto K1 63 dX12_count_59 rfl ?_
      refine g_iadd K1 dX12_count_63 ?_
      refine g_istore_n K1 dX12_count_64 rfl (by decide) rfl ?_
      refine g_iinc K1 (x3 + 1) 2 dX12_count_65 rfl rfl (by decide) rfl ?_
      refine g_goto K1 42 dX12_count_68 rfl ?_
      exact g_perm [2, 1, 0] rfl (h w g K)
theorem c0_X12_count {r : Option Value} {I I' : Nat → Nat → Int32} {L L' : Nat → Nat → Int64} {x1 : Int32} (h : v_X12_count_0 r I' L' I L x1) : q_C kX12_count [.ref 96, .int x1] I L r I' L' := fun w l => q_ct (by decide) (Nat.le_of_ble_eq_true rfl) (Nat.le_refl _) (fun g _ K => h w g K)
abbrev v_X12_dark_0 (r : Option Value) (I' : Nat → Nat → Int32) (L' : Nat → Nat → Int64) (I : Nat → Nat → Int32) (L : Nat → Nat → Int64)  : Prop := q_W kX12_dark 0 [(0, .ref 96)] [] I L r I' L'
abbrev v_X12_dark_14 (r : Option Value) (I' : Nat → Nat → Int32) (L' : Nat → Nat → Int64) (I : Nat → Nat → Int32) (L : Nat → Nat → Int64) (x1 : Int32) (x2 : Int32) : Prop := q_W kX12_dark 14 [(0, .ref 96), (1, .int x1), (2, .int x2)] [] I L r I' L'
set_option maxRecDepth 20000 in
set_option maxHeartbeats 2000000 in
theorem vc_X12_dark_0 {r : Option Value} {I' : Nat → Nat → Int32} {L' : Nat → Nat → Int64} {I : Nat → Nat → Int32} {L : Nat → Nat → Int64}  (h : (∃ r1 I2, q_C kX12_asksNight [.ref 96] I L (some (.int r1)) I2 L ∧ ((r1 = 0 → (r = some (.int (-2)) ∧ I' = I2 ∧ L' = L)) ∧ (¬ r1 = 0 → (v_X12_dark_14 r I' L' I2 L 0 0))))) : v_X12_dark_0 r I' L' I L  := by
  intro w g K
  have K1 := K.1
  refine g_aload_n K1 0 dX12_dark_0 rfl ?_
  obtain ⟨r1, I2, hct, h⟩ := h
  refine h_callV K1 (st := []) [] (hct w (gl g)) q_clX12 lyp_96 rfl ok_X12_asksNight ml_X12_303 ⟨Nat.le_of_ble_eq_true rfl, Nat.le_of_ble_eq_true rfl⟩ (Nat.le_of_ble_eq_true rfl) dX12_dark_1 ?_
  show q_Gs w g 4 [(0, .ref 96)] [.int r1] (q_mm I2 L)
  refine g_if_ne K1 10 dX12_dark_4 rfl (fun hc => ?_) (fun hc => ?_)
  · replace h := h.2 hc
    refine g_iconst K1 0 dX12_dark_10 rfl ?_
    refine g_istore_n K1 dX12_dark_11 rfl (by decide) rfl ?_
    refine g_iconst K1 0 dX12_dark_12 rfl ?_
    refine g_istore_n K1 dX12_dark_13 rfl (by decide) rfl ?_
    exact g_perm [2, 1, 0] rfl (h w g K)
  · replace h := h.1 hc
    refine g_bipush K1 (-2) dX12_dark_7 rfl ?_
    obtain ⟨hr, hI, hL⟩ := h
    subst hr hI hL
    exact g_ireturn K rfl dX12_dark_9
set_option maxRecDepth 20000 in
set_option maxHeartbeats 2000000 in
theorem vc_X12_dark_14 {r : Option Value} {I' : Nat → Nat → Int32} {L' : Nat → Nat → Int64} {I : Nat → Nat → Int32} {L : Nat → Nat → Int64} {x1 : Int32} {x2 : Int32} (h : (∃ r1, q_C kX12_hours [.ref 96] I L (some (.int r1)) I L ∧ ((r1 < x2 → (∃ r2, q_C kX12_allPews [.ref 96] I L (some (.int r2)) I L ∧ (r = some (.int (r2 &&& (x1 ^^^ (-1)))) ∧ I' = I ∧ L' = L))) ∧ (¬ r1 < x2 → (∃ r3, q_C kX12_litAt [.ref 96, .int x2] I L (some (.int r3)) I L ∧ (v_X12_dark_14 r I' L' I L (x1 ||| r3) (x2 + 1))))))) : v_X12_dark_14 r I' L' I L x1 x2 := by
  intro w g K
  have K1 := K.1
  refine g_iload_n K1 2 dX12_dark_14 rfl ?_
  refine g_aload_n K1 0 dX12_dark_15 rfl ?_
  obtain ⟨r1, hct, h⟩ := h
  refine h_callV K1 (st := [.int x2]) [] (hct w (gl g)) q_clX12 lyp_96 rfl ok_X12_hours ml_X12_82 ⟨Nat.le_of_ble_eq_true rfl, Nat.le_of_ble_eq_true rfl⟩ (Nat.le_of_ble_eq_true rfl) dX12_dark_16 ?_
  show q_Gs w g 19 [(0, .ref 96), (1, .int x1), (2, .int x2)] [.int r1, .int x2] (q_mm I L)
  refine g_icmp_gt K1 36 dX12_dark_19 rfl (fun hc => ?_) (fun hc => ?_)
  · replace h := h.1 hc
    refine g_aload_n K1 0 dX12_dark_36 rfl ?_
    obtain ⟨r2, hct, h⟩ := h
    refine h_callV K1 (st := []) [] (hct w (gl g)) q_clX12 lyp_96 rfl ok_X12_allPews ml_X12_325 ⟨Nat.le_of_ble_eq_true rfl, Nat.le_of_ble_eq_true rfl⟩ (Nat.le_of_ble_eq_true rfl) dX12_dark_37 ?_
    show q_Gs w g 40 [(0, .ref 96), (1, .int x1), (2, .int x2)] [.int r2] (q_mm I L)
    refine g_iload_n K1 1 dX12_dark_40 rfl ?_
    refine g_iconst K1 (-1) dX12_dark_41 rfl ?_
    refine g_ixor K1 dX12_dark_42 ?_
    refine g_iand K1 dX12_dark_43 ?_
    obtain ⟨hr, hI, hL⟩ := h
    subst hr hI hL
    exact g_ireturn K rfl dX12_dark_44
  · replace h := h.2 hc
    refine g_iload_n K1 1 dX12_dark_22 rfl ?_
    refine g_aload_n K1 0 dX12_dark_23 rfl ?_
    refine g_iload_n K1 2 dX12_dark_24 rfl ?_
    obtain ⟨r3, hct, h⟩ := h
    refine h_callV K1 (st := [.int x1]) [.int x2] (hct w (gl g)) q_clX12 lyp_96 rfl ok_X12_litAt ml_X12_309 ⟨Nat.le_of_ble_eq_true rfl, Nat.le_of_ble_eq_true rfl⟩ (Nat.le_of_ble_eq_true rfl) dX12_dark_25 ?_
    show q_Gs w g 28 [(0, .ref 96), (1, .int x1), (2, .int x2)] [.int r3, .int x1] (q_mm I L)
    refine g_ior K1 dX12_dark_28 ?_
    refine g_istore_n K1 dX12_dark_29 rfl (by decide) rfl ?_
    refine g_iinc K1 (x2 + 1) 2 dX12_dark_30 rfl rfl (by decide) rfl ?_
    refine g_goto K1 14 dX12_dark_33 rfl ?_
    exact g_perm [2, 1, 0] rfl (h w g K)
theorem c0_X12_dark {r : Option Value} {I I' : Nat → Nat → Int32} {L L' : Nat → Nat → Int64}  (h : v_X12_dark_0 r I' L' I L ) : q_C kX12_dark [.ref 96] I L r I' L' := fun w l => q_ct (by decide) (Nat.le_of_ble_eq_true rfl) (Nat.le_refl _) (fun g _ K => h w g K)
abbrev v_X12_deepest_0 (r : Option Value) (I' : Nat → Nat → Int32) (L' : Nat → Nat → Int64) (I : Nat → Nat → Int32) (L : Nat → Nat → Int64)  : Prop := q_W kX12_deepest 0 [(0, .ref 96)] [] I L r I' L'
abbrev v_X12_deepest_14 (r : Option Value) (I' : Nat → Nat → Int32) (L' : Nat → Nat → Int64) (I : Nat → Nat → Int32) (L : Nat → Nat → Int64) (x1 : Int32) (x2 : Int32) : Prop := q_W kX12_deepest 14 [(0, .ref 96), (1, .int x1), (2, .int x2)] [] I L r I' L'
abbrev v_X12_deepest_24 (r : Option Value) (I' : Nat → Nat → Int32) (L' : Nat → Nat → Int64) (I : Nat → Nat → Int32) (L : Nat → Nat → Int64) (x1 : Int32) (x2 : Int32) (x3 : Int32) : Prop := q_W kX12_deepest 24 [(0, .ref 96), (1, .int x1), (2, .int x2), (3, .int x3)] [] I L r I' L'
set_option maxRecDepth 20000 in
set_option maxHeartbeats 2000000 in
theorem vc_X12_deepest_0 {r : Option Value} {I' : Nat → Nat → Int32} {L' : Nat → Nat → Int64} {I : Nat → Nat → Int32} {L : Nat → Nat → Int64}  (h : (∃ r1 I2, q_C kX12_asksNight [.ref 96] I L (some (.int r1)) I2 L ∧ ((r1 = 0 → (r = some (.int (-2)) ∧ I' = I2 ∧ L' = L)) ∧ (¬ r1 = 0 → (v_X12_deepest_14 r I' L' I2 L (-1) 0))))) : v_X12_deepest_0 r I' L' I L  := by
  intro w g K
  have K1 := K.1
  refine g_aload_n K1 0 dX12_deepest_0 rfl ?_
  obtain ⟨r1, I2, hct, h⟩ := h
  refine h_callV K1 (st := []) [] (hct w (gl g)) q_clX12 lyp_96 rfl ok_X12_asksNight ml_X12_303 ⟨Nat.le_of_ble_eq_true rfl, Nat.le_of_ble_eq_true rfl⟩ (Nat.le_of_ble_eq_true rfl) dX12_deepest_1 ?_
  show q_Gs w g 4 [(0, .ref 96)] [.int r1] (q_mm I2 L)
  refine g_if_ne K1 10 dX12_deepest_4 rfl (fun hc => ?_) (fun hc => ?_)
  · replace h := h.2 hc
    refine g_iconst K1 (-1) dX12_deepest_10 rfl ?_
    refine g_istore_n K1 dX12_deepest_11 rfl (by decide) rfl ?_
    refine g_iconst K1 0 dX12_deepest_12 rfl ?_
    refine g_istore_n K1 dX12_deepest_13 rfl (by decide) rfl ?_
    exact g_perm [2, 1, 0] rfl (h w g K)
  · replace h := h.1 hc
    refine g_bipush K1 (-2) dX12_deepest_7 rfl ?_
    obtain ⟨hr, hI, hL⟩ := h
    subst hr hI hL
    exact g_ireturn K rfl dX12_deepest_9
set_option maxRecDepth 20000 in
set_option maxHeartbeats 2000000 in
theorem vc_X12_deepest_14 {r : Option Value} {I' : Nat → Nat → Int32} {L' : Nat → Nat → Int64} {I : Nat → Nat → Int32} {L : Nat → Nat → Int64} {x1 : Int32} {x2 : Int32} (h : (∃ r1, q_C kX12_hours [.ref 96] I L (some (.int r1)) I L ∧ ((r1 < x2 → (r = some (.int x1) ∧ I' = I ∧ L' = L)) ∧ (¬ r1 < x2 → (v_X12_deepest_24 r I' L' I L x1 x2 0))))) : v_X12_deepest_14 r I' L' I L x1 x2 := by
  intro w g K
  have K1 := K.1
  refine g_iload_n K1 2 dX12_deepest_14 rfl ?_
  refine g_aload_n K1 0 dX12_deepest_15 rfl ?_
  obtain ⟨r1, hct, h⟩ := h
  refine h_callV K1 (st := [.int x2]) [] (hct w (gl g)) q_clX12 lyp_96 rfl ok_X12_hours ml_X12_82 ⟨Nat.le_of_ble_eq_true rfl, Nat.le_of_ble_eq_true rfl⟩ (Nat.le_of_ble_eq_true rfl) dX12_deepest_16 ?_
  show q_Gs w g 19 [(0, .ref 96), (1, .int x1), (2, .int x2)] [.int r1, .int x2] (q_mm I L)
  refine g_icmp_gt K1 60 dX12_deepest_19 rfl (fun hc => ?_) (fun hc => ?_)
  · replace h := h.1 hc
    refine g_iload_n K1 1 dX12_deepest_60 rfl ?_
    obtain ⟨hr, hI, hL⟩ := h
    subst hr hI hL
    exact g_ireturn K rfl dX12_deepest_61
  · replace h := h.2 hc
    refine g_iconst K1 0 dX12_deepest_22 rfl ?_
    refine g_istore_n K1 dX12_deepest_23 rfl (by decide) rfl ?_
    exact g_perm [1, 2, 3, 0] rfl (h w g K)
set_option maxRecDepth 20000 in
set_option maxHeartbeats 2000000 in
theorem vc_X12_deepest_24 {r : Option Value} {I' : Nat → Nat → Int32} {L' : Nat → Nat → Int64} {I : Nat → Nat → Int32} {L : Nat → Nat → Int64} {x1 : Int32} {x2 : Int32} {x3 : Int32} (h : (∃ r1, q_C kX12_pews [.ref 96] I L (some (.int r1)) I L ∧ ((r1 ≤ x3 → (v_X12_deepest_14 r I' L' I L x1 (x2 + 1))) ∧ (¬ r1 ≤ x3 → (vp_in ((7 * x2) + x3) 91 ∧ ∀ z2 : Int32, z2 = (if x1 < (I 106 (((7 * x2) + x3) : Int32).toNatClampNeg) then (I 106 (((7 * x2) + x3) : Int32).toNatClampNeg) else x1) → (v_X12_deepest_24 r I' L' I L z2 x2 (x3 + 1))))))) : v_X12_deepest_24 r I' L' I L x1 x2 x3 := by
  intro w g K
  have K1 := K.1
  refine g_iload_n K1 3 dX12_deepest_24 rfl ?_
  refine g_aload_n K1 0 dX12_deepest_25 rfl ?_
  obtain ⟨r1, hct, h⟩ := h
  refine h_callV K1 (st := [.int x3]) [] (hct w (gl g)) q_clX12 lyp_96 rfl ok_X12_pews ml_X12_74 ⟨Nat.le_of_ble_eq_true rfl, Nat.le_of_ble_eq_true rfl⟩ (Nat.le_of_ble_eq_true rfl) dX12_deepest_26 ?_
  show q_Gs w g 29 [(0, .ref 96), (1, .int x1), (2, .int x2), (3, .int x3)] [.int r1, .int x3] (q_mm I L)
  refine g_icmp_ge K1 54 dX12_deepest_29 rfl (fun hc => ?_) (fun hc => ?_)
  · replace h := h.1 hc
    refine g_iinc K1 (x2 + 1) 2 dX12_deepest_54 rfl rfl (by decide) rfl ?_
    refine g_goto K1 14 dX12_deepest_57 rfl ?_
    exact g_perm [1, 2, 0] rfl (h w g K)
  · replace h := h.2 hc
    refine g_iload_n K1 1 dX12_deepest_32 rfl ?_
    refine g_aload_n K1 0 dX12_deepest_33 rfl ?_
    refine h_getO K1 q_clX12 27 106 lyp_96 fkX12_27 rfl fl_X12_43 dX12_deepest_34 ?_
    refine g_bipush K1 7 dX12_deepest_37 rfl ?_
    refine g_iload_n K1 2 dX12_deepest_39 rfl ?_
    refine g_imul K1 dX12_deepest_40 ?_
    refine g_iload_n K1 3 dX12_deepest_41 rfl ?_
    refine g_iadd K1 dX12_deepest_42 ?_
    obtain ⟨hg, h⟩ := h
    refine h_iaload K1 lyp_106 hg dX12_deepest_43 ?_
    refine h_mmax K1 (by exact Nat.le_of_ble_eq_true rfl) ⟨Nat.le_of_ble_eq_true rfl, Nat.le_of_ble_eq_true rfl⟩ ml_X12_340 dX12_deepest_44 ?_
    refine g_nameI (fun z2 hz2 => ?_)
    replace h := h z2 hz2
    refine g_istore_n K1 dX12_deepest_47 rfl (by decide) rfl ?_
    refine g_iinc K1 (x3 + 1) 3 dX12_deepest_48 rfl rfl (by decide) rfl ?_
    refine g_goto K1 24 dX12_deepest_51 rfl ?_
    exact g_perm [2, 1, 3, 0] rfl (h w g K)
theorem c0_X12_deepest {r : Option Value} {I I' : Nat → Nat → Int32} {L L' : Nat → Nat → Int64}  (h : v_X12_deepest_0 r I' L' I L ) : q_C kX12_deepest [.ref 96] I L r I' L' := fun w l => q_ct (by decide) (Nat.le_of_ble_eq_true rfl) (Nat.le_refl _) (fun g _ K => h w g K)
abbrev v_X12_depth_0 (r : Option Value) (I' : Nat → Nat → Int32) (L' : Nat → Nat → Int64) (I : Nat → Nat → Int32) (L : Nat → Nat → Int64) (x1 : Int32) (x2 : Int32) : Prop := q_W kX12_depth 0 [(0, .ref 96), (1, .int x1), (2, .int x2)] [] I L r I' L'
set_option maxRecDepth 20000 in
set_option maxHeartbeats 2000000 in
theorem vc_X12_depth_0 {r : Option Value} {I' : Nat → Nat → Int32} {L' : Nat → Nat → Int64} {I : Nat → Nat → Int32} {L : Nat → Nat → Int64} {x1 : Int32} {x2 : Int32} (h : (∃ r1 I2, q_C kX12_asksHour [.ref 96, .int x2] I L (some (.int r1)) I2 L ∧ ((r1 = 0 → (r = some (.int (-2)) ∧ I' = I2 ∧ L' = L)) ∧ (¬ r1 = 0 → (∃ r3, q_C kX12_isPew [.ref 96, .long x1.toInt64] I2 L (some (.int r3)) I2 L ∧ ((r3 = 0 → (r = some (.int (-2)) ∧ I' = I2 ∧ L' = L)) ∧ (¬ r3 = 0 → (vp_in ((7 * x2) + x1) 91 ∧ (r = some (.int (I2 106 (((7 * x2) + x1) : Int32).toNatClampNeg)) ∧ I' = I2 ∧ L' = L))))))))) : v_X12_depth_0 r I' L' I L x1 x2 := by
  intro w g K
  have K1 := K.1
  refine g_aload_n K1 0 dX12_depth_0 rfl ?_
  refine g_iload_n K1 2 dX12_depth_1 rfl ?_
  obtain ⟨r1, I2, hct, h⟩ := h
  refine h_callV K1 (st := []) [.int x2] (hct w (gl g)) q_clX12 lyp_96 rfl ok_X12_asksHour ml_X12_318 ⟨Nat.le_of_ble_eq_true rfl, Nat.le_of_ble_eq_true rfl⟩ (Nat.le_of_ble_eq_true rfl) dX12_depth_2 ?_
  show q_Gs w g 5 [(0, .ref 96), (1, .int x1), (2, .int x2)] [.int r1] (q_mm I2 L)
  refine g_if_eq K1 31 dX12_depth_5 rfl (fun hc => ?_) (fun hc => ?_)
  · replace h := h.1 hc
    refine g_bipush K1 (-2) dX12_depth_31 rfl ?_
    obtain ⟨hr, hI, hL⟩ := h
    subst hr hI hL
    exact g_ireturn K rfl dX12_depth_33
  · replace h := h.2 hc
    refine g_aload_n K1 0 dX12_depth_8 rfl ?_
    refine g_iload_n K1 1 dX12_depth_9 rfl ?_
    refine g_i2l K1 dX12_depth_10 ?_
    obtain ⟨r3, hct, h⟩ := h
    refine h_callV K1 (st := []) [.long x1.toInt64] (hct w (gl g)) q_clX12 lyp_96 rfl ok_X12_isPew ml_X12_218 ⟨Nat.le_of_ble_eq_true rfl, Nat.le_of_ble_eq_true rfl⟩ (Nat.le_of_ble_eq_true rfl) dX12_depth_11 ?_
    show q_Gs w g 14 [(0, .ref 96), (1, .int x1), (2, .int x2)] [.int r3] (q_mm I2 L)
    refine g_if_eq K1 31 dX12_depth_14 rfl (fun hc => ?_) (fun hc => ?_)
    · replace h := h.1 hc
      refine g_bipush K1 (-2) dX12_depth_31 rfl ?_
      obtain ⟨hr, hI, hL⟩ := h
      subst hr hI hL
      exact g_ireturn K rfl dX12_depth_33
    · replace h := h.2 hc
      refine g_aload_n K1 0 dX12_depth_17 rfl ?_
      refine h_getO K1 q_clX12 27 106 lyp_96 fkX12_27 rfl fl_X12_43 dX12_depth_18 ?_
      refine g_bipush K1 7 dX12_depth_21 rfl ?_
      refine g_iload_n K1 2 dX12_depth_23 rfl ?_
      refine g_imul K1 dX12_depth_24 ?_
      refine g_iload_n K1 1 dX12_depth_25 rfl ?_
      refine g_iadd K1 dX12_depth_26 ?_
      obtain ⟨hg, h⟩ := h
      refine h_iaload K1 lyp_106 hg dX12_depth_27 ?_
      refine g_goto K1 33 dX12_depth_28 rfl ?_
      obtain ⟨hr, hI, hL⟩ := h
      subst hr hI hL
      exact g_ireturn K rfl dX12_depth_33
theorem c0_X12_depth {r : Option Value} {I I' : Nat → Nat → Int32} {L L' : Nat → Nat → Int64} {x1 : Int32} {x2 : Int32} (h : v_X12_depth_0 r I' L' I L x1 x2) : q_C kX12_depth [.ref 96, .int x1, .int x2] I L r I' L' := fun w l => q_ct (by decide) (Nat.le_of_ble_eq_true rfl) (Nat.le_refl _) (fun g _ K => h w g K)
abbrev v_X12_divisor_0 (r : Option Value) (I' : Nat → Nat → Int32) (L' : Nat → Nat → Int64) (I : Nat → Nat → Int32) (L : Nat → Nat → Int64) (x0 : Int64) (x2 : Int64) : Prop := q_W kX12_divisor 0 [(0, .long x0), (2, .long x2)] [] I L r I' L'
abbrev v_X12_divisor_9 (r : Option Value) (I' : Nat → Nat → Int32) (L' : Nat → Nat → Int64) (I : Nat → Nat → Int32) (L : Nat → Nat → Int64) (x4 : Int64) (x6 : Int64) : Prop := q_W kX12_divisor 9 [(4, .long x4), (6, .long x6)] [] I L r I' L'
set_option maxRecDepth 20000 in
set_option maxHeartbeats 2000000 in
theorem vc_X12_divisor_0 {r : Option Value} {I' : Nat → Nat → Int32} {L' : Nat → Nat → Int64} {I : Nat → Nat → Int32} {L : Nat → Nat → Int64} {x0 : Int64} {x2 : Int64} (h : (v_X12_divisor_9 r I' L' I L (if 0 < x0 then x0 else -x0) x2)) : v_X12_divisor_0 r I' L' I L x0 x2 := by
  intro w g K
  have K1 := K.1
  refine g_lload_n K1 0 dX12_divisor_0 rfl ?_
  refine h_mabs K1 (by exact Nat.le_of_ble_eq_true rfl) ⟨Nat.le_of_ble_eq_true rfl, Nat.le_of_ble_eq_true rfl⟩ ml_X12_383 dX12_divisor_1 ?_
  refine g_lstore K1 dX12_divisor_4 (by decide) rfl ?_
  refine g_lload_n K1 2 dX12_divisor_6 rfl ?_
  refine g_lstore K1 dX12_divisor_7 (by decide) rfl ?_
  exact g_perm [1, 0] rfl (h w g K)
set_option maxRecDepth 20000 in
set_option maxHeartbeats 2000000 in
theorem vc_X12_divisor_9 {r : Option Value} {I' : Nat → Nat → Int32} {L' : Nat → Nat → Int64} {I : Nat → Nat → Int32} {L : Nat → Nat → Int64} {x4 : Int64} {x6 : Int64} (h : (((lg_cmp x6 0) = 0 → (r = some (.long x4) ∧ I' = I ∧ L' = L)) ∧ (¬ (lg_cmp x6 0) = 0 → (¬ x6 = 0 ∧ (v_X12_divisor_9 r I' L' I L x6 (x4 - x4 / x6 * x6)))))) : v_X12_divisor_9 r I' L' I L x4 x6 := by
  intro w g K
  have K1 := K.1
  refine g_lload K1 1 dX12_divisor_9 rfl ?_
  refine g_lconst K1 0 dX12_divisor_11 rfl ?_
  refine g_lcmp K1 dX12_divisor_12 ?_
  refine g_if_eq K1 34 dX12_divisor_13 rfl (fun hc => ?_) (fun hc => ?_)
  · replace h := h.1 hc
    refine g_lload K1 0 dX12_divisor_34 rfl ?_
    obtain ⟨hr, hI, hL⟩ := h
    subst hr hI hL
    exact g_lreturn K rfl dX12_divisor_36
  · replace h := h.2 hc
    refine g_lload K1 0 dX12_divisor_16 rfl ?_
    refine g_lload K1 1 dX12_divisor_18 rfl ?_
    obtain ⟨hg, h⟩ := h
    refine g_lrem K1 dX12_divisor_20 hg ?_
    refine g_lstore K1 dX12_divisor_21 (by decide) rfl ?_
    refine g_lload K1 2 dX12_divisor_23 rfl ?_
    refine g_lstore K1 dX12_divisor_25 (by decide) rfl ?_
    refine g_lload K1 1 dX12_divisor_27 rfl ?_
    refine g_lstore K1 dX12_divisor_29 (by decide) rfl ?_
    refine g_goto K1 9 dX12_divisor_31 rfl ?_
    exact g_perm [1, 0] rfl (h w g K)
theorem c0_X12_divisor {r : Option Value} {I I' : Nat → Nat → Int32} {L L' : Nat → Nat → Int64} {x0 : Int64} {x2 : Int64} (h : v_X12_divisor_0 r I' L' I L x0 x2) : q_C kX12_divisor [.long x0, .long x2] I L r I' L' := fun w l => q_ct (by decide) (Nat.le_of_ble_eq_true rfl) (Nat.le_refl _) (fun g _ K => h w g K)
abbrev v_X12_draught_0 (r : Option Value) (I' : Nat → Nat → Int32) (L' : Nat → Nat → Int64) (I : Nat → Nat → Int32) (L : Nat → Nat → Int64) (x1 : Int32) (x2 : Int32) : Prop := q_W kX12_draught 0 [(0, .ref 96), (1, .int x1), (2, .int x2)] [] I L r I' L'
set_option maxRecDepth 20000 in
set_option maxHeartbeats 2000000 in
theorem vc_X12_draught_0 {r : Option Value} {I' : Nat → Nat → Int32} {L' : Nat → Nat → Int64} {I : Nat → Nat → Int32} {L : Nat → Nat → Int64} {x1 : Int32} {x2 : Int32} (h : (∃ r1, q_C kX12_isPew [.ref 96, .long x1.toInt64] I L (some (.int r1)) I L ∧ ((r1 = 0 → (r = some (.int (-2)) ∧ I' = I ∧ L' = L)) ∧ (¬ r1 = 0 → (∃ r2, q_C kX12_isHour [.ref 96, .long x2.toInt64] I L (some (.int r2)) I L ∧ ((r2 = 0 → (r = some (.int (-2)) ∧ I' = I ∧ L' = L)) ∧ (¬ r2 = 0 → (∃ r3 I4, q_C kX12_keepAct [.ref 96, .int ((100 * x1) + x2)] I L (some (.int r3)) I4 L ∧ (r = some (.int r3) ∧ I' = I4 ∧ L' = L))))))))) : v_X12_draught_0 r I' L' I L x1 x2 := by
  intro w g K
  have K1 := K.1
  refine g_aload_n K1 0 dX12_draught_0 rfl ?_
  refine g_iload_n K1 1 dX12_draught_1 rfl ?_
  refine g_i2l K1 dX12_draught_2 ?_
  obtain ⟨r1, hct, h⟩ := h
  refine h_callV K1 (st := []) [.long x1.toInt64] (hct w (gl g)) q_clX12 lyp_96 rfl ok_X12_isPew ml_X12_218 ⟨Nat.le_of_ble_eq_true rfl, Nat.le_of_ble_eq_true rfl⟩ (Nat.le_of_ble_eq_true rfl) dX12_draught_3 ?_
  show q_Gs w g 6 [(0, .ref 96), (1, .int x1), (2, .int x2)] [.int r1] (q_mm I L)
  refine g_if_eq K1 31 dX12_draught_6 rfl (fun hc => ?_) (fun hc => ?_)
  · replace h := h.1 hc
    refine g_bipush K1 (-2) dX12_draught_31 rfl ?_
    obtain ⟨hr, hI, hL⟩ := h
    subst hr hI hL
    exact g_ireturn K rfl dX12_draught_33
  · replace h := h.2 hc
    refine g_aload_n K1 0 dX12_draught_9 rfl ?_
    refine g_iload_n K1 2 dX12_draught_10 rfl ?_
    refine g_i2l K1 dX12_draught_11 ?_
    obtain ⟨r2, hct, h⟩ := h
    refine h_callV K1 (st := []) [.long x2.toInt64] (hct w (gl g)) q_clX12 lyp_96 rfl ok_X12_isHour ml_X12_306 ⟨Nat.le_of_ble_eq_true rfl, Nat.le_of_ble_eq_true rfl⟩ (Nat.le_of_ble_eq_true rfl) dX12_draught_12 ?_
    show q_Gs w g 15 [(0, .ref 96), (1, .int x1), (2, .int x2)] [.int r2] (q_mm I L)
    refine g_if_eq K1 31 dX12_draught_15 rfl (fun hc => ?_) (fun hc => ?_)
    · replace h := h.1 hc
      refine g_bipush K1 (-2) dX12_draught_31 rfl ?_
      obtain ⟨hr, hI, hL⟩ := h
      subst hr hI hL
      exact g_ireturn K rfl dX12_draught_33
    · replace h := h.2 hc
      refine g_aload_n K1 0 dX12_draught_18 rfl ?_
      refine g_bipush K1 100 dX12_draught_19 rfl ?_
      refine g_iload_n K1 1 dX12_draught_21 rfl ?_
      refine g_imul K1 dX12_draught_22 ?_
      refine g_iload_n K1 2 dX12_draught_23 rfl ?_
      refine g_iadd K1 dX12_draught_24 ?_
      obtain ⟨r3, I4, hct, h⟩ := h
      refine h_callV K1 (st := []) [.int ((100 * x1) + x2)] (hct w (gl g)) q_clX12 lyp_96 rfl ok_X12_keepAct ml_X12_463 ⟨Nat.le_of_ble_eq_true rfl, Nat.le_of_ble_eq_true rfl⟩ (Nat.le_of_ble_eq_true rfl) dX12_draught_25 ?_
      show q_Gs w g 28 [(0, .ref 96), (1, .int x1), (2, .int x2)] [.int r3] (q_mm I4 L)
      refine g_goto K1 33 dX12_draught_28 rfl ?_
      obtain ⟨hr, hI, hL⟩ := h
      subst hr hI hL
      exact g_ireturn K rfl dX12_draught_33
theorem c0_X12_draught {r : Option Value} {I I' : Nat → Nat → Int32} {L L' : Nat → Nat → Int64} {x1 : Int32} {x2 : Int32} (h : v_X12_draught_0 r I' L' I L x1 x2) : q_C kX12_draught [.ref 96, .int x1, .int x2] I L r I' L' := fun w l => q_ct (by decide) (Nat.le_of_ble_eq_true rfl) (Nat.le_refl _) (fun g _ K => h w g K)
abbrev v_X12_drawn_0 (r : Option Value) (I' : Nat → Nat → Int32) (L' : Nat → Nat → Int64) (I : Nat → Nat → Int32) (L : Nat → Nat → Int64) (x1 : Int32) (x2 : Int32) : Prop := q_W kX12_drawn 0 [(0, .ref 96), (1, .int x1), (2, .int x2)] [] I L r I' L'
set_option maxRecDepth 20000 in
set_option maxHeartbeats 2000000 in
theorem vc_X12_drawn_0 {r : Option Value} {I' : Nat → Nat → Int32} {L' : Nat → Nat → Int64} {I : Nat → Nat → Int32} {L : Nat → Nat → Int64} {x1 : Int32} {x2 : Int32} (h : (∃ r1, q_C kX12_isNight [.ref 96] I L (some (.int r1)) I L ∧ ((r1 = 0 → (r = some (.int (-2)) ∧ I' = I ∧ L' = L)) ∧ (¬ r1 = 0 → (∃ r2, q_C kX12_isSeed [.int x1] I L (some (.int r2)) I L ∧ ((r2 = 0 → (r = some (.int (-2)) ∧ I' = I ∧ L' = L)) ∧ (¬ r2 = 0 → (∃ r3, q_C kX12_in [.long x2.toInt64, .long 0, .long 1] I L (some (.int r3)) I L ∧ ((r3 = 0 → (r = some (.int (-2)) ∧ I' = I ∧ L' = L)) ∧ (¬ r3 = 0 → (∃ I4, q_C kX12_goDrawn [.ref 96, .long x1.toInt64] I L none I4 L ∧ ((x2 = 0 → (r = some (.int (I4 96 17)) ∧ I' = I4 ∧ L' = L)) ∧ (¬ x2 = 0 → (∃ r5, q_C kX12_litLast [.ref 96] I4 L (some (.int r5)) I4 L ∧ (r = some (.int r5) ∧ I' = I4 ∧ L' = L))))))))))))))) : v_X12_drawn_0 r I' L' I L x1 x2 := by
  intro w g K
  have K1 := K.1
  refine g_aload_n K1 0 dX12_drawn_0 rfl ?_
  obtain ⟨r1, hct, h⟩ := h
  refine h_callV K1 (st := []) [] (hct w (gl g)) q_clX12 lyp_96 rfl ok_X12_isNight ml_X12_78 ⟨Nat.le_of_ble_eq_true rfl, Nat.le_of_ble_eq_true rfl⟩ (Nat.le_of_ble_eq_true rfl) dX12_drawn_1 ?_
  show q_Gs w g 4 [(0, .ref 96), (1, .int x1), (2, .int x2)] [.int r1] (q_mm I L)
  refine g_if_eq K1 24 dX12_drawn_4 rfl (fun hc => ?_) (fun hc => ?_)
  · replace h := h.1 hc
    refine g_bipush K1 (-2) dX12_drawn_24 rfl ?_
    obtain ⟨hr, hI, hL⟩ := h
    subst hr hI hL
    exact g_ireturn K rfl dX12_drawn_26
  · replace h := h.2 hc
    refine g_iload_n K1 1 dX12_drawn_7 rfl ?_
    obtain ⟨r2, hct, h⟩ := h
    refine h_callS K1 (st := []) [.int x1] (hct w (gl g)) ok_X12_isSeed ml_X12_478 ⟨Nat.le_of_ble_eq_true rfl, Nat.le_of_ble_eq_true rfl⟩ (Nat.le_of_ble_eq_true rfl) dX12_drawn_8 ?_
    show q_Gs w g 11 [(0, .ref 96), (1, .int x1), (2, .int x2)] [.int r2] (q_mm I L)
    refine g_if_eq K1 24 dX12_drawn_11 rfl (fun hc => ?_) (fun hc => ?_)
    · replace h := h.1 hc
      refine g_bipush K1 (-2) dX12_drawn_24 rfl ?_
      obtain ⟨hr, hI, hL⟩ := h
      subst hr hI hL
      exact g_ireturn K rfl dX12_drawn_26
    · replace h := h.2 hc
      refine g_iload_n K1 2 dX12_drawn_14 rfl ?_
      refine g_i2l K1 dX12_drawn_15 ?_
      refine g_lconst K1 0 dX12_drawn_16 rfl ?_
      refine g_lconst K1 1 dX12_drawn_17 rfl ?_
      obtain ⟨r3, hct, h⟩ := h
      refine h_callS K1 (st := []) [.long x2.toInt64, .long 0, .long 1] (hct w (gl g)) ok_X12_in ml_X12_70 ⟨Nat.le_of_ble_eq_true rfl, Nat.le_of_ble_eq_true rfl⟩ (Nat.le_of_ble_eq_true rfl) dX12_drawn_18 ?_
      show q_Gs w g 21 [(0, .ref 96), (1, .int x1), (2, .int x2)] [.int r3] (q_mm I L)
      refine g_if_ne K1 27 dX12_drawn_21 rfl (fun hc => ?_) (fun hc => ?_)
      · replace h := h.2 hc
        refine g_aload_n K1 0 dX12_drawn_27 rfl ?_
        refine g_iload_n K1 1 dX12_drawn_28 rfl ?_
        refine g_i2l K1 dX12_drawn_29 ?_
        obtain ⟨I4, hct, h⟩ := h
        refine h_callV K1 (st := []) [.long x1.toInt64] (hct w (gl g)) q_clX12 lyp_96 rfl ok_X12_goDrawn ml_X12_481 ⟨Nat.le_of_ble_eq_true rfl, Nat.le_of_ble_eq_true rfl⟩ (Nat.le_of_ble_eq_true rfl) dX12_drawn_30 ?_
        show q_Gs w g 33 [(0, .ref 96), (1, .int x1), (2, .int x2)] [] (q_mm I4 L)
        refine g_iload_n K1 2 dX12_drawn_33 rfl ?_
        refine g_if_ne K1 44 dX12_drawn_34 rfl (fun hc => ?_) (fun hc => ?_)
        · replace h := h.2 hc
          refine g_aload_n K1 0 dX12_drawn_44 rfl ?_
          obtain ⟨r5, hct, h⟩ := h
          refine h_callV K1 (st := []) [] (hct w (gl g)) q_clX12 lyp_96 rfl ok_X12_litLast ml_X12_312 ⟨Nat.le_of_ble_eq_true rfl, Nat.le_of_ble_eq_true rfl⟩ (Nat.le_of_ble_eq_true rfl) dX12_drawn_45 ?_
          show q_Gs w g 48 [(0, .ref 96), (1, .int x1), (2, .int x2)] [.int r5] (q_mm I4 L)
          obtain ⟨hr, hI, hL⟩ := h
          subst hr hI hL
          exact g_ireturn K rfl dX12_drawn_48
        · replace h := h.1 hc
          refine g_aload_n K1 0 dX12_drawn_37 rfl ?_
          refine h_getI K1 q_clX12 17 lyp_96 fkX12_17 fl_X12_246 dX12_drawn_38 ?_
          refine g_goto K1 48 dX12_drawn_41 rfl ?_
          obtain ⟨hr, hI, hL⟩ := h
          subst hr hI hL
          exact g_ireturn K rfl dX12_drawn_48
      · replace h := h.1 hc
        refine g_bipush K1 (-2) dX12_drawn_24 rfl ?_
        obtain ⟨hr, hI, hL⟩ := h
        subst hr hI hL
        exact g_ireturn K rfl dX12_drawn_26
theorem c0_X12_drawn {r : Option Value} {I I' : Nat → Nat → Int32} {L L' : Nat → Nat → Int64} {x1 : Int32} {x2 : Int32} (h : v_X12_drawn_0 r I' L' I L x1 x2) : q_C kX12_drawn [.ref 96, .int x1, .int x2] I L r I' L' := fun w l => q_ct (by decide) (Nat.le_of_ble_eq_true rfl) (Nat.le_refl _) (fun g _ K => h w g K)
abbrev v_X12_end_0 (r : Option Value) (I' : Nat → Nat → Int32) (L' : Nat → Nat → Int64) (I : Nat → Nat → Int32) (L : Nat → Nat → Int64) (x1 : Int32) : Prop := q_W kX12_end 0 [(0, .ref 96), (1, .int x1)] [] I L r I' L'
set_option maxRecDepth 20000 in
set_option maxHeartbeats 2000000 in
theorem vc_X12_end_0 {r : Option Value} {I' : Nat → Nat → Int32} {L' : Nat → Nat → Int64} {I : Nat → Nat → Int32} {L : Nat → Nat → Int64} {x1 : Int32} (h : (∃ r1, q_C kX12_in [.long x1.toInt64, .long 0, .long ((I 96 5) : Int32).toInt64] I L (some (.int r1)) I L ∧ ((r1 = 0 → (r = some (.int (-1)) ∧ I' = I ∧ L' = L)) ∧ (¬ r1 = 0 → (r = some (.int x1) ∧ I' = (up2 I 96 5 x1) ∧ L' = L))))) : v_X12_end_0 r I' L' I L x1 := by
  intro w g K
  have K1 := K.1
  refine g_iload_n K1 1 dX12_end_0 rfl ?_
  refine g_i2l K1 dX12_end_1 ?_
  refine g_lconst K1 0 dX12_end_2 rfl ?_
  refine g_aload_n K1 0 dX12_end_3 rfl ?_
  refine h_getI K1 q_clX12 5 lyp_96 fkX12_5 fl_X12_85 dX12_end_4 ?_
  refine g_i2l K1 dX12_end_7 ?_
  obtain ⟨r1, hct, h⟩ := h
  refine h_callS K1 (st := []) [.long x1.toInt64, .long 0, .long ((I 96 5) : Int32).toInt64] (hct w (gl g)) ok_X12_in ml_X12_70 ⟨Nat.le_of_ble_eq_true rfl, Nat.le_of_ble_eq_true rfl⟩ (Nat.le_of_ble_eq_true rfl) dX12_end_8 ?_
  show q_Gs w g 11 [(0, .ref 96), (1, .int x1)] [.int r1] (q_mm I L)
  refine g_if_ne K1 16 dX12_end_11 rfl (fun hc => ?_) (fun hc => ?_)
  · replace h := h.2 hc
    refine g_aload_n K1 0 dX12_end_16 rfl ?_
    refine g_iload_n K1 1 dX12_end_17 rfl ?_
    refine h_putI K1 q_clX12 5 lyp_96 fkX12_5 fl_X12_85 rfl rfl rfl dX12_end_18 ?_
    refine g_iload_n K1 1 dX12_end_21 rfl ?_
    obtain ⟨hr, hI, hL⟩ := h
    subst hr hI hL
    exact g_ireturn K rfl dX12_end_22
  · replace h := h.1 hc
    refine g_iconst K1 (-1) dX12_end_14 rfl ?_
    obtain ⟨hr, hI, hL⟩ := h
    subst hr hI hL
    exact g_ireturn K rfl dX12_end_15
theorem c0_X12_end {r : Option Value} {I I' : Nat → Nat → Int32} {L L' : Nat → Nat → Int64} {x1 : Int32} (h : v_X12_end_0 r I' L' I L x1) : q_C kX12_end [.ref 96, .int x1] I L r I' L' := fun w l => q_ct (by decide) (Nat.le_of_ble_eq_true rfl) (Nat.le_refl _) (fun g _ K => h w g K)
abbrev v_X12_errs_0 (r : Option Value) (I' : Nat → Nat → Int32) (L' : Nat → Nat → Int64) (I : Nat → Nat → Int32) (L : Nat → Nat → Int64) (x1 : Int32) : Prop := q_W kX12_errs 0 [(0, .ref 96), (1, .int x1)] [] I L r I' L'
set_option maxRecDepth 20000 in
set_option maxHeartbeats 2000000 in
theorem vc_X12_errs_0 {r : Option Value} {I' : Nat → Nat → Int32} {L' : Nat → Nat → Int64} {I : Nat → Nat → Int32} {L : Nat → Nat → Int64} {x1 : Int32} (h : (∃ r1, q_C kX12_good [.ref 96] I L (some (.int r1)) I L ∧ ((r1 = 0 → (r = none ∧ I' = I ∧ L' = L)) ∧ (¬ r1 = 0 → (r = none ∧ I' = (up2 (up2 I 96 12 x1) 96 13 ((up2 I 96 12 x1) 96 9)) ∧ L' = L))))) : v_X12_errs_0 r I' L' I L x1 := by
  intro w g K
  have K1 := K.1
  refine g_aload_n K1 0 dX12_errs_0 rfl ?_
  obtain ⟨r1, hct, h⟩ := h
  refine h_callV K1 (st := []) [] (hct w (gl g)) q_clX12 lyp_96 rfl ok_X12_good ml_X12_125 ⟨Nat.le_of_ble_eq_true rfl, Nat.le_of_ble_eq_true rfl⟩ (Nat.le_of_ble_eq_true rfl) dX12_errs_1 ?_
  show q_Gs w g 4 [(0, .ref 96), (1, .int x1)] [.int r1] (q_mm I L)
  refine g_if_ne K1 8 dX12_errs_4 rfl (fun hc => ?_) (fun hc => ?_)
  · replace h := h.2 hc
    refine g_aload_n K1 0 dX12_errs_8 rfl ?_
    refine g_iload_n K1 1 dX12_errs_9 rfl ?_
    refine h_putI K1 q_clX12 12 lyp_96 fkX12_12 fl_X12_122 rfl rfl rfl dX12_errs_10 ?_
    refine g_aload_n K1 0 dX12_errs_13 rfl ?_
    refine g_aload_n K1 0 dX12_errs_14 rfl ?_
    refine h_getI K1 q_clX12 9 lyp_96 fkX12_9 fl_X12_98 dX12_errs_15 ?_
    refine h_putI K1 q_clX12 13 lyp_96 fkX12_13 fl_X12_27 rfl rfl rfl dX12_errs_18 ?_
    obtain ⟨hr, hI, hL⟩ := h
    subst hr hI hL
    exact g_vreturn K rfl dX12_errs_21
  · replace h := h.1 hc
    obtain ⟨hr, hI, hL⟩ := h
    subst hr hI hL
    exact g_vreturn K rfl dX12_errs_7
theorem c0_X12_errs {r : Option Value} {I I' : Nat → Nat → Int32} {L L' : Nat → Nat → Int64} {x1 : Int32} (h : v_X12_errs_0 r I' L' I L x1) : q_C kX12_errs [.ref 96, .int x1] I L r I' L' := fun w l => q_ct (by decide) (Nat.le_of_ble_eq_true rfl) (Nat.le_refl _) (fun g _ K => h w g K)
abbrev v_X12_expects_0 (r : Option Value) (I' : Nat → Nat → Int32) (L' : Nat → Nat → Int64) (I : Nat → Nat → Int32) (L : Nat → Nat → Int64) (x1 : Nat) : Prop := q_W kX12_expects 0 [(0, .ref 96), (1, .ref x1)] [] I L r I' L'
set_option maxRecDepth 20000 in
set_option maxHeartbeats 2000000 in
theorem vc_X12_expects_0 {r : Option Value} {I' : Nat → Nat → Int32} {L' : Nat → Nat → Int64} {I : Nat → Nat → Int32} {L : Nat → Nat → Int64} {x1 : Nat} (h : (∃ r1 I2, q_C kX12_takes [.ref 96, .ref x1] I L (some (.int r1)) I2 L ∧ ((r1 = 0 → (∃ I3, q_C kX12_errs [.ref 96, .int 1] I2 L none I3 L ∧ (r = none ∧ I' = I3 ∧ L' = L))) ∧ (¬ r1 = 0 → (r = none ∧ I' = I2 ∧ L' = L))))) : v_X12_expects_0 r I' L' I L x1 := by
  intro w g K
  have K1 := K.1
  refine g_aload_n K1 0 dX12_expects_0 rfl ?_
  refine g_aload_n K1 1 dX12_expects_1 rfl ?_
  obtain ⟨r1, I2, hct, h⟩ := h
  refine h_callV K1 (st := []) [.ref x1] (hct w (gl g)) q_clX12 lyp_96 rfl ok_X12_takes ml_X12_144 ⟨Nat.le_of_ble_eq_true rfl, Nat.le_of_ble_eq_true rfl⟩ (Nat.le_of_ble_eq_true rfl) dX12_expects_2 ?_
  show q_Gs w g 5 [(0, .ref 96), (1, .ref x1)] [.int r1] (q_mm I2 L)
  refine g_if_ne K1 13 dX12_expects_5 rfl (fun hc => ?_) (fun hc => ?_)
  · replace h := h.2 hc
    obtain ⟨hr, hI, hL⟩ := h
    subst hr hI hL
    exact g_vreturn K rfl dX12_expects_13
  · replace h := h.1 hc
    refine g_aload_n K1 0 dX12_expects_8 rfl ?_
    refine g_iconst K1 1 dX12_expects_9 rfl ?_
    obtain ⟨I3, hct, h⟩ := h
    refine h_callV K1 (st := []) [.int 1] (hct w (gl g)) q_clX12 lyp_96 rfl ok_X12_errs ml_X12_147 ⟨Nat.le_of_ble_eq_true rfl, Nat.le_of_ble_eq_true rfl⟩ (Nat.le_of_ble_eq_true rfl) dX12_expects_10 ?_
    show q_Gs w g 13 [(0, .ref 96), (1, .ref x1)] [] (q_mm I3 L)
    obtain ⟨hr, hI, hL⟩ := h
    subst hr hI hL
    exact g_vreturn K rfl dX12_expects_13
theorem c0_X12_expects {r : Option Value} {I I' : Nat → Nat → Int32} {L L' : Nat → Nat → Int64} {x1 : Nat} (h : v_X12_expects_0 r I' L' I L x1) : q_C kX12_expects [.ref 96, .ref x1] I L r I' L' := fun w l => q_ct (by decide) (Nat.le_of_ble_eq_true rfl) (Nat.le_refl _) (fun g _ K => h w g K)
abbrev v_X12_factorial_0 (r : Option Value) (I' : Nat → Nat → Int32) (L' : Nat → Nat → Int64) (I : Nat → Nat → Int32) (L : Nat → Nat → Int64) (x0 : Int32) : Prop := q_W kX12_factorial 0 [(0, .int x0)] [] I L r I' L'
abbrev v_X12_factorial_4 (r : Option Value) (I' : Nat → Nat → Int32) (L' : Nat → Nat → Int64) (I : Nat → Nat → Int32) (L : Nat → Nat → Int64) (x0 : Int32) (x1 : Int32) (x2 : Int32) : Prop := q_W kX12_factorial 4 [(0, .int x0), (1, .int x1), (2, .int x2)] [] I L r I' L'
set_option maxRecDepth 20000 in
set_option maxHeartbeats 2000000 in
theorem vc_X12_factorial_0 {r : Option Value} {I' : Nat → Nat → Int32} {L' : Nat → Nat → Int64} {I : Nat → Nat → Int32} {L : Nat → Nat → Int64} {x0 : Int32} (h : (v_X12_factorial_4 r I' L' I L x0 1 2)) : v_X12_factorial_0 r I' L' I L x0 := by
  intro w g K
  have K1 := K.1
  refine g_iconst K1 1 dX12_factorial_0 rfl ?_
  refine g_istore_n K1 dX12_factorial_1 rfl (by decide) rfl ?_
  refine g_iconst K1 2 dX12_factorial_2 rfl ?_
  refine g_istore_n K1 dX12_factorial_3 rfl (by decide) rfl ?_
  exact g_perm [2, 1, 0] rfl (h w g K)
set_option maxRecDepth 20000 in
set_option maxHeartbeats 2000000 in
theorem vc_X12_factorial_4 {r : Option Value} {I' : Nat → Nat → Int32} {L' : Nat → Nat → Int64} {I : Nat → Nat → Int32} {L : Nat → Nat → Int64} {x0 : Int32} {x1 : Int32} {x2 : Int32} (h : ((x0 < x2 → (r = some (.int x1) ∧ I' = I ∧ L' = L)) ∧ (¬ x0 < x2 → (v_X12_factorial_4 r I' L' I L x0 (x1 * x2) (x2 + 1))))) : v_X12_factorial_4 r I' L' I L x0 x1 x2 := by
  intro w g K
  have K1 := K.1
  refine g_iload_n K1 2 dX12_factorial_4 rfl ?_
  refine g_iload_n K1 0 dX12_factorial_5 rfl ?_
  refine g_icmp_gt K1 19 dX12_factorial_6 rfl (fun hc => ?_) (fun hc => ?_)
  · replace h := h.1 hc
    refine g_iload_n K1 1 dX12_factorial_19 rfl ?_
    obtain ⟨hr, hI, hL⟩ := h
    subst hr hI hL
    exact g_ireturn K rfl dX12_factorial_20
  · replace h := h.2 hc
    refine g_iload_n K1 1 dX12_factorial_9 rfl ?_
    refine g_iload_n K1 2 dX12_factorial_10 rfl ?_
    refine g_imul K1 dX12_factorial_11 ?_
    refine g_istore_n K1 dX12_factorial_12 rfl (by decide) rfl ?_
    refine g_iinc K1 (x2 + 1) 2 dX12_factorial_13 rfl rfl (by decide) rfl ?_
    refine g_goto K1 4 dX12_factorial_16 rfl ?_
    exact g_perm [2, 1, 0] rfl (h w g K)
theorem c0_X12_factorial {r : Option Value} {I I' : Nat → Nat → Int32} {L L' : Nat → Nat → Int64} {x0 : Int32} (h : v_X12_factorial_0 r I' L' I L x0) : q_C kX12_factorial [.int x0] I L r I' L' := fun w l => q_ct (by decide) (Nat.le_of_ble_eq_true rfl) (Nat.le_refl _) (fun g _ K => h w g K)
abbrev v_X12_far_0 (r : Option Value) (I' : Nat → Nat → Int32) (L' : Nat → Nat → Int64) (I : Nat → Nat → Int32) (L : Nat → Nat → Int64) (x1 : Int32) (x2 : Int32) : Prop := q_W kX12_far 0 [(0, .ref 96), (1, .int x1), (2, .int x2)] [] I L r I' L'
abbrev v_X12_far_33 (r : Option Value) (I' : Nat → Nat → Int32) (L' : Nat → Nat → Int64) (I : Nat → Nat → Int32) (L : Nat → Nat → Int64) (x2 : Int32) (x3 : Int32) (x4 : Int32) : Prop := q_W kX12_far 33 [(0, .ref 96), (2, .int x2), (3, .int x3), (4, .int x4)] [] I L r I' L'
abbrev v_X12_far_58 (r : Option Value) (I' : Nat → Nat → Int32) (L' : Nat → Nat → Int64) (I : Nat → Nat → Int32) (L : Nat → Nat → Int64) (x2 : Int32) (x3 : Int32) (x4 : Int32) (x5 : Int32) (x6 : Int32) : Prop := q_W kX12_far 58 [(0, .ref 96), (2, .int x2), (3, .int x3), (4, .int x4), (5, .int x5), (6, .int x6)] [] I L r I' L'
set_option maxRecDepth 20000 in
set_option maxHeartbeats 2000000 in
theorem vc_X12_far_0 {r : Option Value} {I' : Nat → Nat → Int32} {L' : Nat → Nat → Int64} {I : Nat → Nat → Int32} {L : Nat → Nat → Int64} {x1 : Int32} {x2 : Int32} (h : (∃ r1, q_C kX12_isPew [.ref 96, .long x1.toInt64] I L (some (.int r1)) I L ∧ ((r1 = 0 → (r = some (.int (-2)) ∧ I' = I ∧ L' = L)) ∧ (¬ r1 = 0 → (∃ r2, q_C kX12_isPew [.ref 96, .long x2.toInt64] I L (some (.int r2)) I L ∧ ((r2 = 0 → (r = some (.int (-2)) ∧ I' = I ∧ L' = L)) ∧ (¬ r2 = 0 → (v_X12_far_33 r I' L' (up2 I 96 15 0) L x2 ((1 : Int32) <<< (x1 &&& 31)) 0)))))))) : v_X12_far_0 r I' L' I L x1 x2 := by
  intro w g K
  have K1 := K.1
  refine g_aload_n K1 0 dX12_far_0 rfl ?_
  refine g_iload_n K1 1 dX12_far_1 rfl ?_
  refine g_i2l K1 dX12_far_2 ?_
  obtain ⟨r1, hct, h⟩ := h
  refine h_callV K1 (st := []) [.long x1.toInt64] (hct w (gl g)) q_clX12 lyp_96 rfl ok_X12_isPew ml_X12_218 ⟨Nat.le_of_ble_eq_true rfl, Nat.le_of_ble_eq_true rfl⟩ (Nat.le_of_ble_eq_true rfl) dX12_far_3 ?_
  show q_Gs w g 6 [(0, .ref 96), (1, .int x1), (2, .int x2)] [.int r1] (q_mm I L)
  refine g_if_eq K1 18 dX12_far_6 rfl (fun hc => ?_) (fun hc => ?_)
  · replace h := h.1 hc
    refine g_bipush K1 (-2) dX12_far_18 rfl ?_
    obtain ⟨hr, hI, hL⟩ := h
    subst hr hI hL
    exact g_ireturn K rfl dX12_far_20
  · replace h := h.2 hc
    refine g_aload_n K1 0 dX12_far_9 rfl ?_
    refine g_iload_n K1 2 dX12_far_10 rfl ?_
    refine g_i2l K1 dX12_far_11 ?_
    obtain ⟨r2, hct, h⟩ := h
    refine h_callV K1 (st := []) [.long x2.toInt64] (hct w (gl g)) q_clX12 lyp_96 rfl ok_X12_isPew ml_X12_218 ⟨Nat.le_of_ble_eq_true rfl, Nat.le_of_ble_eq_true rfl⟩ (Nat.le_of_ble_eq_true rfl) dX12_far_12 ?_
    show q_Gs w g 15 [(0, .ref 96), (1, .int x1), (2, .int x2)] [.int r2] (q_mm I L)
    refine g_if_ne K1 21 dX12_far_15 rfl (fun hc => ?_) (fun hc => ?_)
    · replace h := h.2 hc
      refine g_aload_n K1 0 dX12_far_21 rfl ?_
      refine g_iconst K1 0 dX12_far_22 rfl ?_
      refine h_putI K1 q_clX12 15 lyp_96 fkX12_15 fl_X12_234 rfl rfl rfl dX12_far_23 ?_
      refine g_iconst K1 1 dX12_far_26 rfl ?_
      refine g_iload_n K1 1 dX12_far_27 rfl ?_
      refine g_ishl K1 dX12_far_28 ?_
      refine g_istore_n K1 dX12_far_29 rfl (by decide) rfl ?_
      refine g_iconst K1 0 dX12_far_30 rfl ?_
      refine g_istore K1 dX12_far_31 (by decide) rfl ?_
      exact g_perm [2, 4, 1, 0] rfl (h w g K)
    · replace h := h.1 hc
      refine g_bipush K1 (-2) dX12_far_18 rfl ?_
      obtain ⟨hr, hI, hL⟩ := h
      subst hr hI hL
      exact g_ireturn K rfl dX12_far_20
set_option maxRecDepth 20000 in
set_option maxHeartbeats 2000000 in
theorem vc_X12_far_33 {r : Option Value} {I' : Nat → Nat → Int32} {L' : Nat → Nat → Int64} {I : Nat → Nat → Int32} {L : Nat → Nat → Int64} {x2 : Int32} {x3 : Int32} {x4 : Int32} (h : ((7 ≤ x4 → (r = some (.int (-1)) ∧ I' = I ∧ L' = L)) ∧ (¬ 7 ≤ x4 → (∃ r1, q_C kX12_bit [.int x3, .int x2] I L (some (.int r1)) I L ∧ ((r1 = 1 → (r = some (.int x4) ∧ I' = I ∧ L' = L)) ∧ (¬ r1 = 1 → (v_X12_far_58 r I' L' I L x2 x3 x4 x3 0))))))) : v_X12_far_33 r I' L' I L x2 x3 x4 := by
  intro w g K
  have K1 := K.1
  refine g_iload K1 3 dX12_far_33 rfl ?_
  refine g_bipush K1 7 dX12_far_35 rfl ?_
  refine g_icmp_ge K1 107 dX12_far_37 rfl (fun hc => ?_) (fun hc => ?_)
  · replace h := h.1 hc
    refine g_iconst K1 (-1) dX12_far_107 rfl ?_
    obtain ⟨hr, hI, hL⟩ := h
    subst hr hI hL
    exact g_ireturn K rfl dX12_far_108
  · replace h := h.2 hc
    refine g_iload_n K1 2 dX12_far_40 rfl ?_
    refine g_iload_n K1 1 dX12_far_41 rfl ?_
    obtain ⟨r1, hct, h⟩ := h
    refine h_callS K1 (st := []) [.int x3, .int x2] (hct w (gl g)) ok_X12_bit ml_X12_237 ⟨Nat.le_of_ble_eq_true rfl, Nat.le_of_ble_eq_true rfl⟩ (Nat.le_of_ble_eq_true rfl) dX12_far_42 ?_
    show q_Gs w g 45 [(0, .ref 96), (2, .int x2), (3, .int x3), (4, .int x4)] [.int r1] (q_mm I L)
    refine g_iconst K1 1 dX12_far_45 rfl ?_
    refine g_icmp_ne K1 52 dX12_far_46 rfl (fun hc => ?_) (fun hc => ?_)
    · replace h := h.2 hc
      refine g_iload_n K1 2 dX12_far_52 rfl ?_
      refine g_istore K1 dX12_far_53 (by decide) rfl ?_
      refine g_iconst K1 0 dX12_far_55 rfl ?_
      refine g_istore K1 dX12_far_56 (by decide) rfl ?_
      exact g_perm [2, 3, 4, 5, 1, 0] rfl (h w g K)
    · replace h := h.1 hc
      refine g_iload K1 3 dX12_far_49 rfl ?_
      obtain ⟨hr, hI, hL⟩ := h
      subst hr hI hL
      exact g_ireturn K rfl dX12_far_51
set_option maxRecDepth 20000 in
set_option maxHeartbeats 2000000 in
theorem vc_X12_far_58 {r : Option Value} {I' : Nat → Nat → Int32} {L' : Nat → Nat → Int64} {I : Nat → Nat → Int32} {L : Nat → Nat → Int64} {x2 : Int32} {x3 : Int32} {x4 : Int32} {x5 : Int32} {x6 : Int32} (h : (∃ r1, q_C kX12_pews [.ref 96] I L (some (.int r1)) I L ∧ ((r1 ≤ x6 → (v_X12_far_33 r I' L' I L x2 x5 (x4 + 1))) ∧ (¬ r1 ≤ x6 → (∃ r2, q_C kX12_bit [.int x3, .int x6] I L (some (.int r2)) I L ∧ ((r2 = 1 → (∃ r3, q_C kX12_nearOf [.ref 96, .int x6] I L (some (.int r3)) I L ∧ (v_X12_far_58 r I' L' I L x2 x3 x4 (x5 ||| r3) (x6 + 1)))) ∧ (¬ r2 = 1 → (v_X12_far_58 r I' L' I L x2 x3 x4 (x5 ||| 0) (x6 + 1))))))))) : v_X12_far_58 r I' L' I L x2 x3 x4 x5 x6 := by
  intro w g K
  have K1 := K.1
  refine g_iload K1 5 dX12_far_58 rfl ?_
  refine g_aload_n K1 0 dX12_far_60 rfl ?_
  obtain ⟨r1, hct, h⟩ := h
  refine h_callV K1 (st := [.int x6]) [] (hct w (gl g)) q_clX12 lyp_96 rfl ok_X12_pews ml_X12_74 ⟨Nat.le_of_ble_eq_true rfl, Nat.le_of_ble_eq_true rfl⟩ (Nat.le_of_ble_eq_true rfl) dX12_far_61 ?_
  show q_Gs w g 64 [(0, .ref 96), (2, .int x2), (3, .int x3), (4, .int x4), (5, .int x5), (6, .int x6)] [.int r1, .int x6] (q_mm I L)
  refine g_icmp_ge K1 98 dX12_far_64 rfl (fun hc => ?_) (fun hc => ?_)
  · replace h := h.1 hc
    refine g_iload K1 4 dX12_far_98 rfl ?_
    refine g_istore_n K1 dX12_far_100 rfl (by decide) rfl ?_
    refine g_iinc K1 (x4 + 1) 3 dX12_far_101 rfl rfl (by decide) rfl ?_
    refine g_goto K1 33 dX12_far_104 rfl ?_
    exact g_perm [2, 3, 1, 0] rfl (h w g K)
  · replace h := h.2 hc
    refine g_iload K1 4 dX12_far_67 rfl ?_
    refine g_iload_n K1 2 dX12_far_69 rfl ?_
    refine g_iload K1 5 dX12_far_70 rfl ?_
    obtain ⟨r2, hct, h⟩ := h
    refine h_callS K1 (st := [.int x5]) [.int x3, .int x6] (hct w (gl g)) ok_X12_bit ml_X12_237 ⟨Nat.le_of_ble_eq_true rfl, Nat.le_of_ble_eq_true rfl⟩ (Nat.le_of_ble_eq_true rfl) dX12_far_72 ?_
    show q_Gs w g 75 [(0, .ref 96), (2, .int x2), (3, .int x3), (4, .int x4), (5, .int x5), (6, .int x6)] [.int r2, .int x5] (q_mm I L)
    refine g_iconst K1 1 dX12_far_75 rfl ?_
    refine g_icmp_ne K1 88 dX12_far_76 rfl (fun hc => ?_) (fun hc => ?_)
    · replace h := h.2 hc
      refine g_iconst K1 0 dX12_far_88 rfl ?_
      refine g_ior K1 dX12_far_89 ?_
      refine g_istore K1 dX12_far_90 (by decide) rfl ?_
      refine g_iinc K1 (x6 + 1) 5 dX12_far_92 rfl rfl (by decide) rfl ?_
      refine g_goto K1 58 dX12_far_95 rfl ?_
      exact g_perm [2, 3, 4, 5, 1, 0] rfl (h w g K)
    · replace h := h.1 hc
      refine g_aload_n K1 0 dX12_far_79 rfl ?_
      refine g_iload K1 5 dX12_far_80 rfl ?_
      obtain ⟨r3, hct, h⟩ := h
      refine h_callV K1 (st := [.int x5]) [.int x6] (hct w (gl g)) q_clX12 lyp_96 rfl ok_X12_nearOf ml_X12_240 ⟨Nat.le_of_ble_eq_true rfl, Nat.le_of_ble_eq_true rfl⟩ (Nat.le_of_ble_eq_true rfl) dX12_far_82 ?_
      show q_Gs w g 85 [(0, .ref 96), (2, .int x2), (3, .int x3), (4, .int x4), (5, .int x5), (6, .int x6)] [.int r3, .int x5] (q_mm I L)
      refine g_goto K1 89 dX12_far_85 rfl ?_
      refine g_ior K1 dX12_far_89 ?_
      refine g_istore K1 dX12_far_90 (by decide) rfl ?_
      refine g_iinc K1 (x6 + 1) 5 dX12_far_92 rfl rfl (by decide) rfl ?_
      refine g_goto K1 58 dX12_far_95 rfl ?_
      exact g_perm [2, 3, 4, 5, 1, 0] rfl (h w g K)
theorem c0_X12_far {r : Option Value} {I I' : Nat → Nat → Int32} {L L' : Nat → Nat → Int64} {x1 : Int32} {x2 : Int32} (h : v_X12_far_0 r I' L' I L x1 x2) : q_C kX12_far [.ref 96, .int x1, .int x2] I L r I' L' := fun w l => q_ct (by decide) (Nat.le_of_ble_eq_true rfl) (Nat.le_refl _) (fun g _ K => h w g K)
abbrev v_X12_fault_0 (r : Option Value) (I' : Nat → Nat → Int32) (L' : Nat → Nat → Int64) (I : Nat → Nat → Int32) (L : Nat → Nat → Int64) (x1 : Int32) : Prop := q_W kX12_fault 0 [(0, .ref 96), (1, .int x1)] [] I L r I' L'
set_option maxRecDepth 20000 in
set_option maxHeartbeats 2000000 in
theorem vc_X12_fault_0 {r : Option Value} {I' : Nat → Nat → Int32} {L' : Nat → Nat → Int64} {I : Nat → Nat → Int32} {L : Nat → Nat → Int64} {x1 : Int32} (h : ((x1 = 0 → (r = some (.int (I 96 12)) ∧ I' = I ∧ L' = L)) ∧ (¬ x1 = 0 → ((x1 = 1 → (r = some (.int (I 96 13)) ∧ I' = I ∧ L' = L)) ∧ (¬ x1 = 1 → (r = some (.int (-1)) ∧ I' = I ∧ L' = L)))))) : v_X12_fault_0 r I' L' I L x1 := by
  intro w g K
  have K1 := K.1
  refine g_iload_n K1 1 dX12_fault_0 rfl ?_
  refine g_if_ne K1 11 dX12_fault_1 rfl (fun hc => ?_) (fun hc => ?_)
  · replace h := h.2 hc
    refine g_iload_n K1 1 dX12_fault_11 rfl ?_
    refine g_iconst K1 1 dX12_fault_12 rfl ?_
    refine g_icmp_ne K1 23 dX12_fault_13 rfl (fun hc => ?_) (fun hc => ?_)
    · replace h := h.2 hc
      refine g_iconst K1 (-1) dX12_fault_23 rfl ?_
      obtain ⟨hr, hI, hL⟩ := h
      subst hr hI hL
      exact g_ireturn K rfl dX12_fault_24
    · replace h := h.1 hc
      refine g_aload_n K1 0 dX12_fault_16 rfl ?_
      refine h_getI K1 q_clX12 13 lyp_96 fkX12_13 fl_X12_27 dX12_fault_17 ?_
      refine g_goto K1 24 dX12_fault_20 rfl ?_
      obtain ⟨hr, hI, hL⟩ := h
      subst hr hI hL
      exact g_ireturn K rfl dX12_fault_24
  · replace h := h.1 hc
    refine g_aload_n K1 0 dX12_fault_4 rfl ?_
    refine h_getI K1 q_clX12 12 lyp_96 fkX12_12 fl_X12_122 dX12_fault_5 ?_
    refine g_goto K1 24 dX12_fault_8 rfl ?_
    obtain ⟨hr, hI, hL⟩ := h
    subst hr hI hL
    exact g_ireturn K rfl dX12_fault_24
theorem c0_X12_fault {r : Option Value} {I I' : Nat → Nat → Int32} {L L' : Nat → Nat → Int64} {x1 : Int32} (h : v_X12_fault_0 r I' L' I L x1) : q_C kX12_fault [.ref 96, .int x1] I L r I' L' := fun w l => q_ct (by decide) (Nat.le_of_ble_eq_true rfl) (Nat.le_refl _) (fun g _ K => h w g K)
abbrev v_X12_feed_0 (r : Option Value) (I' : Nat → Nat → Int32) (L' : Nat → Nat → Int64) (I : Nat → Nat → Int32) (L : Nat → Nat → Int64) (x1 : Int32) (x2 : Int32) (x3 : Int32) (x4 : Int32) (x5 : Int32) : Prop := q_W kX12_feed 0 [(0, .ref 96), (1, .int x1), (2, .int x2), (3, .int x3), (4, .int x4), (5, .int x5)] [] I L r I' L'
abbrev v_X12_feed_55 (r : Option Value) (I' : Nat → Nat → Int32) (L' : Nat → Nat → Int64) (I : Nat → Nat → Int32) (L : Nat → Nat → Int64) (x6 : Int32) : Prop := q_W kX12_feed 55 [(0, .ref 96), (6, .int x6)] [] I L r I' L'
set_option maxRecDepth 20000 in
set_option maxHeartbeats 2000000 in
theorem vc_X12_feed_0 {r : Option Value} {I' : Nat → Nat → Int32} {L' : Nat → Nat → Int64} {I : Nat → Nat → Int32} {L : Nat → Nat → Int64} {x1 : Int32} {x2 : Int32} {x3 : Int32} {x4 : Int32} {x5 : Int32} (h : ((((I 96 5) + 20) ≤ 600 → (vp_in 0 5 ∧ (vp_in 1 5 ∧ ∀ I1, I1 = (up2 (up2 I 101 (0 : Int32).toNatClampNeg x1) 101 (1 : Int32).toNatClampNeg x2) → (vp_in 2 5 ∧ (vp_in 3 5 ∧ ∀ I2, I2 = (up2 (up2 I1 101 (2 : Int32).toNatClampNeg x3) 101 (3 : Int32).toNatClampNeg x4) → (vp_in 4 5 ∧ (v_X12_feed_55 r I' L' (up2 I2 101 (4 : Int32).toNatClampNeg x5) L 0))))))) ∧ (¬ ((I 96 5) + 20) ≤ 600 → (r = some (.int (-1)) ∧ I' = I ∧ L' = L)))) : v_X12_feed_0 r I' L' I L x1 x2 x3 x4 x5 := by
  intro w g K
  have K1 := K.1
  refine g_aload_n K1 0 dX12_feed_0 rfl ?_
  refine h_getI K1 q_clX12 5 lyp_96 fkX12_5 fl_X12_85 dX12_feed_1 ?_
  refine g_bipush K1 20 dX12_feed_4 rfl ?_
  refine g_iadd K1 dX12_feed_6 ?_
  refine g_sipush K1 600 dX12_feed_7 rfl ?_
  refine g_icmp_le K1 15 dX12_feed_10 rfl (fun hc => ?_) (fun hc => ?_)
  · replace h := h.1 hc
    refine g_aload_n K1 0 dX12_feed_15 rfl ?_
    refine h_getO K1 q_clX12 6 101 lyp_96 fkX12_6 rfl fl_X12_24 dX12_feed_16 ?_
    refine g_iconst K1 0 dX12_feed_19 rfl ?_
    refine g_iload_n K1 1 dX12_feed_20 rfl ?_
    obtain ⟨hg, h⟩ := h
    refine h_iastore K1 lyp_101 hg dX12_feed_21 ?_
    refine g_aload_n K1 0 dX12_feed_22 rfl ?_
    refine h_getO K1 q_clX12 6 101 lyp_96 fkX12_6 rfl fl_X12_24 dX12_feed_23 ?_
    refine g_iconst K1 1 dX12_feed_26 rfl ?_
    refine g_iload_n K1 2 dX12_feed_27 rfl ?_
    obtain ⟨hg, h⟩ := h
    refine h_iastore K1 lyp_101 hg dX12_feed_28 ?_
    refine g_nameMI (fun I1 hI1 => ?_)
    replace h := h I1 hI1
    refine g_aload_n K1 0 dX12_feed_29 rfl ?_
    refine h_getO K1 q_clX12 6 101 lyp_96 fkX12_6 rfl fl_X12_24 dX12_feed_30 ?_
    refine g_iconst K1 2 dX12_feed_33 rfl ?_
    refine g_iload_n K1 3 dX12_feed_34 rfl ?_
    obtain ⟨hg, h⟩ := h
    refine h_iastore K1 lyp_101 hg dX12_feed_35 ?_
    refine g_aload_n K1 0 dX12_feed_36 rfl ?_
    refine h_getO K1 q_clX12 6 101 lyp_96 fkX12_6 rfl fl_X12_24 dX12_feed_37 ?_
    refine g_iconst K1 3 dX12_feed_40 rfl ?_
    refine g_iload K1 4 dX12_feed_41 rfl ?_
    obtain ⟨hg, h⟩ := h
    refine h_iastore K1 lyp_101 hg dX12_feed_43 ?_
    refine g_nameMI (fun I2 hI2 => ?_)
    replace h := h I2 hI2
    refine g_aload_n K1 0 dX12_feed_44 rfl ?_
    refine h_getO K1 q_clX12 6 101 lyp_96 fkX12_6 rfl fl_X12_24 dX12_feed_45 ?_
    refine g_iconst K1 4 dX12_feed_48 rfl ?_
    refine g_iload K1 5 dX12_feed_49 rfl ?_
    obtain ⟨hg, h⟩ := h
    refine h_iastore K1 lyp_101 hg dX12_feed_51 ?_
    refine g_iconst K1 0 dX12_feed_52 rfl ?_
    refine g_istore K1 dX12_feed_53 (by decide) rfl ?_
    exact g_perm [1, 0] rfl (h w g K)
  · replace h := h.2 hc
    refine g_iconst K1 (-1) dX12_feed_13 rfl ?_
    obtain ⟨hr, hI, hL⟩ := h
    subst hr hI hL
    exact g_ireturn K rfl dX12_feed_14
set_option maxRecDepth 20000 in
set_option maxHeartbeats 2000000 in
theorem vc_X12_feed_55 {r : Option Value} {I' : Nat → Nat → Int32} {L' : Nat → Nat → Int64} {I : Nat → Nat → Int32} {L : Nat → Nat → Int64} {x6 : Int32} (h : ((20 ≤ x6 → (r = some (.int ((up2 I 96 5 ((I 96 5) + 20)) 96 5)) ∧ I' = (up2 I 96 5 ((I 96 5) + 20)) ∧ L' = L)) ∧ (¬ 20 ≤ x6 → (vp_in (x6 / 4) 5 ∧ (vp_in ((I 96 5) + x6) 600 ∧ ∀ I1, I1 = (up2 I 100 (((I 96 5) + x6) : Int32).toNatClampNeg ((((I 101 ((x6 / 4) : Int32).toNatClampNeg) >>> ((24 - (8 * (x6 - x6 / 4 * 4))) &&& 31)) : Int32).toInt8.toInt32 : Int32).toInt8.toInt32) → (v_X12_feed_55 r I' L' I1 L (x6 + 1))))))) : v_X12_feed_55 r I' L' I L x6 := by
  intro w g K
  have K1 := K.1
  refine g_iload K1 1 dX12_feed_55 rfl ?_
  refine g_bipush K1 20 dX12_feed_57 rfl ?_
  refine g_icmp_ge K1 101 dX12_feed_59 rfl (fun hc => ?_) (fun hc => ?_)
  · replace h := h.1 hc
    refine g_aload_n K1 0 dX12_feed_101 rfl ?_
    refine g_dup K1 dX12_feed_102 rfl ?_
    refine h_getI K1 q_clX12 5 lyp_96 fkX12_5 fl_X12_85 dX12_feed_103 ?_
    refine g_bipush K1 20 dX12_feed_106 rfl ?_
    refine g_iadd K1 dX12_feed_108 ?_
    refine h_putI K1 q_clX12 5 lyp_96 fkX12_5 fl_X12_85 rfl rfl rfl dX12_feed_109 ?_
    refine g_aload_n K1 0 dX12_feed_112 rfl ?_
    refine h_getI K1 q_clX12 5 lyp_96 fkX12_5 fl_X12_85 dX12_feed_113 ?_
    obtain ⟨hr, hI, hL⟩ := h
    subst hr hI hL
    exact g_ireturn K rfl dX12_feed_116
  · replace h := h.2 hc
    refine g_aload_n K1 0 dX12_feed_62 rfl ?_
    refine h_getO K1 q_clX12 4 100 lyp_96 fkX12_4 rfl fl_X12_20 dX12_feed_63 ?_
    refine g_aload_n K1 0 dX12_feed_66 rfl ?_
    refine h_getI K1 q_clX12 5 lyp_96 fkX12_5 fl_X12_85 dX12_feed_67 ?_
    refine g_iload K1 1 dX12_feed_70 rfl ?_
    refine g_iadd K1 dX12_feed_72 ?_
    refine g_aload_n K1 0 dX12_feed_73 rfl ?_
    refine h_getO K1 q_clX12 6 101 lyp_96 fkX12_6 rfl fl_X12_24 dX12_feed_74 ?_
    refine g_iload K1 1 dX12_feed_77 rfl ?_
    refine g_iconst K1 4 dX12_feed_79 rfl ?_
    refine g_idiv K1 dX12_feed_80 (by decide) ?_
    obtain ⟨hg, h⟩ := h
    refine h_iaload K1 lyp_101 hg dX12_feed_81 ?_
    refine g_bipush K1 24 dX12_feed_82 rfl ?_
    refine g_bipush K1 8 dX12_feed_84 rfl ?_
    refine g_iload K1 1 dX12_feed_86 rfl ?_
    refine g_iconst K1 4 dX12_feed_88 rfl ?_
    refine g_irem K1 dX12_feed_89 (by decide) ?_
    refine g_imul K1 dX12_feed_90 ?_
    refine g_isub K1 dX12_feed_91 ?_
    refine g_ishr K1 dX12_feed_92 ?_
    refine g_i2b K1 dX12_feed_93 ?_
    obtain ⟨hg, h⟩ := h
    refine h_bastore K1 lyp_100 hg dX12_feed_94 ?_
    refine g_nameMI (fun I1 hI1 => ?_)
    replace h := h I1 hI1
    refine g_iinc K1 (x6 + 1) 1 dX12_feed_95 rfl rfl (by decide) rfl ?_
    refine g_goto K1 55 dX12_feed_98 rfl ?_
    exact g_perm [1, 0] rfl (h w g K)
theorem c0_X12_feed {r : Option Value} {I I' : Nat → Nat → Int32} {L L' : Nat → Nat → Int64} {x1 : Int32} {x2 : Int32} {x3 : Int32} {x4 : Int32} {x5 : Int32} (h : v_X12_feed_0 r I' L' I L x1 x2 x3 x4 x5) : q_C kX12_feed [.ref 96, .int x1, .int x2, .int x3, .int x4, .int x5] I L r I' L' := fun w l => q_ct (by decide) (Nat.le_of_ble_eq_true rfl) (Nat.le_refl _) (fun g _ K => h w g K)
abbrev v_X12_fewest_0 (r : Option Value) (I' : Nat → Nat → Int32) (L' : Nat → Nat → Int64) (I : Nat → Nat → Int32) (L : Nat → Nat → Int64)  : Prop := q_W kX12_fewest 0 [(0, .ref 96)] [] I L r I' L'
set_option maxRecDepth 20000 in
set_option maxHeartbeats 2000000 in
theorem vc_X12_fewest_0 {r : Option Value} {I' : Nat → Nat → Int32} {L' : Nat → Nat → Int64} {I : Nat → Nat → Int32} {L : Nat → Nat → Int64}  (h : (∃ I1, q_C kX12_asItIs [.ref 96] I L none I1 L ∧ (∃ r2, q_C kX12_isNight [.ref 96] I1 L (some (.int r2)) I1 L ∧ ((r2 = 0 → (r = some (.int (-2)) ∧ I' = I1 ∧ L' = L)) ∧ (¬ r2 = 0 → (∃ r3 I4, q_C kX12_fewestOf [.ref 96] I1 L (some (.int r3)) I4 L ∧ ((r3 = (-1) → (r = some (.int (-1)) ∧ I' = I4 ∧ L' = L)) ∧ (¬ r3 = (-1) → (∃ r5, q_C kX12_bits [.int r3] I4 L (some (.int r5)) I4 L ∧ (r = some (.int r5) ∧ I' = I4 ∧ L' = L)))))))))) : v_X12_fewest_0 r I' L' I L  := by
  intro w g K
  have K1 := K.1
  refine g_aload_n K1 0 dX12_fewest_0 rfl ?_
  obtain ⟨I1, hct, h⟩ := h
  refine h_callV K1 (st := []) [] (hct w (gl g)) q_clX12 lyp_96 rfl ok_X12_asItIs ml_X12_297 ⟨Nat.le_of_ble_eq_true rfl, Nat.le_of_ble_eq_true rfl⟩ (Nat.le_of_ble_eq_true rfl) dX12_fewest_1 ?_
  show q_Gs w g 4 [(0, .ref 96)] [] (q_mm I1 L)
  refine g_aload_n K1 0 dX12_fewest_4 rfl ?_
  obtain ⟨r2, hct, h⟩ := h
  refine h_callV K1 (st := []) [] (hct w (gl g)) q_clX12 lyp_96 rfl ok_X12_isNight ml_X12_78 ⟨Nat.le_of_ble_eq_true rfl, Nat.le_of_ble_eq_true rfl⟩ (Nat.le_of_ble_eq_true rfl) dX12_fewest_5 ?_
  show q_Gs w g 8 [(0, .ref 96)] [.int r2] (q_mm I1 L)
  refine g_if_ne K1 14 dX12_fewest_8 rfl (fun hc => ?_) (fun hc => ?_)
  · replace h := h.2 hc
    refine g_aload_n K1 0 dX12_fewest_14 rfl ?_
    obtain ⟨r3, I4, hct, h⟩ := h
    refine h_callV K1 (st := []) [] (hct w (gl g)) q_clX12 lyp_96 rfl ok_X12_fewestOf ml_X12_398 ⟨Nat.le_of_ble_eq_true rfl, Nat.le_of_ble_eq_true rfl⟩ (Nat.le_of_ble_eq_true rfl) dX12_fewest_15 ?_
    show q_Gs w g 18 [(0, .ref 96)] [.int r3] (q_mm I4 L)
    refine g_istore_n K1 dX12_fewest_18 rfl (by decide) rfl ?_
    refine g_iload_n K1 0 dX12_fewest_19 rfl ?_
    refine g_iconst K1 (-1) dX12_fewest_20 rfl ?_
    refine g_icmp_ne K1 28 dX12_fewest_21 rfl (fun hc => ?_) (fun hc => ?_)
    · replace h := h.2 hc
      refine g_iload_n K1 0 dX12_fewest_28 rfl ?_
      obtain ⟨r5, hct, h⟩ := h
      refine h_callS K1 (st := []) [.int r3] (hct w (gl g)) ok_X12_bits ml_X12_315 ⟨Nat.le_of_ble_eq_true rfl, Nat.le_of_ble_eq_true rfl⟩ (Nat.le_of_ble_eq_true rfl) dX12_fewest_29 ?_
      show q_Gs w g 32 [(1, .int r3), (0, .ref 96)] [.int r5] (q_mm I4 L)
      obtain ⟨hr, hI, hL⟩ := h
      subst hr hI hL
      exact g_ireturn K rfl dX12_fewest_32
    · replace h := h.1 hc
      refine g_iconst K1 (-1) dX12_fewest_24 rfl ?_
      refine g_goto K1 32 dX12_fewest_25 rfl ?_
      obtain ⟨hr, hI, hL⟩ := h
      subst hr hI hL
      exact g_ireturn K rfl dX12_fewest_32
  · replace h := h.1 hc
    refine g_bipush K1 (-2) dX12_fewest_11 rfl ?_
    obtain ⟨hr, hI, hL⟩ := h
    subst hr hI hL
    exact g_ireturn K rfl dX12_fewest_13
theorem c0_X12_fewest {r : Option Value} {I I' : Nat → Nat → Int32} {L L' : Nat → Nat → Int64}  (h : v_X12_fewest_0 r I' L' I L ) : q_C kX12_fewest [.ref 96] I L r I' L' := fun w l => q_ct (by decide) (Nat.le_of_ble_eq_true rfl) (Nat.le_refl _) (fun g _ K => h w g K)
abbrev v_X12_fewestOf_0 (r : Option Value) (I' : Nat → Nat → Int32) (L' : Nat → Nat → Int64) (I : Nat → Nat → Int32) (L : Nat → Nat → Int64)  : Prop := q_W kX12_fewestOf 0 [(0, .ref 96)] [] I L r I' L'
abbrev v_X12_fewestOf_4 (r : Option Value) (I' : Nat → Nat → Int32) (L' : Nat → Nat → Int64) (I : Nat → Nat → Int32) (L : Nat → Nat → Int64) (x1 : Int32) (x2 : Int32) : Prop := q_W kX12_fewestOf 4 [(0, .ref 96), (1, .int x1), (2, .int x2)] [] I L r I' L'
set_option maxRecDepth 20000 in
set_option maxHeartbeats 2000000 in
theorem vc_X12_fewestOf_0 {r : Option Value} {I' : Nat → Nat → Int32} {L' : Nat → Nat → Int64} {I : Nat → Nat → Int32} {L : Nat → Nat → Int64}  (h : (v_X12_fewestOf_4 r I' L' I L (-1) 0)) : v_X12_fewestOf_0 r I' L' I L  := by
  intro w g K
  have K1 := K.1
  refine g_iconst K1 (-1) dX12_fewestOf_0 rfl ?_
  refine g_istore_n K1 dX12_fewestOf_1 rfl (by decide) rfl ?_
  refine g_iconst K1 0 dX12_fewestOf_2 rfl ?_
  refine g_istore_n K1 dX12_fewestOf_3 rfl (by decide) rfl ?_
  exact g_perm [2, 1, 0] rfl (h w g K)
set_option maxRecDepth 20000 in
set_option maxHeartbeats 2000000 in
theorem vc_X12_fewestOf_4 {r : Option Value} {I' : Nat → Nat → Int32} {L' : Nat → Nat → Int64} {I : Nat → Nat → Int32} {L : Nat → Nat → Int64} {x1 : Int32} {x2 : Int32} (h : (∃ r1, q_C kX12_allPews [.ref 96] I L (some (.int r1)) I L ∧ ((r1 < x2 → (r = some (.int x1) ∧ I' = I ∧ L' = L)) ∧ (¬ r1 < x2 → ((x1 = (-1) → (∃ r2 I3, q_C kX12_worthOf [.ref 96, .int x2] I L (some (.int r2)) I3 L ∧ (∃ r4, q_C kX12_pews [.ref 96] I3 L (some (.int r4)) I3 L ∧ ((r2 = r4 → (v_X12_fewestOf_4 r I' L' I3 L x2 (x2 + 1))) ∧ (¬ r2 = r4 → (v_X12_fewestOf_4 r I' L' I3 L x1 (x2 + 1))))))) ∧ (¬ x1 = (-1) → (∃ r5, q_C kX12_bits [.int x2] I L (some (.int r5)) I L ∧ (∃ r6, q_C kX12_bits [.int x1] I L (some (.int r6)) I L ∧ ((r5 < r6 → (∃ r7 I8, q_C kX12_worthOf [.ref 96, .int x2] I L (some (.int r7)) I8 L ∧ (∃ r9, q_C kX12_pews [.ref 96] I8 L (some (.int r9)) I8 L ∧ ((r7 = r9 → (v_X12_fewestOf_4 r I' L' I8 L x2 (x2 + 1))) ∧ (¬ r7 = r9 → (v_X12_fewestOf_4 r I' L' I8 L x1 (x2 + 1))))))) ∧ (¬ r5 < r6 → (v_X12_fewestOf_4 r I' L' I L x1 (x2 + 1)))))))))))) : v_X12_fewestOf_4 r I' L' I L x1 x2 := by
  intro w g K
  have K1 := K.1
  refine g_iload_n K1 2 dX12_fewestOf_4 rfl ?_
  refine g_aload_n K1 0 dX12_fewestOf_5 rfl ?_
  obtain ⟨r1, hct, h⟩ := h
  refine h_callV K1 (st := [.int x2]) [] (hct w (gl g)) q_clX12 lyp_96 rfl ok_X12_allPews ml_X12_325 ⟨Nat.le_of_ble_eq_true rfl, Nat.le_of_ble_eq_true rfl⟩ (Nat.le_of_ble_eq_true rfl) dX12_fewestOf_6 ?_
  show q_Gs w g 9 [(0, .ref 96), (1, .int x1), (2, .int x2)] [.int r1, .int x2] (q_mm I L)
  refine g_icmp_gt K1 51 dX12_fewestOf_9 rfl (fun hc => ?_) (fun hc => ?_)
  · replace h := h.1 hc
    refine g_iload_n K1 1 dX12_fewestOf_51 rfl ?_
    obtain ⟨hr, hI, hL⟩ := h
    subst hr hI hL
    exact g_ireturn K rfl dX12_fewestOf_52
  · replace h := h.2 hc
    refine g_iload_n K1 1 dX12_fewestOf_12 rfl ?_
    refine g_iconst K1 (-1) dX12_fewestOf_13 rfl ?_
    refine g_icmp_eq K1 31 dX12_fewestOf_14 rfl (fun hc => ?_) (fun hc => ?_)
    · replace h := h.1 hc
      refine g_aload_n K1 0 dX12_fewestOf_31 rfl ?_
      refine g_iload_n K1 2 dX12_fewestOf_32 rfl ?_
      obtain ⟨r2, I3, hct, h⟩ := h
      refine h_callV K1 (st := []) [.int x2] (hct w (gl g)) q_clX12 lyp_96 rfl ok_X12_worthOf ml_X12_380 ⟨Nat.le_of_ble_eq_true rfl, Nat.le_of_ble_eq_true rfl⟩ (Nat.le_of_ble_eq_true rfl) dX12_fewestOf_33 ?_
      show q_Gs w g 36 [(0, .ref 96), (1, .int x1), (2, .int x2)] [.int r2] (q_mm I3 L)
      refine g_aload_n K1 0 dX12_fewestOf_36 rfl ?_
      obtain ⟨r4, hct, h⟩ := h
      refine h_callV K1 (st := [.int r2]) [] (hct w (gl g)) q_clX12 lyp_96 rfl ok_X12_pews ml_X12_74 ⟨Nat.le_of_ble_eq_true rfl, Nat.le_of_ble_eq_true rfl⟩ (Nat.le_of_ble_eq_true rfl) dX12_fewestOf_37 ?_
      show q_Gs w g 40 [(0, .ref 96), (1, .int x1), (2, .int x2)] [.int r4, .int r2] (q_mm I3 L)
      refine g_icmp_ne K1 45 dX12_fewestOf_40 rfl (fun hc => ?_) (fun hc => ?_)
      · replace h := h.2 hc
        refine g_iinc K1 (x2 + 1) 2 dX12_fewestOf_45 rfl rfl (by decide) rfl ?_
        refine g_goto K1 4 dX12_fewestOf_48 rfl ?_
        exact g_perm [1, 2, 0] rfl (h w g K)
      · replace h := h.1 hc
        refine g_iload_n K1 2 dX12_fewestOf_43 rfl ?_
        refine g_istore_n K1 dX12_fewestOf_44 rfl (by decide) rfl ?_
        refine g_iinc K1 (x2 + 1) 2 dX12_fewestOf_45 rfl rfl (by decide) rfl ?_
        refine g_goto K1 4 dX12_fewestOf_48 rfl ?_
        exact g_perm [2, 1, 0] rfl (h w g K)
    · replace h := h.2 hc
      refine g_iload_n K1 2 dX12_fewestOf_17 rfl ?_
      obtain ⟨r5, hct, h⟩ := h
      refine h_callS K1 (st := []) [.int x2] (hct w (gl g)) ok_X12_bits ml_X12_315 ⟨Nat.le_of_ble_eq_true rfl, Nat.le_of_ble_eq_true rfl⟩ (Nat.le_of_ble_eq_true rfl) dX12_fewestOf_18 ?_
      show q_Gs w g 21 [(0, .ref 96), (1, .int x1), (2, .int x2)] [.int r5] (q_mm I L)
      refine g_iload_n K1 1 dX12_fewestOf_21 rfl ?_
      obtain ⟨r6, hct, h⟩ := h
      refine h_callS K1 (st := [.int r5]) [.int x1] (hct w (gl g)) ok_X12_bits ml_X12_315 ⟨Nat.le_of_ble_eq_true rfl, Nat.le_of_ble_eq_true rfl⟩ (Nat.le_of_ble_eq_true rfl) dX12_fewestOf_22 ?_
      show q_Gs w g 25 [(0, .ref 96), (1, .int x1), (2, .int x2)] [.int r6, .int r5] (q_mm I L)
      refine g_icmp_lt K1 31 dX12_fewestOf_25 rfl (fun hc => ?_) (fun hc => ?_)
      · replace h := h.1 hc
        refine g_aload_n K1 0 dX12_fewestOf_31 rfl ?_
        refine g_iload_n K1 2 dX12_fewestOf_32 rfl ?_
        obtain ⟨r7, I8, hct, h⟩ := h
        refine h_callV K1 (st := []) [.int x2] (hct w (gl g)) q_clX12 lyp_96 rfl ok_X12_worthOf ml_X12_380 ⟨Nat.le_of_ble_eq_true rfl, Nat.le_of_ble_eq_true rfl⟩ (Nat.le_of_ble_eq_true rfl) dX12_fewestOf_33 ?_
        show q_Gs w g 36 [(0, .ref 96), (1, .int x1), (2, .int x2)] [.int r7] (q_mm I8 L)
        refine g_aload_n K1 0 dX12_fewestOf_36 rfl ?_
        obtain ⟨r9, hct, h⟩ := h
        refine h_callV K1 (st := [.int r7]) [] (hct w (gl g)) q_clX12 lyp_96 rfl ok_X12_pews ml_X12_74 ⟨Nat.le_of_ble_eq_true rfl, Nat.le_of_ble_eq_true rfl⟩ (Nat.le_of_ble_eq_true rfl) dX12_fewestOf_37 ?_
        show q_Gs w g 40 [(0, .ref 96), (1, .int x1), (2, .int x2)] [.int r9, .int r7] (q_mm I8 L)
        refine g_icmp_ne K1 45 dX12_fewestOf_40 rfl (fun hc => ?_) (fun hc => ?_)
        · replace h := h.2 hc
          refine g_iinc K1 (x2 + 1) 2 dX12_fewestOf_45 rfl rfl (by decide) rfl ?_
          refine g_goto K1 4 dX12_fewestOf_48 rfl ?_
          exact g_perm [1, 2, 0] rfl (h w g K)
        · replace h := h.1 hc
          refine g_iload_n K1 2 dX12_fewestOf_43 rfl ?_
          refine g_istore_n K1 dX12_fewestOf_44 rfl (by decide) rfl ?_
          refine g_iinc K1 (x2 + 1) 2 dX12_fewestOf_45 rfl rfl (by decide) rfl ?_
          refine g_goto K1 4 dX12_fewestOf_48 rfl ?_
          exact g_perm [2, 1, 0] rfl (h w g K)
      · replace h := h.2 hc
        refine g_goto K1 45 dX12_fewestOf_28 rfl ?_
        refine g_iinc K1 (x2 + 1) 2 dX12_fewestOf_45 rfl rfl (by decide) rfl ?_
        refine g_goto K1 4 dX12_fewestOf_48 rfl ?_
        exact g_perm [1, 2, 0] rfl (h w g K)
theorem c0_X12_fewestOf {r : Option Value} {I I' : Nat → Nat → Int32} {L L' : Nat → Nat → Int64}  (h : v_X12_fewestOf_0 r I' L' I L ) : q_C kX12_fewestOf [.ref 96] I L r I' L' := fun w l => q_ct (by decide) (Nat.le_of_ble_eq_true rfl) (Nat.le_refl _) (fun g _ K => h w g K)
abbrev v_X12_first_0 (r : Option Value) (I' : Nat → Nat → Int32) (L' : Nat → Nat → Int64) (I : Nat → Nat → Int32) (L : Nat → Nat → Int64) (x1 : Int32) (x2 : Int32) (x3 : Int32) : Prop := q_W kX12_first 0 [(0, .ref 96), (1, .int x1), (2, .int x2), (3, .int x3)] [] I L r I' L'
set_option maxRecDepth 20000 in
set_option maxHeartbeats 2000000 in
theorem vc_X12_first_0 {r : Option Value} {I' : Nat → Nat → Int32} {L' : Nat → Nat → Int64} {I : Nat → Nat → Int32} {L : Nat → Nat → Int64} {x1 : Int32} {x2 : Int32} {x3 : Int32} (h : (∃ r1 I2, q_C kX12_askFirst [.ref 96, .int x1, .int x2, .int x3] I L (some (.int r1)) I2 L ∧ ((0 ≤ r1 → (((I2 96 30) = 0 → (r = some (.int (-1)) ∧ I' = I2 ∧ L' = L)) ∧ (¬ (I2 96 30) = 0 → (∃ r3, q_C kX12_longOf [.int (I2 96 29)] I2 L (some (.int r3)) I2 L ∧ (r = some (.int r3) ∧ I' = I2 ∧ L' = L))))) ∧ (¬ 0 ≤ r1 → (r = some (.int r1) ∧ I' = I2 ∧ L' = L))))) : v_X12_first_0 r I' L' I L x1 x2 x3 := by
  intro w g K
  have K1 := K.1
  refine g_aload_n K1 0 dX12_first_0 rfl ?_
  refine g_iload_n K1 1 dX12_first_1 rfl ?_
  refine g_iload_n K1 2 dX12_first_2 rfl ?_
  refine g_iload_n K1 3 dX12_first_3 rfl ?_
  obtain ⟨r1, I2, hct, h⟩ := h
  refine h_callV K1 (st := []) [.int x1, .int x2, .int x3] (hct w (gl g)) q_clX12 lyp_96 rfl ok_X12_askFirst ml_X12_374 ⟨Nat.le_of_ble_eq_true rfl, Nat.le_of_ble_eq_true rfl⟩ (Nat.le_of_ble_eq_true rfl) dX12_first_4 ?_
  show q_Gs w g 7 [(0, .ref 96), (1, .int x1), (2, .int x2), (3, .int x3)] [.int r1] (q_mm I2 L)
  refine g_istore K1 dX12_first_7 (by decide) rfl ?_
  refine g_iload K1 0 dX12_first_9 rfl ?_
  refine g_if_ge K1 19 dX12_first_11 rfl (fun hc => ?_) (fun hc => ?_)
  · replace h := h.1 hc
    refine g_aload_n K1 1 dX12_first_19 rfl ?_
    refine h_getI K1 q_clX12 30 lyp_96 fkX12_30 fl_X12_365 dX12_first_20 ?_
    refine g_if_ne K1 30 dX12_first_23 rfl (fun hc => ?_) (fun hc => ?_)
    · replace h := h.2 hc
      refine g_aload_n K1 1 dX12_first_30 rfl ?_
      refine h_getI K1 q_clX12 29 lyp_96 fkX12_29 fl_X12_362 dX12_first_31 ?_
      obtain ⟨r3, hct, h⟩ := h
      refine h_callS K1 (st := []) [.int (I2 96 29)] (hct w (gl g)) ok_X12_longOf ml_X12_225 ⟨Nat.le_of_ble_eq_true rfl, Nat.le_of_ble_eq_true rfl⟩ (Nat.le_of_ble_eq_true rfl) dX12_first_34 ?_
      show q_Gs w g 37 [(4, .int r1), (0, .ref 96), (1, .int x1), (2, .int x2), (3, .int x3)] [.int r3] (q_mm I2 L)
      obtain ⟨hr, hI, hL⟩ := h
      subst hr hI hL
      exact g_ireturn K rfl dX12_first_37
    · replace h := h.1 hc
      refine g_iconst K1 (-1) dX12_first_26 rfl ?_
      refine g_goto K1 37 dX12_first_27 rfl ?_
      obtain ⟨hr, hI, hL⟩ := h
      subst hr hI hL
      exact g_ireturn K rfl dX12_first_37
  · replace h := h.2 hc
    refine g_iload K1 0 dX12_first_14 rfl ?_
    refine g_goto K1 37 dX12_first_16 rfl ?_
    obtain ⟨hr, hI, hL⟩ := h
    subst hr hI hL
    exact g_ireturn K rfl dX12_first_37
theorem c0_X12_first {r : Option Value} {I I' : Nat → Nat → Int32} {L L' : Nat → Nat → Int64} {x1 : Int32} {x2 : Int32} {x3 : Int32} (h : v_X12_first_0 r I' L' I L x1 x2 x3) : q_C kX12_first [.ref 96, .int x1, .int x2, .int x3] I L r I' L' := fun w l => q_ct (by decide) (Nat.le_of_ble_eq_true rfl) (Nat.le_refl _) (fun g _ K => h w g K)
abbrev v_X12_fresh_0 (r : Option Value) (I' : Nat → Nat → Int32) (L' : Nat → Nat → Int64) (I : Nat → Nat → Int32) (L : Nat → Nat → Int64) (x1 : Int32) : Prop := q_W kX12_fresh 0 [(0, .ref 96), (1, .int x1)] [] I L r I' L'
abbrev v_X12_fresh_15 (r : Option Value) (I' : Nat → Nat → Int32) (L' : Nat → Nat → Int64) (I : Nat → Nat → Int32) (L : Nat → Nat → Int64) (x1 : Int32) (x2 : Int32) (x3 : Int32) : Prop := q_W kX12_fresh 15 [(0, .ref 96), (1, .int x1), (2, .int x2), (3, .int x3)] [] I L r I' L'
set_option maxRecDepth 20000 in
set_option maxHeartbeats 2000000 in
theorem vc_X12_fresh_0 {r : Option Value} {I' : Nat → Nat → Int32} {L' : Nat → Nat → Int64} {I : Nat → Nat → Int32} {L : Nat → Nat → Int64} {x1 : Int32} (h : (∃ r1 I2, q_C kX12_asksHour [.ref 96, .int x1] I L (some (.int r1)) I2 L ∧ ((r1 = 0 → (r = some (.int (-2)) ∧ I' = I2 ∧ L' = L)) ∧ (¬ r1 = 0 → (v_X12_fresh_15 r I' L' I2 L x1 0 0))))) : v_X12_fresh_0 r I' L' I L x1 := by
  intro w g K
  have K1 := K.1
  refine g_aload_n K1 0 dX12_fresh_0 rfl ?_
  refine g_iload_n K1 1 dX12_fresh_1 rfl ?_
  obtain ⟨r1, I2, hct, h⟩ := h
  refine h_callV K1 (st := []) [.int x1] (hct w (gl g)) q_clX12 lyp_96 rfl ok_X12_asksHour ml_X12_318 ⟨Nat.le_of_ble_eq_true rfl, Nat.le_of_ble_eq_true rfl⟩ (Nat.le_of_ble_eq_true rfl) dX12_fresh_2 ?_
  show q_Gs w g 5 [(0, .ref 96), (1, .int x1)] [.int r1] (q_mm I2 L)
  refine g_if_ne K1 11 dX12_fresh_5 rfl (fun hc => ?_) (fun hc => ?_)
  · replace h := h.2 hc
    refine g_iconst K1 0 dX12_fresh_11 rfl ?_
    refine g_istore_n K1 dX12_fresh_12 rfl (by decide) rfl ?_
    refine g_iconst K1 0 dX12_fresh_13 rfl ?_
    refine g_istore_n K1 dX12_fresh_14 rfl (by decide) rfl ?_
    exact g_perm [2, 3, 1, 0] rfl (h w g K)
  · replace h := h.1 hc
    refine g_bipush K1 (-2) dX12_fresh_8 rfl ?_
    obtain ⟨hr, hI, hL⟩ := h
    subst hr hI hL
    exact g_ireturn K rfl dX12_fresh_10
set_option maxRecDepth 20000 in
set_option maxHeartbeats 2000000 in
theorem vc_X12_fresh_15 {r : Option Value} {I' : Nat → Nat → Int32} {L' : Nat → Nat → Int64} {I : Nat → Nat → Int32} {L : Nat → Nat → Int64} {x1 : Int32} {x2 : Int32} {x3 : Int32} (h : (∃ r1, q_C kX12_pews [.ref 96] I L (some (.int r1)) I L ∧ ((r1 ≤ x3 → (r = some (.int x2) ∧ I' = I ∧ L' = L)) ∧ (¬ r1 ≤ x3 → (vp_in ((7 * x1) + x3) 91 ∧ (((I 105 (((7 * x1) + x3) : Int32).toNatClampNeg) = x1 → (v_X12_fresh_15 r I' L' I L x1 (x2 ||| ((1 : Int32) <<< (x3 &&& 31))) (x3 + 1))) ∧ (¬ (I 105 (((7 * x1) + x3) : Int32).toNatClampNeg) = x1 → (v_X12_fresh_15 r I' L' I L x1 (x2 ||| 0) (x3 + 1))))))))) : v_X12_fresh_15 r I' L' I L x1 x2 x3 := by
  intro w g K
  have K1 := K.1
  refine g_iload_n K1 3 dX12_fresh_15 rfl ?_
  refine g_aload_n K1 0 dX12_fresh_16 rfl ?_
  obtain ⟨r1, hct, h⟩ := h
  refine h_callV K1 (st := [.int x3]) [] (hct w (gl g)) q_clX12 lyp_96 rfl ok_X12_pews ml_X12_74 ⟨Nat.le_of_ble_eq_true rfl, Nat.le_of_ble_eq_true rfl⟩ (Nat.le_of_ble_eq_true rfl) dX12_fresh_17 ?_
  show q_Gs w g 20 [(0, .ref 96), (1, .int x1), (2, .int x2), (3, .int x3)] [.int r1, .int x3] (q_mm I L)
  refine g_icmp_ge K1 54 dX12_fresh_20 rfl (fun hc => ?_) (fun hc => ?_)
  · replace h := h.1 hc
    refine g_iload_n K1 2 dX12_fresh_54 rfl ?_
    obtain ⟨hr, hI, hL⟩ := h
    subst hr hI hL
    exact g_ireturn K rfl dX12_fresh_55
  · replace h := h.2 hc
    refine g_iload_n K1 2 dX12_fresh_23 rfl ?_
    refine g_aload_n K1 0 dX12_fresh_24 rfl ?_
    refine h_getO K1 q_clX12 26 105 lyp_96 fkX12_26 rfl fl_X12_40 dX12_fresh_25 ?_
    refine g_bipush K1 7 dX12_fresh_28 rfl ?_
    refine g_iload_n K1 1 dX12_fresh_30 rfl ?_
    refine g_imul K1 dX12_fresh_31 ?_
    refine g_iload_n K1 3 dX12_fresh_32 rfl ?_
    refine g_iadd K1 dX12_fresh_33 ?_
    obtain ⟨hg, h⟩ := h
    refine h_iaload K1 lyp_105 hg dX12_fresh_34 ?_
    refine g_iload_n K1 1 dX12_fresh_35 rfl ?_
    refine g_icmp_ne K1 45 dX12_fresh_36 rfl (fun hc => ?_) (fun hc => ?_)
    · replace h := h.2 hc
      refine g_iconst K1 0 dX12_fresh_45 rfl ?_
      refine g_ior K1 dX12_fresh_46 ?_
      refine g_istore_n K1 dX12_fresh_47 rfl (by decide) rfl ?_
      refine g_iinc K1 (x3 + 1) 3 dX12_fresh_48 rfl rfl (by decide) rfl ?_
      refine g_goto K1 15 dX12_fresh_51 rfl ?_
      exact g_perm [2, 3, 1, 0] rfl (h w g K)
    · replace h := h.1 hc
      refine g_iconst K1 1 dX12_fresh_39 rfl ?_
      refine g_iload_n K1 3 dX12_fresh_40 rfl ?_
      refine g_ishl K1 dX12_fresh_41 ?_
      refine g_goto K1 46 dX12_fresh_42 rfl ?_
      refine g_ior K1 dX12_fresh_46 ?_
      refine g_istore_n K1 dX12_fresh_47 rfl (by decide) rfl ?_
      refine g_iinc K1 (x3 + 1) 3 dX12_fresh_48 rfl rfl (by decide) rfl ?_
      refine g_goto K1 15 dX12_fresh_51 rfl ?_
      exact g_perm [2, 3, 1, 0] rfl (h w g K)
theorem c0_X12_fresh {r : Option Value} {I I' : Nat → Nat → Int32} {L L' : Nat → Nat → Int64} {x1 : Int32} (h : v_X12_fresh_0 r I' L' I L x1) : q_C kX12_fresh [.ref 96, .int x1] I L r I' L' := fun w l => q_ct (by decide) (Nat.le_of_ble_eq_true rfl) (Nat.le_refl _) (fun g _ K => h w g K)
abbrev v_X12_from_0 (r : Option Value) (I' : Nat → Nat → Int32) (L' : Nat → Nat → Int64) (I : Nat → Nat → Int32) (L : Nat → Nat → Int64) (x1 : Int32) (x2 : Int32) : Prop := q_W kX12_from 0 [(0, .ref 96), (1, .int x1), (2, .int x2)] [] I L r I' L'
set_option maxRecDepth 20000 in
set_option maxHeartbeats 2000000 in
theorem vc_X12_from_0 {r : Option Value} {I' : Nat → Nat → Int32} {L' : Nat → Nat → Int64} {I : Nat → Nat → Int32} {L : Nat → Nat → Int64} {x1 : Int32} {x2 : Int32} (h : (∃ r1 I2, q_C kX12_asksHour [.ref 96, .int x2] I L (some (.int r1)) I2 L ∧ ((r1 = 0 → (r = some (.int (-2)) ∧ I' = I2 ∧ L' = L)) ∧ (¬ r1 = 0 → (∃ r3, q_C kX12_isPew [.ref 96, .long x1.toInt64] I2 L (some (.int r3)) I2 L ∧ ((r3 = 0 → (r = some (.int (-2)) ∧ I' = I2 ∧ L' = L)) ∧ (¬ r3 = 0 → (vp_in ((7 * x2) + x1) 91 ∧ (r = some (.int (I2 104 (((7 * x2) + x1) : Int32).toNatClampNeg)) ∧ I' = I2 ∧ L' = L))))))))) : v_X12_from_0 r I' L' I L x1 x2 := by
  intro w g K
  have K1 := K.1
  refine g_aload_n K1 0 dX12_from_0 rfl ?_
  refine g_iload_n K1 2 dX12_from_1 rfl ?_
  obtain ⟨r1, I2, hct, h⟩ := h
  refine h_callV K1 (st := []) [.int x2] (hct w (gl g)) q_clX12 lyp_96 rfl ok_X12_asksHour ml_X12_318 ⟨Nat.le_of_ble_eq_true rfl, Nat.le_of_ble_eq_true rfl⟩ (Nat.le_of_ble_eq_true rfl) dX12_from_2 ?_
  show q_Gs w g 5 [(0, .ref 96), (1, .int x1), (2, .int x2)] [.int r1] (q_mm I2 L)
  refine g_if_eq K1 31 dX12_from_5 rfl (fun hc => ?_) (fun hc => ?_)
  · replace h := h.1 hc
    refine g_bipush K1 (-2) dX12_from_31 rfl ?_
    obtain ⟨hr, hI, hL⟩ := h
    subst hr hI hL
    exact g_ireturn K rfl dX12_from_33
  · replace h := h.2 hc
    refine g_aload_n K1 0 dX12_from_8 rfl ?_
    refine g_iload_n K1 1 dX12_from_9 rfl ?_
    refine g_i2l K1 dX12_from_10 ?_
    obtain ⟨r3, hct, h⟩ := h
    refine h_callV K1 (st := []) [.long x1.toInt64] (hct w (gl g)) q_clX12 lyp_96 rfl ok_X12_isPew ml_X12_218 ⟨Nat.le_of_ble_eq_true rfl, Nat.le_of_ble_eq_true rfl⟩ (Nat.le_of_ble_eq_true rfl) dX12_from_11 ?_
    show q_Gs w g 14 [(0, .ref 96), (1, .int x1), (2, .int x2)] [.int r3] (q_mm I2 L)
    refine g_if_eq K1 31 dX12_from_14 rfl (fun hc => ?_) (fun hc => ?_)
    · replace h := h.1 hc
      refine g_bipush K1 (-2) dX12_from_31 rfl ?_
      obtain ⟨hr, hI, hL⟩ := h
      subst hr hI hL
      exact g_ireturn K rfl dX12_from_33
    · replace h := h.2 hc
      refine g_aload_n K1 0 dX12_from_17 rfl ?_
      refine h_getO K1 q_clX12 25 104 lyp_96 fkX12_25 rfl fl_X12_37 dX12_from_18 ?_
      refine g_bipush K1 7 dX12_from_21 rfl ?_
      refine g_iload_n K1 2 dX12_from_23 rfl ?_
      refine g_imul K1 dX12_from_24 ?_
      refine g_iload_n K1 1 dX12_from_25 rfl ?_
      refine g_iadd K1 dX12_from_26 ?_
      obtain ⟨hg, h⟩ := h
      refine h_iaload K1 lyp_104 hg dX12_from_27 ?_
      refine g_goto K1 33 dX12_from_28 rfl ?_
      obtain ⟨hr, hI, hL⟩ := h
      subst hr hI hL
      exact g_ireturn K rfl dX12_from_33
theorem c0_X12_from {r : Option Value} {I I' : Nat → Nat → Int32} {L L' : Nat → Nat → Int64} {x1 : Int32} {x2 : Int32} (h : v_X12_from_0 r I' L' I L x1 x2) : q_C kX12_from [.ref 96, .int x1, .int x2] I L r I' L' := fun w l => q_ct (by decide) (Nat.le_of_ble_eq_true rfl) (Nat.le_refl _) (fun g _ K => h w g K)
abbrev v_X12_full_0 (r : Option Value) (I' : Nat → Nat → Int32) (L' : Nat → Nat → Int64) (I : Nat → Nat → Int32) (L : Nat → Nat → Int64)  : Prop := q_W kX12_full 0 [(0, .ref 96)] [] I L r I' L'
abbrev v_X12_full_12 (r : Option Value) (I' : Nat → Nat → Int32) (L' : Nat → Nat → Int64) (I : Nat → Nat → Int32) (L : Nat → Nat → Int64) (x1 : Int32) : Prop := q_W kX12_full 12 [(0, .ref 96), (1, .int x1)] [] I L r I' L'
set_option maxRecDepth 20000 in
set_option maxHeartbeats 2000000 in
theorem vc_X12_full_0 {r : Option Value} {I' : Nat → Nat → Int32} {L' : Nat → Nat → Int64} {I : Nat → Nat → Int32} {L : Nat → Nat → Int64}  (h : (∃ r1 I2, q_C kX12_asksNight [.ref 96] I L (some (.int r1)) I2 L ∧ ((r1 = 0 → (r = some (.int (-2)) ∧ I' = I2 ∧ L' = L)) ∧ (¬ r1 = 0 → (v_X12_full_12 r I' L' I2 L 0))))) : v_X12_full_0 r I' L' I L  := by
  intro w g K
  have K1 := K.1
  refine g_aload_n K1 0 dX12_full_0 rfl ?_
  obtain ⟨r1, I2, hct, h⟩ := h
  refine h_callV K1 (st := []) [] (hct w (gl g)) q_clX12 lyp_96 rfl ok_X12_asksNight ml_X12_303 ⟨Nat.le_of_ble_eq_true rfl, Nat.le_of_ble_eq_true rfl⟩ (Nat.le_of_ble_eq_true rfl) dX12_full_1 ?_
  show q_Gs w g 4 [(0, .ref 96)] [.int r1] (q_mm I2 L)
  refine g_if_ne K1 10 dX12_full_4 rfl (fun hc => ?_) (fun hc => ?_)
  · replace h := h.2 hc
    refine g_iconst K1 0 dX12_full_10 rfl ?_
    refine g_istore_n K1 dX12_full_11 rfl (by decide) rfl ?_
    exact g_perm [1, 0] rfl (h w g K)
  · replace h := h.1 hc
    refine g_bipush K1 (-2) dX12_full_7 rfl ?_
    obtain ⟨hr, hI, hL⟩ := h
    subst hr hI hL
    exact g_ireturn K rfl dX12_full_9
set_option maxRecDepth 20000 in
set_option maxHeartbeats 2000000 in
theorem vc_X12_full_12 {r : Option Value} {I' : Nat → Nat → Int32} {L' : Nat → Nat → Int64} {I : Nat → Nat → Int32} {L : Nat → Nat → Int64} {x1 : Int32} (h : (∃ r1, q_C kX12_hours [.ref 96] I L (some (.int r1)) I L ∧ ((r1 < x1 → (r = some (.int (-1)) ∧ I' = I ∧ L' = L)) ∧ (¬ r1 < x1 → (∃ r2, q_C kX12_pews [.ref 96] I L (some (.int r2)) I L ∧ ((r2 ≤ 0 → (r = some (.int (-1)) ∧ I' = I ∧ L' = L)) ∧ (¬ r2 ≤ 0 → (∃ r3, q_C kX12_litAt [.ref 96, .int x1] I L (some (.int r3)) I L ∧ (∃ r4, q_C kX12_allPews [.ref 96] I L (some (.int r4)) I L ∧ ((r3 = r4 → (r = some (.int x1) ∧ I' = I ∧ L' = L)) ∧ (¬ r3 = r4 → (v_X12_full_12 r I' L' I L (x1 + 1))))))))))))) : v_X12_full_12 r I' L' I L x1 := by
  intro w g K
  have K1 := K.1
  refine g_iload_n K1 1 dX12_full_12 rfl ?_
  refine g_aload_n K1 0 dX12_full_13 rfl ?_
  obtain ⟨r1, hct, h⟩ := h
  refine h_callV K1 (st := [.int x1]) [] (hct w (gl g)) q_clX12 lyp_96 rfl ok_X12_hours ml_X12_82 ⟨Nat.le_of_ble_eq_true rfl, Nat.le_of_ble_eq_true rfl⟩ (Nat.le_of_ble_eq_true rfl) dX12_full_14 ?_
  show q_Gs w g 17 [(0, .ref 96), (1, .int x1)] [.int r1, .int x1] (q_mm I L)
  refine g_icmp_gt K1 47 dX12_full_17 rfl (fun hc => ?_) (fun hc => ?_)
  · replace h := h.1 hc
    refine g_iconst K1 (-1) dX12_full_47 rfl ?_
    obtain ⟨hr, hI, hL⟩ := h
    subst hr hI hL
    exact g_ireturn K rfl dX12_full_48
  · replace h := h.2 hc
    refine g_aload_n K1 0 dX12_full_20 rfl ?_
    obtain ⟨r2, hct, h⟩ := h
    refine h_callV K1 (st := []) [] (hct w (gl g)) q_clX12 lyp_96 rfl ok_X12_pews ml_X12_74 ⟨Nat.le_of_ble_eq_true rfl, Nat.le_of_ble_eq_true rfl⟩ (Nat.le_of_ble_eq_true rfl) dX12_full_21 ?_
    show q_Gs w g 24 [(0, .ref 96), (1, .int x1)] [.int r2] (q_mm I L)
    refine g_if_le K1 47 dX12_full_24 rfl (fun hc => ?_) (fun hc => ?_)
    · replace h := h.1 hc
      refine g_iconst K1 (-1) dX12_full_47 rfl ?_
      obtain ⟨hr, hI, hL⟩ := h
      subst hr hI hL
      exact g_ireturn K rfl dX12_full_48
    · replace h := h.2 hc
      refine g_aload_n K1 0 dX12_full_27 rfl ?_
      refine g_iload_n K1 1 dX12_full_28 rfl ?_
      obtain ⟨r3, hct, h⟩ := h
      refine h_callV K1 (st := []) [.int x1] (hct w (gl g)) q_clX12 lyp_96 rfl ok_X12_litAt ml_X12_309 ⟨Nat.le_of_ble_eq_true rfl, Nat.le_of_ble_eq_true rfl⟩ (Nat.le_of_ble_eq_true rfl) dX12_full_29 ?_
      show q_Gs w g 32 [(0, .ref 96), (1, .int x1)] [.int r3] (q_mm I L)
      refine g_aload_n K1 0 dX12_full_32 rfl ?_
      obtain ⟨r4, hct, h⟩ := h
      refine h_callV K1 (st := [.int r3]) [] (hct w (gl g)) q_clX12 lyp_96 rfl ok_X12_allPews ml_X12_325 ⟨Nat.le_of_ble_eq_true rfl, Nat.le_of_ble_eq_true rfl⟩ (Nat.le_of_ble_eq_true rfl) dX12_full_33 ?_
      show q_Gs w g 36 [(0, .ref 96), (1, .int x1)] [.int r4, .int r3] (q_mm I L)
      refine g_icmp_ne K1 41 dX12_full_36 rfl (fun hc => ?_) (fun hc => ?_)
      · replace h := h.2 hc
        refine g_iinc K1 (x1 + 1) 1 dX12_full_41 rfl rfl (by decide) rfl ?_
        refine g_goto K1 12 dX12_full_44 rfl ?_
        exact g_perm [1, 0] rfl (h w g K)
      · replace h := h.1 hc
        refine g_iload_n K1 1 dX12_full_39 rfl ?_
        obtain ⟨hr, hI, hL⟩ := h
        subst hr hI hL
        exact g_ireturn K rfl dX12_full_40
theorem c0_X12_full {r : Option Value} {I I' : Nat → Nat → Int32} {L L' : Nat → Nat → Int64}  (h : v_X12_full_0 r I' L' I L ) : q_C kX12_full [.ref 96] I L r I' L' := fun w l => q_ct (by decide) (Nat.le_of_ble_eq_true rfl) (Nat.le_refl _) (fun g _ K => h w g K)
abbrev v_X12_gets_0 (r : Option Value) (I' : Nat → Nat → Int32) (L' : Nat → Nat → Int64) (I : Nat → Nat → Int32) (L : Nat → Nat → Int64) (x1 : Int32) (x2 : Int32) (x3 : Int32) (x4 : Int32) : Prop := q_W kX12_gets 0 [(0, .ref 96), (1, .int x1), (2, .int x2), (3, .int x3), (4, .int x4)] [] I L r I' L'
set_option maxRecDepth 20000 in
set_option maxHeartbeats 2000000 in
theorem vc_X12_gets_0 {r : Option Value} {I' : Nat → Nat → Int32} {L' : Nat → Nat → Int64} {I : Nat → Nat → Int32} {L : Nat → Nat → Int64} {x1 : Int32} {x2 : Int32} {x3 : Int32} {x4 : Int32} (h : (∃ r1, q_C kX12_areTwo [.ref 96, .int x1, .int x2] I L (some (.int r1)) I L ∧ ((r1 = 0 → (r = some (.int (-1000)) ∧ I' = I ∧ L' = L)) ∧ (¬ r1 = 0 → (∃ r2, q_C kX12_in [.long x3.toInt64, .long 0, .long 1] I L (some (.int r2)) I L ∧ ((r2 = 0 → (r = some (.int (-1000)) ∧ I' = I ∧ L' = L)) ∧ (¬ r2 = 0 → (∃ r3, q_C kX12_in [.long x4.toInt64, .long 0, .long 1] I L (some (.int r3)) I L ∧ ((r3 = 0 → (r = some (.int (-1000)) ∧ I' = I ∧ L' = L)) ∧ (¬ r3 = 0 → (∃ r4 I5, q_C kX12_getsBy [.ref 96, .int x1, .int x2, .int x3, .int x4, .int 0] I L (some (.int r4)) I5 L ∧ (r = some (.int r4) ∧ I' = I5 ∧ L' = L)))))))))))) : v_X12_gets_0 r I' L' I L x1 x2 x3 x4 := by
  intro w g K
  have K1 := K.1
  refine g_aload_n K1 0 dX12_gets_0 rfl ?_
  refine g_iload_n K1 1 dX12_gets_1 rfl ?_
  refine g_iload_n K1 2 dX12_gets_2 rfl ?_
  obtain ⟨r1, hct, h⟩ := h
  refine h_callV K1 (st := []) [.int x1, .int x2] (hct w (gl g)) q_clX12 lyp_96 rfl ok_X12_areTwo ml_X12_436 ⟨Nat.le_of_ble_eq_true rfl, Nat.le_of_ble_eq_true rfl⟩ (Nat.le_of_ble_eq_true rfl) dX12_gets_3 ?_
  show q_Gs w g 6 [(0, .ref 96), (1, .int x1), (2, .int x2), (3, .int x3), (4, .int x4)] [.int r1] (q_mm I L)
  refine g_if_eq K1 43 dX12_gets_6 rfl (fun hc => ?_) (fun hc => ?_)
  · replace h := h.1 hc
    refine g_sipush K1 (-1000) dX12_gets_43 rfl ?_
    obtain ⟨hr, hI, hL⟩ := h
    subst hr hI hL
    exact g_ireturn K rfl dX12_gets_46
  · replace h := h.2 hc
    refine g_iload_n K1 3 dX12_gets_9 rfl ?_
    refine g_i2l K1 dX12_gets_10 ?_
    refine g_lconst K1 0 dX12_gets_11 rfl ?_
    refine g_lconst K1 1 dX12_gets_12 rfl ?_
    obtain ⟨r2, hct, h⟩ := h
    refine h_callS K1 (st := []) [.long x3.toInt64, .long 0, .long 1] (hct w (gl g)) ok_X12_in ml_X12_70 ⟨Nat.le_of_ble_eq_true rfl, Nat.le_of_ble_eq_true rfl⟩ (Nat.le_of_ble_eq_true rfl) dX12_gets_13 ?_
    show q_Gs w g 16 [(0, .ref 96), (1, .int x1), (2, .int x2), (3, .int x3), (4, .int x4)] [.int r2] (q_mm I L)
    refine g_if_eq K1 43 dX12_gets_16 rfl (fun hc => ?_) (fun hc => ?_)
    · replace h := h.1 hc
      refine g_sipush K1 (-1000) dX12_gets_43 rfl ?_
      obtain ⟨hr, hI, hL⟩ := h
      subst hr hI hL
      exact g_ireturn K rfl dX12_gets_46
    · replace h := h.2 hc
      refine g_iload K1 4 dX12_gets_19 rfl ?_
      refine g_i2l K1 dX12_gets_21 ?_
      refine g_lconst K1 0 dX12_gets_22 rfl ?_
      refine g_lconst K1 1 dX12_gets_23 rfl ?_
      obtain ⟨r3, hct, h⟩ := h
      refine h_callS K1 (st := []) [.long x4.toInt64, .long 0, .long 1] (hct w (gl g)) ok_X12_in ml_X12_70 ⟨Nat.le_of_ble_eq_true rfl, Nat.le_of_ble_eq_true rfl⟩ (Nat.le_of_ble_eq_true rfl) dX12_gets_24 ?_
      show q_Gs w g 27 [(0, .ref 96), (1, .int x1), (2, .int x2), (3, .int x3), (4, .int x4)] [.int r3] (q_mm I L)
      refine g_if_eq K1 43 dX12_gets_27 rfl (fun hc => ?_) (fun hc => ?_)
      · replace h := h.1 hc
        refine g_sipush K1 (-1000) dX12_gets_43 rfl ?_
        obtain ⟨hr, hI, hL⟩ := h
        subst hr hI hL
        exact g_ireturn K rfl dX12_gets_46
      · replace h := h.2 hc
        refine g_aload_n K1 0 dX12_gets_30 rfl ?_
        refine g_iload_n K1 1 dX12_gets_31 rfl ?_
        refine g_iload_n K1 2 dX12_gets_32 rfl ?_
        refine g_iload_n K1 3 dX12_gets_33 rfl ?_
        refine g_iload K1 4 dX12_gets_34 rfl ?_
        refine g_iconst K1 0 dX12_gets_36 rfl ?_
        obtain ⟨r4, I5, hct, h⟩ := h
        refine h_callV K1 (st := []) [.int x1, .int x2, .int x3, .int x4, .int 0] (hct w (gl g)) q_clX12 lyp_96 rfl ok_X12_getsBy ml_X12_439 ⟨Nat.le_of_ble_eq_true rfl, Nat.le_of_ble_eq_true rfl⟩ (Nat.le_of_ble_eq_true rfl) dX12_gets_37 ?_
        show q_Gs w g 40 [(0, .ref 96), (1, .int x1), (2, .int x2), (3, .int x3), (4, .int x4)] [.int r4] (q_mm I5 L)
        refine g_goto K1 46 dX12_gets_40 rfl ?_
        obtain ⟨hr, hI, hL⟩ := h
        subst hr hI hL
        exact g_ireturn K rfl dX12_gets_46
theorem c0_X12_gets {r : Option Value} {I I' : Nat → Nat → Int32} {L L' : Nat → Nat → Int64} {x1 : Int32} {x2 : Int32} {x3 : Int32} {x4 : Int32} (h : v_X12_gets_0 r I' L' I L x1 x2 x3 x4) : q_C kX12_gets [.ref 96, .int x1, .int x2, .int x3, .int x4] I L r I' L' := fun w l => q_ct (by decide) (Nat.le_of_ble_eq_true rfl) (Nat.le_refl _) (fun g _ K => h w g K)
abbrev v_X12_getsBy_0 (r : Option Value) (I' : Nat → Nat → Int32) (L' : Nat → Nat → Int64) (I : Nat → Nat → Int32) (L : Nat → Nat → Int64) (x1 : Int32) (x2 : Int32) (x3 : Int32) (x4 : Int32) (x5 : Int32) : Prop := q_W kX12_getsBy 0 [(0, .ref 96), (1, .int x1), (2, .int x2), (3, .int x3), (4, .int x4), (5, .int x5)] [] I L r I' L'
abbrev v_X12_getsBy_31 (r : Option Value) (I' : Nat → Nat → Int32) (L' : Nat → Nat → Int64) (I : Nat → Nat → Int32) (L : Nat → Nat → Int64) (x3 : Int32) (x4 : Int32) (x5 : Int32) (s1 : Int32) : Prop := q_W kX12_getsBy 31 [(0, .ref 96), (3, .int x3), (4, .int x4), (5, .int x5)] [.int s1, .ref 96] I L r I' L'
set_option maxRecDepth 20000 in
set_option maxHeartbeats 2000000 in
theorem vc_X12_getsBy_0 {r : Option Value} {I' : Nat → Nat → Int32} {L' : Nat → Nat → Int64} {I : Nat → Nat → Int32} {L : Nat → Nat → Int64} {x1 : Int32} {x2 : Int32} {x3 : Int32} {x4 : Int32} {x5 : Int32} (h : (∃ I1, q_C kX12_asItIs [.ref 96] I L none I1 L ∧ (∃ I2, q_C kX12_goAll [.ref 96] (up2 I1 96 15 ((x3 <<< (x1 &&& 31)) ||| (x4 <<< (x2 &&& 31)))) L none I2 L ∧ ((x5 = 0 → (v_X12_getsBy_31 r I' L' I2 L x3 x4 x5 x1)) ∧ (¬ x5 = 0 → (v_X12_getsBy_31 r I' L' I2 L x3 x4 x5 x2)))))) : v_X12_getsBy_0 r I' L' I L x1 x2 x3 x4 x5 := by
  intro w g K
  have K1 := K.1
  refine g_aload_n K1 0 dX12_getsBy_0 rfl ?_
  obtain ⟨I1, hct, h⟩ := h
  refine h_callV K1 (st := []) [] (hct w (gl g)) q_clX12 lyp_96 rfl ok_X12_asItIs ml_X12_297 ⟨Nat.le_of_ble_eq_true rfl, Nat.le_of_ble_eq_true rfl⟩ (Nat.le_of_ble_eq_true rfl) dX12_getsBy_1 ?_
  show q_Gs w g 4 [(0, .ref 96), (1, .int x1), (2, .int x2), (3, .int x3), (4, .int x4), (5, .int x5)] [] (q_mm I1 L)
  refine g_aload_n K1 0 dX12_getsBy_4 rfl ?_
  refine g_iload_n K1 3 dX12_getsBy_5 rfl ?_
  refine g_iload_n K1 1 dX12_getsBy_6 rfl ?_
  refine g_ishl K1 dX12_getsBy_7 ?_
  refine g_iload K1 4 dX12_getsBy_8 rfl ?_
  refine g_iload_n K1 2 dX12_getsBy_10 rfl ?_
  refine g_ishl K1 dX12_getsBy_11 ?_
  refine g_ior K1 dX12_getsBy_12 ?_
  refine h_putI K1 q_clX12 15 lyp_96 fkX12_15 fl_X12_234 rfl rfl rfl dX12_getsBy_13 ?_
  refine g_aload_n K1 0 dX12_getsBy_16 rfl ?_
  obtain ⟨I2, hct, h⟩ := h
  refine h_callV K1 (st := []) [] (hct w (gl g)) q_clX12 lyp_96 rfl ok_X12_goAll ml_X12_300 ⟨Nat.le_of_ble_eq_true rfl, Nat.le_of_ble_eq_true rfl⟩ (Nat.le_of_ble_eq_true rfl) dX12_getsBy_17 ?_
  show q_Gs w g 20 [(0, .ref 96), (1, .int x1), (2, .int x2), (3, .int x3), (4, .int x4), (5, .int x5)] [] (q_mm I2 L)
  refine g_aload_n K1 0 dX12_getsBy_20 rfl ?_
  refine g_iload K1 5 dX12_getsBy_21 rfl ?_
  refine g_if_ne K1 30 dX12_getsBy_23 rfl (fun hc => ?_) (fun hc => ?_)
  · replace h := h.2 hc
    refine g_iload_n K1 2 dX12_getsBy_30 rfl ?_
    exact g_perm [0, 3, 4, 5] rfl (h w g K)
  · replace h := h.1 hc
    refine g_iload_n K1 1 dX12_getsBy_26 rfl ?_
    refine g_goto K1 31 dX12_getsBy_27 rfl ?_
    exact g_perm [0, 3, 4, 5] rfl (h w g K)
set_option maxRecDepth 20000 in
set_option maxHeartbeats 2000000 in
theorem vc_X12_getsBy_31 {r : Option Value} {I' : Nat → Nat → Int32} {L' : Nat → Nat → Int64} {I : Nat → Nat → Int32} {L : Nat → Nat → Int64} {x3 : Int32} {x4 : Int32} {x5 : Int32} {s1 : Int32} (h : (∃ r1, q_C kX12_hours [.ref 96] I L (some (.int r1)) I L ∧ (∃ r2, q_C kX12_saysOf [.ref 96, .int s1, .int r1] I L (some (.int r2)) I L ∧ (∃ r3, q_C kX12_longOf [.int r2] I L (some (.int r3)) I L ∧ ((x5 = 0 → (r = some (.int (r3 + (2 * x3))) ∧ I' = I ∧ L' = L)) ∧ (¬ x5 = 0 → (r = some (.int (r3 + (2 * x4))) ∧ I' = I ∧ L' = L))))))) : v_X12_getsBy_31 r I' L' I L x3 x4 x5 s1 := by
  intro w g K
  have K1 := K.1
  refine g_aload_n K1 0 dX12_getsBy_31 rfl ?_
  obtain ⟨r1, hct, h⟩ := h
  refine h_callV K1 (st := [.int s1, .ref 96]) [] (hct w (gl g)) q_clX12 lyp_96 rfl ok_X12_hours ml_X12_82 ⟨Nat.le_of_ble_eq_true rfl, Nat.le_of_ble_eq_true rfl⟩ (Nat.le_of_ble_eq_true rfl) dX12_getsBy_32 ?_
  show q_Gs w g 35 [(0, .ref 96), (3, .int x3), (4, .int x4), (5, .int x5)] [.int r1, .int s1, .ref 96] (q_mm I L)
  obtain ⟨r2, hct, h⟩ := h
  refine h_callV K1 (st := []) [.int s1, .int r1] (hct w (gl g)) q_clX12 lyp_96 rfl ok_X12_saysOf ml_X12_275 ⟨Nat.le_of_ble_eq_true rfl, Nat.le_of_ble_eq_true rfl⟩ (Nat.le_of_ble_eq_true rfl) dX12_getsBy_35 ?_
  show q_Gs w g 38 [(0, .ref 96), (3, .int x3), (4, .int x4), (5, .int x5)] [.int r2] (q_mm I L)
  obtain ⟨r3, hct, h⟩ := h
  refine h_callS K1 (st := []) [.int r2] (hct w (gl g)) ok_X12_longOf ml_X12_225 ⟨Nat.le_of_ble_eq_true rfl, Nat.le_of_ble_eq_true rfl⟩ (Nat.le_of_ble_eq_true rfl) dX12_getsBy_38 ?_
  show q_Gs w g 41 [(0, .ref 96), (3, .int x3), (4, .int x4), (5, .int x5)] [.int r3] (q_mm I L)
  refine g_iconst K1 2 dX12_getsBy_41 rfl ?_
  refine g_iload K1 3 dX12_getsBy_42 rfl ?_
  refine g_if_ne K1 51 dX12_getsBy_44 rfl (fun hc => ?_) (fun hc => ?_)
  · replace h := h.2 hc
    refine g_iload K1 2 dX12_getsBy_51 rfl ?_
    refine g_imul K1 dX12_getsBy_53 ?_
    refine g_iadd K1 dX12_getsBy_54 ?_
    obtain ⟨hr, hI, hL⟩ := h
    subst hr hI hL
    exact g_ireturn K rfl dX12_getsBy_55
  · replace h := h.1 hc
    refine g_iload_n K1 1 dX12_getsBy_47 rfl ?_
    refine g_goto K1 53 dX12_getsBy_48 rfl ?_
    refine g_imul K1 dX12_getsBy_53 ?_
    refine g_iadd K1 dX12_getsBy_54 ?_
    obtain ⟨hr, hI, hL⟩ := h
    subst hr hI hL
    exact g_ireturn K rfl dX12_getsBy_55
theorem c0_X12_getsBy {r : Option Value} {I I' : Nat → Nat → Int32} {L L' : Nat → Nat → Int64} {x1 : Int32} {x2 : Int32} {x3 : Int32} {x4 : Int32} {x5 : Int32} (h : v_X12_getsBy_0 r I' L' I L x1 x2 x3 x4 x5) : q_C kX12_getsBy [.ref 96, .int x1, .int x2, .int x3, .int x4, .int x5] I L r I' L' := fun w l => q_ct (by decide) (Nat.le_of_ble_eq_true rfl) (Nat.le_refl _) (fun g _ K => h w g K)
abbrev v_X12_goAll_0 (r : Option Value) (I' : Nat → Nat → Int32) (L' : Nat → Nat → Int64) (I : Nat → Nat → Int32) (L : Nat → Nat → Int64)  : Prop := q_W kX12_goAll 0 [(0, .ref 96)] [] I L r I' L'
abbrev v_X12_goAll_6 (r : Option Value) (I' : Nat → Nat → Int32) (L' : Nat → Nat → Int64) (I : Nat → Nat → Int32) (L : Nat → Nat → Int64) (x1 : Int32) : Prop := q_W kX12_goAll 6 [(0, .ref 96), (1, .int x1)] [] I L r I' L'
abbrev v_X12_goAll_21 (r : Option Value) (I' : Nat → Nat → Int32) (L' : Nat → Nat → Int64) (I : Nat → Nat → Int32) (L : Nat → Nat → Int64) (x1 : Int32) (x2 : Int32) : Prop := q_W kX12_goAll 21 [(0, .ref 96), (1, .int x1), (2, .int x2)] [] I L r I' L'
set_option maxRecDepth 20000 in
set_option maxHeartbeats 2000000 in
theorem vc_X12_goAll_0 {r : Option Value} {I' : Nat → Nat → Int32} {L' : Nat → Nat → Int64} {I : Nat → Nat → Int32} {L : Nat → Nat → Int64}  (h : (∃ I1, q_C kX12_beginNight [.ref 96] I L none I1 L ∧ (v_X12_goAll_6 r I' L' I1 L 0))) : v_X12_goAll_0 r I' L' I L  := by
  intro w g K
  have K1 := K.1
  refine g_aload_n K1 0 dX12_goAll_0 rfl ?_
  obtain ⟨I1, hct, h⟩ := h
  refine h_callV K1 (st := []) [] (hct w (gl g)) q_clX12 lyp_96 rfl ok_X12_beginNight ml_X12_288 ⟨Nat.le_of_ble_eq_true rfl, Nat.le_of_ble_eq_true rfl⟩ (Nat.le_of_ble_eq_true rfl) dX12_goAll_1 ?_
  show q_Gs w g 4 [(0, .ref 96)] [] (q_mm I1 L)
  refine g_iconst K1 0 dX12_goAll_4 rfl ?_
  refine g_istore_n K1 dX12_goAll_5 rfl (by decide) rfl ?_
  exact g_perm [1, 0] rfl (h w g K)
set_option maxRecDepth 20000 in
set_option maxHeartbeats 2000000 in
theorem vc_X12_goAll_6 {r : Option Value} {I' : Nat → Nat → Int32} {L' : Nat → Nat → Int64} {I : Nat → Nat → Int32} {L : Nat → Nat → Int64} {x1 : Int32} (h : (∃ r1, q_C kX12_hours [.ref 96] I L (some (.int r1)) I L ∧ ((r1 < x1 → (r = none ∧ I' = I ∧ L' = L)) ∧ (¬ r1 < x1 → (∃ I2, q_C kX12_beginHour [.ref 96, .int x1] I L none I2 L ∧ (v_X12_goAll_21 r I' L' I2 L x1 0)))))) : v_X12_goAll_6 r I' L' I L x1 := by
  intro w g K
  have K1 := K.1
  refine g_iload_n K1 1 dX12_goAll_6 rfl ?_
  refine g_aload_n K1 0 dX12_goAll_7 rfl ?_
  obtain ⟨r1, hct, h⟩ := h
  refine h_callV K1 (st := [.int x1]) [] (hct w (gl g)) q_clX12 lyp_96 rfl ok_X12_hours ml_X12_82 ⟨Nat.le_of_ble_eq_true rfl, Nat.le_of_ble_eq_true rfl⟩ (Nat.le_of_ble_eq_true rfl) dX12_goAll_8 ?_
  show q_Gs w g 11 [(0, .ref 96), (1, .int x1)] [.int r1, .int x1] (q_mm I L)
  refine g_icmp_gt K1 55 dX12_goAll_11 rfl (fun hc => ?_) (fun hc => ?_)
  · replace h := h.1 hc
    obtain ⟨hr, hI, hL⟩ := h
    subst hr hI hL
    exact g_vreturn K rfl dX12_goAll_55
  · replace h := h.2 hc
    refine g_aload_n K1 0 dX12_goAll_14 rfl ?_
    refine g_iload_n K1 1 dX12_goAll_15 rfl ?_
    obtain ⟨I2, hct, h⟩ := h
    refine h_callV K1 (st := []) [.int x1] (hct w (gl g)) q_clX12 lyp_96 rfl ok_X12_beginHour ml_X12_291 ⟨Nat.le_of_ble_eq_true rfl, Nat.le_of_ble_eq_true rfl⟩ (Nat.le_of_ble_eq_true rfl) dX12_goAll_16 ?_
    show q_Gs w g 19 [(0, .ref 96), (1, .int x1)] [] (q_mm I2 L)
    refine g_iconst K1 0 dX12_goAll_19 rfl ?_
    refine g_istore_n K1 dX12_goAll_20 rfl (by decide) rfl ?_
    exact g_perm [1, 2, 0] rfl (h w g K)
set_option maxRecDepth 20000 in
set_option maxHeartbeats 2000000 in
theorem vc_X12_goAll_21 {r : Option Value} {I' : Nat → Nat → Int32} {L' : Nat → Nat → Int64} {I : Nat → Nat → Int32} {L : Nat → Nat → Int64} {x1 : Int32} {x2 : Int32} (h : (∃ r1, q_C kX12_pews [.ref 96] I L (some (.int r1)) I L ∧ ((r1 ≤ x2 → (v_X12_goAll_6 r I' L' I L (x1 + 1))) ∧ (¬ r1 ≤ x2 → (∃ r2, q_C kX12_hours [.ref 96] I L (some (.int r2)) I L ∧ ((r2 ≤ x1 → (v_X12_goAll_6 r I' L' I L (x1 + 1))) ∧ (¬ r2 ≤ x1 → (∃ I3, q_C kX12_goesOn [.ref 96, .int x2, .int x1] I L none I3 L ∧ (v_X12_goAll_21 r I' L' I3 L x1 (x2 + 1)))))))))) : v_X12_goAll_21 r I' L' I L x1 x2 := by
  intro w g K
  have K1 := K.1
  refine g_iload_n K1 2 dX12_goAll_21 rfl ?_
  refine g_aload_n K1 0 dX12_goAll_22 rfl ?_
  obtain ⟨r1, hct, h⟩ := h
  refine h_callV K1 (st := [.int x2]) [] (hct w (gl g)) q_clX12 lyp_96 rfl ok_X12_pews ml_X12_74 ⟨Nat.le_of_ble_eq_true rfl, Nat.le_of_ble_eq_true rfl⟩ (Nat.le_of_ble_eq_true rfl) dX12_goAll_23 ?_
  show q_Gs w g 26 [(0, .ref 96), (1, .int x1), (2, .int x2)] [.int r1, .int x2] (q_mm I L)
  refine g_icmp_ge K1 49 dX12_goAll_26 rfl (fun hc => ?_) (fun hc => ?_)
  · replace h := h.1 hc
    refine g_iinc K1 (x1 + 1) 1 dX12_goAll_49 rfl rfl (by decide) rfl ?_
    refine g_goto K1 6 dX12_goAll_52 rfl ?_
    exact g_perm [1, 0] rfl (h w g K)
  · replace h := h.2 hc
    refine g_iload_n K1 1 dX12_goAll_29 rfl ?_
    refine g_aload_n K1 0 dX12_goAll_30 rfl ?_
    obtain ⟨r2, hct, h⟩ := h
    refine h_callV K1 (st := [.int x1]) [] (hct w (gl g)) q_clX12 lyp_96 rfl ok_X12_hours ml_X12_82 ⟨Nat.le_of_ble_eq_true rfl, Nat.le_of_ble_eq_true rfl⟩ (Nat.le_of_ble_eq_true rfl) dX12_goAll_31 ?_
    show q_Gs w g 34 [(0, .ref 96), (1, .int x1), (2, .int x2)] [.int r2, .int x1] (q_mm I L)
    refine g_icmp_ge K1 49 dX12_goAll_34 rfl (fun hc => ?_) (fun hc => ?_)
    · replace h := h.1 hc
      refine g_iinc K1 (x1 + 1) 1 dX12_goAll_49 rfl rfl (by decide) rfl ?_
      refine g_goto K1 6 dX12_goAll_52 rfl ?_
      exact g_perm [1, 0] rfl (h w g K)
    · replace h := h.2 hc
      refine g_aload_n K1 0 dX12_goAll_37 rfl ?_
      refine g_iload_n K1 2 dX12_goAll_38 rfl ?_
      refine g_iload_n K1 1 dX12_goAll_39 rfl ?_
      obtain ⟨I3, hct, h⟩ := h
      refine h_callV K1 (st := []) [.int x2, .int x1] (hct w (gl g)) q_clX12 lyp_96 rfl ok_X12_goesOn ml_X12_294 ⟨Nat.le_of_ble_eq_true rfl, Nat.le_of_ble_eq_true rfl⟩ (Nat.le_of_ble_eq_true rfl) dX12_goAll_40 ?_
      show q_Gs w g 43 [(0, .ref 96), (1, .int x1), (2, .int x2)] [] (q_mm I3 L)
      refine g_iinc K1 (x2 + 1) 2 dX12_goAll_43 rfl rfl (by decide) rfl ?_
      refine g_goto K1 21 dX12_goAll_46 rfl ?_
      exact g_perm [1, 2, 0] rfl (h w g K)
theorem c0_X12_goAll {r : Option Value} {I I' : Nat → Nat → Int32} {L L' : Nat → Nat → Int64}  (h : v_X12_goAll_0 r I' L' I L ) : q_C kX12_goAll [.ref 96] I L r I' L' := fun w l => q_ct (by decide) (Nat.le_of_ble_eq_true rfl) (Nat.le_refl _) (fun g _ K => h w g K)
abbrev v_X12_goBy_0 (r : Option Value) (I' : Nat → Nat → Int32) (L' : Nat → Nat → Int64) (I : Nat → Nat → Int32) (L : Nat → Nat → Int64) (x1 : Int32) : Prop := q_W kX12_goBy 0 [(0, .ref 96), (1, .int x1)] [] I L r I' L'
set_option maxRecDepth 20000 in
set_option maxHeartbeats 2000000 in
theorem vc_X12_goBy_0 {r : Option Value} {I' : Nat → Nat → Int32} {L' : Nat → Nat → Int64} {I : Nat → Nat → Int32} {L : Nat → Nat → Int64} {x1 : Int32} (h : (∃ I1, q_C kX12_goAll [.ref 96] (up2 I 96 16 x1) L none I1 L ∧ (r = none ∧ I' = I1 ∧ L' = L))) : v_X12_goBy_0 r I' L' I L x1 := by
  intro w g K
  have K1 := K.1
  refine g_aload_n K1 0 dX12_goBy_0 rfl ?_
  refine g_iload_n K1 1 dX12_goBy_1 rfl ?_
  refine h_putI K1 q_clX12 16 lyp_96 fkX12_16 fl_X12_243 rfl rfl rfl dX12_goBy_2 ?_
  refine g_aload_n K1 0 dX12_goBy_5 rfl ?_
  obtain ⟨I1, hct, h⟩ := h
  refine h_callV K1 (st := []) [] (hct w (gl g)) q_clX12 lyp_96 rfl ok_X12_goAll ml_X12_300 ⟨Nat.le_of_ble_eq_true rfl, Nat.le_of_ble_eq_true rfl⟩ (Nat.le_of_ble_eq_true rfl) dX12_goBy_6 ?_
  show q_Gs w g 9 [(0, .ref 96), (1, .int x1)] [] (q_mm I1 L)
  obtain ⟨hr, hI, hL⟩ := h
  subst hr hI hL
  exact g_vreturn K rfl dX12_goBy_9
theorem c0_X12_goBy {r : Option Value} {I I' : Nat → Nat → Int32} {L L' : Nat → Nat → Int64} {x1 : Int32} (h : v_X12_goBy_0 r I' L' I L x1) : q_C kX12_goBy [.ref 96, .int x1] I L r I' L' := fun w l => q_ct (by decide) (Nat.le_of_ble_eq_true rfl) (Nat.le_refl _) (fun g _ K => h w g K)
abbrev v_X12_goDrawn_0 (r : Option Value) (I' : Nat → Nat → Int32) (L' : Nat → Nat → Int64) (I : Nat → Nat → Int32) (L : Nat → Nat → Int64) (x1 : Int64) : Prop := q_W kX12_goDrawn 0 [(0, .ref 96), (1, .long x1)] [] I L r I' L'
abbrev v_X12_goDrawn_9 (r : Option Value) (I' : Nat → Nat → Int32) (L' : Nat → Nat → Int64) (I : Nat → Nat → Int32) (L : Nat → Nat → Int64) (x3 : Int64) (x5 : Int32) : Prop := q_W kX12_goDrawn 9 [(0, .ref 96), (3, .long x3), (5, .int x5)] [] I L r I' L'
set_option maxRecDepth 20000 in
set_option maxHeartbeats 2000000 in
theorem vc_X12_goDrawn_0 {r : Option Value} {I' : Nat → Nat → Int32} {L' : Nat → Nat → Int64} {I : Nat → Nat → Int32} {L : Nat → Nat → Int64} {x1 : Int64} (h : (∃ I1, q_C kX12_asItIs [.ref 96] I L none I1 L ∧ (v_X12_goDrawn_9 r I' L' I1 L x1 0))) : v_X12_goDrawn_0 r I' L' I L x1 := by
  intro w g K
  have K1 := K.1
  refine g_aload_n K1 0 dX12_goDrawn_0 rfl ?_
  obtain ⟨I1, hct, h⟩ := h
  refine h_callV K1 (st := []) [] (hct w (gl g)) q_clX12 lyp_96 rfl ok_X12_asItIs ml_X12_297 ⟨Nat.le_of_ble_eq_true rfl, Nat.le_of_ble_eq_true rfl⟩ (Nat.le_of_ble_eq_true rfl) dX12_goDrawn_1 ?_
  show q_Gs w g 4 [(0, .ref 96), (1, .long x1)] [] (q_mm I1 L)
  refine g_lload_n K1 1 dX12_goDrawn_4 rfl ?_
  refine g_lstore_n K1 dX12_goDrawn_5 rfl (by decide) rfl ?_
  refine g_iconst K1 0 dX12_goDrawn_6 rfl ?_
  refine g_istore K1 dX12_goDrawn_7 (by decide) rfl ?_
  exact g_perm [2, 1, 0] rfl (h w g K)
set_option maxRecDepth 20000 in
set_option maxHeartbeats 2000000 in
theorem vc_X12_goDrawn_9 {r : Option Value} {I' : Nat → Nat → Int32} {L' : Nat → Nat → Int64} {I : Nat → Nat → Int32} {L : Nat → Nat → Int64} {x3 : Int64} {x5 : Int32} (h : (∃ r1, q_C kX12_hours [.ref 96] I L (some (.int r1)) I L ∧ ((r1 ≤ x5 → (∃ I2, q_C kX12_goAll [.ref 96] I L none I2 L ∧ (r = none ∧ I' = I2 ∧ L' = L))) ∧ (¬ r1 ≤ x5 → ∀ z3 : Int64, z3 = (((1103515245 * x3) + 12345) - ((1103515245 * x3) + 12345) / 2147483648 * 2147483648) → (vp_in 2 104 ∧ ((0 ≤ (lg_cmp ((z3 / 65536) - (z3 / 65536) / 10 * 10) ((I 97 (2 : Int32).toNatClampNeg) : Int32).toInt64) → (v_X12_goDrawn_9 r I' L' (up2 I 96 17 ((I 96 17) ||| 0)) L z3 (x5 + 1))) ∧ (¬ 0 ≤ (lg_cmp ((z3 / 65536) - (z3 / 65536) / 10 * 10) ((I 97 (2 : Int32).toNatClampNeg) : Int32).toInt64) → (v_X12_goDrawn_9 r I' L' (up2 I 96 17 ((I 96 17) ||| ((1 : Int32) <<< (x5 &&& 31)))) L z3 (x5 + 1))))))))) : v_X12_goDrawn_9 r I' L' I L x3 x5 := by
  intro w g K
  have K1 := K.1
  refine g_iload K1 2 dX12_goDrawn_9 rfl ?_
  refine g_aload_n K1 0 dX12_goDrawn_11 rfl ?_
  obtain ⟨r1, hct, h⟩ := h
  refine h_callV K1 (st := [.int x5]) [] (hct w (gl g)) q_clX12 lyp_96 rfl ok_X12_hours ml_X12_82 ⟨Nat.le_of_ble_eq_true rfl, Nat.le_of_ble_eq_true rfl⟩ (Nat.le_of_ble_eq_true rfl) dX12_goDrawn_12 ?_
  show q_Gs w g 15 [(0, .ref 96), (3, .long x3), (5, .int x5)] [.int r1, .int x5] (q_mm I L)
  refine g_icmp_ge K1 75 dX12_goDrawn_15 rfl (fun hc => ?_) (fun hc => ?_)
  · replace h := h.1 hc
    refine g_aload_n K1 0 dX12_goDrawn_75 rfl ?_
    obtain ⟨I2, hct, h⟩ := h
    refine h_callV K1 (st := []) [] (hct w (gl g)) q_clX12 lyp_96 rfl ok_X12_goAll ml_X12_300 ⟨Nat.le_of_ble_eq_true rfl, Nat.le_of_ble_eq_true rfl⟩ (Nat.le_of_ble_eq_true rfl) dX12_goDrawn_76 ?_
    show q_Gs w g 79 [(0, .ref 96), (3, .long x3), (5, .int x5)] [] (q_mm I2 L)
    obtain ⟨hr, hI, hL⟩ := h
    subst hr hI hL
    exact g_vreturn K rfl dX12_goDrawn_79
  · replace h := h.2 hc
    refine g_ldc2_w K1 1103515245 dX12_goDrawn_18 cn_X12_466 ?_
    refine g_lload_n K1 1 dX12_goDrawn_21 rfl ?_
    refine g_lmul K1 dX12_goDrawn_22 ?_
    refine g_ldc2_w K1 12345 dX12_goDrawn_23 cn_X12_468 ?_
    refine g_ladd K1 dX12_goDrawn_26 ?_
    refine g_ldc2_w K1 2147483648 dX12_goDrawn_27 cn_X12_470 ?_
    refine g_lrem K1 dX12_goDrawn_30 (by decide) ?_
    refine g_nameL (fun z3 hz3 => ?_)
    replace h := h z3 hz3
    refine g_lstore_n K1 dX12_goDrawn_31 rfl (by decide) rfl ?_
    refine g_aload_n K1 1 dX12_goDrawn_32 rfl ?_
    refine g_dup K1 dX12_goDrawn_33 rfl ?_
    refine h_getI K1 q_clX12 17 lyp_96 fkX12_17 fl_X12_246 dX12_goDrawn_34 ?_
    refine g_lload_n K1 0 dX12_goDrawn_37 rfl ?_
    refine g_ldc2_w K1 65536 dX12_goDrawn_38 cn_X12_472 ?_
    refine g_ldiv K1 dX12_goDrawn_41 (by decide) ?_
    refine g_ldc2_w K1 10 dX12_goDrawn_42 cn_X12_474 ?_
    refine g_lrem K1 dX12_goDrawn_45 (by decide) ?_
    refine g_aload_n K1 1 dX12_goDrawn_46 rfl ?_
    refine h_getO K1 q_clX12 1 97 lyp_96 fkX12_1 rfl fl_X12_9 dX12_goDrawn_47 ?_
    refine g_iconst K1 2 dX12_goDrawn_50 rfl ?_
    obtain ⟨hg, h⟩ := h
    refine h_iaload K1 lyp_97 hg dX12_goDrawn_51 ?_
    refine g_i2l K1 dX12_goDrawn_52 ?_
    refine g_lcmp K1 dX12_goDrawn_53 ?_
    refine g_if_ge K1 64 dX12_goDrawn_54 rfl (fun hc => ?_) (fun hc => ?_)
    · replace h := h.1 hc
      refine g_iconst K1 0 dX12_goDrawn_64 rfl ?_
      refine g_ior K1 dX12_goDrawn_65 ?_
      refine h_putI K1 q_clX12 17 lyp_96 fkX12_17 fl_X12_246 rfl rfl rfl dX12_goDrawn_66 ?_
      refine g_iinc K1 (x5 + 1) 2 dX12_goDrawn_69 rfl rfl (by decide) rfl ?_
      refine g_goto K1 9 dX12_goDrawn_72 rfl ?_
      exact g_perm [2, 1, 0] rfl (h w g K)
    · replace h := h.2 hc
      refine g_iconst K1 1 dX12_goDrawn_57 rfl ?_
      refine g_iload K1 2 dX12_goDrawn_58 rfl ?_
      refine g_ishl K1 dX12_goDrawn_60 ?_
      refine g_goto K1 65 dX12_goDrawn_61 rfl ?_
      refine g_ior K1 dX12_goDrawn_65 ?_
      refine h_putI K1 q_clX12 17 lyp_96 fkX12_17 fl_X12_246 rfl rfl rfl dX12_goDrawn_66 ?_
      refine g_iinc K1 (x5 + 1) 2 dX12_goDrawn_69 rfl rfl (by decide) rfl ?_
      refine g_goto K1 9 dX12_goDrawn_72 rfl ?_
      exact g_perm [2, 1, 0] rfl (h w g K)
theorem c0_X12_goDrawn {r : Option Value} {I I' : Nat → Nat → Int32} {L L' : Nat → Nat → Int64} {x1 : Int64} (h : v_X12_goDrawn_0 r I' L' I L x1) : q_C kX12_goDrawn [.ref 96, .long x1] I L r I' L' := fun w l => q_ct (by decide) (Nat.le_of_ble_eq_true rfl) (Nat.le_refl _) (fun g _ K => h w g K)
abbrev v_X12_goesOn_0 (r : Option Value) (I' : Nat → Nat → Int32) (L' : Nat → Nat → Int64) (I : Nat → Nat → Int32) (L : Nat → Nat → Int64) (x1 : Int32) (x2 : Int32) : Prop := q_W kX12_goesOn 0 [(0, .ref 96), (1, .int x1), (2, .int x2)] [] I L r I' L'
abbrev v_X12_goesOn_86 (r : Option Value) (I' : Nat → Nat → Int32) (L' : Nat → Nat → Int64) (I : Nat → Nat → Int32) (L : Nat → Nat → Int64) (x1 : Int32) (x2 : Int32) (x4 : Int32) : Prop := q_W kX12_goesOn 86 [(0, .ref 96), (1, .int x1), (2, .int x2), (4, .int x4)] [] I L r I' L'
abbrev v_X12_goesOn_120 (r : Option Value) (I' : Nat → Nat → Int32) (L' : Nat → Nat → Int64) (I : Nat → Nat → Int32) (L : Nat → Nat → Int64) (x2 : Int32) (x4 : Int32) (x5 : Int32) (s0 : Int32) : Prop := q_W kX12_goesOn 120 [(0, .ref 96), (2, .int x2), (4, .int x4), (5, .int x5)] [.int s0] I L r I' L'
set_option maxRecDepth 20000 in
set_option maxHeartbeats 2000000 in
theorem vc_X12_goesOn_0 {r : Option Value} {I' : Nat → Nat → Int32} {L' : Nat → Nat → Int64} {I : Nat → Nat → Int32} {L : Nat → Nat → Int64} {x1 : Int32} {x2 : Int32} (h : (vp_in ((7 * x2) + x1) 91 ∧ (vp_in (((7 * x2) + x1) + 7) 91 ∧ ∀ I1, I1 = (up2 I 103 ((((7 * x2) + x1) + 7) : Int32).toNatClampNeg (I 103 (((7 * x2) + x1) : Int32).toNatClampNeg)) → (vp_in ((7 * x2) + x1) 91 ∧ (vp_in (((7 * x2) + x1) + 7) 91 ∧ ∀ I2, I2 = (up2 I1 104 ((((7 * x2) + x1) + 7) : Int32).toNatClampNeg (I1 104 (((7 * x2) + x1) : Int32).toNatClampNeg)) → (vp_in ((7 * x2) + x1) 91 ∧ (vp_in (((7 * x2) + x1) + 7) 91 ∧ ∀ I3, I3 = (up2 I2 105 ((((7 * x2) + x1) + 7) : Int32).toNatClampNeg (I2 105 (((7 * x2) + x1) : Int32).toNatClampNeg)) → (vp_in ((7 * x2) + x1) 91 ∧ (vp_in (((7 * x2) + x1) + 7) 91 ∧ ∀ I4, I4 = (up2 I3 106 ((((7 * x2) + x1) + 7) : Int32).toNatClampNeg (I3 106 (((7 * x2) + x1) : Int32).toNatClampNeg)) → (vp_in ((7 * x2) + x1) 91 ∧ ((0 < (I4 103 (((7 * x2) + x1) : Int32).toNatClampNeg) → (v_X12_goesOn_86 r I' L' I4 L x1 x2 (((7 * x2) + x1) + 7))) ∧ (¬ 0 < (I4 103 (((7 * x2) + x1) : Int32).toNatClampNeg) → (∃ r5, q_C kX12_bit [.int (I4 96 17), .int x2] I4 L (some (.int r5)) I4 L ∧ ((r5 = 1 → (v_X12_goesOn_86 r I' L' I4 L x1 x2 (((7 * x2) + x1) + 7))) ∧ (¬ r5 = 1 → (∃ r6, q_C kX12_heardBy [.ref 96, .int x1, .int x2] I4 L (some (.int r6)) I4 L ∧ ((r6 = (-1) → (v_X12_goesOn_120 r I' L' I4 L x2 (((7 * x2) + x1) + 7) r6 0)) ∧ (¬ r6 = (-1) → (∃ r7, q_C kX12_saysOf [.ref 96, .int r6, .int x2] I4 L (some (.int r7)) I4 L ∧ (∃ r8, q_C kX12_changed [.ref 96, .int x1, .int r7] I4 L (some (.int r8)) I4 L ∧ (v_X12_goesOn_120 r I' L' I4 L x2 (((7 * x2) + x1) + 7) r6 r8))))))))))))))))))))) : v_X12_goesOn_0 r I' L' I L x1 x2 := by
  intro w g K
  have K1 := K.1
  refine g_bipush K1 7 dX12_goesOn_0 rfl ?_
  refine g_iload_n K1 2 dX12_goesOn_2 rfl ?_
  refine g_imul K1 dX12_goesOn_3 ?_
  refine g_iload_n K1 1 dX12_goesOn_4 rfl ?_
  refine g_iadd K1 dX12_goesOn_5 ?_
  refine g_istore_n K1 dX12_goesOn_6 rfl (by decide) rfl ?_
  refine g_iload_n K1 0 dX12_goesOn_7 rfl ?_
  refine g_bipush K1 7 dX12_goesOn_8 rfl ?_
  refine g_iadd K1 dX12_goesOn_10 ?_
  refine g_istore K1 dX12_goesOn_11 (by decide) rfl ?_
  refine g_aload_n K1 2 dX12_goesOn_13 rfl ?_
  refine h_getO K1 q_clX12 24 103 lyp_96 fkX12_24 rfl fl_X12_34 dX12_goesOn_14 ?_
  refine g_iload K1 0 dX12_goesOn_17 rfl ?_
  refine g_aload_n K1 2 dX12_goesOn_19 rfl ?_
  refine h_getO K1 q_clX12 24 103 lyp_96 fkX12_24 rfl fl_X12_34 dX12_goesOn_20 ?_
  refine g_iload_n K1 1 dX12_goesOn_23 rfl ?_
  obtain ⟨hg, h⟩ := h
  refine h_iaload K1 lyp_103 hg dX12_goesOn_24 ?_
  obtain ⟨hg, h⟩ := h
  refine h_iastore K1 lyp_103 hg dX12_goesOn_25 ?_
  refine g_nameMI (fun I1 hI1 => ?_)
  replace h := h I1 hI1
  refine g_aload_n K1 2 dX12_goesOn_26 rfl ?_
  refine h_getO K1 q_clX12 25 104 lyp_96 fkX12_25 rfl fl_X12_37 dX12_goesOn_27 ?_
  refine g_iload K1 0 dX12_goesOn_30 rfl ?_
  refine g_aload_n K1 2 dX12_goesOn_32 rfl ?_
  refine h_getO K1 q_clX12 25 104 lyp_96 fkX12_25 rfl fl_X12_37 dX12_goesOn_33 ?_
  refine g_iload_n K1 1 dX12_goesOn_36 rfl ?_
  obtain ⟨hg, h⟩ := h
  refine h_iaload K1 lyp_104 hg dX12_goesOn_37 ?_
  obtain ⟨hg, h⟩ := h
  refine h_iastore K1 lyp_104 hg dX12_goesOn_38 ?_
  refine g_nameMI (fun I2 hI2 => ?_)
  replace h := h I2 hI2
  refine g_aload_n K1 2 dX12_goesOn_39 rfl ?_
  refine h_getO K1 q_clX12 26 105 lyp_96 fkX12_26 rfl fl_X12_40 dX12_goesOn_40 ?_
  refine g_iload K1 0 dX12_goesOn_43 rfl ?_
  refine g_aload_n K1 2 dX12_goesOn_45 rfl ?_
  refine h_getO K1 q_clX12 26 105 lyp_96 fkX12_26 rfl fl_X12_40 dX12_goesOn_46 ?_
  refine g_iload_n K1 1 dX12_goesOn_49 rfl ?_
  obtain ⟨hg, h⟩ := h
  refine h_iaload K1 lyp_105 hg dX12_goesOn_50 ?_
  obtain ⟨hg, h⟩ := h
  refine h_iastore K1 lyp_105 hg dX12_goesOn_51 ?_
  refine g_nameMI (fun I3 hI3 => ?_)
  replace h := h I3 hI3
  refine g_aload_n K1 2 dX12_goesOn_52 rfl ?_
  refine h_getO K1 q_clX12 27 106 lyp_96 fkX12_27 rfl fl_X12_43 dX12_goesOn_53 ?_
  refine g_iload K1 0 dX12_goesOn_56 rfl ?_
  refine g_aload_n K1 2 dX12_goesOn_58 rfl ?_
  refine h_getO K1 q_clX12 27 106 lyp_96 fkX12_27 rfl fl_X12_43 dX12_goesOn_59 ?_
  refine g_iload_n K1 1 dX12_goesOn_62 rfl ?_
  obtain ⟨hg, h⟩ := h
  refine h_iaload K1 lyp_106 hg dX12_goesOn_63 ?_
  obtain ⟨hg, h⟩ := h
  refine h_iastore K1 lyp_106 hg dX12_goesOn_64 ?_
  refine g_nameMI (fun I4 hI4 => ?_)
  replace h := h I4 hI4
  refine g_aload_n K1 2 dX12_goesOn_65 rfl ?_
  refine h_getO K1 q_clX12 24 103 lyp_96 fkX12_24 rfl fl_X12_34 dX12_goesOn_66 ?_
  refine g_iload_n K1 1 dX12_goesOn_69 rfl ?_
  obtain ⟨hg, h⟩ := h
  refine h_iaload K1 lyp_103 hg dX12_goesOn_70 ?_
  refine g_if_gt K1 86 dX12_goesOn_71 rfl (fun hc => ?_) (fun hc => ?_)
  · replace h := h.1 hc
    exact g_perm [2, 3, 4, 0] rfl (h w g K)
  · replace h := h.2 hc
    refine g_aload_n K1 2 dX12_goesOn_74 rfl ?_
    refine h_getI K1 q_clX12 17 lyp_96 fkX12_17 fl_X12_246 dX12_goesOn_75 ?_
    refine g_iload_n K1 4 dX12_goesOn_78 rfl ?_
    obtain ⟨r5, hct, h⟩ := h
    refine h_callS K1 (st := []) [.int (I4 96 17), .int x2] (hct w (gl g)) ok_X12_bit ml_X12_237 ⟨Nat.le_of_ble_eq_true rfl, Nat.le_of_ble_eq_true rfl⟩ (Nat.le_of_ble_eq_true rfl) dX12_goesOn_79 ?_
    show q_Gs w g 82 [(4, .int (((7 * x2) + x1) + 7)), (3, .int ((7 * x2) + x1)), (0, .ref 96), (1, .int x1), (2, .int x2)] [.int r5] (q_mm I4 L)
    refine g_iconst K1 1 dX12_goesOn_82 rfl ?_
    refine g_icmp_ne K1 90 dX12_goesOn_83 rfl (fun hc => ?_) (fun hc => ?_)
    · replace h := h.2 hc
      refine g_aload_n K1 2 dX12_goesOn_90 rfl ?_
      refine g_iload_n K1 3 dX12_goesOn_91 rfl ?_
      refine g_iload_n K1 4 dX12_goesOn_92 rfl ?_
      obtain ⟨r6, hct, h⟩ := h
      refine h_callV K1 (st := []) [.int x1, .int x2] (hct w (gl g)) q_clX12 lyp_96 rfl ok_X12_heardBy ml_X12_282 ⟨Nat.le_of_ble_eq_true rfl, Nat.le_of_ble_eq_true rfl⟩ (Nat.le_of_ble_eq_true rfl) dX12_goesOn_93 ?_
      show q_Gs w g 96 [(4, .int (((7 * x2) + x1) + 7)), (3, .int ((7 * x2) + x1)), (0, .ref 96), (1, .int x1), (2, .int x2)] [.int r6] (q_mm I4 L)
      refine g_istore K1 dX12_goesOn_96 (by decide) rfl ?_
      refine g_iload K1 0 dX12_goesOn_98 rfl ?_
      refine g_iconst K1 (-1) dX12_goesOn_100 rfl ?_
      refine g_icmp_ne K1 108 dX12_goesOn_101 rfl (fun hc => ?_) (fun hc => ?_)
      · replace h := h.2 hc
        refine g_aload_n K1 3 dX12_goesOn_108 rfl ?_
        refine g_iload_n K1 4 dX12_goesOn_109 rfl ?_
        refine g_aload_n K1 3 dX12_goesOn_110 rfl ?_
        refine g_iload K1 0 dX12_goesOn_111 rfl ?_
        refine g_iload_n K1 5 dX12_goesOn_113 rfl ?_
        obtain ⟨r7, hct, h⟩ := h
        refine h_callV K1 (st := [.int x1, .ref 96]) [.int r6, .int x2] (hct w (gl g)) q_clX12 lyp_96 rfl ok_X12_saysOf ml_X12_275 ⟨Nat.le_of_ble_eq_true rfl, Nat.le_of_ble_eq_true rfl⟩ (Nat.le_of_ble_eq_true rfl) dX12_goesOn_114 ?_
        show q_Gs w g 117 [(5, .int r6), (4, .int (((7 * x2) + x1) + 7)), (3, .int ((7 * x2) + x1)), (0, .ref 96), (1, .int x1), (2, .int x2)] [.int r7, .int x1, .ref 96] (q_mm I4 L)
        obtain ⟨r8, hct, h⟩ := h
        refine h_callV K1 (st := []) [.int x1, .int r7] (hct w (gl g)) q_clX12 lyp_96 rfl ok_X12_changed ml_X12_285 ⟨Nat.le_of_ble_eq_true rfl, Nat.le_of_ble_eq_true rfl⟩ (Nat.le_of_ble_eq_true rfl) dX12_goesOn_117 ?_
        show q_Gs w g 120 [(5, .int r6), (4, .int (((7 * x2) + x1) + 7)), (3, .int ((7 * x2) + x1)), (0, .ref 96), (1, .int x1), (2, .int x2)] [.int r8] (q_mm I4 L)
        exact g_perm [3, 5, 1, 0] rfl (h w g K)
      · replace h := h.1 hc
        refine g_iconst K1 0 dX12_goesOn_104 rfl ?_
        refine g_goto K1 120 dX12_goesOn_105 rfl ?_
        exact g_perm [3, 5, 1, 0] rfl (h w g K)
    · replace h := h.1 hc
      exact g_perm [2, 3, 4, 0] rfl (h w g K)
set_option maxRecDepth 20000 in
set_option maxHeartbeats 2000000 in
theorem vc_X12_goesOn_86 {r : Option Value} {I' : Nat → Nat → Int32} {L' : Nat → Nat → Int64} {I : Nat → Nat → Int32} {L : Nat → Nat → Int64} {x1 : Int32} {x2 : Int32} {x4 : Int32} (h : (((-1 : Int32) = (-1 : Int32) → (v_X12_goesOn_120 r I' L' I L x2 x4 (-1) 0)) ∧ (¬ (-1 : Int32) = (-1 : Int32) → (∃ r1, q_C kX12_saysOf [.ref 96, .int (-1), .int x2] I L (some (.int r1)) I L ∧ (∃ r2, q_C kX12_changed [.ref 96, .int x1, .int r1] I L (some (.int r2)) I L ∧ (v_X12_goesOn_120 r I' L' I L x2 x4 (-1) r2)))))) : v_X12_goesOn_86 r I' L' I L x1 x2 x4 := by
  intro w g K
  have K1 := K.1
  refine g_iconst K1 (-1) dX12_goesOn_86 rfl ?_
  refine g_goto K1 96 dX12_goesOn_87 rfl ?_
  refine g_istore K1 dX12_goesOn_96 (by decide) rfl ?_
  refine g_iload K1 0 dX12_goesOn_98 rfl ?_
  refine g_iconst K1 (-1) dX12_goesOn_100 rfl ?_
  refine g_icmp_ne K1 108 dX12_goesOn_101 rfl (fun hc => ?_) (fun hc => ?_)
  · replace h := h.2 hc
    refine g_aload_n K1 1 dX12_goesOn_108 rfl ?_
    refine g_iload_n K1 2 dX12_goesOn_109 rfl ?_
    refine g_aload_n K1 1 dX12_goesOn_110 rfl ?_
    refine g_iload K1 0 dX12_goesOn_111 rfl ?_
    refine g_iload_n K1 3 dX12_goesOn_113 rfl ?_
    obtain ⟨r1, hct, h⟩ := h
    refine h_callV K1 (st := [.int x1, .ref 96]) [.int (-1), .int x2] (hct w (gl g)) q_clX12 lyp_96 rfl ok_X12_saysOf ml_X12_275 ⟨Nat.le_of_ble_eq_true rfl, Nat.le_of_ble_eq_true rfl⟩ (Nat.le_of_ble_eq_true rfl) dX12_goesOn_114 ?_
    show q_Gs w g 117 [(5, .int (-1)), (0, .ref 96), (1, .int x1), (2, .int x2), (4, .int x4)] [.int r1, .int x1, .ref 96] (q_mm I L)
    obtain ⟨r2, hct, h⟩ := h
    refine h_callV K1 (st := []) [.int x1, .int r1] (hct w (gl g)) q_clX12 lyp_96 rfl ok_X12_changed ml_X12_285 ⟨Nat.le_of_ble_eq_true rfl, Nat.le_of_ble_eq_true rfl⟩ (Nat.le_of_ble_eq_true rfl) dX12_goesOn_117 ?_
    show q_Gs w g 120 [(5, .int (-1)), (0, .ref 96), (1, .int x1), (2, .int x2), (4, .int x4)] [.int r2] (q_mm I L)
    exact g_perm [1, 3, 4, 0] rfl (h w g K)
  · replace h := h.1 hc
    refine g_iconst K1 0 dX12_goesOn_104 rfl ?_
    refine g_goto K1 120 dX12_goesOn_105 rfl ?_
    exact g_perm [1, 3, 4, 0] rfl (h w g K)
set_option maxRecDepth 20000 in
set_option maxHeartbeats 2000000 in
theorem vc_X12_goesOn_120 {r : Option Value} {I' : Nat → Nat → Int32} {L' : Nat → Nat → Int64} {I : Nat → Nat → Int32} {L : Nat → Nat → Int64} {x2 : Int32} {x4 : Int32} {x5 : Int32} {s0 : Int32} (h : ((s0 = 0 → (r = none ∧ I' = I ∧ L' = L)) ∧ (¬ s0 = 0 → (vp_in x4 91 ∧ (vp_in x4 91 ∧ (vp_in x4 91 ∧ ∀ I1, I1 = (up2 (up2 (up2 I 103 x4.toNatClampNeg s0) 104 x4.toNatClampNeg x5) 105 x4.toNatClampNeg (x2 + 1)) → (vp_in ((7 * x2) + x5) 91 ∧ (vp_in x4 91 ∧ ∀ I2, I2 = (up2 I1 106 x4.toNatClampNeg ((I1 106 (((7 * x2) + x5) : Int32).toNatClampNeg) + 1)) → (r = none ∧ I' = I2 ∧ L' = L))))))))) : v_X12_goesOn_120 r I' L' I L x2 x4 x5 s0 := by
  intro w g K
  have K1 := K.1
  refine g_istore K1 dX12_goesOn_120 (by decide) rfl ?_
  refine g_iload K1 0 dX12_goesOn_122 rfl ?_
  refine g_if_ne K1 128 dX12_goesOn_124 rfl (fun hc => ?_) (fun hc => ?_)
  · replace h := h.2 hc
    refine g_aload_n K1 1 dX12_goesOn_128 rfl ?_
    refine h_getO K1 q_clX12 24 103 lyp_96 fkX12_24 rfl fl_X12_34 dX12_goesOn_129 ?_
    refine g_iload K1 3 dX12_goesOn_132 rfl ?_
    refine g_iload K1 0 dX12_goesOn_134 rfl ?_
    obtain ⟨hg, h⟩ := h
    refine h_iastore K1 lyp_103 hg dX12_goesOn_136 ?_
    refine g_aload_n K1 1 dX12_goesOn_137 rfl ?_
    refine h_getO K1 q_clX12 25 104 lyp_96 fkX12_25 rfl fl_X12_37 dX12_goesOn_138 ?_
    refine g_iload K1 3 dX12_goesOn_141 rfl ?_
    refine g_iload K1 4 dX12_goesOn_143 rfl ?_
    obtain ⟨hg, h⟩ := h
    refine h_iastore K1 lyp_104 hg dX12_goesOn_145 ?_
    refine g_aload_n K1 1 dX12_goesOn_146 rfl ?_
    refine h_getO K1 q_clX12 26 105 lyp_96 fkX12_26 rfl fl_X12_40 dX12_goesOn_147 ?_
    refine g_iload K1 3 dX12_goesOn_150 rfl ?_
    refine g_iload_n K1 2 dX12_goesOn_152 rfl ?_
    refine g_iconst K1 1 dX12_goesOn_153 rfl ?_
    refine g_iadd K1 dX12_goesOn_154 ?_
    obtain ⟨hg, h⟩ := h
    refine h_iastore K1 lyp_105 hg dX12_goesOn_155 ?_
    refine g_nameMI (fun I1 hI1 => ?_)
    replace h := h I1 hI1
    refine g_aload_n K1 1 dX12_goesOn_156 rfl ?_
    refine h_getO K1 q_clX12 27 106 lyp_96 fkX12_27 rfl fl_X12_43 dX12_goesOn_157 ?_
    refine g_iload K1 3 dX12_goesOn_160 rfl ?_
    refine g_aload_n K1 1 dX12_goesOn_162 rfl ?_
    refine h_getO K1 q_clX12 27 106 lyp_96 fkX12_27 rfl fl_X12_43 dX12_goesOn_163 ?_
    refine g_bipush K1 7 dX12_goesOn_166 rfl ?_
    refine g_iload_n K1 2 dX12_goesOn_168 rfl ?_
    refine g_imul K1 dX12_goesOn_169 ?_
    refine g_iload K1 4 dX12_goesOn_170 rfl ?_
    refine g_iadd K1 dX12_goesOn_172 ?_
    obtain ⟨hg, h⟩ := h
    refine h_iaload K1 lyp_106 hg dX12_goesOn_173 ?_
    refine g_iconst K1 1 dX12_goesOn_174 rfl ?_
    refine g_iadd K1 dX12_goesOn_175 ?_
    obtain ⟨hg, h⟩ := h
    refine h_iastore K1 lyp_106 hg dX12_goesOn_176 ?_
    refine g_nameMI (fun I2 hI2 => ?_)
    replace h := h I2 hI2
    obtain ⟨hr, hI, hL⟩ := h
    subst hr hI hL
    exact g_vreturn K rfl dX12_goesOn_177
  · replace h := h.1 hc
    obtain ⟨hr, hI, hL⟩ := h
    subst hr hI hL
    exact g_vreturn K rfl dX12_goesOn_127
theorem c0_X12_goesOn {r : Option Value} {I I' : Nat → Nat → Int32} {L L' : Nat → Nat → Int64} {x1 : Int32} {x2 : Int32} (h : v_X12_goesOn_0 r I' L' I L x1 x2) : q_C kX12_goesOn [.ref 96, .int x1, .int x2] I L r I' L' := fun w l => q_ct (by decide) (Nat.le_of_ble_eq_true rfl) (Nat.le_refl _) (fun g _ K => h w g K)
abbrev v_X12_gone_0 (r : Option Value) (I' : Nat → Nat → Int32) (L' : Nat → Nat → Int64) (I : Nat → Nat → Int32) (L : Nat → Nat → Int64) (x1 : Int32) : Prop := q_W kX12_gone 0 [(0, .ref 96), (1, .int x1)] [] I L r I' L'
set_option maxRecDepth 20000 in
set_option maxHeartbeats 2000000 in
theorem vc_X12_gone_0 {r : Option Value} {I' : Nat → Nat → Int32} {L' : Nat → Nat → Int64} {I : Nat → Nat → Int32} {L : Nat → Nat → Int64} {x1 : Int32} (h : (∃ r1 I2, q_C kX12_asksHour [.ref 96, .int x1] I L (some (.int r1)) I2 L ∧ ((r1 = 0 → (r = some (.int (-2)) ∧ I' = I2 ∧ L' = L)) ∧ (¬ r1 = 0 → ((x1 = 0 → (r = some (.int 0) ∧ I' = I2 ∧ L' = L)) ∧ (¬ x1 = 0 → (∃ r3, q_C kX12_litAt [.ref 96, .int (x1 - 1)] I2 L (some (.int r3)) I2 L ∧ (∃ r4, q_C kX12_litAt [.ref 96, .int x1] I2 L (some (.int r4)) I2 L ∧ (r = some (.int (r3 &&& (r4 ^^^ (-1)))) ∧ I' = I2 ∧ L' = L))))))))) : v_X12_gone_0 r I' L' I L x1 := by
  intro w g K
  have K1 := K.1
  refine g_aload_n K1 0 dX12_gone_0 rfl ?_
  refine g_iload_n K1 1 dX12_gone_1 rfl ?_
  obtain ⟨r1, I2, hct, h⟩ := h
  refine h_callV K1 (st := []) [.int x1] (hct w (gl g)) q_clX12 lyp_96 rfl ok_X12_asksHour ml_X12_318 ⟨Nat.le_of_ble_eq_true rfl, Nat.le_of_ble_eq_true rfl⟩ (Nat.le_of_ble_eq_true rfl) dX12_gone_2 ?_
  show q_Gs w g 5 [(0, .ref 96), (1, .int x1)] [.int r1] (q_mm I2 L)
  refine g_if_ne K1 11 dX12_gone_5 rfl (fun hc => ?_) (fun hc => ?_)
  · replace h := h.2 hc
    refine g_iload_n K1 1 dX12_gone_11 rfl ?_
    refine g_if_ne K1 19 dX12_gone_12 rfl (fun hc => ?_) (fun hc => ?_)
    · replace h := h.2 hc
      refine g_aload_n K1 0 dX12_gone_19 rfl ?_
      refine g_iload_n K1 1 dX12_gone_20 rfl ?_
      refine g_iconst K1 1 dX12_gone_21 rfl ?_
      refine g_isub K1 dX12_gone_22 ?_
      obtain ⟨r3, hct, h⟩ := h
      refine h_callV K1 (st := []) [.int (x1 - 1)] (hct w (gl g)) q_clX12 lyp_96 rfl ok_X12_litAt ml_X12_309 ⟨Nat.le_of_ble_eq_true rfl, Nat.le_of_ble_eq_true rfl⟩ (Nat.le_of_ble_eq_true rfl) dX12_gone_23 ?_
      show q_Gs w g 26 [(0, .ref 96), (1, .int x1)] [.int r3] (q_mm I2 L)
      refine g_aload_n K1 0 dX12_gone_26 rfl ?_
      refine g_iload_n K1 1 dX12_gone_27 rfl ?_
      obtain ⟨r4, hct, h⟩ := h
      refine h_callV K1 (st := [.int r3]) [.int x1] (hct w (gl g)) q_clX12 lyp_96 rfl ok_X12_litAt ml_X12_309 ⟨Nat.le_of_ble_eq_true rfl, Nat.le_of_ble_eq_true rfl⟩ (Nat.le_of_ble_eq_true rfl) dX12_gone_28 ?_
      show q_Gs w g 31 [(0, .ref 96), (1, .int x1)] [.int r4, .int r3] (q_mm I2 L)
      refine g_iconst K1 (-1) dX12_gone_31 rfl ?_
      refine g_ixor K1 dX12_gone_32 ?_
      refine g_iand K1 dX12_gone_33 ?_
      obtain ⟨hr, hI, hL⟩ := h
      subst hr hI hL
      exact g_ireturn K rfl dX12_gone_34
    · replace h := h.1 hc
      refine g_iconst K1 0 dX12_gone_15 rfl ?_
      refine g_goto K1 34 dX12_gone_16 rfl ?_
      obtain ⟨hr, hI, hL⟩ := h
      subst hr hI hL
      exact g_ireturn K rfl dX12_gone_34
  · replace h := h.1 hc
    refine g_bipush K1 (-2) dX12_gone_8 rfl ?_
    obtain ⟨hr, hI, hL⟩ := h
    subst hr hI hL
    exact g_ireturn K rfl dX12_gone_10
theorem c0_X12_gone {r : Option Value} {I I' : Nat → Nat → Int32} {L L' : Nat → Nat → Int64} {x1 : Int32} (h : v_X12_gone_0 r I' L' I L x1) : q_C kX12_gone [.ref 96, .int x1] I L r I' L' := fun w l => q_ct (by decide) (Nat.le_of_ble_eq_true rfl) (Nat.le_refl _) (fun g _ K => h w g K)
abbrev v_X12_good_0 (r : Option Value) (I' : Nat → Nat → Int32) (L' : Nat → Nat → Int64) (I : Nat → Nat → Int32) (L : Nat → Nat → Int64)  : Prop := q_W kX12_good 0 [(0, .ref 96)] [] I L r I' L'
set_option maxRecDepth 20000 in
set_option maxHeartbeats 2000000 in
theorem vc_X12_good_0 {r : Option Value} {I' : Nat → Nat → Int32} {L' : Nat → Nat → Int64} {I : Nat → Nat → Int32} {L : Nat → Nat → Int64}  (h : (((I 96 12) = 0 → (r = some (.int 1) ∧ I' = I ∧ L' = L)) ∧ (¬ (I 96 12) = 0 → (r = some (.int 0) ∧ I' = I ∧ L' = L)))) : v_X12_good_0 r I' L' I L  := by
  intro w g K
  have K1 := K.1
  refine g_aload_n K1 0 dX12_good_0 rfl ?_
  refine h_getI K1 q_clX12 12 lyp_96 fkX12_12 fl_X12_122 dX12_good_1 ?_
  refine g_if_ne K1 11 dX12_good_4 rfl (fun hc => ?_) (fun hc => ?_)
  · replace h := h.2 hc
    refine g_iconst K1 0 dX12_good_11 rfl ?_
    obtain ⟨hr, hI, hL⟩ := h
    subst hr hI hL
    exact g_zreturn K rfl (by decide) dX12_good_12
  · replace h := h.1 hc
    refine g_iconst K1 1 dX12_good_7 rfl ?_
    refine g_goto K1 12 dX12_good_8 rfl ?_
    obtain ⟨hr, hI, hL⟩ := h
    subst hr hI hL
    exact g_zreturn K rfl (by decide) dX12_good_12
theorem c0_X12_good {r : Option Value} {I I' : Nat → Nat → Int32} {L L' : Nat → Nat → Int64}  (h : v_X12_good_0 r I' L' I L ) : q_C kX12_good [.ref 96] I L r I' L' := fun w l => q_ct (by decide) (Nat.le_of_ble_eq_true rfl) (Nat.le_refl _) (fun g _ K => h w g K)
abbrev v_X12_guard_0 (r : Option Value) (I' : Nat → Nat → Int32) (L' : Nat → Nat → Int64) (I : Nat → Nat → Int32) (L : Nat → Nat → Int64)  : Prop := q_W kX12_guard 0 [(0, .ref 96)] [] I L r I' L'
abbrev v_X12_guard_22 (r : Option Value) (I' : Nat → Nat → Int32) (L' : Nat → Nat → Int64) (I : Nat → Nat → Int32) (L : Nat → Nat → Int64) (x1 : Int32) (x2 : Int32) : Prop := q_W kX12_guard 22 [(0, .ref 96), (1, .int x1), (2, .int x2)] [] I L r I' L'
set_option maxRecDepth 20000 in
set_option maxHeartbeats 2000000 in
theorem vc_X12_guard_0 {r : Option Value} {I' : Nat → Nat → Int32} {L' : Nat → Nat → Int64} {I : Nat → Nat → Int32} {L : Nat → Nat → Int64}  (h : (∃ r1 I2, q_C kX12_asksNight [.ref 96] I L (some (.int r1)) I2 L ∧ ((r1 = 0 → (r = some (.int (-2)) ∧ I' = I2 ∧ L' = L)) ∧ (¬ r1 = 0 → (∃ r3, q_C kX12_lastMany [.ref 96] I2 L (some (.int r3)) I2 L ∧ (v_X12_guard_22 r I' L' (up2 I2 96 23 0) L r3 (-1))))))) : v_X12_guard_0 r I' L' I L  := by
  intro w g K
  have K1 := K.1
  refine g_aload_n K1 0 dX12_guard_0 rfl ?_
  obtain ⟨r1, I2, hct, h⟩ := h
  refine h_callV K1 (st := []) [] (hct w (gl g)) q_clX12 lyp_96 rfl ok_X12_asksNight ml_X12_303 ⟨Nat.le_of_ble_eq_true rfl, Nat.le_of_ble_eq_true rfl⟩ (Nat.le_of_ble_eq_true rfl) dX12_guard_1 ?_
  show q_Gs w g 4 [(0, .ref 96)] [.int r1] (q_mm I2 L)
  refine g_if_ne K1 10 dX12_guard_4 rfl (fun hc => ?_) (fun hc => ?_)
  · replace h := h.2 hc
    refine g_aload_n K1 0 dX12_guard_10 rfl ?_
    obtain ⟨r3, hct, h⟩ := h
    refine h_callV K1 (st := []) [] (hct w (gl g)) q_clX12 lyp_96 rfl ok_X12_lastMany ml_X12_377 ⟨Nat.le_of_ble_eq_true rfl, Nat.le_of_ble_eq_true rfl⟩ (Nat.le_of_ble_eq_true rfl) dX12_guard_11 ?_
    show q_Gs w g 14 [(0, .ref 96)] [.int r3] (q_mm I2 L)
    refine g_istore_n K1 dX12_guard_14 rfl (by decide) rfl ?_
    refine g_iconst K1 (-1) dX12_guard_15 rfl ?_
    refine g_istore_n K1 dX12_guard_16 rfl (by decide) rfl ?_
    refine g_aload_n K1 2 dX12_guard_17 rfl ?_
    refine g_iconst K1 0 dX12_guard_18 rfl ?_
    refine h_putI K1 q_clX12 23 lyp_96 fkX12_23 fl_X12_264 rfl rfl rfl dX12_guard_19 ?_
    exact g_perm [2, 1, 0] rfl (h w g K)
  · replace h := h.1 hc
    refine g_bipush K1 (-2) dX12_guard_7 rfl ?_
    obtain ⟨hr, hI, hL⟩ := h
    subst hr hI hL
    exact g_ireturn K rfl dX12_guard_9
set_option maxRecDepth 20000 in
set_option maxHeartbeats 2000000 in
theorem vc_X12_guard_22 {r : Option Value} {I' : Nat → Nat → Int32} {L' : Nat → Nat → Int64} {I : Nat → Nat → Int32} {L : Nat → Nat → Int64} {x1 : Int32} {x2 : Int32} (h : (vp_in 6 104 ∧ (((I 97 (6 : Int32).toNatClampNeg) ≤ (I 96 23) → (r = some (.int x2) ∧ I' = I ∧ L' = L)) ∧ (¬ (I 97 (6 : Int32).toNatClampNeg) ≤ (I 96 23) → (∃ I1, q_C kX12_goAll [.ref 96] I L none I1 L ∧ (∃ r2, q_C kX12_lastMany [.ref 96] I1 L (some (.int r2)) I1 L ∧ ((x1 < r2 → (∃ r3, q_C kX12_lastMany [.ref 96] I1 L (some (.int r3)) I1 L ∧ (v_X12_guard_22 r I' L' (up2 I1 96 23 ((I1 96 23) + 1)) L r3 (I1 96 23)))) ∧ (¬ x1 < r2 → (v_X12_guard_22 r I' L' (up2 I1 96 23 ((I1 96 23) + 1)) L x1 x2))))))))) : v_X12_guard_22 r I' L' I L x1 x2 := by
  intro w g K
  have K1 := K.1
  refine g_aload_n K1 0 dX12_guard_22 rfl ?_
  refine h_getI K1 q_clX12 23 lyp_96 fkX12_23 fl_X12_264 dX12_guard_23 ?_
  refine g_aload_n K1 0 dX12_guard_26 rfl ?_
  refine h_getO K1 q_clX12 1 97 lyp_96 fkX12_1 rfl fl_X12_9 dX12_guard_27 ?_
  refine g_bipush K1 6 dX12_guard_30 rfl ?_
  obtain ⟨hg, h⟩ := h
  refine h_iaload K1 lyp_97 hg dX12_guard_32 ?_
  refine g_icmp_ge K1 74 dX12_guard_33 rfl (fun hc => ?_) (fun hc => ?_)
  · replace h := h.1 hc
    refine g_iload_n K1 2 dX12_guard_74 rfl ?_
    obtain ⟨hr, hI, hL⟩ := h
    subst hr hI hL
    exact g_ireturn K rfl dX12_guard_75
  · replace h := h.2 hc
    refine g_aload_n K1 0 dX12_guard_36 rfl ?_
    obtain ⟨I1, hct, h⟩ := h
    refine h_callV K1 (st := []) [] (hct w (gl g)) q_clX12 lyp_96 rfl ok_X12_goAll ml_X12_300 ⟨Nat.le_of_ble_eq_true rfl, Nat.le_of_ble_eq_true rfl⟩ (Nat.le_of_ble_eq_true rfl) dX12_guard_37 ?_
    show q_Gs w g 40 [(0, .ref 96), (1, .int x1), (2, .int x2)] [] (q_mm I1 L)
    refine g_aload_n K1 0 dX12_guard_40 rfl ?_
    obtain ⟨r2, hct, h⟩ := h
    refine h_callV K1 (st := []) [] (hct w (gl g)) q_clX12 lyp_96 rfl ok_X12_lastMany ml_X12_377 ⟨Nat.le_of_ble_eq_true rfl, Nat.le_of_ble_eq_true rfl⟩ (Nat.le_of_ble_eq_true rfl) dX12_guard_41 ?_
    show q_Gs w g 44 [(0, .ref 96), (1, .int x1), (2, .int x2)] [.int r2] (q_mm I1 L)
    refine g_iload_n K1 1 dX12_guard_44 rfl ?_
    refine g_icmp_gt K1 51 dX12_guard_45 rfl (fun hc => ?_) (fun hc => ?_)
    · replace h := h.1 hc
      refine g_aload_n K1 0 dX12_guard_51 rfl ?_
      obtain ⟨r3, hct, h⟩ := h
      refine h_callV K1 (st := []) [] (hct w (gl g)) q_clX12 lyp_96 rfl ok_X12_lastMany ml_X12_377 ⟨Nat.le_of_ble_eq_true rfl, Nat.le_of_ble_eq_true rfl⟩ (Nat.le_of_ble_eq_true rfl) dX12_guard_52 ?_
      show q_Gs w g 55 [(0, .ref 96), (1, .int x1), (2, .int x2)] [.int r3] (q_mm I1 L)
      refine g_istore_n K1 dX12_guard_55 rfl (by decide) rfl ?_
      refine g_aload_n K1 1 dX12_guard_56 rfl ?_
      refine h_getI K1 q_clX12 23 lyp_96 fkX12_23 fl_X12_264 dX12_guard_57 ?_
      refine g_istore_n K1 dX12_guard_60 rfl (by decide) rfl ?_
      refine g_aload_n K1 2 dX12_guard_61 rfl ?_
      refine g_dup K1 dX12_guard_62 rfl ?_
      refine h_getI K1 q_clX12 23 lyp_96 fkX12_23 fl_X12_264 dX12_guard_63 ?_
      refine g_iconst K1 1 dX12_guard_66 rfl ?_
      refine g_iadd K1 dX12_guard_67 ?_
      refine h_putI K1 q_clX12 23 lyp_96 fkX12_23 fl_X12_264 rfl rfl rfl dX12_guard_68 ?_
      refine g_goto K1 22 dX12_guard_71 rfl ?_
      exact g_perm [2, 1, 0] rfl (h w g K)
    · replace h := h.2 hc
      refine g_goto K1 61 dX12_guard_48 rfl ?_
      refine g_aload_n K1 0 dX12_guard_61 rfl ?_
      refine g_dup K1 dX12_guard_62 rfl ?_
      refine h_getI K1 q_clX12 23 lyp_96 fkX12_23 fl_X12_264 dX12_guard_63 ?_
      refine g_iconst K1 1 dX12_guard_66 rfl ?_
      refine g_iadd K1 dX12_guard_67 ?_
      refine h_putI K1 q_clX12 23 lyp_96 fkX12_23 fl_X12_264 rfl rfl rfl dX12_guard_68 ?_
      refine g_goto K1 22 dX12_guard_71 rfl ?_
      exact g_perm [0, 1, 2] rfl (h w g K)
theorem c0_X12_guard {r : Option Value} {I I' : Nat → Nat → Int32} {L L' : Nat → Nat → Int64}  (h : v_X12_guard_0 r I' L' I L ) : q_C kX12_guard [.ref 96] I L r I' L' := fun w l => q_ct (by decide) (Nat.le_of_ble_eq_true rfl) (Nat.le_refl _) (fun g _ K => h w g K)
abbrev v_X12_gust_0 (r : Option Value) (I' : Nat → Nat → Int32) (L' : Nat → Nat → Int64) (I : Nat → Nat → Int32) (L : Nat → Nat → Int64) (x1 : Int32) : Prop := q_W kX12_gust 0 [(0, .ref 96), (1, .int x1)] [] I L r I' L'
abbrev v_X12_gust_28 (r : Option Value) (I' : Nat → Nat → Int32) (L' : Nat → Nat → Int64) (I : Nat → Nat → Int32) (L : Nat → Nat → Int64) (x2 : Int32) (x3 : Int32) : Prop := q_W kX12_gust 28 [(0, .ref 96), (2, .int x2), (3, .int x3)] [] I L r I' L'
set_option maxRecDepth 20000 in
set_option maxHeartbeats 2000000 in
theorem vc_X12_gust_0 {r : Option Value} {I' : Nat → Nat → Int32} {L' : Nat → Nat → Int64} {I : Nat → Nat → Int32} {L : Nat → Nat → Int64} {x1 : Int32} (h : (∃ r1 I2, q_C kX12_asksHour [.ref 96, .int x1] I L (some (.int r1)) I2 L ∧ ((r1 = 0 → (r = some (.int (-2)) ∧ I' = I2 ∧ L' = L)) ∧ (¬ r1 = 0 → (∃ r3, q_C kX12_lastMany [.ref 96] I2 L (some (.int r3)) I2 L ∧ (v_X12_gust_28 r I' L' (up2 (up2 I2 96 22 x1) 96 21 0) L r3 (-1))))))) : v_X12_gust_0 r I' L' I L x1 := by
  intro w g K
  have K1 := K.1
  refine g_aload_n K1 0 dX12_gust_0 rfl ?_
  refine g_iload_n K1 1 dX12_gust_1 rfl ?_
  obtain ⟨r1, I2, hct, h⟩ := h
  refine h_callV K1 (st := []) [.int x1] (hct w (gl g)) q_clX12 lyp_96 rfl ok_X12_asksHour ml_X12_318 ⟨Nat.le_of_ble_eq_true rfl, Nat.le_of_ble_eq_true rfl⟩ (Nat.le_of_ble_eq_true rfl) dX12_gust_2 ?_
  show q_Gs w g 5 [(0, .ref 96), (1, .int x1)] [.int r1] (q_mm I2 L)
  refine g_if_ne K1 11 dX12_gust_5 rfl (fun hc => ?_) (fun hc => ?_)
  · replace h := h.2 hc
    refine g_aload_n K1 0 dX12_gust_11 rfl ?_
    obtain ⟨r3, hct, h⟩ := h
    refine h_callV K1 (st := []) [] (hct w (gl g)) q_clX12 lyp_96 rfl ok_X12_lastMany ml_X12_377 ⟨Nat.le_of_ble_eq_true rfl, Nat.le_of_ble_eq_true rfl⟩ (Nat.le_of_ble_eq_true rfl) dX12_gust_12 ?_
    show q_Gs w g 15 [(0, .ref 96), (1, .int x1)] [.int r3] (q_mm I2 L)
    refine g_istore_n K1 dX12_gust_15 rfl (by decide) rfl ?_
    refine g_iconst K1 (-1) dX12_gust_16 rfl ?_
    refine g_istore_n K1 dX12_gust_17 rfl (by decide) rfl ?_
    refine g_aload_n K1 2 dX12_gust_18 rfl ?_
    refine g_iload_n K1 3 dX12_gust_19 rfl ?_
    refine h_putI K1 q_clX12 22 lyp_96 fkX12_22 fl_X12_261 rfl rfl rfl dX12_gust_20 ?_
    refine g_aload_n K1 2 dX12_gust_23 rfl ?_
    refine g_iconst K1 0 dX12_gust_24 rfl ?_
    refine h_putI K1 q_clX12 21 lyp_96 fkX12_21 fl_X12_258 rfl rfl rfl dX12_gust_25 ?_
    exact g_perm [2, 1, 0] rfl (h w g K)
  · replace h := h.1 hc
    refine g_bipush K1 (-2) dX12_gust_8 rfl ?_
    obtain ⟨hr, hI, hL⟩ := h
    subst hr hI hL
    exact g_ireturn K rfl dX12_gust_10
set_option maxRecDepth 20000 in
set_option maxHeartbeats 2000000 in
theorem vc_X12_gust_28 {r : Option Value} {I' : Nat → Nat → Int32} {L' : Nat → Nat → Int64} {I : Nat → Nat → Int32} {L : Nat → Nat → Int64} {x2 : Int32} {x3 : Int32} (h : (∃ r1, q_C kX12_pews [.ref 96] I L (some (.int r1)) I L ∧ ((r1 ≤ (I 96 21) → (r = some (.int x3) ∧ I' = I ∧ L' = L)) ∧ (¬ r1 ≤ (I 96 21) → (∃ I2, q_C kX12_goAll [.ref 96] I L none I2 L ∧ (∃ r3, q_C kX12_lastMany [.ref 96] I2 L (some (.int r3)) I2 L ∧ ((r3 < x2 → (∃ r4, q_C kX12_lastMany [.ref 96] I2 L (some (.int r4)) I2 L ∧ (v_X12_gust_28 r I' L' (up2 I2 96 21 ((I2 96 21) + 1)) L r4 (I2 96 21)))) ∧ (¬ r3 < x2 → (v_X12_gust_28 r I' L' (up2 I2 96 21 ((I2 96 21) + 1)) L x2 x3))))))))) : v_X12_gust_28 r I' L' I L x2 x3 := by
  intro w g K
  have K1 := K.1
  refine g_aload_n K1 0 dX12_gust_28 rfl ?_
  refine h_getI K1 q_clX12 21 lyp_96 fkX12_21 fl_X12_258 dX12_gust_29 ?_
  refine g_aload_n K1 0 dX12_gust_32 rfl ?_
  obtain ⟨r1, hct, h⟩ := h
  refine h_callV K1 (st := [.int (I 96 21)]) [] (hct w (gl g)) q_clX12 lyp_96 rfl ok_X12_pews ml_X12_74 ⟨Nat.le_of_ble_eq_true rfl, Nat.le_of_ble_eq_true rfl⟩ (Nat.le_of_ble_eq_true rfl) dX12_gust_33 ?_
  show q_Gs w g 36 [(0, .ref 96), (2, .int x2), (3, .int x3)] [.int r1, .int (I 96 21)] (q_mm I L)
  refine g_icmp_ge K1 77 dX12_gust_36 rfl (fun hc => ?_) (fun hc => ?_)
  · replace h := h.1 hc
    refine g_iload_n K1 2 dX12_gust_77 rfl ?_
    obtain ⟨hr, hI, hL⟩ := h
    subst hr hI hL
    exact g_ireturn K rfl dX12_gust_78
  · replace h := h.2 hc
    refine g_aload_n K1 0 dX12_gust_39 rfl ?_
    obtain ⟨I2, hct, h⟩ := h
    refine h_callV K1 (st := []) [] (hct w (gl g)) q_clX12 lyp_96 rfl ok_X12_goAll ml_X12_300 ⟨Nat.le_of_ble_eq_true rfl, Nat.le_of_ble_eq_true rfl⟩ (Nat.le_of_ble_eq_true rfl) dX12_gust_40 ?_
    show q_Gs w g 43 [(0, .ref 96), (2, .int x2), (3, .int x3)] [] (q_mm I2 L)
    refine g_aload_n K1 0 dX12_gust_43 rfl ?_
    obtain ⟨r3, hct, h⟩ := h
    refine h_callV K1 (st := []) [] (hct w (gl g)) q_clX12 lyp_96 rfl ok_X12_lastMany ml_X12_377 ⟨Nat.le_of_ble_eq_true rfl, Nat.le_of_ble_eq_true rfl⟩ (Nat.le_of_ble_eq_true rfl) dX12_gust_44 ?_
    show q_Gs w g 47 [(0, .ref 96), (2, .int x2), (3, .int x3)] [.int r3] (q_mm I2 L)
    refine g_iload_n K1 1 dX12_gust_47 rfl ?_
    refine g_icmp_lt K1 54 dX12_gust_48 rfl (fun hc => ?_) (fun hc => ?_)
    · replace h := h.1 hc
      refine g_aload_n K1 0 dX12_gust_54 rfl ?_
      obtain ⟨r4, hct, h⟩ := h
      refine h_callV K1 (st := []) [] (hct w (gl g)) q_clX12 lyp_96 rfl ok_X12_lastMany ml_X12_377 ⟨Nat.le_of_ble_eq_true rfl, Nat.le_of_ble_eq_true rfl⟩ (Nat.le_of_ble_eq_true rfl) dX12_gust_55 ?_
      show q_Gs w g 58 [(0, .ref 96), (2, .int x2), (3, .int x3)] [.int r4] (q_mm I2 L)
      refine g_istore_n K1 dX12_gust_58 rfl (by decide) rfl ?_
      refine g_aload_n K1 1 dX12_gust_59 rfl ?_
      refine h_getI K1 q_clX12 21 lyp_96 fkX12_21 fl_X12_258 dX12_gust_60 ?_
      refine g_istore_n K1 dX12_gust_63 rfl (by decide) rfl ?_
      refine g_aload_n K1 2 dX12_gust_64 rfl ?_
      refine g_dup K1 dX12_gust_65 rfl ?_
      refine h_getI K1 q_clX12 21 lyp_96 fkX12_21 fl_X12_258 dX12_gust_66 ?_
      refine g_iconst K1 1 dX12_gust_69 rfl ?_
      refine g_iadd K1 dX12_gust_70 ?_
      refine h_putI K1 q_clX12 21 lyp_96 fkX12_21 fl_X12_258 rfl rfl rfl dX12_gust_71 ?_
      refine g_goto K1 28 dX12_gust_74 rfl ?_
      exact g_perm [2, 1, 0] rfl (h w g K)
    · replace h := h.2 hc
      refine g_goto K1 64 dX12_gust_51 rfl ?_
      refine g_aload_n K1 0 dX12_gust_64 rfl ?_
      refine g_dup K1 dX12_gust_65 rfl ?_
      refine h_getI K1 q_clX12 21 lyp_96 fkX12_21 fl_X12_258 dX12_gust_66 ?_
      refine g_iconst K1 1 dX12_gust_69 rfl ?_
      refine g_iadd K1 dX12_gust_70 ?_
      refine h_putI K1 q_clX12 21 lyp_96 fkX12_21 fl_X12_258 rfl rfl rfl dX12_gust_71 ?_
      refine g_goto K1 28 dX12_gust_74 rfl ?_
      exact g_perm [0, 1, 2] rfl (h w g K)
theorem c0_X12_gust {r : Option Value} {I I' : Nat → Nat → Int32} {L L' : Nat → Nat → Int64} {x1 : Int32} (h : v_X12_gust_0 r I' L' I L x1) : q_C kX12_gust [.ref 96, .int x1] I L r I' L' := fun w l => q_ct (by decide) (Nat.le_of_ble_eq_true rfl) (Nat.le_refl _) (fun g _ K => h w g K)
abbrev v_X12_heard_0 (r : Option Value) (I' : Nat → Nat → Int32) (L' : Nat → Nat → Int64) (I : Nat → Nat → Int32) (L : Nat → Nat → Int64) (x1 : Int32) (x2 : Int32) (x3 : Int32) (x4 : Int32) : Prop := q_W kX12_heard 0 [(0, .ref 96), (1, .int x1), (2, .int x2), (3, .int x3), (4, .int x4)] [] I L r I' L'
abbrev v_X12_heard_17 (r : Option Value) (I' : Nat → Nat → Int32) (L' : Nat → Nat → Int64) (I : Nat → Nat → Int32) (L : Nat → Nat → Int64) (x2 : Int32) (x3 : Int32) (x4 : Int32) (s0 : Int32) : Prop := q_W kX12_heard 17 [(0, .ref 96), (2, .int x2), (3, .int x3), (4, .int x4)] [.int s0] I L r I' L'
set_option maxRecDepth 20000 in
set_option maxHeartbeats 2000000 in
theorem vc_X12_heard_0 {r : Option Value} {I' : Nat → Nat → Int32} {L' : Nat → Nat → Int64} {I : Nat → Nat → Int32} {L : Nat → Nat → Int64} {x1 : Int32} {x2 : Int32} {x3 : Int32} {x4 : Int32} (h : ((0 ≤ x4 → (∃ r1 I2, q_C kX12_askRow [.ref 96, .int x1, .int x2, .int x3] I L (some (.int r1)) I2 L ∧ (v_X12_heard_17 r I' L' I2 L x2 x3 x4 r1))) ∧ (¬ 0 ≤ x4 → (v_X12_heard_17 r I' L' I L x2 x3 x4 (-2))))) : v_X12_heard_0 r I' L' I L x1 x2 x3 x4 := by
  intro w g K
  have K1 := K.1
  refine g_iload K1 4 dX12_heard_0 rfl ?_
  refine g_if_ge K1 10 dX12_heard_2 rfl (fun hc => ?_) (fun hc => ?_)
  · replace h := h.1 hc
    refine g_aload_n K1 0 dX12_heard_10 rfl ?_
    refine g_iload_n K1 1 dX12_heard_11 rfl ?_
    refine g_iload_n K1 2 dX12_heard_12 rfl ?_
    refine g_iload_n K1 3 dX12_heard_13 rfl ?_
    obtain ⟨r1, I2, hct, h⟩ := h
    refine h_callV K1 (st := []) [.int x1, .int x2, .int x3] (hct w (gl g)) q_clX12 lyp_96 rfl ok_X12_askRow ml_X12_355 ⟨Nat.le_of_ble_eq_true rfl, Nat.le_of_ble_eq_true rfl⟩ (Nat.le_of_ble_eq_true rfl) dX12_heard_14 ?_
    show q_Gs w g 17 [(0, .ref 96), (1, .int x1), (2, .int x2), (3, .int x3), (4, .int x4)] [.int r1] (q_mm I2 L)
    exact g_perm [0, 2, 3, 4] rfl (h w g K)
  · replace h := h.2 hc
    refine g_bipush K1 (-2) dX12_heard_5 rfl ?_
    refine g_goto K1 17 dX12_heard_7 rfl ?_
    exact g_perm [0, 2, 3, 4] rfl (h w g K)
set_option maxRecDepth 20000 in
set_option maxHeartbeats 2000000 in
theorem vc_X12_heard_17 {r : Option Value} {I' : Nat → Nat → Int32} {L' : Nat → Nat → Int64} {I : Nat → Nat → Int32} {L : Nat → Nat → Int64} {x2 : Int32} {x3 : Int32} {x4 : Int32} {s0 : Int32} (h : ((0 ≤ s0 → (∃ r1, q_C kX12_heardTwice [.ref 96, .int x2, .int x3, .int (I 96 28)] I L (some (.int r1)) I L ∧ (∃ r2, q_C kX12_letterOrNone [.int r1, .int x4] I L (some (.int r2)) I L ∧ (r = some (.int r2) ∧ I' = I ∧ L' = L)))) ∧ (¬ 0 ≤ s0 → (r = some (.int s0) ∧ I' = I ∧ L' = L)))) : v_X12_heard_17 r I' L' I L x2 x3 x4 s0 := by
  intro w g K
  have K1 := K.1
  refine g_istore K1 dX12_heard_17 (by decide) rfl ?_
  refine g_iload K1 0 dX12_heard_19 rfl ?_
  refine g_if_ge K1 29 dX12_heard_21 rfl (fun hc => ?_) (fun hc => ?_)
  · replace h := h.1 hc
    refine g_aload_n K1 1 dX12_heard_29 rfl ?_
    refine g_iload_n K1 2 dX12_heard_30 rfl ?_
    refine g_iload_n K1 3 dX12_heard_31 rfl ?_
    refine g_aload_n K1 1 dX12_heard_32 rfl ?_
    refine h_getI K1 q_clX12 28 lyp_96 fkX12_28 fl_X12_348 dX12_heard_33 ?_
    obtain ⟨r1, hct, h⟩ := h
    refine h_callV K1 (st := []) [.int x2, .int x3, .int (I 96 28)] (hct w (gl g)) q_clX12 lyp_96 rfl ok_X12_heardTwice ml_X12_359 ⟨Nat.le_of_ble_eq_true rfl, Nat.le_of_ble_eq_true rfl⟩ (Nat.le_of_ble_eq_true rfl) dX12_heard_36 ?_
    show q_Gs w g 39 [(5, .int s0), (0, .ref 96), (2, .int x2), (3, .int x3), (4, .int x4)] [.int r1] (q_mm I L)
    refine g_iload K1 4 dX12_heard_39 rfl ?_
    obtain ⟨r2, hct, h⟩ := h
    refine h_callS K1 (st := []) [.int r1, .int x4] (hct w (gl g)) ok_X12_letterOrNone ml_X12_231 ⟨Nat.le_of_ble_eq_true rfl, Nat.le_of_ble_eq_true rfl⟩ (Nat.le_of_ble_eq_true rfl) dX12_heard_41 ?_
    show q_Gs w g 44 [(5, .int s0), (0, .ref 96), (2, .int x2), (3, .int x3), (4, .int x4)] [.int r2] (q_mm I L)
    obtain ⟨hr, hI, hL⟩ := h
    subst hr hI hL
    exact g_ireturn K rfl dX12_heard_44
  · replace h := h.2 hc
    refine g_iload K1 0 dX12_heard_24 rfl ?_
    refine g_goto K1 44 dX12_heard_26 rfl ?_
    obtain ⟨hr, hI, hL⟩ := h
    subst hr hI hL
    exact g_ireturn K rfl dX12_heard_44
theorem c0_X12_heard {r : Option Value} {I I' : Nat → Nat → Int32} {L L' : Nat → Nat → Int64} {x1 : Int32} {x2 : Int32} {x3 : Int32} {x4 : Int32} (h : v_X12_heard_0 r I' L' I L x1 x2 x3 x4) : q_C kX12_heard [.ref 96, .int x1, .int x2, .int x3, .int x4] I L r I' L' := fun w l => q_ct (by decide) (Nat.le_of_ble_eq_true rfl) (Nat.le_refl _) (fun g _ K => h w g K)
abbrev v_X12_heardBy_0 (r : Option Value) (I' : Nat → Nat → Int32) (L' : Nat → Nat → Int64) (I : Nat → Nat → Int32) (L : Nat → Nat → Int64) (x1 : Int32) (x2 : Int32) : Prop := q_W kX12_heardBy 0 [(0, .ref 96), (1, .int x1), (2, .int x2)] [] I L r I' L'
abbrev v_X12_heardBy_5 (r : Option Value) (I' : Nat → Nat → Int32) (L' : Nat → Nat → Int64) (I : Nat → Nat → Int32) (L : Nat → Nat → Int64) (x1 : Int32) (x2 : Int32) (x3 : Int32) (x4 : Int32) : Prop := q_W kX12_heardBy 5 [(0, .ref 96), (1, .int x1), (2, .int x2), (3, .int x3), (4, .int x4)] [] I L r I' L'
set_option maxRecDepth 20000 in
set_option maxHeartbeats 2000000 in
theorem vc_X12_heardBy_0 {r : Option Value} {I' : Nat → Nat → Int32} {L' : Nat → Nat → Int64} {I : Nat → Nat → Int32} {L : Nat → Nat → Int64} {x1 : Int32} {x2 : Int32} (h : (v_X12_heardBy_5 r I' L' I L x1 x2 (-1) 0)) : v_X12_heardBy_0 r I' L' I L x1 x2 := by
  intro w g K
  have K1 := K.1
  refine g_iconst K1 (-1) dX12_heardBy_0 rfl ?_
  refine g_istore_n K1 dX12_heardBy_1 rfl (by decide) rfl ?_
  refine g_iconst K1 0 dX12_heardBy_2 rfl ?_
  refine g_istore K1 dX12_heardBy_3 (by decide) rfl ?_
  exact g_perm [2, 3, 4, 1, 0] rfl (h w g K)
set_option maxRecDepth 20000 in
set_option maxHeartbeats 2000000 in
theorem vc_X12_heardBy_5 {r : Option Value} {I' : Nat → Nat → Int32} {L' : Nat → Nat → Int64} {I : Nat → Nat → Int32} {L : Nat → Nat → Int64} {x1 : Int32} {x2 : Int32} {x3 : Int32} {x4 : Int32} (h : (∃ r1, q_C kX12_pews [.ref 96] I L (some (.int r1)) I L ∧ ((r1 ≤ x4 → (r = some (.int x3) ∧ I' = I ∧ L' = L)) ∧ (¬ r1 ≤ x4 → (∃ r2, q_C kX12_nearOf [.ref 96, .int x1] I L (some (.int r2)) I L ∧ (∃ r3, q_C kX12_bit [.int r2, .int x4] I L (some (.int r3)) I L ∧ ((r3 = 0 → (v_X12_heardBy_5 r I' L' I L x1 x2 x3 (x4 + 1))) ∧ (¬ r3 = 0 → (∃ r4, q_C kX12_saysOf [.ref 96, .int x4, .int x2] I L (some (.int r4)) I L ∧ ((r4 = 0 → (v_X12_heardBy_5 r I' L' I L x1 x2 x3 (x4 + 1))) ∧ (¬ r4 = 0 → ((x3 = (-1) → (v_X12_heardBy_5 r I' L' I L x1 x2 x4 (x4 + 1))) ∧ (¬ x3 = (-1) → (∃ r5, q_C kX12_isBetter [.ref 96, .int x4, .int x3, .int x2] I L (some (.int r5)) I L ∧ ((r5 = 0 → (v_X12_heardBy_5 r I' L' I L x1 x2 x3 (x4 + 1))) ∧ (¬ r5 = 0 → (v_X12_heardBy_5 r I' L' I L x1 x2 x4 (x4 + 1)))))))))))))))))) : v_X12_heardBy_5 r I' L' I L x1 x2 x3 x4 := by
  intro w g K
  have K1 := K.1
  refine g_iload K1 4 dX12_heardBy_5 rfl ?_
  refine g_aload_n K1 0 dX12_heardBy_7 rfl ?_
  obtain ⟨r1, hct, h⟩ := h
  refine h_callV K1 (st := [.int x4]) [] (hct w (gl g)) q_clX12 lyp_96 rfl ok_X12_pews ml_X12_74 ⟨Nat.le_of_ble_eq_true rfl, Nat.le_of_ble_eq_true rfl⟩ (Nat.le_of_ble_eq_true rfl) dX12_heardBy_8 ?_
  show q_Gs w g 11 [(0, .ref 96), (1, .int x1), (2, .int x2), (3, .int x3), (4, .int x4)] [.int r1, .int x4] (q_mm I L)
  refine g_icmp_ge K1 69 dX12_heardBy_11 rfl (fun hc => ?_) (fun hc => ?_)
  · replace h := h.1 hc
    refine g_iload_n K1 3 dX12_heardBy_69 rfl ?_
    obtain ⟨hr, hI, hL⟩ := h
    subst hr hI hL
    exact g_ireturn K rfl dX12_heardBy_70
  · replace h := h.2 hc
    refine g_aload_n K1 0 dX12_heardBy_14 rfl ?_
    refine g_iload_n K1 1 dX12_heardBy_15 rfl ?_
    obtain ⟨r2, hct, h⟩ := h
    refine h_callV K1 (st := []) [.int x1] (hct w (gl g)) q_clX12 lyp_96 rfl ok_X12_nearOf ml_X12_240 ⟨Nat.le_of_ble_eq_true rfl, Nat.le_of_ble_eq_true rfl⟩ (Nat.le_of_ble_eq_true rfl) dX12_heardBy_16 ?_
    show q_Gs w g 19 [(0, .ref 96), (1, .int x1), (2, .int x2), (3, .int x3), (4, .int x4)] [.int r2] (q_mm I L)
    refine g_iload K1 4 dX12_heardBy_19 rfl ?_
    obtain ⟨r3, hct, h⟩ := h
    refine h_callS K1 (st := []) [.int r2, .int x4] (hct w (gl g)) ok_X12_bit ml_X12_237 ⟨Nat.le_of_ble_eq_true rfl, Nat.le_of_ble_eq_true rfl⟩ (Nat.le_of_ble_eq_true rfl) dX12_heardBy_21 ?_
    show q_Gs w g 24 [(0, .ref 96), (1, .int x1), (2, .int x2), (3, .int x3), (4, .int x4)] [.int r3] (q_mm I L)
    refine g_if_eq K1 63 dX12_heardBy_24 rfl (fun hc => ?_) (fun hc => ?_)
    · replace h := h.1 hc
      refine g_iinc K1 (x4 + 1) 4 dX12_heardBy_63 rfl rfl (by decide) rfl ?_
      refine g_goto K1 5 dX12_heardBy_66 rfl ?_
      exact g_perm [1, 2, 3, 4, 0] rfl (h w g K)
    · replace h := h.2 hc
      refine g_aload_n K1 0 dX12_heardBy_27 rfl ?_
      refine g_iload K1 4 dX12_heardBy_28 rfl ?_
      refine g_iload_n K1 2 dX12_heardBy_30 rfl ?_
      obtain ⟨r4, hct, h⟩ := h
      refine h_callV K1 (st := []) [.int x4, .int x2] (hct w (gl g)) q_clX12 lyp_96 rfl ok_X12_saysOf ml_X12_275 ⟨Nat.le_of_ble_eq_true rfl, Nat.le_of_ble_eq_true rfl⟩ (Nat.le_of_ble_eq_true rfl) dX12_heardBy_31 ?_
      show q_Gs w g 34 [(0, .ref 96), (1, .int x1), (2, .int x2), (3, .int x3), (4, .int x4)] [.int r4] (q_mm I L)
      refine g_if_ne K1 40 dX12_heardBy_34 rfl (fun hc => ?_) (fun hc => ?_)
      · replace h := h.2 hc
        refine g_iload_n K1 3 dX12_heardBy_40 rfl ?_
        refine g_iconst K1 (-1) dX12_heardBy_41 rfl ?_
        refine g_icmp_eq K1 56 dX12_heardBy_42 rfl (fun hc => ?_) (fun hc => ?_)
        · replace h := h.1 hc
          refine g_iload K1 4 dX12_heardBy_56 rfl ?_
          refine g_goto K1 62 dX12_heardBy_58 rfl ?_
          refine g_istore_n K1 dX12_heardBy_62 rfl (by decide) rfl ?_
          refine g_iinc K1 (x4 + 1) 4 dX12_heardBy_63 rfl rfl (by decide) rfl ?_
          refine g_goto K1 5 dX12_heardBy_66 rfl ?_
          exact g_perm [2, 3, 4, 1, 0] rfl (h w g K)
        · replace h := h.2 hc
          refine g_aload_n K1 0 dX12_heardBy_45 rfl ?_
          refine g_iload K1 4 dX12_heardBy_46 rfl ?_
          refine g_iload_n K1 3 dX12_heardBy_48 rfl ?_
          refine g_iload_n K1 2 dX12_heardBy_49 rfl ?_
          obtain ⟨r5, hct, h⟩ := h
          refine h_callV K1 (st := []) [.int x4, .int x3, .int x2] (hct w (gl g)) q_clX12 lyp_96 rfl ok_X12_isBetter ml_X12_278 ⟨Nat.le_of_ble_eq_true rfl, Nat.le_of_ble_eq_true rfl⟩ (Nat.le_of_ble_eq_true rfl) dX12_heardBy_50 ?_
          show q_Gs w g 53 [(0, .ref 96), (1, .int x1), (2, .int x2), (3, .int x3), (4, .int x4)] [.int r5] (q_mm I L)
          refine g_if_eq K1 61 dX12_heardBy_53 rfl (fun hc => ?_) (fun hc => ?_)
          · replace h := h.1 hc
            refine g_iload_n K1 3 dX12_heardBy_61 rfl ?_
            refine g_istore_n K1 dX12_heardBy_62 rfl (by decide) rfl ?_
            refine g_iinc K1 (x4 + 1) 4 dX12_heardBy_63 rfl rfl (by decide) rfl ?_
            refine g_goto K1 5 dX12_heardBy_66 rfl ?_
            exact g_perm [2, 3, 4, 1, 0] rfl (h w g K)
          · replace h := h.2 hc
            refine g_iload K1 4 dX12_heardBy_56 rfl ?_
            refine g_goto K1 62 dX12_heardBy_58 rfl ?_
            refine g_istore_n K1 dX12_heardBy_62 rfl (by decide) rfl ?_
            refine g_iinc K1 (x4 + 1) 4 dX12_heardBy_63 rfl rfl (by decide) rfl ?_
            refine g_goto K1 5 dX12_heardBy_66 rfl ?_
            exact g_perm [2, 3, 4, 1, 0] rfl (h w g K)
      · replace h := h.1 hc
        refine g_goto K1 63 dX12_heardBy_37 rfl ?_
        refine g_iinc K1 (x4 + 1) 4 dX12_heardBy_63 rfl rfl (by decide) rfl ?_
        refine g_goto K1 5 dX12_heardBy_66 rfl ?_
        exact g_perm [1, 2, 3, 4, 0] rfl (h w g K)
theorem c0_X12_heardBy {r : Option Value} {I I' : Nat → Nat → Int32} {L L' : Nat → Nat → Int64} {x1 : Int32} {x2 : Int32} (h : v_X12_heardBy_0 r I' L' I L x1 x2) : q_C kX12_heardBy [.ref 96, .int x1, .int x2] I L r I' L' := fun w l => q_ct (by decide) (Nat.le_of_ble_eq_true rfl) (Nat.le_refl _) (fun g _ K => h w g K)
abbrev v_X12_heardTwice_0 (r : Option Value) (I' : Nat → Nat → Int32) (L' : Nat → Nat → Int64) (I : Nat → Nat → Int32) (L : Nat → Nat → Int64) (x1 : Int32) (x2 : Int32) (x3 : Int32) : Prop := q_W kX12_heardTwice 0 [(0, .ref 96), (1, .int x1), (2, .int x2), (3, .int x3)] [] I L r I' L'
set_option maxRecDepth 20000 in
set_option maxHeartbeats 2000000 in
theorem vc_X12_heardTwice_0 {r : Option Value} {I' : Nat → Nat → Int32} {L' : Nat → Nat → Int64} {I : Nat → Nat → Int32} {L : Nat → Nat → Int64} {x1 : Int32} {x2 : Int32} {x3 : Int32} (h : (∃ r1, q_C kX12_changed [.ref 96, .int x1, .int x3] I L (some (.int r1)) I L ∧ ((r1 = 0 → (r = some (.int 0) ∧ I' = I ∧ L' = L)) ∧ (¬ r1 = 0 → (∃ r2, q_C kX12_changed [.ref 96, .int x2, .int r1] I L (some (.int r2)) I L ∧ (r = some (.int r2) ∧ I' = I ∧ L' = L)))))) : v_X12_heardTwice_0 r I' L' I L x1 x2 x3 := by
  intro w g K
  have K1 := K.1
  refine g_aload_n K1 0 dX12_heardTwice_0 rfl ?_
  refine g_iload_n K1 1 dX12_heardTwice_1 rfl ?_
  refine g_iload_n K1 3 dX12_heardTwice_2 rfl ?_
  obtain ⟨r1, hct, h⟩ := h
  refine h_callV K1 (st := []) [.int x1, .int x3] (hct w (gl g)) q_clX12 lyp_96 rfl ok_X12_changed ml_X12_285 ⟨Nat.le_of_ble_eq_true rfl, Nat.le_of_ble_eq_true rfl⟩ (Nat.le_of_ble_eq_true rfl) dX12_heardTwice_3 ?_
  show q_Gs w g 6 [(0, .ref 96), (1, .int x1), (2, .int x2), (3, .int x3)] [.int r1] (q_mm I L)
  refine g_istore K1 dX12_heardTwice_6 (by decide) rfl ?_
  refine g_iload K1 0 dX12_heardTwice_8 rfl ?_
  refine g_if_ne K1 17 dX12_heardTwice_10 rfl (fun hc => ?_) (fun hc => ?_)
  · replace h := h.2 hc
    refine g_aload_n K1 1 dX12_heardTwice_17 rfl ?_
    refine g_iload_n K1 3 dX12_heardTwice_18 rfl ?_
    refine g_iload K1 0 dX12_heardTwice_19 rfl ?_
    obtain ⟨r2, hct, h⟩ := h
    refine h_callV K1 (st := []) [.int x2, .int r1] (hct w (gl g)) q_clX12 lyp_96 rfl ok_X12_changed ml_X12_285 ⟨Nat.le_of_ble_eq_true rfl, Nat.le_of_ble_eq_true rfl⟩ (Nat.le_of_ble_eq_true rfl) dX12_heardTwice_21 ?_
    show q_Gs w g 24 [(4, .int r1), (0, .ref 96), (1, .int x1), (2, .int x2), (3, .int x3)] [.int r2] (q_mm I L)
    obtain ⟨hr, hI, hL⟩ := h
    subst hr hI hL
    exact g_ireturn K rfl dX12_heardTwice_24
  · replace h := h.1 hc
    refine g_iconst K1 0 dX12_heardTwice_13 rfl ?_
    refine g_goto K1 24 dX12_heardTwice_14 rfl ?_
    obtain ⟨hr, hI, hL⟩ := h
    subst hr hI hL
    exact g_ireturn K rfl dX12_heardTwice_24
theorem c0_X12_heardTwice {r : Option Value} {I I' : Nat → Nat → Int32} {L L' : Nat → Nat → Int64} {x1 : Int32} {x2 : Int32} {x3 : Int32} (h : v_X12_heardTwice_0 r I' L' I L x1 x2 x3) : q_C kX12_heardTwice [.ref 96, .int x1, .int x2, .int x3] I L r I' L' := fun w l => q_ct (by decide) (Nat.le_of_ble_eq_true rfl) (Nat.le_refl _) (fun g _ K => h w g K)
abbrev v_X12_hears_0 (r : Option Value) (I' : Nat → Nat → Int32) (L' : Nat → Nat → Int64) (I : Nat → Nat → Int32) (L : Nat → Nat → Int64) (x1 : Int32) (x2 : Int32) (x3 : Int32) : Prop := q_W kX12_hears 0 [(0, .ref 96), (1, .int x1), (2, .int x2), (3, .int x3)] [] I L r I' L'
set_option maxRecDepth 20000 in
set_option maxHeartbeats 2000000 in
theorem vc_X12_hears_0 {r : Option Value} {I' : Nat → Nat → Int32} {L' : Nat → Nat → Int64} {I : Nat → Nat → Int32} {L : Nat → Nat → Int64} {x1 : Int32} {x2 : Int32} {x3 : Int32} (h : (∃ r1 I2, q_C kX12_askRow [.ref 96, .int x1, .int x2, .int x3] I L (some (.int r1)) I2 L ∧ ((0 ≤ r1 → (∃ r3, q_C kX12_heardTwice [.ref 96, .int x2, .int x3, .int (I2 96 28)] I2 L (some (.int r3)) I2 L ∧ (∃ r4, q_C kX12_longOf [.int r3] I2 L (some (.int r4)) I2 L ∧ (r = some (.int r4) ∧ I' = I2 ∧ L' = L)))) ∧ (¬ 0 ≤ r1 → (r = some (.int r1) ∧ I' = I2 ∧ L' = L))))) : v_X12_hears_0 r I' L' I L x1 x2 x3 := by
  intro w g K
  have K1 := K.1
  refine g_aload_n K1 0 dX12_hears_0 rfl ?_
  refine g_iload_n K1 1 dX12_hears_1 rfl ?_
  refine g_iload_n K1 2 dX12_hears_2 rfl ?_
  refine g_iload_n K1 3 dX12_hears_3 rfl ?_
  obtain ⟨r1, I2, hct, h⟩ := h
  refine h_callV K1 (st := []) [.int x1, .int x2, .int x3] (hct w (gl g)) q_clX12 lyp_96 rfl ok_X12_askRow ml_X12_355 ⟨Nat.le_of_ble_eq_true rfl, Nat.le_of_ble_eq_true rfl⟩ (Nat.le_of_ble_eq_true rfl) dX12_hears_4 ?_
  show q_Gs w g 7 [(0, .ref 96), (1, .int x1), (2, .int x2), (3, .int x3)] [.int r1] (q_mm I2 L)
  refine g_istore K1 dX12_hears_7 (by decide) rfl ?_
  refine g_iload K1 0 dX12_hears_9 rfl ?_
  refine g_if_ge K1 19 dX12_hears_11 rfl (fun hc => ?_) (fun hc => ?_)
  · replace h := h.1 hc
    refine g_aload_n K1 1 dX12_hears_19 rfl ?_
    refine g_iload_n K1 3 dX12_hears_20 rfl ?_
    refine g_iload_n K1 4 dX12_hears_21 rfl ?_
    refine g_aload_n K1 1 dX12_hears_22 rfl ?_
    refine h_getI K1 q_clX12 28 lyp_96 fkX12_28 fl_X12_348 dX12_hears_23 ?_
    obtain ⟨r3, hct, h⟩ := h
    refine h_callV K1 (st := []) [.int x2, .int x3, .int (I2 96 28)] (hct w (gl g)) q_clX12 lyp_96 rfl ok_X12_heardTwice ml_X12_359 ⟨Nat.le_of_ble_eq_true rfl, Nat.le_of_ble_eq_true rfl⟩ (Nat.le_of_ble_eq_true rfl) dX12_hears_26 ?_
    show q_Gs w g 29 [(4, .int r1), (0, .ref 96), (1, .int x1), (2, .int x2), (3, .int x3)] [.int r3] (q_mm I2 L)
    obtain ⟨r4, hct, h⟩ := h
    refine h_callS K1 (st := []) [.int r3] (hct w (gl g)) ok_X12_longOf ml_X12_225 ⟨Nat.le_of_ble_eq_true rfl, Nat.le_of_ble_eq_true rfl⟩ (Nat.le_of_ble_eq_true rfl) dX12_hears_29 ?_
    show q_Gs w g 32 [(4, .int r1), (0, .ref 96), (1, .int x1), (2, .int x2), (3, .int x3)] [.int r4] (q_mm I2 L)
    obtain ⟨hr, hI, hL⟩ := h
    subst hr hI hL
    exact g_ireturn K rfl dX12_hears_32
  · replace h := h.2 hc
    refine g_iload K1 0 dX12_hears_14 rfl ?_
    refine g_goto K1 32 dX12_hears_16 rfl ?_
    obtain ⟨hr, hI, hL⟩ := h
    subst hr hI hL
    exact g_ireturn K rfl dX12_hears_32
theorem c0_X12_hears {r : Option Value} {I I' : Nat → Nat → Int32} {L L' : Nat → Nat → Int64} {x1 : Int32} {x2 : Int32} {x3 : Int32} (h : v_X12_hears_0 r I' L' I L x1 x2 x3) : q_C kX12_hears [.ref 96, .int x1, .int x2, .int x3] I L r I' L' := fun w l => q_ct (by decide) (Nat.le_of_ble_eq_true rfl) (Nat.le_refl _) (fun g _ K => h w g K)
abbrev v_X12_hours_0 (r : Option Value) (I' : Nat → Nat → Int32) (L' : Nat → Nat → Int64) (I : Nat → Nat → Int32) (L : Nat → Nat → Int64)  : Prop := q_W kX12_hours 0 [(0, .ref 96)] [] I L r I' L'
set_option maxRecDepth 20000 in
set_option maxHeartbeats 2000000 in
theorem vc_X12_hours_0 {r : Option Value} {I' : Nat → Nat → Int32} {L' : Nat → Nat → Int64} {I : Nat → Nat → Int32} {L : Nat → Nat → Int64}  (h : (vp_in 0 104 ∧ (r = some (.int (I 97 (0 : Int32).toNatClampNeg)) ∧ I' = I ∧ L' = L))) : v_X12_hours_0 r I' L' I L  := by
  intro w g K
  have K1 := K.1
  refine g_aload_n K1 0 dX12_hours_0 rfl ?_
  refine h_getO K1 q_clX12 1 97 lyp_96 fkX12_1 rfl fl_X12_9 dX12_hours_1 ?_
  refine g_iconst K1 0 dX12_hours_4 rfl ?_
  obtain ⟨hg, h⟩ := h
  refine h_iaload K1 lyp_97 hg dX12_hours_5 ?_
  obtain ⟨hr, hI, hL⟩ := h
  subst hr hI hL
  exact g_ireturn K rfl dX12_hours_6
theorem c0_X12_hours {r : Option Value} {I I' : Nat → Nat → Int32} {L L' : Nat → Nat → Int64}  (h : v_X12_hours_0 r I' L' I L ) : q_C kX12_hours [.ref 96] I L r I' L' := fun w l => q_ct (by decide) (Nat.le_of_ble_eq_true rfl) (Nat.le_refl _) (fun g _ K => h w g K)
abbrev v_X12_hushes_0 (r : Option Value) (I' : Nat → Nat → Int32) (L' : Nat → Nat → Int64) (I : Nat → Nat → Int32) (L : Nat → Nat → Int64) (x1 : Int32) : Prop := q_W kX12_hushes 0 [(0, .ref 96), (1, .int x1)] [] I L r I' L'
abbrev v_X12_hushes_34 (r : Option Value) (I' : Nat → Nat → Int32) (L' : Nat → Nat → Int64) (I : Nat → Nat → Int32) (L : Nat → Nat → Int64) (x1 : Int32) (x2 : Int32) (x3 : Int32) : Prop := q_W kX12_hushes 34 [(0, .ref 96), (1, .int x1), (2, .int x2), (3, .int x3)] [] I L r I' L'
set_option maxRecDepth 20000 in
set_option maxHeartbeats 2000000 in
theorem vc_X12_hushes_0 {r : Option Value} {I' : Nat → Nat → Int32} {L' : Nat → Nat → Int64} {I : Nat → Nat → Int32} {L : Nat → Nat → Int64} {x1 : Int32} (h : (∃ r1, q_C kX12_isPew [.ref 96, .long x1.toInt64] I L (some (.int r1)) I L ∧ ((r1 = 0 → (r = some (.int (-2)) ∧ I' = I ∧ L' = L)) ∧ (¬ r1 = 0 → (vp_in 7 104 ∧ (((I 97 (7 : Int32).toNatClampNeg) ≤ 0 → (∃ r2, q_C kX12_ruleOf [.ref 96, .int x1, .int 0] I L (some (.int r2)) I L ∧ (v_X12_hushes_34 r I' L' I L x1 r2 0))) ∧ (¬ (I 97 (7 : Int32).toNatClampNeg) ≤ 0 → (r = some (.int (-5)) ∧ I' = I ∧ L' = L)))))))) : v_X12_hushes_0 r I' L' I L x1 := by
  intro w g K
  have K1 := K.1
  refine g_aload_n K1 0 dX12_hushes_0 rfl ?_
  refine g_iload_n K1 1 dX12_hushes_1 rfl ?_
  refine g_i2l K1 dX12_hushes_2 ?_
  obtain ⟨r1, hct, h⟩ := h
  refine h_callV K1 (st := []) [.long x1.toInt64] (hct w (gl g)) q_clX12 lyp_96 rfl ok_X12_isPew ml_X12_218 ⟨Nat.le_of_ble_eq_true rfl, Nat.le_of_ble_eq_true rfl⟩ (Nat.le_of_ble_eq_true rfl) dX12_hushes_3 ?_
  show q_Gs w g 6 [(0, .ref 96), (1, .int x1)] [.int r1] (q_mm I L)
  refine g_if_ne K1 12 dX12_hushes_6 rfl (fun hc => ?_) (fun hc => ?_)
  · replace h := h.2 hc
    refine g_aload_n K1 0 dX12_hushes_12 rfl ?_
    refine h_getO K1 q_clX12 1 97 lyp_96 fkX12_1 rfl fl_X12_9 dX12_hushes_13 ?_
    refine g_bipush K1 7 dX12_hushes_16 rfl ?_
    obtain ⟨hg, h⟩ := h
    refine h_iaload K1 lyp_97 hg dX12_hushes_18 ?_
    refine g_if_le K1 25 dX12_hushes_19 rfl (fun hc => ?_) (fun hc => ?_)
    · replace h := h.1 hc
      refine g_aload_n K1 0 dX12_hushes_25 rfl ?_
      refine g_iload_n K1 1 dX12_hushes_26 rfl ?_
      refine g_iconst K1 0 dX12_hushes_27 rfl ?_
      obtain ⟨r2, hct, h⟩ := h
      refine h_callV K1 (st := []) [.int x1, .int 0] (hct w (gl g)) q_clX12 lyp_96 rfl ok_X12_ruleOf ml_X12_222 ⟨Nat.le_of_ble_eq_true rfl, Nat.le_of_ble_eq_true rfl⟩ (Nat.le_of_ble_eq_true rfl) dX12_hushes_28 ?_
      show q_Gs w g 31 [(0, .ref 96), (1, .int x1)] [.int r2] (q_mm I L)
      refine g_istore_n K1 dX12_hushes_31 rfl (by decide) rfl ?_
      refine g_iconst K1 0 dX12_hushes_32 rfl ?_
      refine g_istore_n K1 dX12_hushes_33 rfl (by decide) rfl ?_
      exact g_perm [2, 3, 1, 0] rfl (h w g K)
    · replace h := h.2 hc
      refine g_bipush K1 (-5) dX12_hushes_22 rfl ?_
      obtain ⟨hr, hI, hL⟩ := h
      subst hr hI hL
      exact g_ireturn K rfl dX12_hushes_24
  · replace h := h.1 hc
    refine g_bipush K1 (-2) dX12_hushes_9 rfl ?_
    obtain ⟨hr, hI, hL⟩ := h
    subst hr hI hL
    exact g_ireturn K rfl dX12_hushes_11
set_option maxRecDepth 20000 in
set_option maxHeartbeats 2000000 in
theorem vc_X12_hushes_34 {r : Option Value} {I' : Nat → Nat → Int32} {L' : Nat → Nat → Int64} {I : Nat → Nat → Int32} {L : Nat → Nat → Int64} {x1 : Int32} {x2 : Int32} {x3 : Int32} (h : ((3 ≤ x3 → (r = some (.int x2) ∧ I' = I ∧ L' = L)) ∧ (¬ 3 ≤ x3 → (vp_in ((9 + (3 * x1)) + x3) 104 ∧ (v_X12_hushes_34 r I' L' (up2 I 97 (((9 + (3 * x1)) + x3) : Int32).toNatClampNeg 0) L x1 x2 (x3 + 1)))))) : v_X12_hushes_34 r I' L' I L x1 x2 x3 := by
  intro w g K
  have K1 := K.1
  refine g_iload_n K1 3 dX12_hushes_34 rfl ?_
  refine g_iconst K1 3 dX12_hushes_35 rfl ?_
  refine g_icmp_ge K1 59 dX12_hushes_36 rfl (fun hc => ?_) (fun hc => ?_)
  · replace h := h.1 hc
    refine g_iload_n K1 2 dX12_hushes_59 rfl ?_
    obtain ⟨hr, hI, hL⟩ := h
    subst hr hI hL
    exact g_ireturn K rfl dX12_hushes_60
  · replace h := h.2 hc
    refine g_aload_n K1 0 dX12_hushes_39 rfl ?_
    refine h_getO K1 q_clX12 1 97 lyp_96 fkX12_1 rfl fl_X12_9 dX12_hushes_40 ?_
    refine g_bipush K1 9 dX12_hushes_43 rfl ?_
    refine g_iconst K1 3 dX12_hushes_45 rfl ?_
    refine g_iload_n K1 1 dX12_hushes_46 rfl ?_
    refine g_imul K1 dX12_hushes_47 ?_
    refine g_iadd K1 dX12_hushes_48 ?_
    refine g_iload_n K1 3 dX12_hushes_49 rfl ?_
    refine g_iadd K1 dX12_hushes_50 ?_
    refine g_iconst K1 0 dX12_hushes_51 rfl ?_
    obtain ⟨hg, h⟩ := h
    refine h_iastore K1 lyp_97 hg dX12_hushes_52 ?_
    refine g_iinc K1 (x3 + 1) 3 dX12_hushes_53 rfl rfl (by decide) rfl ?_
    refine g_goto K1 34 dX12_hushes_56 rfl ?_
    exact g_perm [1, 2, 3, 0] rfl (h w g K)
theorem c0_X12_hushes {r : Option Value} {I I' : Nat → Nat → Int32} {L L' : Nat → Nat → Int64} {x1 : Int32} (h : v_X12_hushes_0 r I' L' I L x1) : q_C kX12_hushes [.ref 96, .int x1] I L r I' L' := fun w l => q_ct (by decide) (Nat.le_of_ble_eq_true rfl) (Nat.le_refl _) (fun g _ K => h w g K)
abbrev v_X12_image_0 (r : Option Value) (I' : Nat → Nat → Int32) (L' : Nat → Nat → Int64) (I : Nat → Nat → Int32) (L : Nat → Nat → Int64) (x1 : Int32) : Prop := q_W kX12_image 0 [(0, .ref 96), (1, .int x1)] [] I L r I' L'
abbrev v_X12_image_17 (r : Option Value) (I' : Nat → Nat → Int32) (L' : Nat → Nat → Int64) (I : Nat → Nat → Int32) (L : Nat → Nat → Int64) (x1 : Int32) (x2 : Int32) : Prop := q_W kX12_image 17 [(0, .ref 96), (1, .int x1), (2, .int x2)] [] I L r I' L'
set_option maxRecDepth 20000 in
set_option maxHeartbeats 2000000 in
theorem vc_X12_image_0 {r : Option Value} {I' : Nat → Nat → Int32} {L' : Nat → Nat → Int64} {I : Nat → Nat → Int32} {L : Nat → Nat → Int64} {x1 : Int32} (h : (∃ r1, q_C kX12_in [.long x1.toInt64, .long 0, .long 2] I L (some (.int r1)) I L ∧ ((r1 = 0 → (r = some (.int (-2)) ∧ I' = I ∧ L' = L)) ∧ (¬ r1 = 0 → (v_X12_image_17 r I' L' I L x1 0))))) : v_X12_image_0 r I' L' I L x1 := by
  intro w g K
  have K1 := K.1
  refine g_iload_n K1 1 dX12_image_0 rfl ?_
  refine g_i2l K1 dX12_image_1 ?_
  refine g_lconst K1 0 dX12_image_2 rfl ?_
  refine g_ldc2_w K1 2 dX12_image_3 cn_X12_68 ?_
  obtain ⟨r1, hct, h⟩ := h
  refine h_callS K1 (st := []) [.long x1.toInt64, .long 0, .long 2] (hct w (gl g)) ok_X12_in ml_X12_70 ⟨Nat.le_of_ble_eq_true rfl, Nat.le_of_ble_eq_true rfl⟩ (Nat.le_of_ble_eq_true rfl) dX12_image_6 ?_
  show q_Gs w g 9 [(0, .ref 96), (1, .int x1)] [.int r1] (q_mm I L)
  refine g_if_ne K1 15 dX12_image_9 rfl (fun hc => ?_) (fun hc => ?_)
  · replace h := h.2 hc
    refine g_iconst K1 0 dX12_image_15 rfl ?_
    refine g_istore_n K1 dX12_image_16 rfl (by decide) rfl ?_
    exact g_perm [1, 2, 0] rfl (h w g K)
  · replace h := h.1 hc
    refine g_bipush K1 (-2) dX12_image_12 rfl ?_
    obtain ⟨hr, hI, hL⟩ := h
    subst hr hI hL
    exact g_ireturn K rfl dX12_image_14
set_option maxRecDepth 20000 in
set_option maxHeartbeats 2000000 in
theorem vc_X12_image_17 {r : Option Value} {I' : Nat → Nat → Int32} {L' : Nat → Nat → Int64} {I : Nat → Nat → Int32} {L : Nat → Nat → Int64} {x1 : Int32} {x2 : Int32} (h : ((104 ≤ x2 → (vp_in x1 3 ∧ (r = some (.int 0) ∧ I' = (up2 I 99 x1.toNatClampNeg (vp_nar .boolean 1)) ∧ L' = L))) ∧ (¬ 104 ≤ x2 → (vp_in x2 104 ∧ (vp_in ((104 * x1) + x2) 312 ∧ ∀ I1, I1 = (up2 I 98 (((104 * x1) + x2) : Int32).toNatClampNeg (I 97 x2.toNatClampNeg)) → (v_X12_image_17 r I' L' I1 L x1 (x2 + 1))))))) : v_X12_image_17 r I' L' I L x1 x2 := by
  intro w g K
  have K1 := K.1
  refine g_iload_n K1 2 dX12_image_17 rfl ?_
  refine g_bipush K1 104 dX12_image_18 rfl ?_
  refine g_icmp_ge K1 46 dX12_image_20 rfl (fun hc => ?_) (fun hc => ?_)
  · replace h := h.1 hc
    refine g_aload_n K1 0 dX12_image_46 rfl ?_
    refine h_getO K1 q_clX12 3 99 lyp_96 fkX12_3 rfl fl_X12_16 dX12_image_47 ?_
    refine g_iload_n K1 1 dX12_image_50 rfl ?_
    refine g_iconst K1 1 dX12_image_51 rfl ?_
    obtain ⟨hg, h⟩ := h
    refine h_zastore K1 lyp_99 hg dX12_image_52 ?_
    refine g_iconst K1 0 dX12_image_53 rfl ?_
    obtain ⟨hr, hI, hL⟩ := h
    subst hr hI hL
    exact g_ireturn K rfl dX12_image_54
  · replace h := h.2 hc
    refine g_aload_n K1 0 dX12_image_23 rfl ?_
    refine h_getO K1 q_clX12 2 98 lyp_96 fkX12_2 rfl fl_X12_13 dX12_image_24 ?_
    refine g_bipush K1 104 dX12_image_27 rfl ?_
    refine g_iload_n K1 1 dX12_image_29 rfl ?_
    refine g_imul K1 dX12_image_30 ?_
    refine g_iload_n K1 2 dX12_image_31 rfl ?_
    refine g_iadd K1 dX12_image_32 ?_
    refine g_aload_n K1 0 dX12_image_33 rfl ?_
    refine h_getO K1 q_clX12 1 97 lyp_96 fkX12_1 rfl fl_X12_9 dX12_image_34 ?_
    refine g_iload_n K1 2 dX12_image_37 rfl ?_
    obtain ⟨hg, h⟩ := h
    refine h_iaload K1 lyp_97 hg dX12_image_38 ?_
    obtain ⟨hg, h⟩ := h
    refine h_iastore K1 lyp_98 hg dX12_image_39 ?_
    refine g_nameMI (fun I1 hI1 => ?_)
    replace h := h I1 hI1
    refine g_iinc K1 (x2 + 1) 2 dX12_image_40 rfl rfl (by decide) rfl ?_
    refine g_goto K1 17 dX12_image_43 rfl ?_
    exact g_perm [1, 2, 0] rfl (h w g K)
theorem c0_X12_image {r : Option Value} {I I' : Nat → Nat → Int32} {L L' : Nat → Nat → Int64} {x1 : Int32} (h : v_X12_image_0 r I' L' I L x1) : q_C kX12_image [.ref 96, .int x1] I L r I' L' := fun w l => q_ct (by decide) (Nat.le_of_ble_eq_true rfl) (Nat.le_refl _) (fun g _ K => h w g K)
abbrev v_X12_in_0 (r : Option Value) (I' : Nat → Nat → Int32) (L' : Nat → Nat → Int64) (I : Nat → Nat → Int32) (L : Nat → Nat → Int64) (x0 : Int64) (x2 : Int64) (x4 : Int64) : Prop := q_W kX12_in 0 [(0, .long x0), (2, .long x2), (4, .long x4)] [] I L r I' L'
set_option maxRecDepth 20000 in
set_option maxHeartbeats 2000000 in
theorem vc_X12_in_0 {r : Option Value} {I' : Nat → Nat → Int32} {L' : Nat → Nat → Int64} {I : Nat → Nat → Int32} {L : Nat → Nat → Int64} {x0 : Int64} {x2 : Int64} {x4 : Int64} (h : (((lg_cmp x0 x2) < 0 → (r = some (.int 0) ∧ I' = I ∧ L' = L)) ∧ (¬ (lg_cmp x0 x2) < 0 → ((0 < (lg_cmp x0 x4) → (r = some (.int 0) ∧ I' = I ∧ L' = L)) ∧ (¬ 0 < (lg_cmp x0 x4) → (r = some (.int 1) ∧ I' = I ∧ L' = L)))))) : v_X12_in_0 r I' L' I L x0 x2 x4 := by
  intro w g K
  have K1 := K.1
  refine g_lload_n K1 0 dX12_in_0 rfl ?_
  refine g_lload_n K1 1 dX12_in_1 rfl ?_
  refine g_lcmp K1 dX12_in_2 ?_
  refine g_if_lt K1 17 dX12_in_3 rfl (fun hc => ?_) (fun hc => ?_)
  · replace h := h.1 hc
    refine g_iconst K1 0 dX12_in_17 rfl ?_
    obtain ⟨hr, hI, hL⟩ := h
    subst hr hI hL
    exact g_zreturn K rfl (by decide) dX12_in_18
  · replace h := h.2 hc
    refine g_lload_n K1 0 dX12_in_6 rfl ?_
    refine g_lload K1 2 dX12_in_7 rfl ?_
    refine g_lcmp K1 dX12_in_9 ?_
    refine g_if_gt K1 17 dX12_in_10 rfl (fun hc => ?_) (fun hc => ?_)
    · replace h := h.1 hc
      refine g_iconst K1 0 dX12_in_17 rfl ?_
      obtain ⟨hr, hI, hL⟩ := h
      subst hr hI hL
      exact g_zreturn K rfl (by decide) dX12_in_18
    · replace h := h.2 hc
      refine g_iconst K1 1 dX12_in_13 rfl ?_
      refine g_goto K1 18 dX12_in_14 rfl ?_
      obtain ⟨hr, hI, hL⟩ := h
      subst hr hI hL
      exact g_zreturn K rfl (by decide) dX12_in_18
theorem c0_X12_in {r : Option Value} {I I' : Nat → Nat → Int32} {L L' : Nat → Nat → Int64} {x0 : Int64} {x2 : Int64} {x4 : Int64} (h : v_X12_in_0 r I' L' I L x0 x2 x4) : q_C kX12_in [.long x0, .long x2, .long x4] I L r I' L' := fun w l => q_ct (by decide) (Nat.le_of_ble_eq_true rfl) (Nat.le_refl _) (fun g _ K => h w g K)
abbrev v_X12_is_0 (r : Option Value) (I' : Nat → Nat → Int32) (L' : Nat → Nat → Int64) (I : Nat → Nat → Int32) (L : Nat → Nat → Int64) (x1 : Nat) : Prop := q_W kX12_is 0 [(0, .ref 96), (1, .ref x1)] [] I L r I' L'
abbrev v_X12_is_39 (r : Option Value) (I' : Nat → Nat → Int32) (L' : Nat → Nat → Int64) (I : Nat → Nat → Int32) (L : Nat → Nat → Int64) (x1 : Nat) (x2 : Int32) (x3 : Int32) : Prop := q_W kX12_is 39 [(0, .ref 96), (1, .ref x1), (2, .int x2), (3, .int x3)] [] I L r I' L'
set_option maxRecDepth 20000 in
set_option maxHeartbeats 2000000 in
theorem vc_X12_is_0 {r : Option Value} {I' : Nat → Nat → Int32} {L' : Nat → Nat → Int64} {I : Nat → Nat → Int32} {L : Nat → Nat → Int64} {x1 : Nat} (h : (∃ r1, q_C kX12_good [.ref 96] I L (some (.int r1)) I L ∧ ((r1 = 0 → (v_X12_is_39 r I' L' I L x1 0 0)) ∧ (¬ r1 = 0 → (((I 96 10) = 1 → (∃ r2, q_C kJ0_length_8abf5 [.ref x1] I L (some (.int r2)) I L ∧ ((10001 ≤ x1 ∧ x1 < 10029) ∧ ((((I 96 8) - (I 96 9)) = r2 → (v_X12_is_39 r I' L' I L x1 1 0)) ∧ (¬ ((I 96 8) - (I 96 9)) = r2 → (v_X12_is_39 r I' L' I L x1 0 0)))))) ∧ (¬ (I 96 10) = 1 → (v_X12_is_39 r I' L' I L x1 0 0))))))) : v_X12_is_0 r I' L' I L x1 := by
  intro w g K
  have K1 := K.1
  refine g_aload_n K1 0 dX12_is_0 rfl ?_
  obtain ⟨r1, hct, h⟩ := h
  refine h_callV K1 (st := []) [] (hct w (gl g)) q_clX12 lyp_96 rfl ok_X12_good ml_X12_125 ⟨Nat.le_of_ble_eq_true rfl, Nat.le_of_ble_eq_true rfl⟩ (Nat.le_of_ble_eq_true rfl) dX12_is_1 ?_
  show q_Gs w g 4 [(0, .ref 96), (1, .ref x1)] [.int r1] (q_mm I L)
  refine g_if_eq K1 35 dX12_is_4 rfl (fun hc => ?_) (fun hc => ?_)
  · replace h := h.1 hc
    refine g_iconst K1 0 dX12_is_35 rfl ?_
    refine g_istore_n K1 dX12_is_36 rfl (by decide) rfl ?_
    refine g_iconst K1 0 dX12_is_37 rfl ?_
    refine g_istore_n K1 dX12_is_38 rfl (by decide) rfl ?_
    exact g_perm [2, 3, 1, 0] rfl (h w g K)
  · replace h := h.2 hc
    refine g_aload_n K1 0 dX12_is_7 rfl ?_
    refine h_getI K1 q_clX12 10 lyp_96 fkX12_10 fl_X12_101 dX12_is_8 ?_
    refine g_iconst K1 1 dX12_is_11 rfl ?_
    refine g_icmp_ne K1 35 dX12_is_12 rfl (fun hc => ?_) (fun hc => ?_)
    · replace h := h.2 hc
      refine g_iconst K1 0 dX12_is_35 rfl ?_
      refine g_istore_n K1 dX12_is_36 rfl (by decide) rfl ?_
      refine g_iconst K1 0 dX12_is_37 rfl ?_
      refine g_istore_n K1 dX12_is_38 rfl (by decide) rfl ?_
      exact g_perm [2, 3, 1, 0] rfl (h w g K)
    · replace h := h.1 hc
      refine g_aload_n K1 0 dX12_is_15 rfl ?_
      refine h_getI K1 q_clX12 8 lyp_96 fkX12_8 fl_X12_91 dX12_is_16 ?_
      refine g_aload_n K1 0 dX12_is_19 rfl ?_
      refine h_getI K1 q_clX12 9 lyp_96 fkX12_9 fl_X12_98 dX12_is_20 ?_
      refine g_isub K1 dX12_is_23 ?_
      refine g_aload_n K1 1 dX12_is_24 rfl ?_
      obtain ⟨r2, hct, h⟩ := h
      obtain ⟨hs, h⟩ := h
      refine h_callStr K1 (st := [.int ((I 96 8) - (I 96 9))]) [] (hct w (gl g)) hs rfl ok_J0_length_8abf5 ml_X12_128 ⟨Nat.le_of_ble_eq_true rfl, Nat.le_of_ble_eq_true rfl⟩ (Nat.le_of_ble_eq_true rfl) dX12_is_25 ?_
      show q_Gs w g 28 [(0, .ref 96), (1, .ref x1)] [.int r2, .int ((I 96 8) - (I 96 9))] (q_mm I L)
      refine g_icmp_ne K1 35 dX12_is_28 rfl (fun hc => ?_) (fun hc => ?_)
      · replace h := h.2 hc
        refine g_iconst K1 0 dX12_is_35 rfl ?_
        refine g_istore_n K1 dX12_is_36 rfl (by decide) rfl ?_
        refine g_iconst K1 0 dX12_is_37 rfl ?_
        refine g_istore_n K1 dX12_is_38 rfl (by decide) rfl ?_
        exact g_perm [2, 3, 1, 0] rfl (h w g K)
      · replace h := h.1 hc
        refine g_iconst K1 1 dX12_is_31 rfl ?_
        refine g_goto K1 36 dX12_is_32 rfl ?_
        refine g_istore_n K1 dX12_is_36 rfl (by decide) rfl ?_
        refine g_iconst K1 0 dX12_is_37 rfl ?_
        refine g_istore_n K1 dX12_is_38 rfl (by decide) rfl ?_
        exact g_perm [2, 3, 1, 0] rfl (h w g K)
set_option maxRecDepth 20000 in
set_option maxHeartbeats 2000000 in
theorem vc_X12_is_39 {r : Option Value} {I' : Nat → Nat → Int32} {L' : Nat → Nat → Int64} {I : Nat → Nat → Int32} {L : Nat → Nat → Int64} {x1 : Nat} {x2 : Int32} {x3 : Int32} (h : (∃ r1, q_C kJ0_length_8abf5 [.ref x1] I L (some (.int r1)) I L ∧ ((10001 ≤ x1 ∧ x1 < 10029) ∧ ((r1 ≤ x3 → ((x2 = 0 ∨ x2 = 1) ∧ (r = some (.int x2) ∧ I' = I ∧ L' = L))) ∧ (¬ r1 ≤ x3 → ((x2 = 0 → ((x2 = 0 ∨ x2 = 1) ∧ (r = some (.int x2) ∧ I' = I ∧ L' = L))) ∧ (¬ x2 = 0 → (vp_in ((I 96 9) + x3) 600 ∧ (∃ r2, q_C kJ0_charAt_5068e [.ref x1, .int x3] I L (some (.int r2)) I L ∧ ((10001 ≤ x1 ∧ x1 < 10029) ∧ (((I 100 (((I 96 9) + x3) : Int32).toNatClampNeg) = r2 → (v_X12_is_39 r I' L' I L x1 1 (x3 + 1))) ∧ (¬ (I 100 (((I 96 9) + x3) : Int32).toNatClampNeg) = r2 → (v_X12_is_39 r I' L' I L x1 0 (x3 + 1)))))))))))))) : v_X12_is_39 r I' L' I L x1 x2 x3 := by
  intro w g K
  have K1 := K.1
  refine g_iload_n K1 3 dX12_is_39 rfl ?_
  refine g_aload_n K1 1 dX12_is_40 rfl ?_
  obtain ⟨r1, hct, h⟩ := h
  obtain ⟨hs, h⟩ := h
  refine h_callStr K1 (st := [.int x3]) [] (hct w (gl g)) hs rfl ok_J0_length_8abf5 ml_X12_128 ⟨Nat.le_of_ble_eq_true rfl, Nat.le_of_ble_eq_true rfl⟩ (Nat.le_of_ble_eq_true rfl) dX12_is_41 ?_
  show q_Gs w g 44 [(0, .ref 96), (1, .ref x1), (2, .int x2), (3, .int x3)] [.int r1, .int x3] (q_mm I L)
  refine g_icmp_ge K1 82 dX12_is_44 rfl (fun hc => ?_) (fun hc => ?_)
  · replace h := h.1 hc
    refine g_iload_n K1 2 dX12_is_82 rfl ?_
    obtain ⟨hz, h⟩ := h
    obtain ⟨hr, hI, hL⟩ := h
    subst hr hI hL
    exact g_zreturn K rfl (narZ hz) dX12_is_83
  · replace h := h.2 hc
    refine g_iload_n K1 2 dX12_is_47 rfl ?_
    refine g_if_eq K1 82 dX12_is_48 rfl (fun hc => ?_) (fun hc => ?_)
    · replace h := h.1 hc
      refine g_iload_n K1 2 dX12_is_82 rfl ?_
      obtain ⟨hz, h⟩ := h
      obtain ⟨hr, hI, hL⟩ := h
      subst hr hI hL
      exact g_zreturn K rfl (narZ hz) dX12_is_83
    · replace h := h.2 hc
      refine g_aload_n K1 0 dX12_is_51 rfl ?_
      refine h_getO K1 q_clX12 4 100 lyp_96 fkX12_4 rfl fl_X12_20 dX12_is_52 ?_
      refine g_aload_n K1 0 dX12_is_55 rfl ?_
      refine h_getI K1 q_clX12 9 lyp_96 fkX12_9 fl_X12_98 dX12_is_56 ?_
      refine g_iload_n K1 3 dX12_is_59 rfl ?_
      refine g_iadd K1 dX12_is_60 ?_
      obtain ⟨hg, h⟩ := h
      refine h_baload K1 lyp_100 hg dX12_is_61 ?_
      refine g_aload_n K1 1 dX12_is_62 rfl ?_
      refine g_iload_n K1 3 dX12_is_63 rfl ?_
      obtain ⟨r2, hct, h⟩ := h
      obtain ⟨hs, h⟩ := h
      refine h_callStr K1 (st := [.int (I 100 (((I 96 9) + x3) : Int32).toNatClampNeg)]) [.int x3] (hct w (gl g)) hs rfl ok_J0_charAt_5068e ml_X12_133 ⟨Nat.le_of_ble_eq_true rfl, Nat.le_of_ble_eq_true rfl⟩ (Nat.le_of_ble_eq_true rfl) dX12_is_64 ?_
      show q_Gs w g 67 [(0, .ref 96), (1, .ref x1), (2, .int x2), (3, .int x3)] [.int r2, .int (I 100 (((I 96 9) + x3) : Int32).toNatClampNeg)] (q_mm I L)
      refine g_icmp_ne K1 74 dX12_is_67 rfl (fun hc => ?_) (fun hc => ?_)
      · replace h := h.2 hc
        refine g_iconst K1 0 dX12_is_74 rfl ?_
        refine g_istore_n K1 dX12_is_75 rfl (by decide) rfl ?_
        refine g_iinc K1 (x3 + 1) 3 dX12_is_76 rfl rfl (by decide) rfl ?_
        refine g_goto K1 39 dX12_is_79 rfl ?_
        exact g_perm [2, 3, 1, 0] rfl (h w g K)
      · replace h := h.1 hc
        refine g_iconst K1 1 dX12_is_70 rfl ?_
        refine g_goto K1 75 dX12_is_71 rfl ?_
        refine g_istore_n K1 dX12_is_75 rfl (by decide) rfl ?_
        refine g_iinc K1 (x3 + 1) 3 dX12_is_76 rfl rfl (by decide) rfl ?_
        refine g_goto K1 39 dX12_is_79 rfl ?_
        exact g_perm [2, 3, 1, 0] rfl (h w g K)
theorem c0_X12_is {r : Option Value} {I I' : Nat → Nat → Int32} {L L' : Nat → Nat → Int64} {x1 : Nat} (h : v_X12_is_0 r I' L' I L x1) : q_C kX12_is [.ref 96, .ref x1] I L r I' L' := fun w l => q_ct (by decide) (Nat.le_of_ble_eq_true rfl) (Nat.le_refl _) (fun g _ K => h w g K)
abbrev v_X12_isBetter_0 (r : Option Value) (I' : Nat → Nat → Int32) (L' : Nat → Nat → Int64) (I : Nat → Nat → Int32) (L : Nat → Nat → Int64) (x1 : Int32) (x2 : Int32) (x3 : Int32) : Prop := q_W kX12_isBetter 0 [(0, .ref 96), (1, .int x1), (2, .int x2), (3, .int x3)] [] I L r I' L'
set_option maxRecDepth 20000 in
set_option maxHeartbeats 2000000 in
theorem vc_X12_isBetter_0 {r : Option Value} {I' : Nat → Nat → Int32} {L' : Nat → Nat → Int64} {I : Nat → Nat → Int32} {L : Nat → Nat → Int64} {x1 : Int32} {x2 : Int32} {x3 : Int32} (h : (((I 96 16) = 0 → (r = some (.int 0) ∧ I' = I ∧ L' = L)) ∧ (¬ (I 96 16) = 0 → (((I 96 16) = 1 → (r = some (.int 1) ∧ I' = I ∧ L' = L)) ∧ (¬ (I 96 16) = 1 → (((I 96 16) = 2 → (∃ r1, q_C kX12_saysOf [.ref 96, .int x1, .int x3] I L (some (.int r1)) I L ∧ (∃ r2, q_C kX12_longOf [.int r1] I L (some (.int r2)) I L ∧ (∃ r3, q_C kX12_saysOf [.ref 96, .int x2, .int x3] I L (some (.int r3)) I L ∧ (∃ r4, q_C kX12_longOf [.int r3] I L (some (.int r4)) I L ∧ ((r2 ≤ r4 → (r = some (.int 0) ∧ I' = I ∧ L' = L)) ∧ (¬ r2 ≤ r4 → (r = some (.int 1) ∧ I' = I ∧ L' = L)))))))) ∧ (¬ (I 96 16) = 2 → (vp_in ((7 * x3) + x1) 91 ∧ (vp_in ((7 * x3) + x2) 91 ∧ (((I 105 (((7 * x3) + x1) : Int32).toNatClampNeg) ≤ (I 105 (((7 * x3) + x2) : Int32).toNatClampNeg) → (r = some (.int 0) ∧ I' = I ∧ L' = L)) ∧ (¬ (I 105 (((7 * x3) + x1) : Int32).toNatClampNeg) ≤ (I 105 (((7 * x3) + x2) : Int32).toNatClampNeg) → (r = some (.int 1) ∧ I' = I ∧ L' = L)))))))))))) : v_X12_isBetter_0 r I' L' I L x1 x2 x3 := by
  intro w g K
  have K1 := K.1
  refine g_aload_n K1 0 dX12_isBetter_0 rfl ?_
  refine h_getI K1 q_clX12 16 lyp_96 fkX12_16 fl_X12_243 dX12_isBetter_1 ?_
  refine g_if_ne K1 9 dX12_isBetter_4 rfl (fun hc => ?_) (fun hc => ?_)
  · replace h := h.2 hc
    refine g_aload_n K1 0 dX12_isBetter_9 rfl ?_
    refine h_getI K1 q_clX12 16 lyp_96 fkX12_16 fl_X12_243 dX12_isBetter_10 ?_
    refine g_iconst K1 1 dX12_isBetter_13 rfl ?_
    refine g_icmp_ne K1 19 dX12_isBetter_14 rfl (fun hc => ?_) (fun hc => ?_)
    · replace h := h.2 hc
      refine g_aload_n K1 0 dX12_isBetter_19 rfl ?_
      refine h_getI K1 q_clX12 16 lyp_96 fkX12_16 fl_X12_243 dX12_isBetter_20 ?_
      refine g_iconst K1 2 dX12_isBetter_23 rfl ?_
      refine g_icmp_ne K1 54 dX12_isBetter_24 rfl (fun hc => ?_) (fun hc => ?_)
      · replace h := h.2 hc
        refine g_aload_n K1 0 dX12_isBetter_54 rfl ?_
        refine h_getO K1 q_clX12 26 105 lyp_96 fkX12_26 rfl fl_X12_40 dX12_isBetter_55 ?_
        refine g_bipush K1 7 dX12_isBetter_58 rfl ?_
        refine g_iload_n K1 3 dX12_isBetter_60 rfl ?_
        refine g_imul K1 dX12_isBetter_61 ?_
        refine g_iload_n K1 1 dX12_isBetter_62 rfl ?_
        refine g_iadd K1 dX12_isBetter_63 ?_
        obtain ⟨hg, h⟩ := h
        refine h_iaload K1 lyp_105 hg dX12_isBetter_64 ?_
        refine g_aload_n K1 0 dX12_isBetter_65 rfl ?_
        refine h_getO K1 q_clX12 26 105 lyp_96 fkX12_26 rfl fl_X12_40 dX12_isBetter_66 ?_
        refine g_bipush K1 7 dX12_isBetter_69 rfl ?_
        refine g_iload_n K1 3 dX12_isBetter_71 rfl ?_
        refine g_imul K1 dX12_isBetter_72 ?_
        refine g_iload_n K1 2 dX12_isBetter_73 rfl ?_
        refine g_iadd K1 dX12_isBetter_74 ?_
        obtain ⟨hg, h⟩ := h
        refine h_iaload K1 lyp_105 hg dX12_isBetter_75 ?_
        refine g_icmp_le K1 83 dX12_isBetter_76 rfl (fun hc => ?_) (fun hc => ?_)
        · replace h := h.1 hc
          refine g_iconst K1 0 dX12_isBetter_83 rfl ?_
          obtain ⟨hr, hI, hL⟩ := h
          subst hr hI hL
          exact g_zreturn K rfl (by decide) dX12_isBetter_84
        · replace h := h.2 hc
          refine g_iconst K1 1 dX12_isBetter_79 rfl ?_
          refine g_goto K1 84 dX12_isBetter_80 rfl ?_
          obtain ⟨hr, hI, hL⟩ := h
          subst hr hI hL
          exact g_zreturn K rfl (by decide) dX12_isBetter_84
      · replace h := h.1 hc
        refine g_aload_n K1 0 dX12_isBetter_27 rfl ?_
        refine g_iload_n K1 1 dX12_isBetter_28 rfl ?_
        refine g_iload_n K1 3 dX12_isBetter_29 rfl ?_
        obtain ⟨r1, hct, h⟩ := h
        refine h_callV K1 (st := []) [.int x1, .int x3] (hct w (gl g)) q_clX12 lyp_96 rfl ok_X12_saysOf ml_X12_275 ⟨Nat.le_of_ble_eq_true rfl, Nat.le_of_ble_eq_true rfl⟩ (Nat.le_of_ble_eq_true rfl) dX12_isBetter_30 ?_
        show q_Gs w g 33 [(0, .ref 96), (1, .int x1), (2, .int x2), (3, .int x3)] [.int r1] (q_mm I L)
        obtain ⟨r2, hct, h⟩ := h
        refine h_callS K1 (st := []) [.int r1] (hct w (gl g)) ok_X12_longOf ml_X12_225 ⟨Nat.le_of_ble_eq_true rfl, Nat.le_of_ble_eq_true rfl⟩ (Nat.le_of_ble_eq_true rfl) dX12_isBetter_33 ?_
        show q_Gs w g 36 [(0, .ref 96), (1, .int x1), (2, .int x2), (3, .int x3)] [.int r2] (q_mm I L)
        refine g_aload_n K1 0 dX12_isBetter_36 rfl ?_
        refine g_iload_n K1 2 dX12_isBetter_37 rfl ?_
        refine g_iload_n K1 3 dX12_isBetter_38 rfl ?_
        obtain ⟨r3, hct, h⟩ := h
        refine h_callV K1 (st := [.int r2]) [.int x2, .int x3] (hct w (gl g)) q_clX12 lyp_96 rfl ok_X12_saysOf ml_X12_275 ⟨Nat.le_of_ble_eq_true rfl, Nat.le_of_ble_eq_true rfl⟩ (Nat.le_of_ble_eq_true rfl) dX12_isBetter_39 ?_
        show q_Gs w g 42 [(0, .ref 96), (1, .int x1), (2, .int x2), (3, .int x3)] [.int r3, .int r2] (q_mm I L)
        obtain ⟨r4, hct, h⟩ := h
        refine h_callS K1 (st := [.int r2]) [.int r3] (hct w (gl g)) ok_X12_longOf ml_X12_225 ⟨Nat.le_of_ble_eq_true rfl, Nat.le_of_ble_eq_true rfl⟩ (Nat.le_of_ble_eq_true rfl) dX12_isBetter_42 ?_
        show q_Gs w g 45 [(0, .ref 96), (1, .int x1), (2, .int x2), (3, .int x3)] [.int r4, .int r2] (q_mm I L)
        refine g_icmp_le K1 52 dX12_isBetter_45 rfl (fun hc => ?_) (fun hc => ?_)
        · replace h := h.1 hc
          refine g_iconst K1 0 dX12_isBetter_52 rfl ?_
          obtain ⟨hr, hI, hL⟩ := h
          subst hr hI hL
          exact g_zreturn K rfl (by decide) dX12_isBetter_53
        · replace h := h.2 hc
          refine g_iconst K1 1 dX12_isBetter_48 rfl ?_
          refine g_goto K1 53 dX12_isBetter_49 rfl ?_
          obtain ⟨hr, hI, hL⟩ := h
          subst hr hI hL
          exact g_zreturn K rfl (by decide) dX12_isBetter_53
    · replace h := h.1 hc
      refine g_iconst K1 1 dX12_isBetter_17 rfl ?_
      obtain ⟨hr, hI, hL⟩ := h
      subst hr hI hL
      exact g_zreturn K rfl (by decide) dX12_isBetter_18
  · replace h := h.1 hc
    refine g_iconst K1 0 dX12_isBetter_7 rfl ?_
    obtain ⟨hr, hI, hL⟩ := h
    subst hr hI hL
    exact g_zreturn K rfl (by decide) dX12_isBetter_8
theorem c0_X12_isBetter {r : Option Value} {I I' : Nat → Nat → Int32} {L L' : Nat → Nat → Int64} {x1 : Int32} {x2 : Int32} {x3 : Int32} (h : v_X12_isBetter_0 r I' L' I L x1 x2 x3) : q_C kX12_isBetter [.ref 96, .int x1, .int x2, .int x3] I L r I' L' := fun w l => q_ct (by decide) (Nat.le_of_ble_eq_true rfl) (Nat.le_refl _) (fun g _ K => h w g K)
abbrev v_X12_isFull_0 (r : Option Value) (I' : Nat → Nat → Int32) (L' : Nat → Nat → Int64) (I : Nat → Nat → Int32) (L : Nat → Nat → Int64)  : Prop := q_W kX12_isFull 0 [(0, .ref 96)] [] I L r I' L'
abbrev v_X12_isFull_20 (r : Option Value) (I' : Nat → Nat → Int32) (L' : Nat → Nat → Int64) (I : Nat → Nat → Int32) (L : Nat → Nat → Int64)  : Prop := q_W kX12_isFull 20 [(0, .ref 96)] [] I L r I' L'
abbrev v_X12_isFull_61 (r : Option Value) (I' : Nat → Nat → Int32) (L' : Nat → Nat → Int64) (I : Nat → Nat → Int32) (L : Nat → Nat → Int64)  : Prop := q_W kX12_isFull 61 [(0, .ref 96)] [] I L r I' L'
set_option maxRecDepth 20000 in
set_option maxHeartbeats 2000000 in
theorem vc_X12_isFull_0 {r : Option Value} {I' : Nat → Nat → Int32} {L' : Nat → Nat → Int64} {I : Nat → Nat → Int32} {L : Nat → Nat → Int64}  (h : (∃ r1, q_C kX12_is [.ref 96, .ref 10019] I L (some (.int r1)) I L ∧ ((r1 = 0 → (v_X12_isFull_20 r I' L' I L)) ∧ (¬ r1 = 0 → (vp_in 3 104 ∧ (((I 102 (3 : Int32).toNatClampNeg) = 7 → (r = some (.int 1) ∧ I' = I ∧ L' = L)) ∧ (¬ (I 102 (3 : Int32).toNatClampNeg) = 7 → (v_X12_isFull_20 r I' L' I L)))))))) : v_X12_isFull_0 r I' L' I L  := by
  intro w g K
  have K1 := K.1
  refine g_aload_n K1 0 dX12_isFull_0 rfl ?_
  refine g_ldcS K1 18 (q := _) rfl rfl rfl dX12_isFull_1 ?_
  obtain ⟨r1, hct, h⟩ := h
  refine h_callV K1 (st := []) [.ref 10019] (hct w (gl g)) q_clX12 lyp_96 rfl ok_X12_is ml_X12_137 ⟨Nat.le_of_ble_eq_true rfl, Nat.le_of_ble_eq_true rfl⟩ (Nat.le_of_ble_eq_true rfl) dX12_isFull_3 ?_
  show q_Gs w g 6 [(0, .ref 96)] [.int r1] (q_mm I L)
  refine g_if_eq K1 20 dX12_isFull_6 rfl (fun hc => ?_) (fun hc => ?_)
  · replace h := h.1 hc
    exact g_perm [0] rfl (h w g K)
  · replace h := h.2 hc
    refine g_aload_n K1 0 dX12_isFull_9 rfl ?_
    refine h_getO K1 q_clX12 14 102 lyp_96 fkX12_14 rfl fl_X12_31 dX12_isFull_10 ?_
    refine g_iconst K1 3 dX12_isFull_13 rfl ?_
    obtain ⟨hg, h⟩ := h
    refine h_iaload K1 lyp_102 hg dX12_isFull_14 ?_
    refine g_bipush K1 7 dX12_isFull_15 rfl ?_
    refine g_icmp_eq K1 40 dX12_isFull_17 rfl (fun hc => ?_) (fun hc => ?_)
    · replace h := h.1 hc
      refine g_iconst K1 1 dX12_isFull_40 rfl ?_
      obtain ⟨hr, hI, hL⟩ := h
      subst hr hI hL
      exact g_zreturn K rfl (by decide) dX12_isFull_41
    · replace h := h.2 hc
      exact g_perm [0] rfl (h w g K)
set_option maxRecDepth 20000 in
set_option maxHeartbeats 2000000 in
theorem vc_X12_isFull_20 {r : Option Value} {I' : Nat → Nat → Int32} {L' : Nat → Nat → Int64} {I : Nat → Nat → Int32} {L : Nat → Nat → Int64}  (h : (∃ r1, q_C kX12_is [.ref 96, .ref 10020] I L (some (.int r1)) I L ∧ ((r1 = 0 → (∃ r2, q_C kX12_is [.ref 96, .ref 10021] I L (some (.int r2)) I L ∧ ((r2 = 0 → (v_X12_isFull_61 r I' L' I L)) ∧ (¬ r2 = 0 → (vp_in 5 104 ∧ (((I 102 (5 : Int32).toNatClampNeg) = 4 → (r = some (.int 1) ∧ I' = I ∧ L' = L)) ∧ (¬ (I 102 (5 : Int32).toNatClampNeg) = 4 → (v_X12_isFull_61 r I' L' I L)))))))) ∧ (¬ r1 = 0 → (vp_in 4 104 ∧ (((I 102 (4 : Int32).toNatClampNeg) = 12 → (r = some (.int 1) ∧ I' = I ∧ L' = L)) ∧ (¬ (I 102 (4 : Int32).toNatClampNeg) = 12 → (∃ r3, q_C kX12_is [.ref 96, .ref 10021] I L (some (.int r3)) I L ∧ ((r3 = 0 → (v_X12_isFull_61 r I' L' I L)) ∧ (¬ r3 = 0 → (vp_in 5 104 ∧ (((I 102 (5 : Int32).toNatClampNeg) = 4 → (r = some (.int 1) ∧ I' = I ∧ L' = L)) ∧ (¬ (I 102 (5 : Int32).toNatClampNeg) = 4 → (v_X12_isFull_61 r I' L' I L)))))))))))))) : v_X12_isFull_20 r I' L' I L  := by
  intro w g K
  have K1 := K.1
  refine g_aload_n K1 0 dX12_isFull_20 rfl ?_
  refine g_ldcS K1 19 (q := _) rfl rfl rfl dX12_isFull_21 ?_
  obtain ⟨r1, hct, h⟩ := h
  refine h_callV K1 (st := []) [.ref 10020] (hct w (gl g)) q_clX12 lyp_96 rfl ok_X12_is ml_X12_137 ⟨Nat.le_of_ble_eq_true rfl, Nat.le_of_ble_eq_true rfl⟩ (Nat.le_of_ble_eq_true rfl) dX12_isFull_23 ?_
  show q_Gs w g 26 [(0, .ref 96)] [.int r1] (q_mm I L)
  refine g_if_eq K1 42 dX12_isFull_26 rfl (fun hc => ?_) (fun hc => ?_)
  · replace h := h.1 hc
    refine g_aload_n K1 0 dX12_isFull_42 rfl ?_
    refine g_ldcS K1 20 (q := _) rfl rfl rfl dX12_isFull_43 ?_
    obtain ⟨r2, hct, h⟩ := h
    refine h_callV K1 (st := []) [.ref 10021] (hct w (gl g)) q_clX12 lyp_96 rfl ok_X12_is ml_X12_137 ⟨Nat.le_of_ble_eq_true rfl, Nat.le_of_ble_eq_true rfl⟩ (Nat.le_of_ble_eq_true rfl) dX12_isFull_45 ?_
    show q_Gs w g 48 [(0, .ref 96)] [.int r2] (q_mm I L)
    refine g_if_eq K1 61 dX12_isFull_48 rfl (fun hc => ?_) (fun hc => ?_)
    · replace h := h.1 hc
      exact g_perm [0] rfl (h w g K)
    · replace h := h.2 hc
      refine g_aload_n K1 0 dX12_isFull_51 rfl ?_
      refine h_getO K1 q_clX12 14 102 lyp_96 fkX12_14 rfl fl_X12_31 dX12_isFull_52 ?_
      refine g_iconst K1 5 dX12_isFull_55 rfl ?_
      obtain ⟨hg, h⟩ := h
      refine h_iaload K1 lyp_102 hg dX12_isFull_56 ?_
      refine g_iconst K1 4 dX12_isFull_57 rfl ?_
      refine g_icmp_eq K1 82 dX12_isFull_58 rfl (fun hc => ?_) (fun hc => ?_)
      · replace h := h.1 hc
        refine g_iconst K1 1 dX12_isFull_82 rfl ?_
        refine g_goto K1 87 dX12_isFull_83 rfl ?_
        obtain ⟨hr, hI, hL⟩ := h
        subst hr hI hL
        exact g_zreturn K rfl (by decide) dX12_isFull_87
      · replace h := h.2 hc
        exact g_perm [0] rfl (h w g K)
  · replace h := h.2 hc
    refine g_aload_n K1 0 dX12_isFull_29 rfl ?_
    refine h_getO K1 q_clX12 14 102 lyp_96 fkX12_14 rfl fl_X12_31 dX12_isFull_30 ?_
    refine g_iconst K1 4 dX12_isFull_33 rfl ?_
    obtain ⟨hg, h⟩ := h
    refine h_iaload K1 lyp_102 hg dX12_isFull_34 ?_
    refine g_bipush K1 12 dX12_isFull_35 rfl ?_
    refine g_icmp_ne K1 42 dX12_isFull_37 rfl (fun hc => ?_) (fun hc => ?_)
    · replace h := h.2 hc
      refine g_aload_n K1 0 dX12_isFull_42 rfl ?_
      refine g_ldcS K1 20 (q := _) rfl rfl rfl dX12_isFull_43 ?_
      obtain ⟨r3, hct, h⟩ := h
      refine h_callV K1 (st := []) [.ref 10021] (hct w (gl g)) q_clX12 lyp_96 rfl ok_X12_is ml_X12_137 ⟨Nat.le_of_ble_eq_true rfl, Nat.le_of_ble_eq_true rfl⟩ (Nat.le_of_ble_eq_true rfl) dX12_isFull_45 ?_
      show q_Gs w g 48 [(0, .ref 96)] [.int r3] (q_mm I L)
      refine g_if_eq K1 61 dX12_isFull_48 rfl (fun hc => ?_) (fun hc => ?_)
      · replace h := h.1 hc
        exact g_perm [0] rfl (h w g K)
      · replace h := h.2 hc
        refine g_aload_n K1 0 dX12_isFull_51 rfl ?_
        refine h_getO K1 q_clX12 14 102 lyp_96 fkX12_14 rfl fl_X12_31 dX12_isFull_52 ?_
        refine g_iconst K1 5 dX12_isFull_55 rfl ?_
        obtain ⟨hg, h⟩ := h
        refine h_iaload K1 lyp_102 hg dX12_isFull_56 ?_
        refine g_iconst K1 4 dX12_isFull_57 rfl ?_
        refine g_icmp_eq K1 82 dX12_isFull_58 rfl (fun hc => ?_) (fun hc => ?_)
        · replace h := h.1 hc
          refine g_iconst K1 1 dX12_isFull_82 rfl ?_
          refine g_goto K1 87 dX12_isFull_83 rfl ?_
          obtain ⟨hr, hI, hL⟩ := h
          subst hr hI hL
          exact g_zreturn K rfl (by decide) dX12_isFull_87
        · replace h := h.2 hc
          exact g_perm [0] rfl (h w g K)
    · replace h := h.1 hc
      refine g_iconst K1 1 dX12_isFull_40 rfl ?_
      obtain ⟨hr, hI, hL⟩ := h
      subst hr hI hL
      exact g_zreturn K rfl (by decide) dX12_isFull_41
set_option maxRecDepth 20000 in
set_option maxHeartbeats 2000000 in
theorem vc_X12_isFull_61 {r : Option Value} {I' : Nat → Nat → Int32} {L' : Nat → Nat → Int64} {I : Nat → Nat → Int32} {L : Nat → Nat → Int64}  (h : (∃ r1, q_C kX12_is [.ref 96, .ref 10022] I L (some (.int r1)) I L ∧ ((r1 = 0 → (r = some (.int 0) ∧ I' = I ∧ L' = L)) ∧ (¬ r1 = 0 → (vp_in 6 104 ∧ (((I 102 (6 : Int32).toNatClampNeg) = 6 → (r = some (.int 1) ∧ I' = I ∧ L' = L)) ∧ (¬ (I 102 (6 : Int32).toNatClampNeg) = 6 → (r = some (.int 0) ∧ I' = I ∧ L' = L)))))))) : v_X12_isFull_61 r I' L' I L  := by
  intro w g K
  have K1 := K.1
  refine g_aload_n K1 0 dX12_isFull_61 rfl ?_
  refine g_ldcS K1 21 (q := _) rfl rfl rfl dX12_isFull_62 ?_
  obtain ⟨r1, hct, h⟩ := h
  refine h_callV K1 (st := []) [.ref 10022] (hct w (gl g)) q_clX12 lyp_96 rfl ok_X12_is ml_X12_137 ⟨Nat.le_of_ble_eq_true rfl, Nat.le_of_ble_eq_true rfl⟩ (Nat.le_of_ble_eq_true rfl) dX12_isFull_64 ?_
  show q_Gs w g 67 [(0, .ref 96)] [.int r1] (q_mm I L)
  refine g_if_eq K1 86 dX12_isFull_67 rfl (fun hc => ?_) (fun hc => ?_)
  · replace h := h.1 hc
    refine g_iconst K1 0 dX12_isFull_86 rfl ?_
    obtain ⟨hr, hI, hL⟩ := h
    subst hr hI hL
    exact g_zreturn K rfl (by decide) dX12_isFull_87
  · replace h := h.2 hc
    refine g_aload_n K1 0 dX12_isFull_70 rfl ?_
    refine h_getO K1 q_clX12 14 102 lyp_96 fkX12_14 rfl fl_X12_31 dX12_isFull_71 ?_
    refine g_bipush K1 6 dX12_isFull_74 rfl ?_
    obtain ⟨hg, h⟩ := h
    refine h_iaload K1 lyp_102 hg dX12_isFull_76 ?_
    refine g_bipush K1 6 dX12_isFull_77 rfl ?_
    refine g_icmp_ne K1 86 dX12_isFull_79 rfl (fun hc => ?_) (fun hc => ?_)
    · replace h := h.2 hc
      refine g_iconst K1 0 dX12_isFull_86 rfl ?_
      obtain ⟨hr, hI, hL⟩ := h
      subst hr hI hL
      exact g_zreturn K rfl (by decide) dX12_isFull_87
    · replace h := h.1 hc
      refine g_iconst K1 1 dX12_isFull_82 rfl ?_
      refine g_goto K1 87 dX12_isFull_83 rfl ?_
      obtain ⟨hr, hI, hL⟩ := h
      subst hr hI hL
      exact g_zreturn K rfl (by decide) dX12_isFull_87
theorem c0_X12_isFull {r : Option Value} {I I' : Nat → Nat → Int32} {L L' : Nat → Nat → Int64}  (h : v_X12_isFull_0 r I' L' I L ) : q_C kX12_isFull [.ref 96] I L r I' L' := fun w l => q_ct (by decide) (Nat.le_of_ble_eq_true rfl) (Nat.le_refl _) (fun g _ K => h w g K)
abbrev v_X12_isHeard_0 (r : Option Value) (I' : Nat → Nat → Int32) (L' : Nat → Nat → Int64) (I : Nat → Nat → Int32) (L : Nat → Nat → Int64) (x1 : Int32) : Prop := q_W kX12_isHeard 0 [(0, .ref 96), (1, .int x1)] [] I L r I' L'
abbrev v_X12_isHeard_6 (r : Option Value) (I' : Nat → Nat → Int32) (L' : Nat → Nat → Int64) (I : Nat → Nat → Int32) (L : Nat → Nat → Int64) (x1 : Int32) (x2 : Int32) : Prop := q_W kX12_isHeard 6 [(0, .ref 96), (1, .int x1), (2, .int x2)] [] I L r I' L'
set_option maxRecDepth 20000 in
set_option maxHeartbeats 2000000 in
theorem vc_X12_isHeard_0 {r : Option Value} {I' : Nat → Nat → Int32} {L' : Nat → Nat → Int64} {I : Nat → Nat → Int32} {L : Nat → Nat → Int64} {x1 : Int32} (h : (∃ I1, q_C kX12_goAll [.ref 96] I L none I1 L ∧ (v_X12_isHeard_6 r I' L' I1 L x1 0))) : v_X12_isHeard_0 r I' L' I L x1 := by
  intro w g K
  have K1 := K.1
  refine g_aload_n K1 0 dX12_isHeard_0 rfl ?_
  obtain ⟨I1, hct, h⟩ := h
  refine h_callV K1 (st := []) [] (hct w (gl g)) q_clX12 lyp_96 rfl ok_X12_goAll ml_X12_300 ⟨Nat.le_of_ble_eq_true rfl, Nat.le_of_ble_eq_true rfl⟩ (Nat.le_of_ble_eq_true rfl) dX12_isHeard_1 ?_
  show q_Gs w g 4 [(0, .ref 96), (1, .int x1)] [] (q_mm I1 L)
  refine g_iconst K1 0 dX12_isHeard_4 rfl ?_
  refine g_istore_n K1 dX12_isHeard_5 rfl (by decide) rfl ?_
  exact g_perm [1, 2, 0] rfl (h w g K)
set_option maxRecDepth 20000 in
set_option maxHeartbeats 2000000 in
theorem vc_X12_isHeard_6 {r : Option Value} {I' : Nat → Nat → Int32} {L' : Nat → Nat → Int64} {I : Nat → Nat → Int32} {L : Nat → Nat → Int64} {x1 : Int32} {x2 : Int32} (h : (vp_in x1 4 ∧ (((I 109 x1.toNatClampNeg) ≤ x2 → (r = some (.int 1) ∧ I' = I ∧ L' = L)) ∧ (¬ (I 109 x1.toNatClampNeg) ≤ x2 → (∃ r1, q_C kX12_numberAt [.ref 96, .int x1, .int x2] I L (some (.long r1)) I L ∧ (∃ r2, q_C kX12_numberAt [.ref 96, .int x1, .int (x2 + 1)] I L (some (.long r2)) I L ∧ (∃ r3, q_C kX12_saysOf [.ref 96, .int r1.toInt32, .int r2.toInt32] I L (some (.int r3)) I L ∧ (∃ r4, q_C kX12_longOf [.int r3] I L (some (.int r4)) I L ∧ (∃ r5, q_C kX12_numberAt [.ref 96, .int x1, .int (x2 + 2)] I L (some (.long r5)) I L ∧ (((lg_cmp r4.toInt64 r5) = 0 → (v_X12_isHeard_6 r I' L' I L x1 (x2 + 3))) ∧ (¬ (lg_cmp r4.toInt64 r5) = 0 → (r = some (.int 0) ∧ I' = I ∧ L' = L)))))))))))) : v_X12_isHeard_6 r I' L' I L x1 x2 := by
  intro w g K
  have K1 := K.1
  refine g_iload_n K1 2 dX12_isHeard_6 rfl ?_
  refine g_aload_n K1 0 dX12_isHeard_7 rfl ?_
  refine h_getO K1 q_clX12 37 109 lyp_96 fkX12_37 rfl fl_X12_52 dX12_isHeard_8 ?_
  refine g_iload_n K1 1 dX12_isHeard_11 rfl ?_
  obtain ⟨hg, h⟩ := h
  refine h_iaload K1 lyp_109 hg dX12_isHeard_12 ?_
  refine g_icmp_ge K1 60 dX12_isHeard_13 rfl (fun hc => ?_) (fun hc => ?_)
  · replace h := h.1 hc
    refine g_iconst K1 1 dX12_isHeard_60 rfl ?_
    obtain ⟨hr, hI, hL⟩ := h
    subst hr hI hL
    exact g_zreturn K rfl (by decide) dX12_isHeard_61
  · replace h := h.2 hc
    refine g_aload_n K1 0 dX12_isHeard_16 rfl ?_
    refine g_aload_n K1 0 dX12_isHeard_17 rfl ?_
    refine g_iload_n K1 1 dX12_isHeard_18 rfl ?_
    refine g_iload_n K1 2 dX12_isHeard_19 rfl ?_
    obtain ⟨r1, hct, h⟩ := h
    refine h_callV K1 (st := [.ref 96]) [.int x1, .int x2] (hct w (gl g)) q_clX12 lyp_96 rfl ok_X12_numberAt ml_X12_351 ⟨Nat.le_of_ble_eq_true rfl, Nat.le_of_ble_eq_true rfl⟩ (Nat.le_of_ble_eq_true rfl) dX12_isHeard_20 ?_
    show q_Gs w g 23 [(0, .ref 96), (1, .int x1), (2, .int x2)] [.long r1, .ref 96] (q_mm I L)
    refine g_l2i K1 dX12_isHeard_23 ?_
    refine g_aload_n K1 0 dX12_isHeard_24 rfl ?_
    refine g_iload_n K1 1 dX12_isHeard_25 rfl ?_
    refine g_iload_n K1 2 dX12_isHeard_26 rfl ?_
    refine g_iconst K1 1 dX12_isHeard_27 rfl ?_
    refine g_iadd K1 dX12_isHeard_28 ?_
    obtain ⟨r2, hct, h⟩ := h
    refine h_callV K1 (st := [.int r1.toInt32, .ref 96]) [.int x1, .int (x2 + 1)] (hct w (gl g)) q_clX12 lyp_96 rfl ok_X12_numberAt ml_X12_351 ⟨Nat.le_of_ble_eq_true rfl, Nat.le_of_ble_eq_true rfl⟩ (Nat.le_of_ble_eq_true rfl) dX12_isHeard_29 ?_
    show q_Gs w g 32 [(0, .ref 96), (1, .int x1), (2, .int x2)] [.long r2, .int r1.toInt32, .ref 96] (q_mm I L)
    refine g_l2i K1 dX12_isHeard_32 ?_
    obtain ⟨r3, hct, h⟩ := h
    refine h_callV K1 (st := []) [.int r1.toInt32, .int r2.toInt32] (hct w (gl g)) q_clX12 lyp_96 rfl ok_X12_saysOf ml_X12_275 ⟨Nat.le_of_ble_eq_true rfl, Nat.le_of_ble_eq_true rfl⟩ (Nat.le_of_ble_eq_true rfl) dX12_isHeard_33 ?_
    show q_Gs w g 36 [(0, .ref 96), (1, .int x1), (2, .int x2)] [.int r3] (q_mm I L)
    obtain ⟨r4, hct, h⟩ := h
    refine h_callS K1 (st := []) [.int r3] (hct w (gl g)) ok_X12_longOf ml_X12_225 ⟨Nat.le_of_ble_eq_true rfl, Nat.le_of_ble_eq_true rfl⟩ (Nat.le_of_ble_eq_true rfl) dX12_isHeard_36 ?_
    show q_Gs w g 39 [(0, .ref 96), (1, .int x1), (2, .int x2)] [.int r4] (q_mm I L)
    refine g_i2l K1 dX12_isHeard_39 ?_
    refine g_aload_n K1 0 dX12_isHeard_40 rfl ?_
    refine g_iload_n K1 1 dX12_isHeard_41 rfl ?_
    refine g_iload_n K1 2 dX12_isHeard_42 rfl ?_
    refine g_iconst K1 2 dX12_isHeard_43 rfl ?_
    refine g_iadd K1 dX12_isHeard_44 ?_
    obtain ⟨r5, hct, h⟩ := h
    refine h_callV K1 (st := [.long r4.toInt64]) [.int x1, .int (x2 + 2)] (hct w (gl g)) q_clX12 lyp_96 rfl ok_X12_numberAt ml_X12_351 ⟨Nat.le_of_ble_eq_true rfl, Nat.le_of_ble_eq_true rfl⟩ (Nat.le_of_ble_eq_true rfl) dX12_isHeard_45 ?_
    show q_Gs w g 48 [(0, .ref 96), (1, .int x1), (2, .int x2)] [.long r5, .long r4.toInt64] (q_mm I L)
    refine g_lcmp K1 dX12_isHeard_48 ?_
    refine g_if_eq K1 54 dX12_isHeard_49 rfl (fun hc => ?_) (fun hc => ?_)
    · replace h := h.1 hc
      refine g_iinc K1 (x2 + 3) 2 dX12_isHeard_54 rfl rfl (by decide) rfl ?_
      refine g_goto K1 6 dX12_isHeard_57 rfl ?_
      exact g_perm [1, 2, 0] rfl (h w g K)
    · replace h := h.2 hc
      refine g_iconst K1 0 dX12_isHeard_52 rfl ?_
      obtain ⟨hr, hI, hL⟩ := h
      subst hr hI hL
      exact g_zreturn K rfl (by decide) dX12_isHeard_53
theorem c0_X12_isHeard {r : Option Value} {I I' : Nat → Nat → Int32} {L L' : Nat → Nat → Int64} {x1 : Int32} (h : v_X12_isHeard_0 r I' L' I L x1) : q_C kX12_isHeard [.ref 96, .int x1] I L r I' L' := fun w l => q_ct (by decide) (Nat.le_of_ble_eq_true rfl) (Nat.le_refl _) (fun g _ K => h w g K)
abbrev v_X12_isHour_0 (r : Option Value) (I' : Nat → Nat → Int32) (L' : Nat → Nat → Int64) (I : Nat → Nat → Int32) (L : Nat → Nat → Int64) (x1 : Int64) : Prop := q_W kX12_isHour 0 [(0, .ref 96), (1, .long x1)] [] I L r I' L'
set_option maxRecDepth 20000 in
set_option maxHeartbeats 2000000 in
theorem vc_X12_isHour_0 {r : Option Value} {I' : Nat → Nat → Int32} {L' : Nat → Nat → Int64} {I : Nat → Nat → Int32} {L : Nat → Nat → Int64} {x1 : Int64} (h : (∃ r1, q_C kX12_isNight [.ref 96] I L (some (.int r1)) I L ∧ ((r1 = 0 → (r = some (.int 0) ∧ I' = I ∧ L' = L)) ∧ (¬ r1 = 0 → (∃ r2, q_C kX12_hours [.ref 96] I L (some (.int r2)) I L ∧ (∃ r3, q_C kX12_in [.long x1, .long 0, .long r2.toInt64] I L (some (.int r3)) I L ∧ ((r3 = 0 → (r = some (.int 0) ∧ I' = I ∧ L' = L)) ∧ (¬ r3 = 0 → (r = some (.int 1) ∧ I' = I ∧ L' = L))))))))) : v_X12_isHour_0 r I' L' I L x1 := by
  intro w g K
  have K1 := K.1
  refine g_aload_n K1 0 dX12_isHour_0 rfl ?_
  obtain ⟨r1, hct, h⟩ := h
  refine h_callV K1 (st := []) [] (hct w (gl g)) q_clX12 lyp_96 rfl ok_X12_isNight ml_X12_78 ⟨Nat.le_of_ble_eq_true rfl, Nat.le_of_ble_eq_true rfl⟩ (Nat.le_of_ble_eq_true rfl) dX12_isHour_1 ?_
  show q_Gs w g 4 [(0, .ref 96), (1, .long x1)] [.int r1] (q_mm I L)
  refine g_if_eq K1 24 dX12_isHour_4 rfl (fun hc => ?_) (fun hc => ?_)
  · replace h := h.1 hc
    refine g_iconst K1 0 dX12_isHour_24 rfl ?_
    obtain ⟨hr, hI, hL⟩ := h
    subst hr hI hL
    exact g_zreturn K rfl (by decide) dX12_isHour_25
  · replace h := h.2 hc
    refine g_lload_n K1 1 dX12_isHour_7 rfl ?_
    refine g_lconst K1 0 dX12_isHour_8 rfl ?_
    refine g_aload_n K1 0 dX12_isHour_9 rfl ?_
    obtain ⟨r2, hct, h⟩ := h
    refine h_callV K1 (st := [.long 0, .long x1]) [] (hct w (gl g)) q_clX12 lyp_96 rfl ok_X12_hours ml_X12_82 ⟨Nat.le_of_ble_eq_true rfl, Nat.le_of_ble_eq_true rfl⟩ (Nat.le_of_ble_eq_true rfl) dX12_isHour_10 ?_
    show q_Gs w g 13 [(0, .ref 96), (1, .long x1)] [.int r2, .long 0, .long x1] (q_mm I L)
    refine g_i2l K1 dX12_isHour_13 ?_
    obtain ⟨r3, hct, h⟩ := h
    refine h_callS K1 (st := []) [.long x1, .long 0, .long r2.toInt64] (hct w (gl g)) ok_X12_in ml_X12_70 ⟨Nat.le_of_ble_eq_true rfl, Nat.le_of_ble_eq_true rfl⟩ (Nat.le_of_ble_eq_true rfl) dX12_isHour_14 ?_
    show q_Gs w g 17 [(0, .ref 96), (1, .long x1)] [.int r3] (q_mm I L)
    refine g_if_eq K1 24 dX12_isHour_17 rfl (fun hc => ?_) (fun hc => ?_)
    · replace h := h.1 hc
      refine g_iconst K1 0 dX12_isHour_24 rfl ?_
      obtain ⟨hr, hI, hL⟩ := h
      subst hr hI hL
      exact g_zreturn K rfl (by decide) dX12_isHour_25
    · replace h := h.2 hc
      refine g_iconst K1 1 dX12_isHour_20 rfl ?_
      refine g_goto K1 25 dX12_isHour_21 rfl ?_
      obtain ⟨hr, hI, hL⟩ := h
      subst hr hI hL
      exact g_zreturn K rfl (by decide) dX12_isHour_25
theorem c0_X12_isHour {r : Option Value} {I I' : Nat → Nat → Int32} {L L' : Nat → Nat → Int64} {x1 : Int64} (h : v_X12_isHour_0 r I' L' I L x1) : q_C kX12_isHour [.ref 96, .long x1] I L r I' L' := fun w l => q_ct (by decide) (Nat.le_of_ble_eq_true rfl) (Nat.le_refl _) (fun g _ K => h w g K)
abbrev v_X12_isJoined_0 (r : Option Value) (I' : Nat → Nat → Int32) (L' : Nat → Nat → Int64) (I : Nat → Nat → Int32) (L : Nat → Nat → Int64) (x1 : Int32) (x2 : Int32) : Prop := q_W kX12_isJoined 0 [(0, .ref 96), (1, .int x1), (2, .int x2)] [] I L r I' L'
abbrev v_X12_isJoined_5 (r : Option Value) (I' : Nat → Nat → Int32) (L' : Nat → Nat → Int64) (I : Nat → Nat → Int32) (L : Nat → Nat → Int64) (x1 : Int32) (x2 : Int32) (x3 : Int32) (x4 : Int32) : Prop := q_W kX12_isJoined 5 [(0, .ref 96), (1, .int x1), (2, .int x2), (3, .int x3), (4, .int x4)] [] I L r I' L'
abbrev v_X12_isJoined_62 (r : Option Value) (I' : Nat → Nat → Int32) (L' : Nat → Nat → Int64) (I : Nat → Nat → Int32) (L : Nat → Nat → Int64) (x1 : Int32) (x2 : Int32) (x4 : Int32) (x5 : Int32) (x6 : Int32) : Prop := q_W kX12_isJoined 62 [(0, .ref 96), (1, .int x1), (2, .int x2), (4, .int x4), (5, .int x5), (6, .int x6)] [] I L r I' L'
set_option maxRecDepth 20000 in
set_option maxHeartbeats 2000000 in
theorem vc_X12_isJoined_0 {r : Option Value} {I' : Nat → Nat → Int32} {L' : Nat → Nat → Int64} {I : Nat → Nat → Int32} {L : Nat → Nat → Int64} {x1 : Int32} {x2 : Int32} (h : (v_X12_isJoined_5 r I' L' I L x1 x2 0 0)) : v_X12_isJoined_0 r I' L' I L x1 x2 := by
  intro w g K
  have K1 := K.1
  refine g_iconst K1 0 dX12_isJoined_0 rfl ?_
  refine g_istore_n K1 dX12_isJoined_1 rfl (by decide) rfl ?_
  refine g_iconst K1 0 dX12_isJoined_2 rfl ?_
  refine g_istore K1 dX12_isJoined_3 (by decide) rfl ?_
  exact g_perm [2, 3, 4, 1, 0] rfl (h w g K)
set_option maxRecDepth 20000 in
set_option maxHeartbeats 2000000 in
theorem vc_X12_isJoined_5 {r : Option Value} {I' : Nat → Nat → Int32} {L' : Nat → Nat → Int64} {I : Nat → Nat → Int32} {L : Nat → Nat → Int64} {x1 : Int32} {x2 : Int32} {x3 : Int32} {x4 : Int32} (h : (vp_in 4 104 ∧ (((I 102 (4 : Int32).toNatClampNeg) ≤ x4 → ((x3 = 0 ∨ x3 = 1) ∧ (r = some (.int x3) ∧ I' = I ∧ L' = L))) ∧ (¬ (I 102 (4 : Int32).toNatClampNeg) ≤ x4 → (vp_in (30 + (2 * x4)) 104 ∧ (vp_in ((30 + (2 * x4)) + 1) 104 ∧ ∀ z1 : Int32, z1 = (I 102 (((30 + (2 * x4)) + 1) : Int32).toNatClampNeg) → ((x3 = 0 → (((I 102 ((30 + (2 * x4)) : Int32).toNatClampNeg) = x1 → ((z1 = x2 → (v_X12_isJoined_5 r I' L' I L x1 x2 1 (x4 + 1))) ∧ (¬ z1 = x2 → (v_X12_isJoined_62 r I' L' I L x1 x2 x4 (I 102 ((30 + (2 * x4)) : Int32).toNatClampNeg) z1)))) ∧ (¬ (I 102 ((30 + (2 * x4)) : Int32).toNatClampNeg) = x1 → (v_X12_isJoined_62 r I' L' I L x1 x2 x4 (I 102 ((30 + (2 * x4)) : Int32).toNatClampNeg) z1)))) ∧ (¬ x3 = 0 → (v_X12_isJoined_5 r I' L' I L x1 x2 1 (x4 + 1)))))))))) : v_X12_isJoined_5 r I' L' I L x1 x2 x3 x4 := by
  intro w g K
  have K1 := K.1
  refine g_iload K1 4 dX12_isJoined_5 rfl ?_
  refine g_aload_n K1 0 dX12_isJoined_7 rfl ?_
  refine h_getO K1 q_clX12 14 102 lyp_96 fkX12_14 rfl fl_X12_31 dX12_isJoined_8 ?_
  refine g_iconst K1 4 dX12_isJoined_11 rfl ?_
  obtain ⟨hg, h⟩ := h
  refine h_iaload K1 lyp_102 hg dX12_isJoined_12 ?_
  refine g_icmp_ge K1 86 dX12_isJoined_13 rfl (fun hc => ?_) (fun hc => ?_)
  · replace h := h.1 hc
    refine g_iload_n K1 3 dX12_isJoined_86 rfl ?_
    obtain ⟨hz, h⟩ := h
    obtain ⟨hr, hI, hL⟩ := h
    subst hr hI hL
    exact g_zreturn K rfl (narZ hz) dX12_isJoined_87
  · replace h := h.2 hc
    refine g_aload_n K1 0 dX12_isJoined_16 rfl ?_
    refine h_getO K1 q_clX12 14 102 lyp_96 fkX12_14 rfl fl_X12_31 dX12_isJoined_17 ?_
    refine g_bipush K1 30 dX12_isJoined_20 rfl ?_
    refine g_iconst K1 2 dX12_isJoined_22 rfl ?_
    refine g_iload K1 4 dX12_isJoined_23 rfl ?_
    refine g_imul K1 dX12_isJoined_25 ?_
    refine g_iadd K1 dX12_isJoined_26 ?_
    obtain ⟨hg, h⟩ := h
    refine h_iaload K1 lyp_102 hg dX12_isJoined_27 ?_
    refine g_istore K1 dX12_isJoined_28 (by decide) rfl ?_
    refine g_aload_n K1 1 dX12_isJoined_30 rfl ?_
    refine h_getO K1 q_clX12 14 102 lyp_96 fkX12_14 rfl fl_X12_31 dX12_isJoined_31 ?_
    refine g_bipush K1 30 dX12_isJoined_34 rfl ?_
    refine g_iconst K1 2 dX12_isJoined_36 rfl ?_
    refine g_iload K1 5 dX12_isJoined_37 rfl ?_
    refine g_imul K1 dX12_isJoined_39 ?_
    refine g_iadd K1 dX12_isJoined_40 ?_
    refine g_iconst K1 1 dX12_isJoined_41 rfl ?_
    refine g_iadd K1 dX12_isJoined_42 ?_
    obtain ⟨hg, h⟩ := h
    refine h_iaload K1 lyp_102 hg dX12_isJoined_43 ?_
    refine g_nameI (fun z1 hz1 => ?_)
    replace h := h z1 hz1
    refine g_istore K1 dX12_isJoined_44 (by decide) rfl ?_
    refine g_iload_n K1 5 dX12_isJoined_46 rfl ?_
    refine g_if_ne K1 74 dX12_isJoined_47 rfl (fun hc => ?_) (fun hc => ?_)
    · replace h := h.2 hc
      refine g_iconst K1 1 dX12_isJoined_74 rfl ?_
      refine g_goto K1 79 dX12_isJoined_75 rfl ?_
      refine g_istore_n K1 dX12_isJoined_79 rfl (by decide) rfl ?_
      refine g_iinc K1 (x4 + 1) 6 dX12_isJoined_80 rfl rfl (by decide) rfl ?_
      refine g_goto K1 5 dX12_isJoined_83 rfl ?_
      exact g_perm [4, 5, 6, 1, 0] rfl (h w g K)
    · replace h := h.1 hc
      refine g_iload K1 1 dX12_isJoined_50 rfl ?_
      refine g_iload_n K1 3 dX12_isJoined_52 rfl ?_
      refine g_icmp_ne K1 62 dX12_isJoined_53 rfl (fun hc => ?_) (fun hc => ?_)
      · replace h := h.2 hc
        exact g_perm [2, 3, 4, 6, 1, 0] rfl (h w g K)
      · replace h := h.1 hc
        refine g_iload K1 0 dX12_isJoined_56 rfl ?_
        refine g_iload_n K1 4 dX12_isJoined_58 rfl ?_
        refine g_icmp_eq K1 74 dX12_isJoined_59 rfl (fun hc => ?_) (fun hc => ?_)
        · replace h := h.1 hc
          refine g_iconst K1 1 dX12_isJoined_74 rfl ?_
          refine g_goto K1 79 dX12_isJoined_75 rfl ?_
          refine g_istore_n K1 dX12_isJoined_79 rfl (by decide) rfl ?_
          refine g_iinc K1 (x4 + 1) 6 dX12_isJoined_80 rfl rfl (by decide) rfl ?_
          refine g_goto K1 5 dX12_isJoined_83 rfl ?_
          exact g_perm [4, 5, 6, 1, 0] rfl (h w g K)
        · replace h := h.2 hc
          exact g_perm [2, 3, 4, 6, 1, 0] rfl (h w g K)
set_option maxRecDepth 20000 in
set_option maxHeartbeats 2000000 in
theorem vc_X12_isJoined_62 {r : Option Value} {I' : Nat → Nat → Int32} {L' : Nat → Nat → Int64} {I : Nat → Nat → Int32} {L : Nat → Nat → Int64} {x1 : Int32} {x2 : Int32} {x4 : Int32} {x5 : Int32} {x6 : Int32} (h : ((x5 = x2 → ((x6 = x1 → (v_X12_isJoined_5 r I' L' I L x1 x2 1 (x4 + 1))) ∧ (¬ x6 = x1 → (v_X12_isJoined_5 r I' L' I L x1 x2 0 (x4 + 1))))) ∧ (¬ x5 = x2 → (v_X12_isJoined_5 r I' L' I L x1 x2 0 (x4 + 1))))) : v_X12_isJoined_62 r I' L' I L x1 x2 x4 x5 x6 := by
  intro w g K
  have K1 := K.1
  refine g_iload K1 4 dX12_isJoined_62 rfl ?_
  refine g_iload_n K1 2 dX12_isJoined_64 rfl ?_
  refine g_icmp_ne K1 78 dX12_isJoined_65 rfl (fun hc => ?_) (fun hc => ?_)
  · replace h := h.2 hc
    refine g_iconst K1 0 dX12_isJoined_78 rfl ?_
    refine g_istore_n K1 dX12_isJoined_79 rfl (by decide) rfl ?_
    refine g_iinc K1 (x4 + 1) 4 dX12_isJoined_80 rfl rfl (by decide) rfl ?_
    refine g_goto K1 5 dX12_isJoined_83 rfl ?_
    exact g_perm [2, 3, 4, 1, 0] rfl (h w g K)
  · replace h := h.1 hc
    refine g_iload K1 5 dX12_isJoined_68 rfl ?_
    refine g_iload_n K1 1 dX12_isJoined_70 rfl ?_
    refine g_icmp_ne K1 78 dX12_isJoined_71 rfl (fun hc => ?_) (fun hc => ?_)
    · replace h := h.2 hc
      refine g_iconst K1 0 dX12_isJoined_78 rfl ?_
      refine g_istore_n K1 dX12_isJoined_79 rfl (by decide) rfl ?_
      refine g_iinc K1 (x4 + 1) 4 dX12_isJoined_80 rfl rfl (by decide) rfl ?_
      refine g_goto K1 5 dX12_isJoined_83 rfl ?_
      exact g_perm [2, 3, 4, 1, 0] rfl (h w g K)
    · replace h := h.1 hc
      refine g_iconst K1 1 dX12_isJoined_74 rfl ?_
      refine g_goto K1 79 dX12_isJoined_75 rfl ?_
      refine g_istore_n K1 dX12_isJoined_79 rfl (by decide) rfl ?_
      refine g_iinc K1 (x4 + 1) 4 dX12_isJoined_80 rfl rfl (by decide) rfl ?_
      refine g_goto K1 5 dX12_isJoined_83 rfl ?_
      exact g_perm [2, 3, 4, 1, 0] rfl (h w g K)
theorem c0_X12_isJoined {r : Option Value} {I I' : Nat → Nat → Int32} {L L' : Nat → Nat → Int64} {x1 : Int32} {x2 : Int32} (h : v_X12_isJoined_0 r I' L' I L x1 x2) : q_C kX12_isJoined [.ref 96, .int x1, .int x2] I L r I' L' := fun w l => q_ct (by decide) (Nat.le_of_ble_eq_true rfl) (Nat.le_refl _) (fun g _ K => h w g K)
abbrev v_X12_isNight_0 (r : Option Value) (I' : Nat → Nat → Int32) (L' : Nat → Nat → Int64) (I : Nat → Nat → Int32) (L : Nat → Nat → Int64)  : Prop := q_W kX12_isNight 0 [(0, .ref 96)] [] I L r I' L'
set_option maxRecDepth 20000 in
set_option maxHeartbeats 2000000 in
theorem vc_X12_isNight_0 {r : Option Value} {I' : Nat → Nat → Int32} {L' : Nat → Nat → Int64} {I : Nat → Nat → Int32} {L : Nat → Nat → Int64}  (h : (vp_in 8 104 ∧ (((I 97 (8 : Int32).toNatClampNeg) ≤ 0 → (r = some (.int 0) ∧ I' = I ∧ L' = L)) ∧ (¬ (I 97 (8 : Int32).toNatClampNeg) ≤ 0 → (r = some (.int 1) ∧ I' = I ∧ L' = L))))) : v_X12_isNight_0 r I' L' I L  := by
  intro w g K
  have K1 := K.1
  refine g_aload_n K1 0 dX12_isNight_0 rfl ?_
  refine h_getO K1 q_clX12 1 97 lyp_96 fkX12_1 rfl fl_X12_9 dX12_isNight_1 ?_
  refine g_bipush K1 8 dX12_isNight_4 rfl ?_
  obtain ⟨hg, h⟩ := h
  refine h_iaload K1 lyp_97 hg dX12_isNight_6 ?_
  refine g_if_le K1 14 dX12_isNight_7 rfl (fun hc => ?_) (fun hc => ?_)
  · replace h := h.1 hc
    refine g_iconst K1 0 dX12_isNight_14 rfl ?_
    obtain ⟨hr, hI, hL⟩ := h
    subst hr hI hL
    exact g_zreturn K rfl (by decide) dX12_isNight_15
  · replace h := h.2 hc
    refine g_iconst K1 1 dX12_isNight_10 rfl ?_
    refine g_goto K1 15 dX12_isNight_11 rfl ?_
    obtain ⟨hr, hI, hL⟩ := h
    subst hr hI hL
    exact g_zreturn K rfl (by decide) dX12_isNight_15
theorem c0_X12_isNight {r : Option Value} {I I' : Nat → Nat → Int32} {L L' : Nat → Nat → Int64}  (h : v_X12_isNight_0 r I' L' I L ) : q_C kX12_isNight [.ref 96] I L r I' L' := fun w l => q_ct (by decide) (Nat.le_of_ble_eq_true rfl) (Nat.le_refl _) (fun g _ K => h w g K)
abbrev v_X12_isPew_0 (r : Option Value) (I' : Nat → Nat → Int32) (L' : Nat → Nat → Int64) (I : Nat → Nat → Int32) (L : Nat → Nat → Int64) (x1 : Int64) : Prop := q_W kX12_isPew 0 [(0, .ref 96), (1, .long x1)] [] I L r I' L'
set_option maxRecDepth 20000 in
set_option maxHeartbeats 2000000 in
theorem vc_X12_isPew_0 {r : Option Value} {I' : Nat → Nat → Int32} {L' : Nat → Nat → Int64} {I : Nat → Nat → Int32} {L : Nat → Nat → Int64} {x1 : Int64} (h : (∃ r1, q_C kX12_pews [.ref 96] I L (some (.int r1)) I L ∧ (∃ r2, q_C kX12_in [.long x1, .long 0, .long ((r1 - 1) : Int32).toInt64] I L (some (.int r2)) I L ∧ ((r2 = 0 ∨ r2 = 1) ∧ (r = some (.int r2) ∧ I' = I ∧ L' = L))))) : v_X12_isPew_0 r I' L' I L x1 := by
  intro w g K
  have K1 := K.1
  refine g_lload_n K1 1 dX12_isPew_0 rfl ?_
  refine g_lconst K1 0 dX12_isPew_1 rfl ?_
  refine g_aload_n K1 0 dX12_isPew_2 rfl ?_
  obtain ⟨r1, hct, h⟩ := h
  refine h_callV K1 (st := [.long 0, .long x1]) [] (hct w (gl g)) q_clX12 lyp_96 rfl ok_X12_pews ml_X12_74 ⟨Nat.le_of_ble_eq_true rfl, Nat.le_of_ble_eq_true rfl⟩ (Nat.le_of_ble_eq_true rfl) dX12_isPew_3 ?_
  show q_Gs w g 6 [(0, .ref 96), (1, .long x1)] [.int r1, .long 0, .long x1] (q_mm I L)
  refine g_iconst K1 1 dX12_isPew_6 rfl ?_
  refine g_isub K1 dX12_isPew_7 ?_
  refine g_i2l K1 dX12_isPew_8 ?_
  obtain ⟨r2, hct, h⟩ := h
  refine h_callS K1 (st := []) [.long x1, .long 0, .long ((r1 - 1) : Int32).toInt64] (hct w (gl g)) ok_X12_in ml_X12_70 ⟨Nat.le_of_ble_eq_true rfl, Nat.le_of_ble_eq_true rfl⟩ (Nat.le_of_ble_eq_true rfl) dX12_isPew_9 ?_
  show q_Gs w g 12 [(0, .ref 96), (1, .long x1)] [.int r2] (q_mm I L)
  obtain ⟨hz, h⟩ := h
  obtain ⟨hr, hI, hL⟩ := h
  subst hr hI hL
  exact g_zreturn K rfl (narZ hz) dX12_isPew_12
theorem c0_X12_isPew {r : Option Value} {I I' : Nat → Nat → Int32} {L L' : Nat → Nat → Int64} {x1 : Int64} (h : v_X12_isPew_0 r I' L' I L x1) : q_C kX12_isPew [.ref 96, .long x1] I L r I' L' := fun w l => q_ct (by decide) (Nat.le_of_ble_eq_true rfl) (Nat.le_refl _) (fun g _ K => h w g K)
abbrev v_X12_isSaying_0 (r : Option Value) (I' : Nat → Nat → Int32) (L' : Nat → Nat → Int64) (I : Nat → Nat → Int32) (L : Nat → Nat → Int64) (x1 : Int32) : Prop := q_W kX12_isSaying 0 [(0, .ref 96), (1, .int x1)] [] I L r I' L'
abbrev v_X12_isSaying_2 (r : Option Value) (I' : Nat → Nat → Int32) (L' : Nat → Nat → Int64) (I : Nat → Nat → Int32) (L : Nat → Nat → Int64) (x2 : Int32) : Prop := q_W kX12_isSaying 2 [(2, .int x2)] [] I L r I' L'
set_option maxRecDepth 20000 in
set_option maxHeartbeats 2000000 in
theorem vc_X12_isSaying_0 {r : Option Value} {I' : Nat → Nat → Int32} {L' : Nat → Nat → Int64} {I : Nat → Nat → Int32} {L : Nat → Nat → Int64} {x1 : Int32} (h : (v_X12_isSaying_2 r I' L' I L x1)) : v_X12_isSaying_0 r I' L' I L x1 := by
  intro w g K
  have K1 := K.1
  refine g_iload_n K1 1 dX12_isSaying_0 rfl ?_
  refine g_istore_n K1 dX12_isSaying_1 rfl (by decide) rfl ?_
  exact g_perm [0] rfl (h w g K)
set_option maxRecDepth 20000 in
set_option maxHeartbeats 2000000 in
theorem vc_X12_isSaying_2 {r : Option Value} {I' : Nat → Nat → Int32} {L' : Nat → Nat → Int64} {I : Nat → Nat → Int32} {L : Nat → Nat → Int64} {x2 : Int32} (h : ((x2 ≤ 0 → (r = some (.int 1) ∧ I' = I ∧ L' = L)) ∧ (¬ x2 ≤ 0 → (((x2 - x2 / 5 * 5) = 0 → (r = some (.int 0) ∧ I' = I ∧ L' = L)) ∧ (¬ (x2 - x2 / 5 * 5) = 0 → (v_X12_isSaying_2 r I' L' I L (x2 / 5))))))) : v_X12_isSaying_2 r I' L' I L x2 := by
  intro w g K
  have K1 := K.1
  refine g_iload_n K1 0 dX12_isSaying_2 rfl ?_
  refine g_if_le K1 21 dX12_isSaying_3 rfl (fun hc => ?_) (fun hc => ?_)
  · replace h := h.1 hc
    refine g_iconst K1 1 dX12_isSaying_21 rfl ?_
    obtain ⟨hr, hI, hL⟩ := h
    subst hr hI hL
    exact g_zreturn K rfl (by decide) dX12_isSaying_22
  · replace h := h.2 hc
    refine g_iload_n K1 0 dX12_isSaying_6 rfl ?_
    refine g_iconst K1 5 dX12_isSaying_7 rfl ?_
    refine g_irem K1 dX12_isSaying_8 (by decide) ?_
    refine g_if_ne K1 14 dX12_isSaying_9 rfl (fun hc => ?_) (fun hc => ?_)
    · replace h := h.2 hc
      refine g_iload_n K1 0 dX12_isSaying_14 rfl ?_
      refine g_iconst K1 5 dX12_isSaying_15 rfl ?_
      refine g_idiv K1 dX12_isSaying_16 (by decide) ?_
      refine g_istore_n K1 dX12_isSaying_17 rfl (by decide) rfl ?_
      refine g_goto K1 2 dX12_isSaying_18 rfl ?_
      exact g_perm [0] rfl (h w g K)
    · replace h := h.1 hc
      refine g_iconst K1 0 dX12_isSaying_12 rfl ?_
      obtain ⟨hr, hI, hL⟩ := h
      subst hr hI hL
      exact g_zreturn K rfl (by decide) dX12_isSaying_13
theorem c0_X12_isSaying {r : Option Value} {I I' : Nat → Nat → Int32} {L L' : Nat → Nat → Int64} {x1 : Int32} (h : v_X12_isSaying_0 r I' L' I L x1) : q_C kX12_isSaying [.ref 96, .int x1] I L r I' L' := fun w l => q_ct (by decide) (Nat.le_of_ble_eq_true rfl) (Nat.le_refl _) (fun g _ K => h w g K)
abbrev v_X12_isSeed_0 (r : Option Value) (I' : Nat → Nat → Int32) (L' : Nat → Nat → Int64) (I : Nat → Nat → Int32) (L : Nat → Nat → Int64) (x0 : Int32) : Prop := q_W kX12_isSeed 0 [(0, .int x0)] [] I L r I' L'
set_option maxRecDepth 20000 in
set_option maxHeartbeats 2000000 in
theorem vc_X12_isSeed_0 {r : Option Value} {I' : Nat → Nat → Int32} {L' : Nat → Nat → Int64} {I : Nat → Nat → Int32} {L : Nat → Nat → Int64} {x0 : Int32} (h : (∃ r1, q_C kX12_in [.long x0.toInt64, .long 0, .long 2000000000] I L (some (.int r1)) I L ∧ ((r1 = 0 ∨ r1 = 1) ∧ (r = some (.int r1) ∧ I' = I ∧ L' = L)))) : v_X12_isSeed_0 r I' L' I L x0 := by
  intro w g K
  have K1 := K.1
  refine g_iload_n K1 0 dX12_isSeed_0 rfl ?_
  refine g_i2l K1 dX12_isSeed_1 ?_
  refine g_lconst K1 0 dX12_isSeed_2 rfl ?_
  refine g_ldc2_w K1 2000000000 dX12_isSeed_3 cn_X12_476 ?_
  obtain ⟨r1, hct, h⟩ := h
  refine h_callS K1 (st := []) [.long x0.toInt64, .long 0, .long 2000000000] (hct w (gl g)) ok_X12_in ml_X12_70 ⟨Nat.le_of_ble_eq_true rfl, Nat.le_of_ble_eq_true rfl⟩ (Nat.le_of_ble_eq_true rfl) dX12_isSeed_6 ?_
  show q_Gs w g 9 [(0, .int x0)] [.int r1] (q_mm I L)
  obtain ⟨hz, h⟩ := h
  obtain ⟨hr, hI, hL⟩ := h
  subst hr hI hL
  exact g_zreturn K rfl (narZ hz) dX12_isSeed_9
theorem c0_X12_isSeed {r : Option Value} {I I' : Nat → Nat → Int32} {L L' : Nat → Nat → Int64} {x0 : Int32} (h : v_X12_isSeed_0 r I' L' I L x0) : q_C kX12_isSeed [.int x0] I L r I' L' := fun w l => q_ct (by decide) (Nat.le_of_ble_eq_true rfl) (Nat.le_refl _) (fun g _ K => h w g K)
abbrev v_X12_isSilence_0 (r : Option Value) (I' : Nat → Nat → Int32) (L' : Nat → Nat → Int64) (I : Nat → Nat → Int32) (L : Nat → Nat → Int64) (x1 : Int32) (x2 : Int32) : Prop := q_W kX12_isSilence 0 [(0, .ref 96), (1, .int x1), (2, .int x2)] [] I L r I' L'
set_option maxRecDepth 20000 in
set_option maxHeartbeats 2000000 in
theorem vc_X12_isSilence_0 {r : Option Value} {I' : Nat → Nat → Int32} {L' : Nat → Nat → Int64} {I : Nat → Nat → Int32} {L : Nat → Nat → Int64} {x1 : Int32} {x2 : Int32} (h : (∃ r1, q_C kX12_isNight [.ref 96] I L (some (.int r1)) I L ∧ ((r1 = 0 → (r = some (.int 0) ∧ I' = I ∧ L' = L)) ∧ (¬ r1 = 0 → (∃ r2, q_C kX12_in [.long x1.toInt64, .long 0, .long 7] I L (some (.int r2)) I L ∧ ((r2 = 0 → (r = some (.int 0) ∧ I' = I ∧ L' = L)) ∧ (¬ r2 = 0 → (∃ r3, q_C kX12_hours [.ref 96] I L (some (.int r3)) I L ∧ ((r3 ≤ x1 → (r = some (.int 0) ∧ I' = I ∧ L' = L)) ∧ (¬ r3 ≤ x1 → (∃ r4, q_C kX12_in [.long x2.toInt64, .long 0, .long 1] I L (some (.int r4)) I L ∧ ((r4 = 0 → (r = some (.int 0) ∧ I' = I ∧ L' = L)) ∧ (¬ r4 = 0 → (r = some (.int 1) ∧ I' = I ∧ L' = L)))))))))))))) : v_X12_isSilence_0 r I' L' I L x1 x2 := by
  intro w g K
  have K1 := K.1
  refine g_aload_n K1 0 dX12_isSilence_0 rfl ?_
  obtain ⟨r1, hct, h⟩ := h
  refine h_callV K1 (st := []) [] (hct w (gl g)) q_clX12 lyp_96 rfl ok_X12_isNight ml_X12_78 ⟨Nat.le_of_ble_eq_true rfl, Nat.le_of_ble_eq_true rfl⟩ (Nat.le_of_ble_eq_true rfl) dX12_isSilence_1 ?_
  show q_Gs w g 4 [(0, .ref 96), (1, .int x1), (2, .int x2)] [.int r1] (q_mm I L)
  refine g_if_eq K1 41 dX12_isSilence_4 rfl (fun hc => ?_) (fun hc => ?_)
  · replace h := h.1 hc
    refine g_iconst K1 0 dX12_isSilence_41 rfl ?_
    obtain ⟨hr, hI, hL⟩ := h
    subst hr hI hL
    exact g_zreturn K rfl (by decide) dX12_isSilence_42
  · replace h := h.2 hc
    refine g_iload_n K1 1 dX12_isSilence_7 rfl ?_
    refine g_i2l K1 dX12_isSilence_8 ?_
    refine g_lconst K1 0 dX12_isSilence_9 rfl ?_
    refine g_ldc2_w K1 7 dX12_isSilence_10 cn_X12_453 ?_
    obtain ⟨r2, hct, h⟩ := h
    refine h_callS K1 (st := []) [.long x1.toInt64, .long 0, .long 7] (hct w (gl g)) ok_X12_in ml_X12_70 ⟨Nat.le_of_ble_eq_true rfl, Nat.le_of_ble_eq_true rfl⟩ (Nat.le_of_ble_eq_true rfl) dX12_isSilence_13 ?_
    show q_Gs w g 16 [(0, .ref 96), (1, .int x1), (2, .int x2)] [.int r2] (q_mm I L)
    refine g_if_eq K1 41 dX12_isSilence_16 rfl (fun hc => ?_) (fun hc => ?_)
    · replace h := h.1 hc
      refine g_iconst K1 0 dX12_isSilence_41 rfl ?_
      obtain ⟨hr, hI, hL⟩ := h
      subst hr hI hL
      exact g_zreturn K rfl (by decide) dX12_isSilence_42
    · replace h := h.2 hc
      refine g_iload_n K1 1 dX12_isSilence_19 rfl ?_
      refine g_aload_n K1 0 dX12_isSilence_20 rfl ?_
      obtain ⟨r3, hct, h⟩ := h
      refine h_callV K1 (st := [.int x1]) [] (hct w (gl g)) q_clX12 lyp_96 rfl ok_X12_hours ml_X12_82 ⟨Nat.le_of_ble_eq_true rfl, Nat.le_of_ble_eq_true rfl⟩ (Nat.le_of_ble_eq_true rfl) dX12_isSilence_21 ?_
      show q_Gs w g 24 [(0, .ref 96), (1, .int x1), (2, .int x2)] [.int r3, .int x1] (q_mm I L)
      refine g_icmp_ge K1 41 dX12_isSilence_24 rfl (fun hc => ?_) (fun hc => ?_)
      · replace h := h.1 hc
        refine g_iconst K1 0 dX12_isSilence_41 rfl ?_
        obtain ⟨hr, hI, hL⟩ := h
        subst hr hI hL
        exact g_zreturn K rfl (by decide) dX12_isSilence_42
      · replace h := h.2 hc
        refine g_iload_n K1 2 dX12_isSilence_27 rfl ?_
        refine g_i2l K1 dX12_isSilence_28 ?_
        refine g_lconst K1 0 dX12_isSilence_29 rfl ?_
        refine g_lconst K1 1 dX12_isSilence_30 rfl ?_
        obtain ⟨r4, hct, h⟩ := h
        refine h_callS K1 (st := []) [.long x2.toInt64, .long 0, .long 1] (hct w (gl g)) ok_X12_in ml_X12_70 ⟨Nat.le_of_ble_eq_true rfl, Nat.le_of_ble_eq_true rfl⟩ (Nat.le_of_ble_eq_true rfl) dX12_isSilence_31 ?_
        show q_Gs w g 34 [(0, .ref 96), (1, .int x1), (2, .int x2)] [.int r4] (q_mm I L)
        refine g_if_eq K1 41 dX12_isSilence_34 rfl (fun hc => ?_) (fun hc => ?_)
        · replace h := h.1 hc
          refine g_iconst K1 0 dX12_isSilence_41 rfl ?_
          obtain ⟨hr, hI, hL⟩ := h
          subst hr hI hL
          exact g_zreturn K rfl (by decide) dX12_isSilence_42
        · replace h := h.2 hc
          refine g_iconst K1 1 dX12_isSilence_37 rfl ?_
          refine g_goto K1 42 dX12_isSilence_38 rfl ?_
          obtain ⟨hr, hI, hL⟩ := h
          subst hr hI hL
          exact g_zreturn K rfl (by decide) dX12_isSilence_42
theorem c0_X12_isSilence {r : Option Value} {I I' : Nat → Nat → Int32} {L L' : Nat → Nat → Int64} {x1 : Int32} {x2 : Int32} (h : v_X12_isSilence_0 r I' L' I L x1 x2) : q_C kX12_isSilence [.ref 96, .int x1, .int x2] I L r I' L' := fun w l => q_ct (by decide) (Nat.le_of_ble_eq_true rfl) (Nat.le_refl _) (fun g _ K => h w g K)
abbrev v_X12_isSlot_0 (r : Option Value) (I' : Nat → Nat → Int32) (L' : Nat → Nat → Int64) (I : Nat → Nat → Int32) (L : Nat → Nat → Int64) (x0 : Int32) : Prop := q_W kX12_isSlot 0 [(0, .int x0)] [] I L r I' L'
set_option maxRecDepth 20000 in
set_option maxHeartbeats 2000000 in
theorem vc_X12_isSlot_0 {r : Option Value} {I' : Nat → Nat → Int32} {L' : Nat → Nat → Int64} {I : Nat → Nat → Int32} {L : Nat → Nat → Int64} {x0 : Int32} (h : (∃ r1, q_C kX12_in [.long x0.toInt64, .long 0, .long 3] I L (some (.int r1)) I L ∧ ((r1 = 0 ∨ r1 = 1) ∧ (r = some (.int r1) ∧ I' = I ∧ L' = L)))) : v_X12_isSlot_0 r I' L' I L x0 := by
  intro w g K
  have K1 := K.1
  refine g_iload_n K1 0 dX12_isSlot_0 rfl ?_
  refine g_i2l K1 dX12_isSlot_1 ?_
  refine g_lconst K1 0 dX12_isSlot_2 rfl ?_
  refine g_ldc2_w K1 3 dX12_isSlot_3 cn_X12_422 ?_
  obtain ⟨r1, hct, h⟩ := h
  refine h_callS K1 (st := []) [.long x0.toInt64, .long 0, .long 3] (hct w (gl g)) ok_X12_in ml_X12_70 ⟨Nat.le_of_ble_eq_true rfl, Nat.le_of_ble_eq_true rfl⟩ (Nat.le_of_ble_eq_true rfl) dX12_isSlot_6 ?_
  show q_Gs w g 9 [(0, .int x0)] [.int r1] (q_mm I L)
  obtain ⟨hz, h⟩ := h
  obtain ⟨hr, hI, hL⟩ := h
  subst hr hI hL
  exact g_zreturn K rfl (narZ hz) dX12_isSlot_9
theorem c0_X12_isSlot {r : Option Value} {I I' : Nat → Nat → Int32} {L L' : Nat → Nat → Int64} {x0 : Int32} (h : v_X12_isSlot_0 r I' L' I L x0) : q_C kX12_isSlot [.int x0] I L r I' L' := fun w l => q_ct (by decide) (Nat.le_of_ble_eq_true rfl) (Nat.le_refl _) (fun g _ K => h w g K)
abbrev v_X12_keepAct_0 (r : Option Value) (I' : Nat → Nat → Int32) (L' : Nat → Nat → Int64) (I : Nat → Nat → Int32) (L : Nat → Nat → Int64) (x1 : Int32) : Prop := q_W kX12_keepAct 0 [(0, .ref 96), (1, .int x1)] [] I L r I' L'
set_option maxRecDepth 20000 in
set_option maxHeartbeats 2000000 in
theorem vc_X12_keepAct_0 {r : Option Value} {I' : Nat → Nat → Int32} {L' : Nat → Nat → Int64} {I : Nat → Nat → Int32} {L : Nat → Nat → Int64} {x1 : Int32} (h : (vp_in 7 104 ∧ (((I 97 (7 : Int32).toNatClampNeg) = 30 → (r = some (.int (-5)) ∧ I' = I ∧ L' = L)) ∧ (¬ (I 97 (7 : Int32).toNatClampNeg) = 30 → (vp_in 7 104 ∧ (vp_in (74 + (I 97 (7 : Int32).toNatClampNeg)) 104 ∧ ∀ I1, I1 = (up2 I 97 ((74 + (I 97 (7 : Int32).toNatClampNeg)) : Int32).toNatClampNeg x1) → (vp_in 7 104 ∧ (vp_in 7 104 ∧ ∀ I2, I2 = (up2 I1 97 (7 : Int32).toNatClampNeg ((I1 97 (7 : Int32).toNatClampNeg) + 1)) → (∃ r3 I4, q_C kX12_asksNight [.ref 96] I2 L (some (.int r3)) I4 L ∧ (∃ r5, q_C kX12_lastMany [.ref 96] I4 L (some (.int r5)) I4 L ∧ (r = some (.int r5) ∧ I' = I4 ∧ L' = L))))))))))) : v_X12_keepAct_0 r I' L' I L x1 := by
  intro w g K
  have K1 := K.1
  refine g_aload_n K1 0 dX12_keepAct_0 rfl ?_
  refine h_getO K1 q_clX12 1 97 lyp_96 fkX12_1 rfl fl_X12_9 dX12_keepAct_1 ?_
  refine g_bipush K1 7 dX12_keepAct_4 rfl ?_
  obtain ⟨hg, h⟩ := h
  refine h_iaload K1 lyp_97 hg dX12_keepAct_6 ?_
  refine g_bipush K1 30 dX12_keepAct_7 rfl ?_
  refine g_icmp_ne K1 15 dX12_keepAct_9 rfl (fun hc => ?_) (fun hc => ?_)
  · replace h := h.2 hc
    refine g_aload_n K1 0 dX12_keepAct_15 rfl ?_
    refine h_getO K1 q_clX12 1 97 lyp_96 fkX12_1 rfl fl_X12_9 dX12_keepAct_16 ?_
    refine g_bipush K1 74 dX12_keepAct_19 rfl ?_
    refine g_aload_n K1 0 dX12_keepAct_21 rfl ?_
    refine h_getO K1 q_clX12 1 97 lyp_96 fkX12_1 rfl fl_X12_9 dX12_keepAct_22 ?_
    refine g_bipush K1 7 dX12_keepAct_25 rfl ?_
    obtain ⟨hg, h⟩ := h
    refine h_iaload K1 lyp_97 hg dX12_keepAct_27 ?_
    refine g_iadd K1 dX12_keepAct_28 ?_
    refine g_iload_n K1 1 dX12_keepAct_29 rfl ?_
    obtain ⟨hg, h⟩ := h
    refine h_iastore K1 lyp_97 hg dX12_keepAct_30 ?_
    refine g_nameMI (fun I1 hI1 => ?_)
    replace h := h I1 hI1
    refine g_aload_n K1 0 dX12_keepAct_31 rfl ?_
    refine h_getO K1 q_clX12 1 97 lyp_96 fkX12_1 rfl fl_X12_9 dX12_keepAct_32 ?_
    refine g_bipush K1 7 dX12_keepAct_35 rfl ?_
    refine g_dup2 K1 dX12_keepAct_37 rfl rfl ?_
    obtain ⟨hg, h⟩ := h
    refine h_iaload K1 lyp_97 hg dX12_keepAct_38 ?_
    refine g_iconst K1 1 dX12_keepAct_39 rfl ?_
    refine g_iadd K1 dX12_keepAct_40 ?_
    obtain ⟨hg, h⟩ := h
    refine h_iastore K1 lyp_97 hg dX12_keepAct_41 ?_
    refine g_nameMI (fun I2 hI2 => ?_)
    replace h := h I2 hI2
    refine g_aload_n K1 0 dX12_keepAct_42 rfl ?_
    obtain ⟨r3, I4, hct, h⟩ := h
    refine h_callV K1 (st := []) [] (hct w (gl g)) q_clX12 lyp_96 rfl ok_X12_asksNight ml_X12_303 ⟨Nat.le_of_ble_eq_true rfl, Nat.le_of_ble_eq_true rfl⟩ (Nat.le_of_ble_eq_true rfl) dX12_keepAct_43 ?_
    show q_Gs w g 46 [(0, .ref 96), (1, .int x1)] [.int r3] (q_mm I4 L)
    refine g_pop K1 dX12_keepAct_46 rfl ?_
    refine g_aload_n K1 0 dX12_keepAct_47 rfl ?_
    obtain ⟨r5, hct, h⟩ := h
    refine h_callV K1 (st := []) [] (hct w (gl g)) q_clX12 lyp_96 rfl ok_X12_lastMany ml_X12_377 ⟨Nat.le_of_ble_eq_true rfl, Nat.le_of_ble_eq_true rfl⟩ (Nat.le_of_ble_eq_true rfl) dX12_keepAct_48 ?_
    show q_Gs w g 51 [(0, .ref 96), (1, .int x1)] [.int r5] (q_mm I4 L)
    obtain ⟨hr, hI, hL⟩ := h
    subst hr hI hL
    exact g_ireturn K rfl dX12_keepAct_51
  · replace h := h.1 hc
    refine g_bipush K1 (-5) dX12_keepAct_12 rfl ?_
    obtain ⟨hr, hI, hL⟩ := h
    subst hr hI hL
    exact g_ireturn K rfl dX12_keepAct_14
theorem c0_X12_keepAct {r : Option Value} {I I' : Nat → Nat → Int32} {L L' : Nat → Nat → Int64} {x1 : Int32} (h : v_X12_keepAct_0 r I' L' I L x1) : q_C kX12_keepAct [.ref 96, .int x1] I L r I' L' := fun w l => q_ct (by decide) (Nat.le_of_ble_eq_true rfl) (Nat.le_refl _) (fun g _ K => h w g K)
abbrev v_X12_lastMany_0 (r : Option Value) (I' : Nat → Nat → Int32) (L' : Nat → Nat → Int64) (I : Nat → Nat → Int32) (L : Nat → Nat → Int64)  : Prop := q_W kX12_lastMany 0 [(0, .ref 96)] [] I L r I' L'
set_option maxRecDepth 20000 in
set_option maxHeartbeats 2000000 in
theorem vc_X12_lastMany_0 {r : Option Value} {I' : Nat → Nat → Int32} {L' : Nat → Nat → Int64} {I : Nat → Nat → Int32} {L : Nat → Nat → Int64}  (h : (∃ r1, q_C kX12_litLast [.ref 96] I L (some (.int r1)) I L ∧ (∃ r2, q_C kX12_bits [.int r1] I L (some (.int r2)) I L ∧ (r = some (.int r2) ∧ I' = I ∧ L' = L)))) : v_X12_lastMany_0 r I' L' I L  := by
  intro w g K
  have K1 := K.1
  refine g_aload_n K1 0 dX12_lastMany_0 rfl ?_
  obtain ⟨r1, hct, h⟩ := h
  refine h_callV K1 (st := []) [] (hct w (gl g)) q_clX12 lyp_96 rfl ok_X12_litLast ml_X12_312 ⟨Nat.le_of_ble_eq_true rfl, Nat.le_of_ble_eq_true rfl⟩ (Nat.le_of_ble_eq_true rfl) dX12_lastMany_1 ?_
  show q_Gs w g 4 [(0, .ref 96)] [.int r1] (q_mm I L)
  obtain ⟨r2, hct, h⟩ := h
  refine h_callS K1 (st := []) [.int r1] (hct w (gl g)) ok_X12_bits ml_X12_315 ⟨Nat.le_of_ble_eq_true rfl, Nat.le_of_ble_eq_true rfl⟩ (Nat.le_of_ble_eq_true rfl) dX12_lastMany_4 ?_
  show q_Gs w g 7 [(0, .ref 96)] [.int r2] (q_mm I L)
  obtain ⟨hr, hI, hL⟩ := h
  subst hr hI hL
  exact g_ireturn K rfl dX12_lastMany_7
theorem c0_X12_lastMany {r : Option Value} {I I' : Nat → Nat → Int32} {L L' : Nat → Nat → Int64}  (h : v_X12_lastMany_0 r I' L' I L ) : q_C kX12_lastMany [.ref 96] I L r I' L' := fun w l => q_ct (by decide) (Nat.le_of_ble_eq_true rfl) (Nat.le_refl _) (fun g _ K => h w g K)
abbrev v_X12_law_0 (r : Option Value) (I' : Nat → Nat → Int32) (L' : Nat → Nat → Int64) (I : Nat → Nat → Int32) (L : Nat → Nat → Int64)  : Prop := q_W kX12_law 0 [(0, .ref 96)] [] I L r I' L'
abbrev v_X12_law_16 (r : Option Value) (I' : Nat → Nat → Int32) (L' : Nat → Nat → Int64) (I : Nat → Nat → Int32) (L : Nat → Nat → Int64) (x1 : Int32) (x2 : Int32) (x3 : Int32) : Prop := q_W kX12_law 16 [(0, .ref 96), (1, .int x1), (2, .int x2), (3, .int x3)] [] I L r I' L'
set_option maxRecDepth 20000 in
set_option maxHeartbeats 2000000 in
theorem vc_X12_law_0 {r : Option Value} {I' : Nat → Nat → Int32} {L' : Nat → Nat → Int64} {I : Nat → Nat → Int32} {L : Nat → Nat → Int64}  (h : (∃ r1 I2, q_C kX12_asksNight [.ref 96] I L (some (.int r1)) I2 L ∧ ((r1 = 0 → (r = some (.int (-2)) ∧ I' = I2 ∧ L' = L)) ∧ (¬ r1 = 0 → (v_X12_law_16 r I' L' I2 L 0 (-1) 0))))) : v_X12_law_0 r I' L' I L  := by
  intro w g K
  have K1 := K.1
  refine g_aload_n K1 0 dX12_law_0 rfl ?_
  obtain ⟨r1, I2, hct, h⟩ := h
  refine h_callV K1 (st := []) [] (hct w (gl g)) q_clX12 lyp_96 rfl ok_X12_asksNight ml_X12_303 ⟨Nat.le_of_ble_eq_true rfl, Nat.le_of_ble_eq_true rfl⟩ (Nat.le_of_ble_eq_true rfl) dX12_law_1 ?_
  show q_Gs w g 4 [(0, .ref 96)] [.int r1] (q_mm I2 L)
  refine g_if_ne K1 10 dX12_law_4 rfl (fun hc => ?_) (fun hc => ?_)
  · replace h := h.2 hc
    refine g_iconst K1 0 dX12_law_10 rfl ?_
    refine g_istore_n K1 dX12_law_11 rfl (by decide) rfl ?_
    refine g_iconst K1 (-1) dX12_law_12 rfl ?_
    refine g_istore_n K1 dX12_law_13 rfl (by decide) rfl ?_
    refine g_iconst K1 0 dX12_law_14 rfl ?_
    refine g_istore_n K1 dX12_law_15 rfl (by decide) rfl ?_
    exact g_perm [3, 2, 1, 0] rfl (h w g K)
  · replace h := h.1 hc
    refine g_bipush K1 (-2) dX12_law_7 rfl ?_
    obtain ⟨hr, hI, hL⟩ := h
    subst hr hI hL
    exact g_ireturn K rfl dX12_law_9
set_option maxRecDepth 20000 in
set_option maxHeartbeats 2000000 in
theorem vc_X12_law_16 {r : Option Value} {I' : Nat → Nat → Int32} {L' : Nat → Nat → Int64} {I : Nat → Nat → Int32} {L : Nat → Nat → Int64} {x1 : Int32} {x2 : Int32} {x3 : Int32} (h : ((4 ≤ x3 → (r = some (.int x1) ∧ I' = I ∧ L' = L)) ∧ (¬ 4 ≤ x3 → (∃ I1, q_C kX12_goBy [.ref 96, .int x3] I L none I1 L ∧ (∃ r2, q_C kX12_hours [.ref 96] I1 L (some (.int r2)) I1 L ∧ (∃ r3, q_C kX12_wordsAt [.ref 96, .int r2] I1 L (some (.int r3)) I1 L ∧ ((x2 < r3 → (∃ r4, q_C kX12_hours [.ref 96] I1 L (some (.int r4)) I1 L ∧ (∃ r5, q_C kX12_wordsAt [.ref 96, .int r4] I1 L (some (.int r5)) I1 L ∧ (v_X12_law_16 r I' L' I1 L x3 r5 (x3 + 1))))) ∧ (¬ x2 < r3 → (v_X12_law_16 r I' L' I1 L x1 x2 (x3 + 1)))))))))) : v_X12_law_16 r I' L' I L x1 x2 x3 := by
  intro w g K
  have K1 := K.1
  refine g_iload_n K1 3 dX12_law_16 rfl ?_
  refine g_iconst K1 4 dX12_law_17 rfl ?_
  refine g_icmp_ge K1 58 dX12_law_18 rfl (fun hc => ?_) (fun hc => ?_)
  · replace h := h.1 hc
    refine g_iload_n K1 1 dX12_law_58 rfl ?_
    obtain ⟨hr, hI, hL⟩ := h
    subst hr hI hL
    exact g_ireturn K rfl dX12_law_59
  · replace h := h.2 hc
    refine g_aload_n K1 0 dX12_law_21 rfl ?_
    refine g_iload_n K1 3 dX12_law_22 rfl ?_
    obtain ⟨I1, hct, h⟩ := h
    refine h_callV K1 (st := []) [.int x3] (hct w (gl g)) q_clX12 lyp_96 rfl ok_X12_goBy ml_X12_424 ⟨Nat.le_of_ble_eq_true rfl, Nat.le_of_ble_eq_true rfl⟩ (Nat.le_of_ble_eq_true rfl) dX12_law_23 ?_
    show q_Gs w g 26 [(0, .ref 96), (1, .int x1), (2, .int x2), (3, .int x3)] [] (q_mm I1 L)
    refine g_aload_n K1 0 dX12_law_26 rfl ?_
    refine g_aload_n K1 0 dX12_law_27 rfl ?_
    obtain ⟨r2, hct, h⟩ := h
    refine h_callV K1 (st := [.ref 96]) [] (hct w (gl g)) q_clX12 lyp_96 rfl ok_X12_hours ml_X12_82 ⟨Nat.le_of_ble_eq_true rfl, Nat.le_of_ble_eq_true rfl⟩ (Nat.le_of_ble_eq_true rfl) dX12_law_28 ?_
    show q_Gs w g 31 [(0, .ref 96), (1, .int x1), (2, .int x2), (3, .int x3)] [.int r2, .ref 96] (q_mm I1 L)
    obtain ⟨r3, hct, h⟩ := h
    refine h_callV K1 (st := []) [.int r2] (hct w (gl g)) q_clX12 lyp_96 rfl ok_X12_wordsAt ml_X12_337 ⟨Nat.le_of_ble_eq_true rfl, Nat.le_of_ble_eq_true rfl⟩ (Nat.le_of_ble_eq_true rfl) dX12_law_31 ?_
    show q_Gs w g 34 [(0, .ref 96), (1, .int x1), (2, .int x2), (3, .int x3)] [.int r3] (q_mm I1 L)
    refine g_iload_n K1 2 dX12_law_34 rfl ?_
    refine g_icmp_gt K1 41 dX12_law_35 rfl (fun hc => ?_) (fun hc => ?_)
    · replace h := h.1 hc
      refine g_aload_n K1 0 dX12_law_41 rfl ?_
      refine g_aload_n K1 0 dX12_law_42 rfl ?_
      obtain ⟨r4, hct, h⟩ := h
      refine h_callV K1 (st := [.ref 96]) [] (hct w (gl g)) q_clX12 lyp_96 rfl ok_X12_hours ml_X12_82 ⟨Nat.le_of_ble_eq_true rfl, Nat.le_of_ble_eq_true rfl⟩ (Nat.le_of_ble_eq_true rfl) dX12_law_43 ?_
      show q_Gs w g 46 [(0, .ref 96), (1, .int x1), (2, .int x2), (3, .int x3)] [.int r4, .ref 96] (q_mm I1 L)
      obtain ⟨r5, hct, h⟩ := h
      refine h_callV K1 (st := []) [.int r4] (hct w (gl g)) q_clX12 lyp_96 rfl ok_X12_wordsAt ml_X12_337 ⟨Nat.le_of_ble_eq_true rfl, Nat.le_of_ble_eq_true rfl⟩ (Nat.le_of_ble_eq_true rfl) dX12_law_46 ?_
      show q_Gs w g 49 [(0, .ref 96), (1, .int x1), (2, .int x2), (3, .int x3)] [.int r5] (q_mm I1 L)
      refine g_istore_n K1 dX12_law_49 rfl (by decide) rfl ?_
      refine g_iload_n K1 3 dX12_law_50 rfl ?_
      refine g_istore_n K1 dX12_law_51 rfl (by decide) rfl ?_
      refine g_iinc K1 (x3 + 1) 3 dX12_law_52 rfl rfl (by decide) rfl ?_
      refine g_goto K1 16 dX12_law_55 rfl ?_
      exact g_perm [3, 1, 2, 0] rfl (h w g K)
    · replace h := h.2 hc
      refine g_goto K1 52 dX12_law_38 rfl ?_
      refine g_iinc K1 (x3 + 1) 3 dX12_law_52 rfl rfl (by decide) rfl ?_
      refine g_goto K1 16 dX12_law_55 rfl ?_
      exact g_perm [1, 2, 3, 0] rfl (h w g K)
theorem c0_X12_law {r : Option Value} {I I' : Nat → Nat → Int32} {L L' : Nat → Nat → Int64}  (h : v_X12_law_0 r I' L' I L ) : q_C kX12_law [.ref 96] I L r I' L' := fun w l => q_ct (by decide) (Nat.le_of_ble_eq_true rfl) (Nat.le_refl _) (fun g _ K => h w g K)
abbrev v_X12_laws_0 (r : Option Value) (I' : Nat → Nat → Int32) (L' : Nat → Nat → Int64) (I : Nat → Nat → Int32) (L : Nat → Nat → Int64) (x1 : Int32) : Prop := q_W kX12_laws 0 [(0, .ref 96), (1, .int x1)] [] I L r I' L'
abbrev v_X12_laws_19 (r : Option Value) (I' : Nat → Nat → Int32) (L' : Nat → Nat → Int64) (I : Nat → Nat → Int32) (L : Nat → Nat → Int64) (x1 : Int32) (x3 : Int32) : Prop := q_W kX12_laws 19 [(0, .ref 96), (1, .int x1), (3, .int x3)] [] I L r I' L'
set_option maxRecDepth 20000 in
set_option maxHeartbeats 2000000 in
theorem vc_X12_laws_0 {r : Option Value} {I' : Nat → Nat → Int32} {L' : Nat → Nat → Int64} {I : Nat → Nat → Int32} {L : Nat → Nat → Int64} {x1 : Int32} (h : (∃ r1 I2, q_C kX12_askHeard [.ref 96, .int x1] I L (some (.int r1)) I2 L ∧ ((0 ≤ r1 → (v_X12_laws_19 r I' L' (up2 I2 96 16 0) L x1 0)) ∧ (¬ 0 ≤ r1 → (r = some (.int r1) ∧ I' = I2 ∧ L' = L))))) : v_X12_laws_0 r I' L' I L x1 := by
  intro w g K
  have K1 := K.1
  refine g_aload_n K1 0 dX12_laws_0 rfl ?_
  refine g_iload_n K1 1 dX12_laws_1 rfl ?_
  obtain ⟨r1, I2, hct, h⟩ := h
  refine h_callV K1 (st := []) [.int x1] (hct w (gl g)) q_clX12 lyp_96 rfl ok_X12_askHeard ml_X12_401 ⟨Nat.le_of_ble_eq_true rfl, Nat.le_of_ble_eq_true rfl⟩ (Nat.le_of_ble_eq_true rfl) dX12_laws_2 ?_
  show q_Gs w g 5 [(0, .ref 96), (1, .int x1)] [.int r1] (q_mm I2 L)
  refine g_istore_n K1 dX12_laws_5 rfl (by decide) rfl ?_
  refine g_iload_n K1 0 dX12_laws_6 rfl ?_
  refine g_if_ge K1 12 dX12_laws_7 rfl (fun hc => ?_) (fun hc => ?_)
  · replace h := h.1 hc
    refine g_iconst K1 0 dX12_laws_12 rfl ?_
    refine g_istore_n K1 dX12_laws_13 rfl (by decide) rfl ?_
    refine g_aload_n K1 2 dX12_laws_14 rfl ?_
    refine g_iconst K1 0 dX12_laws_15 rfl ?_
    refine h_putI K1 q_clX12 16 lyp_96 fkX12_16 fl_X12_243 rfl rfl rfl dX12_laws_16 ?_
    exact g_perm [2, 3, 0] rfl (h w g K)
  · replace h := h.2 hc
    refine g_iload_n K1 0 dX12_laws_10 rfl ?_
    obtain ⟨hr, hI, hL⟩ := h
    subst hr hI hL
    exact g_ireturn K rfl dX12_laws_11
set_option maxRecDepth 20000 in
set_option maxHeartbeats 2000000 in
theorem vc_X12_laws_19 {r : Option Value} {I' : Nat → Nat → Int32} {L' : Nat → Nat → Int64} {I : Nat → Nat → Int32} {L : Nat → Nat → Int64} {x1 : Int32} {x3 : Int32} (h : ((4 ≤ (I 96 16) → (r = some (.int x3) ∧ I' = I ∧ L' = L)) ∧ (¬ 4 ≤ (I 96 16) → (∃ r1 I2, q_C kX12_isHeard [.ref 96, .int x1] I L (some (.int r1)) I2 L ∧ ((r1 = 0 → (v_X12_laws_19 r I' L' (up2 I2 96 16 ((I2 96 16) + 1)) L x1 (x3 ||| 0))) ∧ (¬ r1 = 0 → (v_X12_laws_19 r I' L' (up2 I2 96 16 ((I2 96 16) + 1)) L x1 (x3 ||| ((1 : Int32) <<< ((I2 96 16) &&& 31)))))))))) : v_X12_laws_19 r I' L' I L x1 x3 := by
  intro w g K
  have K1 := K.1
  refine g_aload_n K1 0 dX12_laws_19 rfl ?_
  refine h_getI K1 q_clX12 16 lyp_96 fkX12_16 fl_X12_243 dX12_laws_20 ?_
  refine g_iconst K1 4 dX12_laws_23 rfl ?_
  refine g_icmp_ge K1 61 dX12_laws_24 rfl (fun hc => ?_) (fun hc => ?_)
  · replace h := h.1 hc
    refine g_iload_n K1 2 dX12_laws_61 rfl ?_
    obtain ⟨hr, hI, hL⟩ := h
    subst hr hI hL
    exact g_ireturn K rfl dX12_laws_62
  · replace h := h.2 hc
    refine g_iload_n K1 2 dX12_laws_27 rfl ?_
    refine g_aload_n K1 0 dX12_laws_28 rfl ?_
    refine g_iload_n K1 1 dX12_laws_29 rfl ?_
    obtain ⟨r1, I2, hct, h⟩ := h
    refine h_callV K1 (st := [.int x3]) [.int x1] (hct w (gl g)) q_clX12 lyp_96 rfl ok_X12_isHeard ml_X12_404 ⟨Nat.le_of_ble_eq_true rfl, Nat.le_of_ble_eq_true rfl⟩ (Nat.le_of_ble_eq_true rfl) dX12_laws_30 ?_
    show q_Gs w g 33 [(0, .ref 96), (1, .int x1), (3, .int x3)] [.int r1, .int x3] (q_mm I2 L)
    refine g_if_eq K1 45 dX12_laws_33 rfl (fun hc => ?_) (fun hc => ?_)
    · replace h := h.1 hc
      refine g_iconst K1 0 dX12_laws_45 rfl ?_
      refine g_ior K1 dX12_laws_46 ?_
      refine g_istore_n K1 dX12_laws_47 rfl (by decide) rfl ?_
      refine g_aload_n K1 1 dX12_laws_48 rfl ?_
      refine g_dup K1 dX12_laws_49 rfl ?_
      refine h_getI K1 q_clX12 16 lyp_96 fkX12_16 fl_X12_243 dX12_laws_50 ?_
      refine g_iconst K1 1 dX12_laws_53 rfl ?_
      refine g_iadd K1 dX12_laws_54 ?_
      refine h_putI K1 q_clX12 16 lyp_96 fkX12_16 fl_X12_243 rfl rfl rfl dX12_laws_55 ?_
      refine g_goto K1 19 dX12_laws_58 rfl ?_
      exact g_perm [1, 2, 0] rfl (h w g K)
    · replace h := h.2 hc
      refine g_iconst K1 1 dX12_laws_36 rfl ?_
      refine g_aload_n K1 0 dX12_laws_37 rfl ?_
      refine h_getI K1 q_clX12 16 lyp_96 fkX12_16 fl_X12_243 dX12_laws_38 ?_
      refine g_ishl K1 dX12_laws_41 ?_
      refine g_goto K1 46 dX12_laws_42 rfl ?_
      refine g_ior K1 dX12_laws_46 ?_
      refine g_istore_n K1 dX12_laws_47 rfl (by decide) rfl ?_
      refine g_aload_n K1 1 dX12_laws_48 rfl ?_
      refine g_dup K1 dX12_laws_49 rfl ?_
      refine h_getI K1 q_clX12 16 lyp_96 fkX12_16 fl_X12_243 dX12_laws_50 ?_
      refine g_iconst K1 1 dX12_laws_53 rfl ?_
      refine g_iadd K1 dX12_laws_54 ?_
      refine h_putI K1 q_clX12 16 lyp_96 fkX12_16 fl_X12_243 rfl rfl rfl dX12_laws_55 ?_
      refine g_goto K1 19 dX12_laws_58 rfl ?_
      exact g_perm [1, 2, 0] rfl (h w g K)
theorem c0_X12_laws {r : Option Value} {I I' : Nat → Nat → Int32} {L L' : Nat → Nat → Int64} {x1 : Int32} (h : v_X12_laws_0 r I' L' I L x1) : q_C kX12_laws [.ref 96, .int x1] I L r I' L' := fun w l => q_ct (by decide) (Nat.le_of_ble_eq_true rfl) (Nat.le_refl _) (fun g _ K => h w g K)
abbrev v_X12_layFirst_0 (r : Option Value) (I' : Nat → Nat → Int32) (L' : Nat → Nat → Int64) (I : Nat → Nat → Int32) (L : Nat → Nat → Int64) (x1 : Int32) (x2 : Int32) : Prop := q_W kX12_layFirst 0 [(0, .ref 96), (1, .int x1), (2, .int x2)] [] I L r I' L'
abbrev v_X12_layFirst_26 (r : Option Value) (I' : Nat → Nat → Int32) (L' : Nat → Nat → Int64) (I : Nat → Nat → Int32) (L : Nat → Nat → Int64) (x2 : Int32) (x3 : Int32) (x4 : Int32) : Prop := q_W kX12_layFirst 26 [(0, .ref 96), (2, .int x2), (3, .int x3), (4, .int x4)] [] I L r I' L'
abbrev v_X12_layFirst_44 (r : Option Value) (I' : Nat → Nat → Int32) (L' : Nat → Nat → Int64) (I : Nat → Nat → Int32) (L : Nat → Nat → Int64) (x2 : Int32) (x3 : Int32) (x4 : Int32) (x5 : Int32) : Prop := q_W kX12_layFirst 44 [(0, .ref 96), (2, .int x2), (3, .int x3), (4, .int x4), (5, .int x5)] [] I L r I' L'
set_option maxRecDepth 20000 in
set_option maxHeartbeats 2000000 in
theorem vc_X12_layFirst_0 {r : Option Value} {I' : Nat → Nat → Int32} {L' : Nat → Nat → Int64} {I : Nat → Nat → Int32} {L : Nat → Nat → Int64} {x1 : Int32} {x2 : Int32} (h : (∃ I1, q_C kX12_asItIs [.ref 96] (up2 (up2 I 96 29 0) 96 30 0) L none I1 L ∧ (v_X12_layFirst_26 r I' L' (up2 I1 96 18 ((1 : Int32) <<< (x1 &&& 31))) L x2 5 1))) : v_X12_layFirst_0 r I' L' I L x1 x2 := by
  intro w g K
  have K1 := K.1
  refine g_aload_n K1 0 dX12_layFirst_0 rfl ?_
  refine g_iconst K1 0 dX12_layFirst_1 rfl ?_
  refine h_putI K1 q_clX12 29 lyp_96 fkX12_29 fl_X12_362 rfl rfl rfl dX12_layFirst_2 ?_
  refine g_aload_n K1 0 dX12_layFirst_5 rfl ?_
  refine g_iconst K1 0 dX12_layFirst_6 rfl ?_
  refine h_putI K1 q_clX12 30 lyp_96 fkX12_30 fl_X12_365 rfl rfl rfl dX12_layFirst_7 ?_
  refine g_aload_n K1 0 dX12_layFirst_10 rfl ?_
  obtain ⟨I1, hct, h⟩ := h
  refine h_callV K1 (st := []) [] (hct w (gl g)) q_clX12 lyp_96 rfl ok_X12_asItIs ml_X12_297 ⟨Nat.le_of_ble_eq_true rfl, Nat.le_of_ble_eq_true rfl⟩ (Nat.le_of_ble_eq_true rfl) dX12_layFirst_11 ?_
  show q_Gs w g 14 [(0, .ref 96), (1, .int x1), (2, .int x2)] [] (q_mm I1 L)
  refine g_aload_n K1 0 dX12_layFirst_14 rfl ?_
  refine g_iconst K1 1 dX12_layFirst_15 rfl ?_
  refine g_iload_n K1 1 dX12_layFirst_16 rfl ?_
  refine g_ishl K1 dX12_layFirst_17 ?_
  refine h_putI K1 q_clX12 18 lyp_96 fkX12_18 fl_X12_249 rfl rfl rfl dX12_layFirst_18 ?_
  refine g_iconst K1 5 dX12_layFirst_21 rfl ?_
  refine g_istore_n K1 dX12_layFirst_22 rfl (by decide) rfl ?_
  refine g_iconst K1 1 dX12_layFirst_23 rfl ?_
  refine g_istore K1 dX12_layFirst_24 (by decide) rfl ?_
  exact g_perm [2, 4, 1, 0] rfl (h w g K)
set_option maxRecDepth 20000 in
set_option maxHeartbeats 2000000 in
theorem vc_X12_layFirst_26 {r : Option Value} {I' : Nat → Nat → Int32} {L' : Nat → Nat → Int64} {I : Nat → Nat → Int32} {L : Nat → Nat → Int64} {x2 : Int32} {x3 : Int32} {x4 : Int32} (h : ((4 < x4 → (r = none ∧ I' = I ∧ L' = L)) ∧ (¬ 4 < x4 → (((I 96 30) = 0 → (v_X12_layFirst_44 r I' L' I L x2 x3 x4 (x3 / 5))) ∧ (¬ (I 96 30) = 0 → (r = none ∧ I' = I ∧ L' = L)))))) : v_X12_layFirst_26 r I' L' I L x2 x3 x4 := by
  intro w g K
  have K1 := K.1
  refine g_iload K1 3 dX12_layFirst_26 rfl ?_
  refine g_iconst K1 4 dX12_layFirst_28 rfl ?_
  refine g_icmp_gt K1 137 dX12_layFirst_29 rfl (fun hc => ?_) (fun hc => ?_)
  · replace h := h.1 hc
    obtain ⟨hr, hI, hL⟩ := h
    subst hr hI hL
    exact g_vreturn K rfl dX12_layFirst_137
  · replace h := h.2 hc
    refine g_aload_n K1 0 dX12_layFirst_32 rfl ?_
    refine h_getI K1 q_clX12 30 lyp_96 fkX12_30 fl_X12_365 dX12_layFirst_33 ?_
    refine g_if_ne K1 137 dX12_layFirst_36 rfl (fun hc => ?_) (fun hc => ?_)
    · replace h := h.2 hc
      obtain ⟨hr, hI, hL⟩ := h
      subst hr hI hL
      exact g_vreturn K rfl dX12_layFirst_137
    · replace h := h.1 hc
      refine g_iload_n K1 2 dX12_layFirst_39 rfl ?_
      refine g_iconst K1 5 dX12_layFirst_40 rfl ?_
      refine g_idiv K1 dX12_layFirst_41 (by decide) ?_
      refine g_istore K1 dX12_layFirst_42 (by decide) rfl ?_
      exact g_perm [1, 2, 3, 4, 0] rfl (h w g K)
set_option maxRecDepth 20000 in
set_option maxHeartbeats 2000000 in
theorem vc_X12_layFirst_44 {r : Option Value} {I' : Nat → Nat → Int32} {L' : Nat → Nat → Int64} {I : Nat → Nat → Int32} {L : Nat → Nat → Int64} {x2 : Int32} {x3 : Int32} {x4 : Int32} {x5 : Int32} (h : ((x3 ≤ x5 → (v_X12_layFirst_26 r I' L' I L x2 (x3 * 5) (x4 + 1))) ∧ (¬ x3 ≤ x5 → (∃ r1, q_C kX12_isSaying [.ref 96, .int x5] I L (some (.int r1)) I L ∧ ((r1 = 0 → (v_X12_layFirst_44 r I' L' I L x2 x3 x4 (x5 + 1))) ∧ (¬ r1 = 0 → (∃ I2, q_C kX12_goAll [.ref 96] (up2 I 96 19 x5) L none I2 L ∧ (∃ r3, q_C kX12_hours [.ref 96] I2 L (some (.int r3)) I2 L ∧ (∃ r4, q_C kX12_saysOf [.ref 96, .int x2, .int r3] I2 L (some (.int r4)) I2 L ∧ ((r4 = (I2 96 28) → (((I2 96 30) = 0 → (v_X12_layFirst_44 r I' L' (up2 (up2 I2 96 29 x5) 96 30 (((up2 I2 96 29 x5) 96 30) + 1)) L x2 x3 x4 (x5 + 1))) ∧ (¬ (I2 96 30) = 0 → ∀ I5, I5 = (up2 (up2 I2 96 29 (I2 96 29)) 96 30 (((up2 I2 96 29 (I2 96 29)) 96 30) + 1)) → (v_X12_layFirst_44 r I' L' I5 L x2 x3 x4 (x5 + 1))))) ∧ (¬ r4 = (I2 96 28) → (v_X12_layFirst_44 r I' L' I2 L x2 x3 x4 (x5 + 1))))))))))))) : v_X12_layFirst_44 r I' L' I L x2 x3 x4 x5 := by
  intro w g K
  have K1 := K.1
  refine g_iload K1 4 dX12_layFirst_44 rfl ?_
  refine g_iload_n K1 2 dX12_layFirst_46 rfl ?_
  refine g_icmp_ge K1 127 dX12_layFirst_47 rfl (fun hc => ?_) (fun hc => ?_)
  · replace h := h.1 hc
    refine g_iload_n K1 2 dX12_layFirst_127 rfl ?_
    refine g_iconst K1 5 dX12_layFirst_128 rfl ?_
    refine g_imul K1 dX12_layFirst_129 ?_
    refine g_istore_n K1 dX12_layFirst_130 rfl (by decide) rfl ?_
    refine g_iinc K1 (x4 + 1) 3 dX12_layFirst_131 rfl rfl (by decide) rfl ?_
    refine g_goto K1 26 dX12_layFirst_134 rfl ?_
    exact g_perm [2, 3, 1, 0] rfl (h w g K)
  · replace h := h.2 hc
    refine g_aload_n K1 0 dX12_layFirst_50 rfl ?_
    refine g_iload K1 4 dX12_layFirst_51 rfl ?_
    obtain ⟨r1, hct, h⟩ := h
    refine h_callV K1 (st := []) [.int x5] (hct w (gl g)) q_clX12 lyp_96 rfl ok_X12_isSaying ml_X12_368 ⟨Nat.le_of_ble_eq_true rfl, Nat.le_of_ble_eq_true rfl⟩ (Nat.le_of_ble_eq_true rfl) dX12_layFirst_53 ?_
    show q_Gs w g 56 [(0, .ref 96), (2, .int x2), (3, .int x3), (4, .int x4), (5, .int x5)] [.int r1] (q_mm I L)
    refine g_if_ne K1 62 dX12_layFirst_56 rfl (fun hc => ?_) (fun hc => ?_)
    · replace h := h.2 hc
      refine g_aload_n K1 0 dX12_layFirst_62 rfl ?_
      refine g_iload K1 4 dX12_layFirst_63 rfl ?_
      refine h_putI K1 q_clX12 19 lyp_96 fkX12_19 fl_X12_252 rfl rfl rfl dX12_layFirst_65 ?_
      refine g_aload_n K1 0 dX12_layFirst_68 rfl ?_
      obtain ⟨I2, hct, h⟩ := h
      refine h_callV K1 (st := []) [] (hct w (gl g)) q_clX12 lyp_96 rfl ok_X12_goAll ml_X12_300 ⟨Nat.le_of_ble_eq_true rfl, Nat.le_of_ble_eq_true rfl⟩ (Nat.le_of_ble_eq_true rfl) dX12_layFirst_69 ?_
      show q_Gs w g 72 [(0, .ref 96), (2, .int x2), (3, .int x3), (4, .int x4), (5, .int x5)] [] (q_mm I2 L)
      refine g_aload_n K1 0 dX12_layFirst_72 rfl ?_
      refine g_iload_n K1 1 dX12_layFirst_73 rfl ?_
      refine g_aload_n K1 0 dX12_layFirst_74 rfl ?_
      obtain ⟨r3, hct, h⟩ := h
      refine h_callV K1 (st := [.int x2, .ref 96]) [] (hct w (gl g)) q_clX12 lyp_96 rfl ok_X12_hours ml_X12_82 ⟨Nat.le_of_ble_eq_true rfl, Nat.le_of_ble_eq_true rfl⟩ (Nat.le_of_ble_eq_true rfl) dX12_layFirst_75 ?_
      show q_Gs w g 78 [(0, .ref 96), (2, .int x2), (3, .int x3), (4, .int x4), (5, .int x5)] [.int r3, .int x2, .ref 96] (q_mm I2 L)
      obtain ⟨r4, hct, h⟩ := h
      refine h_callV K1 (st := []) [.int x2, .int r3] (hct w (gl g)) q_clX12 lyp_96 rfl ok_X12_saysOf ml_X12_275 ⟨Nat.le_of_ble_eq_true rfl, Nat.le_of_ble_eq_true rfl⟩ (Nat.le_of_ble_eq_true rfl) dX12_layFirst_78 ?_
      show q_Gs w g 81 [(0, .ref 96), (2, .int x2), (3, .int x3), (4, .int x4), (5, .int x5)] [.int r4] (q_mm I2 L)
      refine g_aload_n K1 0 dX12_layFirst_81 rfl ?_
      refine h_getI K1 q_clX12 28 lyp_96 fkX12_28 fl_X12_348 dX12_layFirst_82 ?_
      refine g_icmp_eq K1 91 dX12_layFirst_85 rfl (fun hc => ?_) (fun hc => ?_)
      · replace h := h.1 hc
        refine g_aload_n K1 0 dX12_layFirst_91 rfl ?_
        refine g_aload_n K1 0 dX12_layFirst_92 rfl ?_
        refine h_getI K1 q_clX12 30 lyp_96 fkX12_30 fl_X12_365 dX12_layFirst_93 ?_
        refine g_if_ne K1 104 dX12_layFirst_96 rfl (fun hc => ?_) (fun hc => ?_)
        · replace h := h.2 hc
          refine g_aload_n K1 0 dX12_layFirst_104 rfl ?_
          refine h_getI K1 q_clX12 29 lyp_96 fkX12_29 fl_X12_362 dX12_layFirst_105 ?_
          refine h_putI K1 q_clX12 29 lyp_96 fkX12_29 fl_X12_362 rfl rfl rfl dX12_layFirst_108 ?_
          refine g_aload_n K1 0 dX12_layFirst_111 rfl ?_
          refine g_dup K1 dX12_layFirst_112 rfl ?_
          refine h_getI K1 q_clX12 30 lyp_96 fkX12_30 fl_X12_365 dX12_layFirst_113 ?_
          refine g_iconst K1 1 dX12_layFirst_116 rfl ?_
          refine g_iadd K1 dX12_layFirst_117 ?_
          refine h_putI K1 q_clX12 30 lyp_96 fkX12_30 fl_X12_365 rfl rfl rfl dX12_layFirst_118 ?_
          refine g_nameMI (fun I5 hI5 => ?_)
          replace h := h I5 hI5
          refine g_iinc K1 (x5 + 1) 4 dX12_layFirst_121 rfl rfl (by decide) rfl ?_
          refine g_goto K1 44 dX12_layFirst_124 rfl ?_
          exact g_perm [1, 2, 3, 4, 0] rfl (h w g K)
        · replace h := h.1 hc
          refine g_iload K1 4 dX12_layFirst_99 rfl ?_
          refine g_goto K1 108 dX12_layFirst_101 rfl ?_
          refine h_putI K1 q_clX12 29 lyp_96 fkX12_29 fl_X12_362 rfl rfl rfl dX12_layFirst_108 ?_
          refine g_aload_n K1 0 dX12_layFirst_111 rfl ?_
          refine g_dup K1 dX12_layFirst_112 rfl ?_
          refine h_getI K1 q_clX12 30 lyp_96 fkX12_30 fl_X12_365 dX12_layFirst_113 ?_
          refine g_iconst K1 1 dX12_layFirst_116 rfl ?_
          refine g_iadd K1 dX12_layFirst_117 ?_
          refine h_putI K1 q_clX12 30 lyp_96 fkX12_30 fl_X12_365 rfl rfl rfl dX12_layFirst_118 ?_
          refine g_iinc K1 (x5 + 1) 4 dX12_layFirst_121 rfl rfl (by decide) rfl ?_
          refine g_goto K1 44 dX12_layFirst_124 rfl ?_
          exact g_perm [1, 2, 3, 4, 0] rfl (h w g K)
      · replace h := h.2 hc
        refine g_goto K1 121 dX12_layFirst_88 rfl ?_
        refine g_iinc K1 (x5 + 1) 4 dX12_layFirst_121 rfl rfl (by decide) rfl ?_
        refine g_goto K1 44 dX12_layFirst_124 rfl ?_
        exact g_perm [1, 2, 3, 4, 0] rfl (h w g K)
    · replace h := h.1 hc
      refine g_goto K1 121 dX12_layFirst_59 rfl ?_
      refine g_iinc K1 (x5 + 1) 4 dX12_layFirst_121 rfl rfl (by decide) rfl ?_
      refine g_goto K1 44 dX12_layFirst_124 rfl ?_
      exact g_perm [1, 2, 3, 4, 0] rfl (h w g K)
theorem c0_X12_layFirst {r : Option Value} {I I' : Nat → Nat → Int32} {L L' : Nat → Nat → Int64} {x1 : Int32} {x2 : Int32} (h : v_X12_layFirst_0 r I' L' I L x1 x2) : q_C kX12_layFirst [.ref 96, .int x1, .int x2] I L r I' L' := fun w l => q_ct (by decide) (Nat.le_of_ble_eq_true rfl) (Nat.le_refl _) (fun g _ K => h w g K)
abbrev v_X12_laySilence_0 (r : Option Value) (I' : Nat → Nat → Int32) (L' : Nat → Nat → Int64) (I : Nat → Nat → Int32) (L : Nat → Nat → Int64) (x1 : Int32) (x2 : Int32) : Prop := q_W kX12_laySilence 0 [(0, .ref 96), (1, .int x1), (2, .int x2)] [] I L r I' L'
abbrev v_X12_laySilence_21 (r : Option Value) (I' : Nat → Nat → Int32) (L' : Nat → Nat → Int64) (I : Nat → Nat → Int32) (L : Nat → Nat → Int64) (x1 : Int32) (x2 : Int32) (x3 : Int32) : Prop := q_W kX12_laySilence 21 [(0, .ref 96), (1, .int x1), (2, .int x2), (3, .int x3)] [] I L r I' L'
abbrev v_X12_laySilence_34 (r : Option Value) (I' : Nat → Nat → Int32) (L' : Nat → Nat → Int64) (I : Nat → Nat → Int32) (L : Nat → Nat → Int64) (x1 : Int32) (x2 : Int32) (x3 : Int32) (x4 : Int64) (x6 : Int32) : Prop := q_W kX12_laySilence 34 [(0, .ref 96), (1, .int x1), (2, .int x2), (3, .int x3), (4, .long x4), (6, .int x6)] [] I L r I' L'
abbrev v_X12_laySilence_133 (r : Option Value) (I' : Nat → Nat → Int32) (L' : Nat → Nat → Int64) (I : Nat → Nat → Int32) (L : Nat → Nat → Int64) (x1 : Int32) (x2 : Int32) (x3 : Int32) (x4 : Int64) (s1 : Int64) (s2 : Int64) : Prop := q_W kX12_laySilence 133 [(0, .ref 96), (1, .int x1), (2, .int x2), (3, .int x3), (4, .long x4)] [.long s2, .long s1, .ref 96] I L r I' L'
set_option maxRecDepth 20000 in
set_option maxHeartbeats 2000000 in
theorem vc_X12_laySilence_0 {r : Option Value} {I' : Nat → Nat → Int32} {L' : Nat → Nat → Int64} {I : Nat → Nat → Int32} {L : Nat → Nat → Int64} {x1 : Int32} {x2 : Int32} (h : (∃ I1, q_C kX12_asItIs [.ref 96] I (up2 (up2 (up2 L 96 34 0) 96 35 0) 96 36 0) none I1 (up2 (up2 (up2 L 96 34 0) 96 35 0) 96 36 0) ∧ (v_X12_laySilence_21 r I' L' I1 (up2 (up2 (up2 L 96 34 0) 96 35 0) 96 36 0) x1 x2 0))) : v_X12_laySilence_0 r I' L' I L x1 x2 := by
  intro w g K
  have K1 := K.1
  refine g_aload_n K1 0 dX12_laySilence_0 rfl ?_
  refine g_lconst K1 0 dX12_laySilence_1 rfl ?_
  refine h_putL K1 q_clX12 34 lyp_96 fkX12_34 fl_X12_443 rfl rfl rfl dX12_laySilence_2 ?_
  refine g_aload_n K1 0 dX12_laySilence_5 rfl ?_
  refine g_lconst K1 0 dX12_laySilence_6 rfl ?_
  refine h_putL K1 q_clX12 35 lyp_96 fkX12_35 fl_X12_447 rfl rfl rfl dX12_laySilence_7 ?_
  refine g_aload_n K1 0 dX12_laySilence_10 rfl ?_
  refine g_lconst K1 0 dX12_laySilence_11 rfl ?_
  refine h_putL K1 q_clX12 36 lyp_96 fkX12_36 fl_X12_450 rfl rfl rfl dX12_laySilence_12 ?_
  refine g_aload_n K1 0 dX12_laySilence_15 rfl ?_
  obtain ⟨I1, hct, h⟩ := h
  refine h_callV K1 (st := []) [] (hct w (gl g)) q_clX12 lyp_96 rfl ok_X12_asItIs ml_X12_297 ⟨Nat.le_of_ble_eq_true rfl, Nat.le_of_ble_eq_true rfl⟩ (Nat.le_of_ble_eq_true rfl) dX12_laySilence_16 ?_
  show q_Gs w g 19 [(0, .ref 96), (1, .int x1), (2, .int x2)] [] (q_mm I1 (up2 (up2 (up2 L 96 34 0) 96 35 0) 96 36 0))
  refine g_iconst K1 0 dX12_laySilence_19 rfl ?_
  refine g_istore_n K1 dX12_laySilence_20 rfl (by decide) rfl ?_
  exact g_perm [1, 2, 3, 0] rfl (h w g K)
set_option maxRecDepth 20000 in
set_option maxHeartbeats 2000000 in
theorem vc_X12_laySilence_21 {r : Option Value} {I' : Nat → Nat → Int32} {L' : Nat → Nat → Int64} {I : Nat → Nat → Int32} {L : Nat → Nat → Int64} {x1 : Int32} {x2 : Int32} {x3 : Int32} (h : ((((2 : Int32) <<< (x2 &&& 31)) ≤ x3 → (r = none ∧ I' = I ∧ L' = L)) ∧ (¬ ((2 : Int32) <<< (x2 &&& 31)) ≤ x3 → (v_X12_laySilence_34 r I' L' I L x1 x2 x3 1 0)))) : v_X12_laySilence_21 r I' L' I L x1 x2 x3 := by
  intro w g K
  have K1 := K.1
  refine g_iload_n K1 3 dX12_laySilence_21 rfl ?_
  refine g_iconst K1 2 dX12_laySilence_22 rfl ?_
  refine g_iload_n K1 2 dX12_laySilence_23 rfl ?_
  refine g_ishl K1 dX12_laySilence_24 ?_
  refine g_icmp_ge K1 163 dX12_laySilence_25 rfl (fun hc => ?_) (fun hc => ?_)
  · replace h := h.1 hc
    obtain ⟨hr, hI, hL⟩ := h
    subst hr hI hL
    exact g_vreturn K rfl dX12_laySilence_163
  · replace h := h.2 hc
    refine g_lconst K1 1 dX12_laySilence_28 rfl ?_
    refine g_lstore K1 dX12_laySilence_29 (by decide) rfl ?_
    refine g_iconst K1 0 dX12_laySilence_31 rfl ?_
    refine g_istore K1 dX12_laySilence_32 (by decide) rfl ?_
    exact g_perm [2, 3, 4, 5, 1, 0] rfl (h w g K)
set_option maxRecDepth 20000 in
set_option maxHeartbeats 2000000 in
theorem vc_X12_laySilence_34 {r : Option Value} {I' : Nat → Nat → Int32} {L' : Nat → Nat → Int64} {I : Nat → Nat → Int32} {L : Nat → Nat → Int64} {x1 : Int32} {x2 : Int32} {x3 : Int32} {x4 : Int64} {x6 : Int32} (h : ((x2 < x6 → (((lg_cmp x4 0) = 0 → (v_X12_laySilence_21 r I' L' I L x1 x2 (x3 + 1))) ∧ (¬ (lg_cmp x4 0) = 0 → (∃ I1, q_C kX12_goAll [.ref 96] (up2 I 96 17 x3) L none I1 L ∧ (∃ r2, q_C kX12_saysOf [.ref 96, .int x1, .int (x2 + 1)] I1 (up2 L 96 34 ((L 96 34) + x4)) (some (.int r2)) I1 (up2 L 96 34 ((L 96 34) + x4)) ∧ ((r2 ≤ 0 → (v_X12_laySilence_133 r I' L' I1 (up2 L 96 34 ((L 96 34) + x4)) x1 x2 x3 x4 ((up2 L 96 34 ((L 96 34) + x4)) 96 35) 0)) ∧ (¬ r2 ≤ 0 → (v_X12_laySilence_133 r I' L' I1 (up2 L 96 34 ((L 96 34) + x4)) x1 x2 x3 x4 ((up2 L 96 34 ((L 96 34) + x4)) 96 35) x4)))))))) ∧ (¬ x2 < x6 → (∃ r3, q_C kX12_bit [.int x3, .int x6] I L (some (.int r3)) I L ∧ ((r3 = 1 → (vp_in 2 104 ∧ ∀ z5 : Int64, z5 = (x4 * ((I 97 (2 : Int32).toNatClampNeg) : Int32).toInt64) → (v_X12_laySilence_34 r I' L' I L x1 x2 x3 z5 (x6 + 1)))) ∧ (¬ r3 = 1 → (vp_in 2 104 ∧ ∀ z4 : Int64, z4 = (x4 * ((10 - (I 97 (2 : Int32).toNatClampNeg)) : Int32).toInt64) → (v_X12_laySilence_34 r I' L' I L x1 x2 x3 z4 (x6 + 1))))))))) : v_X12_laySilence_34 r I' L' I L x1 x2 x3 x4 x6 := by
  intro w g K
  have K1 := K.1
  refine g_iload K1 5 dX12_laySilence_34 rfl ?_
  refine g_iload_n K1 2 dX12_laySilence_36 rfl ?_
  refine g_icmp_gt K1 81 dX12_laySilence_37 rfl (fun hc => ?_) (fun hc => ?_)
  · replace h := h.1 hc
    refine g_lload K1 4 dX12_laySilence_81 rfl ?_
    refine g_lconst K1 0 dX12_laySilence_83 rfl ?_
    refine g_lcmp K1 dX12_laySilence_84 ?_
    refine g_if_ne K1 91 dX12_laySilence_85 rfl (fun hc => ?_) (fun hc => ?_)
    · replace h := h.2 hc
      refine g_aload_n K1 0 dX12_laySilence_91 rfl ?_
      refine g_iload_n K1 3 dX12_laySilence_92 rfl ?_
      refine h_putI K1 q_clX12 17 lyp_96 fkX12_17 fl_X12_246 rfl rfl rfl dX12_laySilence_93 ?_
      refine g_aload_n K1 0 dX12_laySilence_96 rfl ?_
      obtain ⟨I1, hct, h⟩ := h
      refine h_callV K1 (st := []) [] (hct w (gl g)) q_clX12 lyp_96 rfl ok_X12_goAll ml_X12_300 ⟨Nat.le_of_ble_eq_true rfl, Nat.le_of_ble_eq_true rfl⟩ (Nat.le_of_ble_eq_true rfl) dX12_laySilence_97 ?_
      show q_Gs w g 100 [(0, .ref 96), (1, .int x1), (2, .int x2), (3, .int x3), (4, .long x4), (6, .int x6)] [] (q_mm I1 L)
      refine g_aload_n K1 0 dX12_laySilence_100 rfl ?_
      refine g_dup K1 dX12_laySilence_101 rfl ?_
      refine h_getL K1 q_clX12 34 lyp_96 fkX12_34 fl_X12_443 dX12_laySilence_102 ?_
      refine g_lload K1 4 dX12_laySilence_105 rfl ?_
      refine g_ladd K1 dX12_laySilence_107 ?_
      refine h_putL K1 q_clX12 34 lyp_96 fkX12_34 fl_X12_443 rfl rfl rfl dX12_laySilence_108 ?_
      refine g_aload_n K1 0 dX12_laySilence_111 rfl ?_
      refine g_dup K1 dX12_laySilence_112 rfl ?_
      refine h_getL K1 q_clX12 35 lyp_96 fkX12_35 fl_X12_447 dX12_laySilence_113 ?_
      refine g_aload_n K1 0 dX12_laySilence_116 rfl ?_
      refine g_iload_n K1 1 dX12_laySilence_117 rfl ?_
      refine g_iload_n K1 2 dX12_laySilence_118 rfl ?_
      refine g_iconst K1 1 dX12_laySilence_119 rfl ?_
      refine g_iadd K1 dX12_laySilence_120 ?_
      obtain ⟨r2, hct, h⟩ := h
      refine h_callV K1 (st := [.long ((up2 L 96 34 ((L 96 34) + x4)) 96 35), .ref 96]) [.int x1, .int (x2 + 1)] (hct w (gl g)) q_clX12 lyp_96 rfl ok_X12_saysOf ml_X12_275 ⟨Nat.le_of_ble_eq_true rfl, Nat.le_of_ble_eq_true rfl⟩ (Nat.le_of_ble_eq_true rfl) dX12_laySilence_121 ?_
      show q_Gs w g 124 [(0, .ref 96), (1, .int x1), (2, .int x2), (3, .int x3), (4, .long x4), (6, .int x6)] [.int r2, .long ((up2 L 96 34 ((L 96 34) + x4)) 96 35), .ref 96] (q_mm I1 (up2 L 96 34 ((L 96 34) + x4)))
      refine g_if_le K1 132 dX12_laySilence_124 rfl (fun hc => ?_) (fun hc => ?_)
      · replace h := h.1 hc
        refine g_lconst K1 0 dX12_laySilence_132 rfl ?_
        exact g_perm [0, 1, 2, 3, 4] rfl (h w g K)
      · replace h := h.2 hc
        refine g_lload K1 4 dX12_laySilence_127 rfl ?_
        refine g_goto K1 133 dX12_laySilence_129 rfl ?_
        exact g_perm [0, 1, 2, 3, 4] rfl (h w g K)
    · replace h := h.1 hc
      refine g_goto K1 157 dX12_laySilence_88 rfl ?_
      refine g_iinc K1 (x3 + 1) 3 dX12_laySilence_157 rfl rfl (by decide) rfl ?_
      refine g_goto K1 21 dX12_laySilence_160 rfl ?_
      exact g_perm [1, 2, 3, 0] rfl (h w g K)
  · replace h := h.2 hc
    refine g_lload K1 4 dX12_laySilence_40 rfl ?_
    refine g_iload_n K1 3 dX12_laySilence_42 rfl ?_
    refine g_iload K1 5 dX12_laySilence_43 rfl ?_
    obtain ⟨r3, hct, h⟩ := h
    refine h_callS K1 (st := [.long x4]) [.int x3, .int x6] (hct w (gl g)) ok_X12_bit ml_X12_237 ⟨Nat.le_of_ble_eq_true rfl, Nat.le_of_ble_eq_true rfl⟩ (Nat.le_of_ble_eq_true rfl) dX12_laySilence_45 ?_
    show q_Gs w g 48 [(0, .ref 96), (1, .int x1), (2, .int x2), (3, .int x3), (4, .long x4), (6, .int x6)] [.int r3, .long x4] (q_mm I L)
    refine g_iconst K1 1 dX12_laySilence_48 rfl ?_
    refine g_icmp_ne K1 62 dX12_laySilence_49 rfl (fun hc => ?_) (fun hc => ?_)
    · replace h := h.2 hc
      refine g_bipush K1 10 dX12_laySilence_62 rfl ?_
      refine g_aload_n K1 0 dX12_laySilence_64 rfl ?_
      refine h_getO K1 q_clX12 1 97 lyp_96 fkX12_1 rfl fl_X12_9 dX12_laySilence_65 ?_
      refine g_iconst K1 2 dX12_laySilence_68 rfl ?_
      obtain ⟨hg, h⟩ := h
      refine h_iaload K1 lyp_97 hg dX12_laySilence_69 ?_
      refine g_isub K1 dX12_laySilence_70 ?_
      refine g_i2l K1 dX12_laySilence_71 ?_
      refine g_lmul K1 dX12_laySilence_72 ?_
      refine g_nameL (fun z4 hz4 => ?_)
      replace h := h z4 hz4
      refine g_lstore K1 dX12_laySilence_73 (by decide) rfl ?_
      refine g_iinc K1 (x6 + 1) 5 dX12_laySilence_75 rfl rfl (by decide) rfl ?_
      refine g_goto K1 34 dX12_laySilence_78 rfl ?_
      exact g_perm [2, 3, 4, 5, 1, 0] rfl (h w g K)
    · replace h := h.1 hc
      refine g_aload_n K1 0 dX12_laySilence_52 rfl ?_
      refine h_getO K1 q_clX12 1 97 lyp_96 fkX12_1 rfl fl_X12_9 dX12_laySilence_53 ?_
      refine g_iconst K1 2 dX12_laySilence_56 rfl ?_
      obtain ⟨hg, h⟩ := h
      refine h_iaload K1 lyp_97 hg dX12_laySilence_57 ?_
      refine g_i2l K1 dX12_laySilence_58 ?_
      refine g_goto K1 72 dX12_laySilence_59 rfl ?_
      refine g_lmul K1 dX12_laySilence_72 ?_
      refine g_nameL (fun z5 hz5 => ?_)
      replace h := h z5 hz5
      refine g_lstore K1 dX12_laySilence_73 (by decide) rfl ?_
      refine g_iinc K1 (x6 + 1) 5 dX12_laySilence_75 rfl rfl (by decide) rfl ?_
      refine g_goto K1 34 dX12_laySilence_78 rfl ?_
      exact g_perm [2, 3, 4, 5, 1, 0] rfl (h w g K)
set_option maxRecDepth 20000 in
set_option maxHeartbeats 2000000 in
theorem vc_X12_laySilence_133 {r : Option Value} {I' : Nat → Nat → Int32} {L' : Nat → Nat → Int64} {I : Nat → Nat → Int32} {L : Nat → Nat → Int64} {x1 : Int32} {x2 : Int32} {x3 : Int32} {x4 : Int64} {s1 : Int64} {s2 : Int64} (h : (∃ r1, q_C kX12_wordsAt [.ref 96, .int (x2 + 1)] I (up2 L 96 35 (s1 + s2)) (some (.int r1)) I (up2 L 96 35 (s1 + s2)) ∧ ∀ L2, L2 = (up2 (up2 L 96 35 (s1 + s2)) 96 36 (((up2 L 96 35 (s1 + s2)) 96 36) + (x4 * r1.toInt64))) → (v_X12_laySilence_21 r I' L' I L2 x1 x2 (x3 + 1)))) : v_X12_laySilence_133 r I' L' I L x1 x2 x3 x4 s1 s2 := by
  intro w g K
  have K1 := K.1
  refine g_ladd K1 dX12_laySilence_133 ?_
  refine h_putL K1 q_clX12 35 lyp_96 fkX12_35 fl_X12_447 rfl rfl rfl dX12_laySilence_134 ?_
  refine g_aload_n K1 0 dX12_laySilence_137 rfl ?_
  refine g_dup K1 dX12_laySilence_138 rfl ?_
  refine h_getL K1 q_clX12 36 lyp_96 fkX12_36 fl_X12_450 dX12_laySilence_139 ?_
  refine g_lload K1 4 dX12_laySilence_142 rfl ?_
  refine g_aload_n K1 0 dX12_laySilence_144 rfl ?_
  refine g_iload_n K1 2 dX12_laySilence_145 rfl ?_
  refine g_iconst K1 1 dX12_laySilence_146 rfl ?_
  refine g_iadd K1 dX12_laySilence_147 ?_
  obtain ⟨r1, hct, h⟩ := h
  refine h_callV K1 (st := [.long x4, .long ((up2 L 96 35 (s1 + s2)) 96 36), .ref 96]) [.int (x2 + 1)] (hct w (gl g)) q_clX12 lyp_96 rfl ok_X12_wordsAt ml_X12_337 ⟨Nat.le_of_ble_eq_true rfl, Nat.le_of_ble_eq_true rfl⟩ (Nat.le_of_ble_eq_true rfl) dX12_laySilence_148 ?_
  show q_Gs w g 151 [(0, .ref 96), (1, .int x1), (2, .int x2), (3, .int x3), (4, .long x4)] [.int r1, .long x4, .long ((up2 L 96 35 (s1 + s2)) 96 36), .ref 96] (q_mm I (up2 L 96 35 (s1 + s2)))
  refine g_i2l K1 dX12_laySilence_151 ?_
  refine g_lmul K1 dX12_laySilence_152 ?_
  refine g_ladd K1 dX12_laySilence_153 ?_
  refine h_putL K1 q_clX12 36 lyp_96 fkX12_36 fl_X12_450 rfl rfl rfl dX12_laySilence_154 ?_
  refine g_nameML (fun L2 hL2 => ?_)
  replace h := h L2 hL2
  refine g_iinc K1 (x3 + 1) 3 dX12_laySilence_157 rfl rfl (by decide) rfl ?_
  refine g_goto K1 21 dX12_laySilence_160 rfl ?_
  exact g_perm [1, 2, 3, 0] rfl (h w g K)
theorem c0_X12_laySilence {r : Option Value} {I I' : Nat → Nat → Int32} {L L' : Nat → Nat → Int64} {x1 : Int32} {x2 : Int32} (h : v_X12_laySilence_0 r I' L' I L x1 x2) : q_C kX12_laySilence [.ref 96, .int x1, .int x2] I L r I' L' := fun w l => q_ct (by decide) (Nat.le_of_ble_eq_true rfl) (Nat.le_refl _) (fun g _ K => h w g K)
abbrev v_X12_leaves_0 (r : Option Value) (I' : Nat → Nat → Int32) (L' : Nat → Nat → Int64) (I : Nat → Nat → Int32) (L : Nat → Nat → Int64) (x1 : Int32) : Prop := q_W kX12_leaves 0 [(0, .ref 96), (1, .int x1)] [] I L r I' L'
set_option maxRecDepth 20000 in
set_option maxHeartbeats 2000000 in
theorem vc_X12_leaves_0 {r : Option Value} {I' : Nat → Nat → Int32} {L' : Nat → Nat → Int64} {I : Nat → Nat → Int32} {L : Nat → Nat → Int64} {x1 : Int32} (h : (∃ r1 I2, q_C kX12_askWhom [.ref 96, .int x1] I L (some (.int r1)) I2 L ∧ ((0 ≤ r1 → (∃ r3 I4, q_C kX12_whomOf [.ref 96, .int x1] I2 L (some (.int r3)) I4 L ∧ (∃ r5 I6, q_C kX12_askOf [.ref 96, .int r3] I4 L (some (.int r5)) I6 L ∧ (r = some (.int (I6 96 33)) ∧ I' = I6 ∧ L' = L)))) ∧ (¬ 0 ≤ r1 → (r = some (.int r1) ∧ I' = I2 ∧ L' = L))))) : v_X12_leaves_0 r I' L' I L x1 := by
  intro w g K
  have K1 := K.1
  refine g_aload_n K1 0 dX12_leaves_0 rfl ?_
  refine g_iload_n K1 1 dX12_leaves_1 rfl ?_
  obtain ⟨r1, I2, hct, h⟩ := h
  refine h_callV K1 (st := []) [.int x1] (hct w (gl g)) q_clX12 lyp_96 rfl ok_X12_askWhom ml_X12_407 ⟨Nat.le_of_ble_eq_true rfl, Nat.le_of_ble_eq_true rfl⟩ (Nat.le_of_ble_eq_true rfl) dX12_leaves_2 ?_
  show q_Gs w g 5 [(0, .ref 96), (1, .int x1)] [.int r1] (q_mm I2 L)
  refine g_istore_n K1 dX12_leaves_5 rfl (by decide) rfl ?_
  refine g_iload_n K1 0 dX12_leaves_6 rfl ?_
  refine g_if_ge K1 12 dX12_leaves_7 rfl (fun hc => ?_) (fun hc => ?_)
  · replace h := h.1 hc
    refine g_aload_n K1 1 dX12_leaves_12 rfl ?_
    refine g_aload_n K1 1 dX12_leaves_13 rfl ?_
    refine g_iload_n K1 2 dX12_leaves_14 rfl ?_
    obtain ⟨r3, I4, hct, h⟩ := h
    refine h_callV K1 (st := [.ref 96]) [.int x1] (hct w (gl g)) q_clX12 lyp_96 rfl ok_X12_whomOf ml_X12_410 ⟨Nat.le_of_ble_eq_true rfl, Nat.le_of_ble_eq_true rfl⟩ (Nat.le_of_ble_eq_true rfl) dX12_leaves_15 ?_
    show q_Gs w g 18 [(2, .int r1), (0, .ref 96), (1, .int x1)] [.int r3, .ref 96] (q_mm I4 L)
    obtain ⟨r5, I6, hct, h⟩ := h
    refine h_callV K1 (st := []) [.int r3] (hct w (gl g)) q_clX12 lyp_96 rfl ok_X12_askOf ml_X12_419 ⟨Nat.le_of_ble_eq_true rfl, Nat.le_of_ble_eq_true rfl⟩ (Nat.le_of_ble_eq_true rfl) dX12_leaves_18 ?_
    show q_Gs w g 21 [(2, .int r1), (0, .ref 96), (1, .int x1)] [.int r5] (q_mm I6 L)
    refine g_pop K1 dX12_leaves_21 rfl ?_
    refine g_aload_n K1 1 dX12_leaves_22 rfl ?_
    refine h_getI K1 q_clX12 33 lyp_96 fkX12_33 fl_X12_413 dX12_leaves_23 ?_
    obtain ⟨hr, hI, hL⟩ := h
    subst hr hI hL
    exact g_ireturn K rfl dX12_leaves_26
  · replace h := h.2 hc
    refine g_iload_n K1 0 dX12_leaves_10 rfl ?_
    obtain ⟨hr, hI, hL⟩ := h
    subst hr hI hL
    exact g_ireturn K rfl dX12_leaves_11
theorem c0_X12_leaves {r : Option Value} {I I' : Nat → Nat → Int32} {L L' : Nat → Nat → Int64} {x1 : Int32} (h : v_X12_leaves_0 r I' L' I L x1) : q_C kX12_leaves [.ref 96, .int x1] I L r I' L' := fun w l => q_ct (by decide) (Nat.le_of_ble_eq_true rfl) (Nat.le_refl _) (fun g _ K => h w g K)
abbrev v_X12_letter_0 (r : Option Value) (I' : Nat → Nat → Int32) (L' : Nat → Nat → Int64) (I : Nat → Nat → Int32) (L : Nat → Nat → Int64) (x1 : Int32) (x2 : Int32) (x3 : Int32) (x4 : Int32) : Prop := q_W kX12_letter 0 [(0, .ref 96), (1, .int x1), (2, .int x2), (3, .int x3), (4, .int x4)] [] I L r I' L'
set_option maxRecDepth 20000 in
set_option maxHeartbeats 2000000 in
theorem vc_X12_letter_0 {r : Option Value} {I' : Nat → Nat → Int32} {L' : Nat → Nat → Int64} {I : Nat → Nat → Int32} {L : Nat → Nat → Int64} {x1 : Int32} {x2 : Int32} {x3 : Int32} {x4 : Int32} (h : ((0 ≤ x4 → (∃ r1 I2, q_C kX12_askFirst [.ref 96, .int x1, .int x2, .int x3] I L (some (.int r1)) I2 L ∧ ((0 ≤ r1 → (∃ r3, q_C kX12_letterOrNone [.int (I2 96 29), .int x4] I2 L (some (.int r3)) I2 L ∧ (r = some (.int r3) ∧ I' = I2 ∧ L' = L))) ∧ (¬ 0 ≤ r1 → (r = some (.int r1) ∧ I' = I2 ∧ L' = L))))) ∧ (¬ 0 ≤ x4 → (((0 : Int32) ≤ (-2 : Int32) → (∃ r4, q_C kX12_letterOrNone [.int (I 96 29), .int x4] I L (some (.int r4)) I L ∧ (r = some (.int r4) ∧ I' = I ∧ L' = L))) ∧ (¬ (0 : Int32) ≤ (-2 : Int32) → (r = some (.int (-2)) ∧ I' = I ∧ L' = L)))))) : v_X12_letter_0 r I' L' I L x1 x2 x3 x4 := by
  intro w g K
  have K1 := K.1
  refine g_iload K1 4 dX12_letter_0 rfl ?_
  refine g_if_ge K1 10 dX12_letter_2 rfl (fun hc => ?_) (fun hc => ?_)
  · replace h := h.1 hc
    refine g_aload_n K1 0 dX12_letter_10 rfl ?_
    refine g_iload_n K1 1 dX12_letter_11 rfl ?_
    refine g_iload_n K1 2 dX12_letter_12 rfl ?_
    refine g_iload_n K1 3 dX12_letter_13 rfl ?_
    obtain ⟨r1, I2, hct, h⟩ := h
    refine h_callV K1 (st := []) [.int x1, .int x2, .int x3] (hct w (gl g)) q_clX12 lyp_96 rfl ok_X12_askFirst ml_X12_374 ⟨Nat.le_of_ble_eq_true rfl, Nat.le_of_ble_eq_true rfl⟩ (Nat.le_of_ble_eq_true rfl) dX12_letter_14 ?_
    show q_Gs w g 17 [(0, .ref 96), (1, .int x1), (2, .int x2), (3, .int x3), (4, .int x4)] [.int r1] (q_mm I2 L)
    refine g_istore K1 dX12_letter_17 (by decide) rfl ?_
    refine g_iload K1 0 dX12_letter_19 rfl ?_
    refine g_if_ge K1 29 dX12_letter_21 rfl (fun hc => ?_) (fun hc => ?_)
    · replace h := h.1 hc
      refine g_aload_n K1 1 dX12_letter_29 rfl ?_
      refine h_getI K1 q_clX12 29 lyp_96 fkX12_29 fl_X12_362 dX12_letter_30 ?_
      refine g_iload K1 5 dX12_letter_33 rfl ?_
      obtain ⟨r3, hct, h⟩ := h
      refine h_callS K1 (st := []) [.int (I2 96 29), .int x4] (hct w (gl g)) ok_X12_letterOrNone ml_X12_231 ⟨Nat.le_of_ble_eq_true rfl, Nat.le_of_ble_eq_true rfl⟩ (Nat.le_of_ble_eq_true rfl) dX12_letter_35 ?_
      show q_Gs w g 38 [(5, .int r1), (0, .ref 96), (1, .int x1), (2, .int x2), (3, .int x3), (4, .int x4)] [.int r3] (q_mm I2 L)
      obtain ⟨hr, hI, hL⟩ := h
      subst hr hI hL
      exact g_ireturn K rfl dX12_letter_38
    · replace h := h.2 hc
      refine g_iload K1 0 dX12_letter_24 rfl ?_
      refine g_goto K1 38 dX12_letter_26 rfl ?_
      obtain ⟨hr, hI, hL⟩ := h
      subst hr hI hL
      exact g_ireturn K rfl dX12_letter_38
  · replace h := h.2 hc
    refine g_bipush K1 (-2) dX12_letter_5 rfl ?_
    refine g_goto K1 17 dX12_letter_7 rfl ?_
    refine g_istore K1 dX12_letter_17 (by decide) rfl ?_
    refine g_iload K1 0 dX12_letter_19 rfl ?_
    refine g_if_ge K1 29 dX12_letter_21 rfl (fun hc => ?_) (fun hc => ?_)
    · replace h := h.1 hc
      refine g_aload_n K1 1 dX12_letter_29 rfl ?_
      refine h_getI K1 q_clX12 29 lyp_96 fkX12_29 fl_X12_362 dX12_letter_30 ?_
      refine g_iload K1 5 dX12_letter_33 rfl ?_
      obtain ⟨r4, hct, h⟩ := h
      refine h_callS K1 (st := []) [.int (I 96 29), .int x4] (hct w (gl g)) ok_X12_letterOrNone ml_X12_231 ⟨Nat.le_of_ble_eq_true rfl, Nat.le_of_ble_eq_true rfl⟩ (Nat.le_of_ble_eq_true rfl) dX12_letter_35 ?_
      show q_Gs w g 38 [(5, .int (-2)), (0, .ref 96), (1, .int x1), (2, .int x2), (3, .int x3), (4, .int x4)] [.int r4] (q_mm I L)
      obtain ⟨hr, hI, hL⟩ := h
      subst hr hI hL
      exact g_ireturn K rfl dX12_letter_38
    · replace h := h.2 hc
      refine g_iload K1 0 dX12_letter_24 rfl ?_
      refine g_goto K1 38 dX12_letter_26 rfl ?_
      obtain ⟨hr, hI, hL⟩ := h
      subst hr hI hL
      exact g_ireturn K rfl dX12_letter_38
theorem c0_X12_letter {r : Option Value} {I I' : Nat → Nat → Int32} {L L' : Nat → Nat → Int64} {x1 : Int32} {x2 : Int32} {x3 : Int32} {x4 : Int32} (h : v_X12_letter_0 r I' L' I L x1 x2 x3 x4) : q_C kX12_letter [.ref 96, .int x1, .int x2, .int x3, .int x4] I L r I' L' := fun w l => q_ct (by decide) (Nat.le_of_ble_eq_true rfl) (Nat.le_refl _) (fun g _ K => h w g K)
abbrev v_X12_letterOf_0 (r : Option Value) (I' : Nat → Nat → Int32) (L' : Nat → Nat → Int64) (I : Nat → Nat → Int32) (L : Nat → Nat → Int64) (x0 : Int32) (x1 : Int32) : Prop := q_W kX12_letterOf 0 [(0, .int x0), (1, .int x1)] [] I L r I' L'
abbrev v_X12_letterOf_9 (r : Option Value) (I' : Nat → Nat → Int32) (L' : Nat → Nat → Int64) (I : Nat → Nat → Int32) (L : Nat → Nat → Int64) (x1 : Int32) (x2 : Int32) (x3 : Int32) : Prop := q_W kX12_letterOf 9 [(1, .int x1), (2, .int x2), (3, .int x3)] [] I L r I' L'
set_option maxRecDepth 20000 in
set_option maxHeartbeats 2000000 in
theorem vc_X12_letterOf_0 {r : Option Value} {I' : Nat → Nat → Int32} {L' : Nat → Nat → Int64} {I : Nat → Nat → Int32} {L : Nat → Nat → Int64} {x0 : Int32} {x1 : Int32} (h : (∃ r1, q_C kX12_longOf [.int x0] I L (some (.int r1)) I L ∧ (v_X12_letterOf_9 r I' L' I L x1 x0 (r1 - 1)))) : v_X12_letterOf_0 r I' L' I L x0 x1 := by
  intro w g K
  have K1 := K.1
  refine g_iload_n K1 0 dX12_letterOf_0 rfl ?_
  refine g_istore_n K1 dX12_letterOf_1 rfl (by decide) rfl ?_
  refine g_iload_n K1 1 dX12_letterOf_2 rfl ?_
  obtain ⟨r1, hct, h⟩ := h
  refine h_callS K1 (st := []) [.int x0] (hct w (gl g)) ok_X12_longOf ml_X12_225 ⟨Nat.le_of_ble_eq_true rfl, Nat.le_of_ble_eq_true rfl⟩ (Nat.le_of_ble_eq_true rfl) dX12_letterOf_3 ?_
  show q_Gs w g 6 [(2, .int x0), (0, .int x0), (1, .int x1)] [.int r1] (q_mm I L)
  refine g_iconst K1 1 dX12_letterOf_6 rfl ?_
  refine g_isub K1 dX12_letterOf_7 ?_
  refine g_istore_n K1 dX12_letterOf_8 rfl (by decide) rfl ?_
  exact g_perm [3, 1, 0] rfl (h w g K)
set_option maxRecDepth 20000 in
set_option maxHeartbeats 2000000 in
theorem vc_X12_letterOf_9 {r : Option Value} {I' : Nat → Nat → Int32} {L' : Nat → Nat → Int64} {I : Nat → Nat → Int32} {L : Nat → Nat → Int64} {x1 : Int32} {x2 : Int32} {x3 : Int32} (h : ((x3 ≤ x1 → (r = some (.int (x2 - x2 / 5 * 5)) ∧ I' = I ∧ L' = L)) ∧ (¬ x3 ≤ x1 → (v_X12_letterOf_9 r I' L' I L x1 (x2 / 5) (x3 + (-1)))))) : v_X12_letterOf_9 r I' L' I L x1 x2 x3 := by
  intro w g K
  have K1 := K.1
  refine g_iload_n K1 2 dX12_letterOf_9 rfl ?_
  refine g_iload_n K1 0 dX12_letterOf_10 rfl ?_
  refine g_icmp_le K1 24 dX12_letterOf_11 rfl (fun hc => ?_) (fun hc => ?_)
  · replace h := h.1 hc
    refine g_iload_n K1 1 dX12_letterOf_24 rfl ?_
    refine g_iconst K1 5 dX12_letterOf_25 rfl ?_
    refine g_irem K1 dX12_letterOf_26 (by decide) ?_
    obtain ⟨hr, hI, hL⟩ := h
    subst hr hI hL
    exact g_ireturn K rfl dX12_letterOf_27
  · replace h := h.2 hc
    refine g_iload_n K1 1 dX12_letterOf_14 rfl ?_
    refine g_iconst K1 5 dX12_letterOf_15 rfl ?_
    refine g_idiv K1 dX12_letterOf_16 (by decide) ?_
    refine g_istore_n K1 dX12_letterOf_17 rfl (by decide) rfl ?_
    refine g_iinc K1 (x3 + (-1)) 2 dX12_letterOf_18 rfl rfl (by decide) rfl ?_
    refine g_goto K1 9 dX12_letterOf_21 rfl ?_
    exact g_perm [2, 1, 0] rfl (h w g K)
theorem c0_X12_letterOf {r : Option Value} {I I' : Nat → Nat → Int32} {L L' : Nat → Nat → Int64} {x0 : Int32} {x1 : Int32} (h : v_X12_letterOf_0 r I' L' I L x0 x1) : q_C kX12_letterOf [.int x0, .int x1] I L r I' L' := fun w l => q_ct (by decide) (Nat.le_of_ble_eq_true rfl) (Nat.le_refl _) (fun g _ K => h w g K)
abbrev v_X12_letterOrNone_0 (r : Option Value) (I' : Nat → Nat → Int32) (L' : Nat → Nat → Int64) (I : Nat → Nat → Int32) (L : Nat → Nat → Int64) (x0 : Int32) (x1 : Int32) : Prop := q_W kX12_letterOrNone 0 [(0, .int x0), (1, .int x1)] [] I L r I' L'
set_option maxRecDepth 20000 in
set_option maxHeartbeats 2000000 in
theorem vc_X12_letterOrNone_0 {r : Option Value} {I' : Nat → Nat → Int32} {L' : Nat → Nat → Int64} {I : Nat → Nat → Int32} {L : Nat → Nat → Int64} {x0 : Int32} {x1 : Int32} (h : (∃ r1, q_C kX12_longOf [.int x0] I L (some (.int r1)) I L ∧ ((r1 ≤ x1 → (r = some (.int (-1)) ∧ I' = I ∧ L' = L)) ∧ (¬ r1 ≤ x1 → (∃ r2, q_C kX12_letterOf [.int x0, .int x1] I L (some (.int r2)) I L ∧ (r = some (.int r2) ∧ I' = I ∧ L' = L)))))) : v_X12_letterOrNone_0 r I' L' I L x0 x1 := by
  intro w g K
  have K1 := K.1
  refine g_iload_n K1 1 dX12_letterOrNone_0 rfl ?_
  refine g_iload_n K1 0 dX12_letterOrNone_1 rfl ?_
  obtain ⟨r1, hct, h⟩ := h
  refine h_callS K1 (st := [.int x1]) [.int x0] (hct w (gl g)) ok_X12_longOf ml_X12_225 ⟨Nat.le_of_ble_eq_true rfl, Nat.le_of_ble_eq_true rfl⟩ (Nat.le_of_ble_eq_true rfl) dX12_letterOrNone_2 ?_
  show q_Gs w g 5 [(0, .int x0), (1, .int x1)] [.int r1, .int x1] (q_mm I L)
  refine g_icmp_ge K1 16 dX12_letterOrNone_5 rfl (fun hc => ?_) (fun hc => ?_)
  · replace h := h.1 hc
    refine g_iconst K1 (-1) dX12_letterOrNone_16 rfl ?_
    obtain ⟨hr, hI, hL⟩ := h
    subst hr hI hL
    exact g_ireturn K rfl dX12_letterOrNone_17
  · replace h := h.2 hc
    refine g_iload_n K1 0 dX12_letterOrNone_8 rfl ?_
    refine g_iload_n K1 1 dX12_letterOrNone_9 rfl ?_
    obtain ⟨r2, hct, h⟩ := h
    refine h_callS K1 (st := []) [.int x0, .int x1] (hct w (gl g)) ok_X12_letterOf ml_X12_228 ⟨Nat.le_of_ble_eq_true rfl, Nat.le_of_ble_eq_true rfl⟩ (Nat.le_of_ble_eq_true rfl) dX12_letterOrNone_10 ?_
    show q_Gs w g 13 [(0, .int x0), (1, .int x1)] [.int r2] (q_mm I L)
    refine g_goto K1 17 dX12_letterOrNone_13 rfl ?_
    obtain ⟨hr, hI, hL⟩ := h
    subst hr hI hL
    exact g_ireturn K rfl dX12_letterOrNone_17
theorem c0_X12_letterOrNone {r : Option Value} {I I' : Nat → Nat → Int32} {L L' : Nat → Nat → Int64} {x0 : Int32} {x1 : Int32} (h : v_X12_letterOrNone_0 r I' L' I L x0 x1) : q_C kX12_letterOrNone [.int x0, .int x1] I L r I' L' := fun w l => q_ct (by decide) (Nat.le_of_ble_eq_true rfl) (Nat.le_refl _) (fun g _ K => h w g K)
abbrev v_X12_letters_0 (r : Option Value) (I' : Nat → Nat → Int32) (L' : Nat → Nat → Int64) (I : Nat → Nat → Int32) (L : Nat → Nat → Int64) (x1 : Int32) (x2 : Int32) : Prop := q_W kX12_letters 0 [(0, .ref 96), (1, .int x1), (2, .int x2)] [] I L r I' L'
set_option maxRecDepth 20000 in
set_option maxHeartbeats 2000000 in
theorem vc_X12_letters_0 {r : Option Value} {I' : Nat → Nat → Int32} {L' : Nat → Nat → Int64} {I : Nat → Nat → Int32} {L : Nat → Nat → Int64} {x1 : Int32} {x2 : Int32} (h : (∃ r1 I2, q_C kX12_asksHour [.ref 96, .int x2] I L (some (.int r1)) I2 L ∧ ((r1 = 0 → (r = some (.int (-2)) ∧ I' = I2 ∧ L' = L)) ∧ (¬ r1 = 0 → (∃ r3, q_C kX12_isPew [.ref 96, .long x1.toInt64] I2 L (some (.int r3)) I2 L ∧ ((r3 = 0 → (r = some (.int (-2)) ∧ I' = I2 ∧ L' = L)) ∧ (¬ r3 = 0 → (∃ r4, q_C kX12_saysOf [.ref 96, .int x1, .int x2] I2 L (some (.int r4)) I2 L ∧ (∃ r5, q_C kX12_longOf [.int r4] I2 L (some (.int r5)) I2 L ∧ (r = some (.int r5) ∧ I' = I2 ∧ L' = L)))))))))) : v_X12_letters_0 r I' L' I L x1 x2 := by
  intro w g K
  have K1 := K.1
  refine g_aload_n K1 0 dX12_letters_0 rfl ?_
  refine g_iload_n K1 2 dX12_letters_1 rfl ?_
  obtain ⟨r1, I2, hct, h⟩ := h
  refine h_callV K1 (st := []) [.int x2] (hct w (gl g)) q_clX12 lyp_96 rfl ok_X12_asksHour ml_X12_318 ⟨Nat.le_of_ble_eq_true rfl, Nat.le_of_ble_eq_true rfl⟩ (Nat.le_of_ble_eq_true rfl) dX12_letters_2 ?_
  show q_Gs w g 5 [(0, .ref 96), (1, .int x1), (2, .int x2)] [.int r1] (q_mm I2 L)
  refine g_if_eq K1 29 dX12_letters_5 rfl (fun hc => ?_) (fun hc => ?_)
  · replace h := h.1 hc
    refine g_bipush K1 (-2) dX12_letters_29 rfl ?_
    obtain ⟨hr, hI, hL⟩ := h
    subst hr hI hL
    exact g_ireturn K rfl dX12_letters_31
  · replace h := h.2 hc
    refine g_aload_n K1 0 dX12_letters_8 rfl ?_
    refine g_iload_n K1 1 dX12_letters_9 rfl ?_
    refine g_i2l K1 dX12_letters_10 ?_
    obtain ⟨r3, hct, h⟩ := h
    refine h_callV K1 (st := []) [.long x1.toInt64] (hct w (gl g)) q_clX12 lyp_96 rfl ok_X12_isPew ml_X12_218 ⟨Nat.le_of_ble_eq_true rfl, Nat.le_of_ble_eq_true rfl⟩ (Nat.le_of_ble_eq_true rfl) dX12_letters_11 ?_
    show q_Gs w g 14 [(0, .ref 96), (1, .int x1), (2, .int x2)] [.int r3] (q_mm I2 L)
    refine g_if_eq K1 29 dX12_letters_14 rfl (fun hc => ?_) (fun hc => ?_)
    · replace h := h.1 hc
      refine g_bipush K1 (-2) dX12_letters_29 rfl ?_
      obtain ⟨hr, hI, hL⟩ := h
      subst hr hI hL
      exact g_ireturn K rfl dX12_letters_31
    · replace h := h.2 hc
      refine g_aload_n K1 0 dX12_letters_17 rfl ?_
      refine g_iload_n K1 1 dX12_letters_18 rfl ?_
      refine g_iload_n K1 2 dX12_letters_19 rfl ?_
      obtain ⟨r4, hct, h⟩ := h
      refine h_callV K1 (st := []) [.int x1, .int x2] (hct w (gl g)) q_clX12 lyp_96 rfl ok_X12_saysOf ml_X12_275 ⟨Nat.le_of_ble_eq_true rfl, Nat.le_of_ble_eq_true rfl⟩ (Nat.le_of_ble_eq_true rfl) dX12_letters_20 ?_
      show q_Gs w g 23 [(0, .ref 96), (1, .int x1), (2, .int x2)] [.int r4] (q_mm I2 L)
      obtain ⟨r5, hct, h⟩ := h
      refine h_callS K1 (st := []) [.int r4] (hct w (gl g)) ok_X12_longOf ml_X12_225 ⟨Nat.le_of_ble_eq_true rfl, Nat.le_of_ble_eq_true rfl⟩ (Nat.le_of_ble_eq_true rfl) dX12_letters_23 ?_
      show q_Gs w g 26 [(0, .ref 96), (1, .int x1), (2, .int x2)] [.int r5] (q_mm I2 L)
      refine g_goto K1 31 dX12_letters_26 rfl ?_
      obtain ⟨hr, hI, hL⟩ := h
      subst hr hI hL
      exact g_ireturn K rfl dX12_letters_31
theorem c0_X12_letters {r : Option Value} {I I' : Nat → Nat → Int32} {L L' : Nat → Nat → Int64} {x1 : Int32} {x2 : Int32} (h : v_X12_letters_0 r I' L' I L x1 x2) : q_C kX12_letters [.ref 96, .int x1, .int x2] I L r I' L' := fun w l => q_ct (by decide) (Nat.le_of_ble_eq_true rfl) (Nat.le_refl _) (fun g _ K => h w g K)
abbrev v_X12_light_0 (r : Option Value) (I' : Nat → Nat → Int32) (L' : Nat → Nat → Int64) (I : Nat → Nat → Int32) (L : Nat → Nat → Int64) (x1 : Int32) (x2 : Int32) (x3 : Int32) : Prop := q_W kX12_light 0 [(0, .ref 96), (1, .int x1), (2, .int x2), (3, .int x3)] [] I L r I' L'
set_option maxRecDepth 20000 in
set_option maxHeartbeats 2000000 in
theorem vc_X12_light_0 {r : Option Value} {I' : Nat → Nat → Int32} {L' : Nat → Nat → Int64} {I : Nat → Nat → Int32} {L : Nat → Nat → Int64} {x1 : Int32} {x2 : Int32} {x3 : Int32} (h : (∃ r1, q_C kX12_isPew [.ref 96, .long x1.toInt64] I L (some (.int r1)) I L ∧ ((r1 = 0 → (r = some (.int (-2)) ∧ I' = I ∧ L' = L)) ∧ (¬ r1 = 0 → (∃ r2, q_C kX12_in [.long x2.toInt64, .long 1, .long 4] I L (some (.int r2)) I L ∧ ((r2 = 0 → (r = some (.int (-2)) ∧ I' = I ∧ L' = L)) ∧ (¬ r2 = 0 → (∃ r3, q_C kX12_isHour [.ref 96, .long x3.toInt64] I L (some (.int r3)) I L ∧ ((r3 = 0 → (r = some (.int (-2)) ∧ I' = I ∧ L' = L)) ∧ (¬ r3 = 0 → (∃ r4 I5, q_C kX12_keepAct [.ref 96, .int (((10000 * x2) + (100 * x1)) + x3)] I L (some (.int r4)) I5 L ∧ (r = some (.int r4) ∧ I' = I5 ∧ L' = L)))))))))))) : v_X12_light_0 r I' L' I L x1 x2 x3 := by
  intro w g K
  have K1 := K.1
  refine g_aload_n K1 0 dX12_light_0 rfl ?_
  refine g_iload_n K1 1 dX12_light_1 rfl ?_
  refine g_i2l K1 dX12_light_2 ?_
  obtain ⟨r1, hct, h⟩ := h
  refine h_callV K1 (st := []) [.long x1.toInt64] (hct w (gl g)) q_clX12 lyp_96 rfl ok_X12_isPew ml_X12_218 ⟨Nat.le_of_ble_eq_true rfl, Nat.le_of_ble_eq_true rfl⟩ (Nat.le_of_ble_eq_true rfl) dX12_light_3 ?_
  show q_Gs w g 6 [(0, .ref 96), (1, .int x1), (2, .int x2), (3, .int x3)] [.int r1] (q_mm I L)
  refine g_if_eq K1 49 dX12_light_6 rfl (fun hc => ?_) (fun hc => ?_)
  · replace h := h.1 hc
    refine g_bipush K1 (-2) dX12_light_49 rfl ?_
    obtain ⟨hr, hI, hL⟩ := h
    subst hr hI hL
    exact g_ireturn K rfl dX12_light_51
  · replace h := h.2 hc
    refine g_iload_n K1 2 dX12_light_9 rfl ?_
    refine g_i2l K1 dX12_light_10 ?_
    refine g_lconst K1 1 dX12_light_11 rfl ?_
    refine g_ldc2_w K1 4 dX12_light_12 cn_X12_183 ?_
    obtain ⟨r2, hct, h⟩ := h
    refine h_callS K1 (st := []) [.long x2.toInt64, .long 1, .long 4] (hct w (gl g)) ok_X12_in ml_X12_70 ⟨Nat.le_of_ble_eq_true rfl, Nat.le_of_ble_eq_true rfl⟩ (Nat.le_of_ble_eq_true rfl) dX12_light_15 ?_
    show q_Gs w g 18 [(0, .ref 96), (1, .int x1), (2, .int x2), (3, .int x3)] [.int r2] (q_mm I L)
    refine g_if_eq K1 49 dX12_light_18 rfl (fun hc => ?_) (fun hc => ?_)
    · replace h := h.1 hc
      refine g_bipush K1 (-2) dX12_light_49 rfl ?_
      obtain ⟨hr, hI, hL⟩ := h
      subst hr hI hL
      exact g_ireturn K rfl dX12_light_51
    · replace h := h.2 hc
      refine g_aload_n K1 0 dX12_light_21 rfl ?_
      refine g_iload_n K1 3 dX12_light_22 rfl ?_
      refine g_i2l K1 dX12_light_23 ?_
      obtain ⟨r3, hct, h⟩ := h
      refine h_callV K1 (st := []) [.long x3.toInt64] (hct w (gl g)) q_clX12 lyp_96 rfl ok_X12_isHour ml_X12_306 ⟨Nat.le_of_ble_eq_true rfl, Nat.le_of_ble_eq_true rfl⟩ (Nat.le_of_ble_eq_true rfl) dX12_light_24 ?_
      show q_Gs w g 27 [(0, .ref 96), (1, .int x1), (2, .int x2), (3, .int x3)] [.int r3] (q_mm I L)
      refine g_if_eq K1 49 dX12_light_27 rfl (fun hc => ?_) (fun hc => ?_)
      · replace h := h.1 hc
        refine g_bipush K1 (-2) dX12_light_49 rfl ?_
        obtain ⟨hr, hI, hL⟩ := h
        subst hr hI hL
        exact g_ireturn K rfl dX12_light_51
      · replace h := h.2 hc
        refine g_aload_n K1 0 dX12_light_30 rfl ?_
        refine g_sipush K1 10000 dX12_light_31 rfl ?_
        refine g_iload_n K1 2 dX12_light_34 rfl ?_
        refine g_imul K1 dX12_light_35 ?_
        refine g_bipush K1 100 dX12_light_36 rfl ?_
        refine g_iload_n K1 1 dX12_light_38 rfl ?_
        refine g_imul K1 dX12_light_39 ?_
        refine g_iadd K1 dX12_light_40 ?_
        refine g_iload_n K1 3 dX12_light_41 rfl ?_
        refine g_iadd K1 dX12_light_42 ?_
        obtain ⟨r4, I5, hct, h⟩ := h
        refine h_callV K1 (st := []) [.int (((10000 * x2) + (100 * x1)) + x3)] (hct w (gl g)) q_clX12 lyp_96 rfl ok_X12_keepAct ml_X12_463 ⟨Nat.le_of_ble_eq_true rfl, Nat.le_of_ble_eq_true rfl⟩ (Nat.le_of_ble_eq_true rfl) dX12_light_43 ?_
        show q_Gs w g 46 [(0, .ref 96), (1, .int x1), (2, .int x2), (3, .int x3)] [.int r4] (q_mm I5 L)
        refine g_goto K1 51 dX12_light_46 rfl ?_
        obtain ⟨hr, hI, hL⟩ := h
        subst hr hI hL
        exact g_ireturn K rfl dX12_light_51
theorem c0_X12_light {r : Option Value} {I I' : Nat → Nat → Int32} {L L' : Nat → Nat → Int64} {x1 : Int32} {x2 : Int32} {x3 : Int32} (h : v_X12_light_0 r I' L' I L x1 x2 x3) : q_C kX12_light [.ref 96, .int x1, .int x2, .int x3] I L r I' L' := fun w l => q_ct (by decide) (Nat.le_of_ble_eq_true rfl) (Nat.le_refl _) (fun g _ K => h w g K)
abbrev v_X12_lights_0 (r : Option Value) (I' : Nat → Nat → Int32) (L' : Nat → Nat → Int64) (I : Nat → Nat → Int32) (L : Nat → Nat → Int64) (x1 : Int32) (x2 : Int32) (x3 : Int32) : Prop := q_W kX12_lights 0 [(0, .ref 96), (1, .int x1), (2, .int x2), (3, .int x3)] [] I L r I' L'
abbrev v_X12_lights_35 (r : Option Value) (I' : Nat → Nat → Int32) (L' : Nat → Nat → Int64) (I : Nat → Nat → Int32) (L : Nat → Nat → Int64) (x2 : Int32) (x4 : Int32) (s1 : Int32) (s2 : Int32) : Prop := q_W kX12_lights 35 [(0, .ref 96), (2, .int x2), (4, .int x4)] [.int s2, .int s1, .ref 105] I L r I' L'
set_option maxRecDepth 20000 in
set_option maxHeartbeats 2000000 in
theorem vc_X12_lights_0 {r : Option Value} {I' : Nat → Nat → Int32} {L' : Nat → Nat → Int64} {I : Nat → Nat → Int32} {L : Nat → Nat → Int64} {x1 : Int32} {x2 : Int32} {x3 : Int32} (h : (vp_in ((7 * x3) + x1) 91 ∧ (((I 103 (((7 * x3) + x1) : Int32).toNatClampNeg) ≤ 0 → (v_X12_lights_35 r I' L' I L x2 ((7 * x3) + x1) ((7 * x3) + x1) x3)) ∧ (¬ (I 103 (((7 * x3) + x1) : Int32).toNatClampNeg) ≤ 0 → (vp_in ((7 * x3) + x1) 91 ∧ (v_X12_lights_35 r I' L' I L x2 ((7 * x3) + x1) ((7 * x3) + x1) (I 105 (((7 * x3) + x1) : Int32).toNatClampNeg))))))) : v_X12_lights_0 r I' L' I L x1 x2 x3 := by
  intro w g K
  have K1 := K.1
  refine g_bipush K1 7 dX12_lights_0 rfl ?_
  refine g_iload_n K1 3 dX12_lights_2 rfl ?_
  refine g_imul K1 dX12_lights_3 ?_
  refine g_iload_n K1 1 dX12_lights_4 rfl ?_
  refine g_iadd K1 dX12_lights_5 ?_
  refine g_istore K1 dX12_lights_6 (by decide) rfl ?_
  refine g_aload_n K1 1 dX12_lights_8 rfl ?_
  refine h_getO K1 q_clX12 26 105 lyp_96 fkX12_26 rfl fl_X12_40 dX12_lights_9 ?_
  refine g_iload K1 0 dX12_lights_12 rfl ?_
  refine g_aload_n K1 1 dX12_lights_14 rfl ?_
  refine h_getO K1 q_clX12 24 103 lyp_96 fkX12_24 rfl fl_X12_34 dX12_lights_15 ?_
  refine g_iload K1 0 dX12_lights_18 rfl ?_
  obtain ⟨hg, h⟩ := h
  refine h_iaload K1 lyp_103 hg dX12_lights_20 ?_
  refine g_if_le K1 34 dX12_lights_21 rfl (fun hc => ?_) (fun hc => ?_)
  · replace h := h.1 hc
    refine g_iload_n K1 4 dX12_lights_34 rfl ?_
    exact g_perm [1, 3, 0] rfl (h w g K)
  · replace h := h.2 hc
    refine g_aload_n K1 1 dX12_lights_24 rfl ?_
    refine h_getO K1 q_clX12 26 105 lyp_96 fkX12_26 rfl fl_X12_40 dX12_lights_25 ?_
    refine g_iload K1 0 dX12_lights_28 rfl ?_
    obtain ⟨hg, h⟩ := h
    refine h_iaload K1 lyp_105 hg dX12_lights_30 ?_
    refine g_goto K1 35 dX12_lights_31 rfl ?_
    exact g_perm [1, 3, 0] rfl (h w g K)
set_option maxRecDepth 20000 in
set_option maxHeartbeats 2000000 in
theorem vc_X12_lights_35 {r : Option Value} {I' : Nat → Nat → Int32} {L' : Nat → Nat → Int64} {I : Nat → Nat → Int32} {L : Nat → Nat → Int64} {x2 : Int32} {x4 : Int32} {s1 : Int32} {s2 : Int32} (h : (vp_in s1 91 ∧ (vp_in x4 91 ∧ (vp_in x4 91 ∧ ∀ I1, I1 = (up2 (up2 (up2 I 105 s1.toNatClampNeg s2) 103 x4.toNatClampNeg x2) 104 x4.toNatClampNeg (-1)) → (vp_in x4 91 ∧ (r = none ∧ I' = (up2 I1 106 x4.toNatClampNeg 0) ∧ L' = L)))))) : v_X12_lights_35 r I' L' I L x2 x4 s1 s2 := by
  intro w g K
  have K1 := K.1
  obtain ⟨hg, h⟩ := h
  refine h_iastore K1 lyp_105 hg dX12_lights_35 ?_
  refine g_aload_n K1 0 dX12_lights_36 rfl ?_
  refine h_getO K1 q_clX12 24 103 lyp_96 fkX12_24 rfl fl_X12_34 dX12_lights_37 ?_
  refine g_iload K1 2 dX12_lights_40 rfl ?_
  refine g_iload_n K1 1 dX12_lights_42 rfl ?_
  obtain ⟨hg, h⟩ := h
  refine h_iastore K1 lyp_103 hg dX12_lights_43 ?_
  refine g_aload_n K1 0 dX12_lights_44 rfl ?_
  refine h_getO K1 q_clX12 25 104 lyp_96 fkX12_25 rfl fl_X12_37 dX12_lights_45 ?_
  refine g_iload K1 2 dX12_lights_48 rfl ?_
  refine g_iconst K1 (-1) dX12_lights_50 rfl ?_
  obtain ⟨hg, h⟩ := h
  refine h_iastore K1 lyp_104 hg dX12_lights_51 ?_
  refine g_nameMI (fun I1 hI1 => ?_)
  replace h := h I1 hI1
  refine g_aload_n K1 0 dX12_lights_52 rfl ?_
  refine h_getO K1 q_clX12 27 106 lyp_96 fkX12_27 rfl fl_X12_43 dX12_lights_53 ?_
  refine g_iload K1 2 dX12_lights_56 rfl ?_
  refine g_iconst K1 0 dX12_lights_58 rfl ?_
  obtain ⟨hg, h⟩ := h
  refine h_iastore K1 lyp_106 hg dX12_lights_59 ?_
  obtain ⟨hr, hI, hL⟩ := h
  subst hr hI hL
  exact g_vreturn K rfl dX12_lights_60
theorem c0_X12_lights {r : Option Value} {I I' : Nat → Nat → Int32} {L L' : Nat → Nat → Int64} {x1 : Int32} {x2 : Int32} {x3 : Int32} (h : v_X12_lights_0 r I' L' I L x1 x2 x3) : q_C kX12_lights [.ref 96, .int x1, .int x2, .int x3] I L r I' L' := fun w l => q_ct (by decide) (Nat.le_of_ble_eq_true rfl) (Nat.le_refl _) (fun g _ K => h w g K)
abbrev v_X12_lit_0 (r : Option Value) (I' : Nat → Nat → Int32) (L' : Nat → Nat → Int64) (I : Nat → Nat → Int32) (L : Nat → Nat → Int64) (x1 : Int32) : Prop := q_W kX12_lit 0 [(0, .ref 96), (1, .int x1)] [] I L r I' L'
set_option maxRecDepth 20000 in
set_option maxHeartbeats 2000000 in
theorem vc_X12_lit_0 {r : Option Value} {I' : Nat → Nat → Int32} {L' : Nat → Nat → Int64} {I : Nat → Nat → Int32} {L : Nat → Nat → Int64} {x1 : Int32} (h : (∃ r1 I2, q_C kX12_asksHour [.ref 96, .int x1] I L (some (.int r1)) I2 L ∧ ((r1 = 0 → (r = some (.int (-2)) ∧ I' = I2 ∧ L' = L)) ∧ (¬ r1 = 0 → (∃ r3, q_C kX12_litAt [.ref 96, .int x1] I2 L (some (.int r3)) I2 L ∧ (r = some (.int r3) ∧ I' = I2 ∧ L' = L)))))) : v_X12_lit_0 r I' L' I L x1 := by
  intro w g K
  have K1 := K.1
  refine g_aload_n K1 0 dX12_lit_0 rfl ?_
  refine g_iload_n K1 1 dX12_lit_1 rfl ?_
  obtain ⟨r1, I2, hct, h⟩ := h
  refine h_callV K1 (st := []) [.int x1] (hct w (gl g)) q_clX12 lyp_96 rfl ok_X12_asksHour ml_X12_318 ⟨Nat.le_of_ble_eq_true rfl, Nat.le_of_ble_eq_true rfl⟩ (Nat.le_of_ble_eq_true rfl) dX12_lit_2 ?_
  show q_Gs w g 5 [(0, .ref 96), (1, .int x1)] [.int r1] (q_mm I2 L)
  refine g_if_eq K1 16 dX12_lit_5 rfl (fun hc => ?_) (fun hc => ?_)
  · replace h := h.1 hc
    refine g_bipush K1 (-2) dX12_lit_16 rfl ?_
    obtain ⟨hr, hI, hL⟩ := h
    subst hr hI hL
    exact g_ireturn K rfl dX12_lit_18
  · replace h := h.2 hc
    refine g_aload_n K1 0 dX12_lit_8 rfl ?_
    refine g_iload_n K1 1 dX12_lit_9 rfl ?_
    obtain ⟨r3, hct, h⟩ := h
    refine h_callV K1 (st := []) [.int x1] (hct w (gl g)) q_clX12 lyp_96 rfl ok_X12_litAt ml_X12_309 ⟨Nat.le_of_ble_eq_true rfl, Nat.le_of_ble_eq_true rfl⟩ (Nat.le_of_ble_eq_true rfl) dX12_lit_10 ?_
    show q_Gs w g 13 [(0, .ref 96), (1, .int x1)] [.int r3] (q_mm I2 L)
    refine g_goto K1 18 dX12_lit_13 rfl ?_
    obtain ⟨hr, hI, hL⟩ := h
    subst hr hI hL
    exact g_ireturn K rfl dX12_lit_18
theorem c0_X12_lit {r : Option Value} {I I' : Nat → Nat → Int32} {L L' : Nat → Nat → Int64} {x1 : Int32} (h : v_X12_lit_0 r I' L' I L x1) : q_C kX12_lit [.ref 96, .int x1] I L r I' L' := fun w l => q_ct (by decide) (Nat.le_of_ble_eq_true rfl) (Nat.le_refl _) (fun g _ K => h w g K)
abbrev v_X12_litAt_0 (r : Option Value) (I' : Nat → Nat → Int32) (L' : Nat → Nat → Int64) (I : Nat → Nat → Int32) (L : Nat → Nat → Int64) (x1 : Int32) : Prop := q_W kX12_litAt 0 [(0, .ref 96), (1, .int x1)] [] I L r I' L'
abbrev v_X12_litAt_4 (r : Option Value) (I' : Nat → Nat → Int32) (L' : Nat → Nat → Int64) (I : Nat → Nat → Int32) (L : Nat → Nat → Int64) (x1 : Int32) (x2 : Int32) (x3 : Int32) : Prop := q_W kX12_litAt 4 [(0, .ref 96), (1, .int x1), (2, .int x2), (3, .int x3)] [] I L r I' L'
set_option maxRecDepth 20000 in
set_option maxHeartbeats 2000000 in
theorem vc_X12_litAt_0 {r : Option Value} {I' : Nat → Nat → Int32} {L' : Nat → Nat → Int64} {I : Nat → Nat → Int32} {L : Nat → Nat → Int64} {x1 : Int32} (h : (v_X12_litAt_4 r I' L' I L x1 0 0)) : v_X12_litAt_0 r I' L' I L x1 := by
  intro w g K
  have K1 := K.1
  refine g_iconst K1 0 dX12_litAt_0 rfl ?_
  refine g_istore_n K1 dX12_litAt_1 rfl (by decide) rfl ?_
  refine g_iconst K1 0 dX12_litAt_2 rfl ?_
  refine g_istore_n K1 dX12_litAt_3 rfl (by decide) rfl ?_
  exact g_perm [2, 3, 1, 0] rfl (h w g K)
set_option maxRecDepth 20000 in
set_option maxHeartbeats 2000000 in
theorem vc_X12_litAt_4 {r : Option Value} {I' : Nat → Nat → Int32} {L' : Nat → Nat → Int64} {I : Nat → Nat → Int32} {L : Nat → Nat → Int64} {x1 : Int32} {x2 : Int32} {x3 : Int32} (h : (∃ r1, q_C kX12_pews [.ref 96] I L (some (.int r1)) I L ∧ ((r1 ≤ x3 → (r = some (.int x2) ∧ I' = I ∧ L' = L)) ∧ (¬ r1 ≤ x3 → (∃ r2, q_C kX12_saysOf [.ref 96, .int x3, .int x1] I L (some (.int r2)) I L ∧ ((r2 ≤ 0 → (v_X12_litAt_4 r I' L' I L x1 (x2 ||| 0) (x3 + 1))) ∧ (¬ r2 ≤ 0 → (v_X12_litAt_4 r I' L' I L x1 (x2 ||| ((1 : Int32) <<< (x3 &&& 31))) (x3 + 1))))))))) : v_X12_litAt_4 r I' L' I L x1 x2 x3 := by
  intro w g K
  have K1 := K.1
  refine g_iload_n K1 3 dX12_litAt_4 rfl ?_
  refine g_aload_n K1 0 dX12_litAt_5 rfl ?_
  obtain ⟨r1, hct, h⟩ := h
  refine h_callV K1 (st := [.int x3]) [] (hct w (gl g)) q_clX12 lyp_96 rfl ok_X12_pews ml_X12_74 ⟨Nat.le_of_ble_eq_true rfl, Nat.le_of_ble_eq_true rfl⟩ (Nat.le_of_ble_eq_true rfl) dX12_litAt_6 ?_
  show q_Gs w g 9 [(0, .ref 96), (1, .int x1), (2, .int x2), (3, .int x3)] [.int r1, .int x3] (q_mm I L)
  refine g_icmp_ge K1 37 dX12_litAt_9 rfl (fun hc => ?_) (fun hc => ?_)
  · replace h := h.1 hc
    refine g_iload_n K1 2 dX12_litAt_37 rfl ?_
    obtain ⟨hr, hI, hL⟩ := h
    subst hr hI hL
    exact g_ireturn K rfl dX12_litAt_38
  · replace h := h.2 hc
    refine g_iload_n K1 2 dX12_litAt_12 rfl ?_
    refine g_aload_n K1 0 dX12_litAt_13 rfl ?_
    refine g_iload_n K1 3 dX12_litAt_14 rfl ?_
    refine g_iload_n K1 1 dX12_litAt_15 rfl ?_
    obtain ⟨r2, hct, h⟩ := h
    refine h_callV K1 (st := [.int x2]) [.int x3, .int x1] (hct w (gl g)) q_clX12 lyp_96 rfl ok_X12_saysOf ml_X12_275 ⟨Nat.le_of_ble_eq_true rfl, Nat.le_of_ble_eq_true rfl⟩ (Nat.le_of_ble_eq_true rfl) dX12_litAt_16 ?_
    show q_Gs w g 19 [(0, .ref 96), (1, .int x1), (2, .int x2), (3, .int x3)] [.int r2, .int x2] (q_mm I L)
    refine g_if_le K1 28 dX12_litAt_19 rfl (fun hc => ?_) (fun hc => ?_)
    · replace h := h.1 hc
      refine g_iconst K1 0 dX12_litAt_28 rfl ?_
      refine g_ior K1 dX12_litAt_29 ?_
      refine g_istore_n K1 dX12_litAt_30 rfl (by decide) rfl ?_
      refine g_iinc K1 (x3 + 1) 3 dX12_litAt_31 rfl rfl (by decide) rfl ?_
      refine g_goto K1 4 dX12_litAt_34 rfl ?_
      exact g_perm [2, 3, 1, 0] rfl (h w g K)
    · replace h := h.2 hc
      refine g_iconst K1 1 dX12_litAt_22 rfl ?_
      refine g_iload_n K1 3 dX12_litAt_23 rfl ?_
      refine g_ishl K1 dX12_litAt_24 ?_
      refine g_goto K1 29 dX12_litAt_25 rfl ?_
      refine g_ior K1 dX12_litAt_29 ?_
      refine g_istore_n K1 dX12_litAt_30 rfl (by decide) rfl ?_
      refine g_iinc K1 (x3 + 1) 3 dX12_litAt_31 rfl rfl (by decide) rfl ?_
      refine g_goto K1 4 dX12_litAt_34 rfl ?_
      exact g_perm [2, 3, 1, 0] rfl (h w g K)
theorem c0_X12_litAt {r : Option Value} {I I' : Nat → Nat → Int32} {L L' : Nat → Nat → Int64} {x1 : Int32} (h : v_X12_litAt_0 r I' L' I L x1) : q_C kX12_litAt [.ref 96, .int x1] I L r I' L' := fun w l => q_ct (by decide) (Nat.le_of_ble_eq_true rfl) (Nat.le_refl _) (fun g _ K => h w g K)
abbrev v_X12_litByTurns_0 (r : Option Value) (I' : Nat → Nat → Int32) (L' : Nat → Nat → Int64) (I : Nat → Nat → Int32) (L : Nat → Nat → Int64) (x1 : Int32) (x2 : Int32) : Prop := q_W kX12_litByTurns 0 [(0, .ref 96), (1, .int x1), (2, .int x2)] [] I L r I' L'
set_option maxRecDepth 20000 in
set_option maxHeartbeats 2000000 in
theorem vc_X12_litByTurns_0 {r : Option Value} {I' : Nat → Nat → Int32} {L' : Nat → Nat → Int64} {I : Nat → Nat → Int32} {L : Nat → Nat → Int64} {x1 : Int32} {x2 : Int32} (h : (∃ I1, q_C kX12_goAll [.ref 96] (up2 (up2 (up2 I 96 20 x1) 96 21 x2) 96 22 1) L none I1 L ∧ (∃ r2, q_C kX12_lastMany [.ref 96] I1 L (some (.int r2)) I1 L ∧ (r = some (.int r2) ∧ I' = I1 ∧ L' = L)))) : v_X12_litByTurns_0 r I' L' I L x1 x2 := by
  intro w g K
  have K1 := K.1
  refine g_aload_n K1 0 dX12_litByTurns_0 rfl ?_
  refine g_iload_n K1 1 dX12_litByTurns_1 rfl ?_
  refine h_putI K1 q_clX12 20 lyp_96 fkX12_20 fl_X12_255 rfl rfl rfl dX12_litByTurns_2 ?_
  refine g_aload_n K1 0 dX12_litByTurns_5 rfl ?_
  refine g_iload_n K1 2 dX12_litByTurns_6 rfl ?_
  refine h_putI K1 q_clX12 21 lyp_96 fkX12_21 fl_X12_258 rfl rfl rfl dX12_litByTurns_7 ?_
  refine g_aload_n K1 0 dX12_litByTurns_10 rfl ?_
  refine g_iconst K1 1 dX12_litByTurns_11 rfl ?_
  refine h_putI K1 q_clX12 22 lyp_96 fkX12_22 fl_X12_261 rfl rfl rfl dX12_litByTurns_12 ?_
  refine g_aload_n K1 0 dX12_litByTurns_15 rfl ?_
  obtain ⟨I1, hct, h⟩ := h
  refine h_callV K1 (st := []) [] (hct w (gl g)) q_clX12 lyp_96 rfl ok_X12_goAll ml_X12_300 ⟨Nat.le_of_ble_eq_true rfl, Nat.le_of_ble_eq_true rfl⟩ (Nat.le_of_ble_eq_true rfl) dX12_litByTurns_16 ?_
  show q_Gs w g 19 [(0, .ref 96), (1, .int x1), (2, .int x2)] [] (q_mm I1 L)
  refine g_aload_n K1 0 dX12_litByTurns_19 rfl ?_
  obtain ⟨r2, hct, h⟩ := h
  refine h_callV K1 (st := []) [] (hct w (gl g)) q_clX12 lyp_96 rfl ok_X12_lastMany ml_X12_377 ⟨Nat.le_of_ble_eq_true rfl, Nat.le_of_ble_eq_true rfl⟩ (Nat.le_of_ble_eq_true rfl) dX12_litByTurns_20 ?_
  show q_Gs w g 23 [(0, .ref 96), (1, .int x1), (2, .int x2)] [.int r2] (q_mm I1 L)
  obtain ⟨hr, hI, hL⟩ := h
  subst hr hI hL
  exact g_ireturn K rfl dX12_litByTurns_23
theorem c0_X12_litByTurns {r : Option Value} {I I' : Nat → Nat → Int32} {L L' : Nat → Nat → Int64} {x1 : Int32} {x2 : Int32} (h : v_X12_litByTurns_0 r I' L' I L x1 x2) : q_C kX12_litByTurns [.ref 96, .int x1, .int x2] I L r I' L' := fun w l => q_ct (by decide) (Nat.le_of_ble_eq_true rfl) (Nat.le_refl _) (fun g _ K => h w g K)
abbrev v_X12_litLast_0 (r : Option Value) (I' : Nat → Nat → Int32) (L' : Nat → Nat → Int64) (I : Nat → Nat → Int32) (L : Nat → Nat → Int64)  : Prop := q_W kX12_litLast 0 [(0, .ref 96)] [] I L r I' L'
set_option maxRecDepth 20000 in
set_option maxHeartbeats 2000000 in
theorem vc_X12_litLast_0 {r : Option Value} {I' : Nat → Nat → Int32} {L' : Nat → Nat → Int64} {I : Nat → Nat → Int32} {L : Nat → Nat → Int64}  (h : (∃ r1, q_C kX12_hours [.ref 96] I L (some (.int r1)) I L ∧ (∃ r2, q_C kX12_litAt [.ref 96, .int r1] I L (some (.int r2)) I L ∧ (r = some (.int r2) ∧ I' = I ∧ L' = L)))) : v_X12_litLast_0 r I' L' I L  := by
  intro w g K
  have K1 := K.1
  refine g_aload_n K1 0 dX12_litLast_0 rfl ?_
  refine g_aload_n K1 0 dX12_litLast_1 rfl ?_
  obtain ⟨r1, hct, h⟩ := h
  refine h_callV K1 (st := [.ref 96]) [] (hct w (gl g)) q_clX12 lyp_96 rfl ok_X12_hours ml_X12_82 ⟨Nat.le_of_ble_eq_true rfl, Nat.le_of_ble_eq_true rfl⟩ (Nat.le_of_ble_eq_true rfl) dX12_litLast_2 ?_
  show q_Gs w g 5 [(0, .ref 96)] [.int r1, .ref 96] (q_mm I L)
  obtain ⟨r2, hct, h⟩ := h
  refine h_callV K1 (st := []) [.int r1] (hct w (gl g)) q_clX12 lyp_96 rfl ok_X12_litAt ml_X12_309 ⟨Nat.le_of_ble_eq_true rfl, Nat.le_of_ble_eq_true rfl⟩ (Nat.le_of_ble_eq_true rfl) dX12_litLast_5 ?_
  show q_Gs w g 8 [(0, .ref 96)] [.int r2] (q_mm I L)
  obtain ⟨hr, hI, hL⟩ := h
  subst hr hI hL
  exact g_ireturn K rfl dX12_litLast_8
theorem c0_X12_litLast {r : Option Value} {I I' : Nat → Nat → Int32} {L L' : Nat → Nat → Int64}  (h : v_X12_litLast_0 r I' L' I L ) : q_C kX12_litLast [.ref 96] I L r I' L' := fun w l => q_ct (by decide) (Nat.le_of_ble_eq_true rfl) (Nat.le_refl _) (fun g _ K => h w g K)
abbrev v_X12_longOf_0 (r : Option Value) (I' : Nat → Nat → Int32) (L' : Nat → Nat → Int64) (I : Nat → Nat → Int32) (L : Nat → Nat → Int64) (x0 : Int32) : Prop := q_W kX12_longOf 0 [(0, .int x0)] [] I L r I' L'
abbrev v_X12_longOf_4 (r : Option Value) (I' : Nat → Nat → Int32) (L' : Nat → Nat → Int64) (I : Nat → Nat → Int32) (L : Nat → Nat → Int64) (x1 : Int32) (x2 : Int32) : Prop := q_W kX12_longOf 4 [(1, .int x1), (2, .int x2)] [] I L r I' L'
set_option maxRecDepth 20000 in
set_option maxHeartbeats 2000000 in
theorem vc_X12_longOf_0 {r : Option Value} {I' : Nat → Nat → Int32} {L' : Nat → Nat → Int64} {I : Nat → Nat → Int32} {L : Nat → Nat → Int64} {x0 : Int32} (h : (v_X12_longOf_4 r I' L' I L 0 x0)) : v_X12_longOf_0 r I' L' I L x0 := by
  intro w g K
  have K1 := K.1
  refine g_iconst K1 0 dX12_longOf_0 rfl ?_
  refine g_istore_n K1 dX12_longOf_1 rfl (by decide) rfl ?_
  refine g_iload_n K1 1 dX12_longOf_2 rfl ?_
  refine g_istore_n K1 dX12_longOf_3 rfl (by decide) rfl ?_
  exact g_perm [1, 0] rfl (h w g K)
set_option maxRecDepth 20000 in
set_option maxHeartbeats 2000000 in
theorem vc_X12_longOf_4 {r : Option Value} {I' : Nat → Nat → Int32} {L' : Nat → Nat → Int64} {I : Nat → Nat → Int32} {L : Nat → Nat → Int64} {x1 : Int32} {x2 : Int32} (h : ((x2 ≤ 0 → (r = some (.int x1) ∧ I' = I ∧ L' = L)) ∧ (¬ x2 ≤ 0 → (v_X12_longOf_4 r I' L' I L (x1 + 1) (x2 / 5))))) : v_X12_longOf_4 r I' L' I L x1 x2 := by
  intro w g K
  have K1 := K.1
  refine g_iload_n K1 1 dX12_longOf_4 rfl ?_
  refine g_if_le K1 18 dX12_longOf_5 rfl (fun hc => ?_) (fun hc => ?_)
  · replace h := h.1 hc
    refine g_iload_n K1 0 dX12_longOf_18 rfl ?_
    obtain ⟨hr, hI, hL⟩ := h
    subst hr hI hL
    exact g_ireturn K rfl dX12_longOf_19
  · replace h := h.2 hc
    refine g_iinc K1 (x1 + 1) 0 dX12_longOf_8 rfl rfl (by decide) rfl ?_
    refine g_iload_n K1 1 dX12_longOf_11 rfl ?_
    refine g_iconst K1 5 dX12_longOf_12 rfl ?_
    refine g_idiv K1 dX12_longOf_13 (by decide) ?_
    refine g_istore_n K1 dX12_longOf_14 rfl (by decide) rfl ?_
    refine g_goto K1 4 dX12_longOf_15 rfl ?_
    exact g_perm [1, 0] rfl (h w g K)
theorem c0_X12_longOf {r : Option Value} {I I' : Nat → Nat → Int32} {L L' : Nat → Nat → Int64} {x0 : Int32} (h : v_X12_longOf_0 r I' L' I L x0) : q_C kX12_longOf [.int x0] I L r I' L' := fun w l => q_ct (by decide) (Nat.le_of_ble_eq_true rfl) (Nat.le_refl _) (fun g _ K => h w g K)
abbrev v_X12_longest_0 (r : Option Value) (I' : Nat → Nat → Int32) (L' : Nat → Nat → Int64) (I : Nat → Nat → Int32) (L : Nat → Nat → Int64) (x1 : Int32) : Prop := q_W kX12_longest 0 [(0, .ref 96), (1, .int x1)] [] I L r I' L'
set_option maxRecDepth 20000 in
set_option maxHeartbeats 2000000 in
theorem vc_X12_longest_0 {r : Option Value} {I' : Nat → Nat → Int32} {L' : Nat → Nat → Int64} {I : Nat → Nat → Int32} {L : Nat → Nat → Int64} {x1 : Int32} (h : (∃ r1 I2, q_C kX12_asksHour [.ref 96, .int x1] I L (some (.int r1)) I2 L ∧ ((r1 = 0 → (r = some (.int (-2)) ∧ I' = I2 ∧ L' = L)) ∧ (¬ r1 = 0 → (∃ r3, q_C kX12_longestBy [.ref 96, .int x1, .int 1] I2 L (some (.int r3)) I2 L ∧ (r = some (.int r3) ∧ I' = I2 ∧ L' = L)))))) : v_X12_longest_0 r I' L' I L x1 := by
  intro w g K
  have K1 := K.1
  refine g_aload_n K1 0 dX12_longest_0 rfl ?_
  refine g_iload_n K1 1 dX12_longest_1 rfl ?_
  obtain ⟨r1, I2, hct, h⟩ := h
  refine h_callV K1 (st := []) [.int x1] (hct w (gl g)) q_clX12 lyp_96 rfl ok_X12_asksHour ml_X12_318 ⟨Nat.le_of_ble_eq_true rfl, Nat.le_of_ble_eq_true rfl⟩ (Nat.le_of_ble_eq_true rfl) dX12_longest_2 ?_
  show q_Gs w g 5 [(0, .ref 96), (1, .int x1)] [.int r1] (q_mm I2 L)
  refine g_if_eq K1 17 dX12_longest_5 rfl (fun hc => ?_) (fun hc => ?_)
  · replace h := h.1 hc
    refine g_bipush K1 (-2) dX12_longest_17 rfl ?_
    obtain ⟨hr, hI, hL⟩ := h
    subst hr hI hL
    exact g_ireturn K rfl dX12_longest_19
  · replace h := h.2 hc
    refine g_aload_n K1 0 dX12_longest_8 rfl ?_
    refine g_iload_n K1 1 dX12_longest_9 rfl ?_
    refine g_iconst K1 1 dX12_longest_10 rfl ?_
    obtain ⟨r3, hct, h⟩ := h
    refine h_callV K1 (st := []) [.int x1, .int 1] (hct w (gl g)) q_clX12 lyp_96 rfl ok_X12_longestBy ml_X12_334 ⟨Nat.le_of_ble_eq_true rfl, Nat.le_of_ble_eq_true rfl⟩ (Nat.le_of_ble_eq_true rfl) dX12_longest_11 ?_
    show q_Gs w g 14 [(0, .ref 96), (1, .int x1)] [.int r3] (q_mm I2 L)
    refine g_goto K1 19 dX12_longest_14 rfl ?_
    obtain ⟨hr, hI, hL⟩ := h
    subst hr hI hL
    exact g_ireturn K rfl dX12_longest_19
theorem c0_X12_longest {r : Option Value} {I I' : Nat → Nat → Int32} {L L' : Nat → Nat → Int64} {x1 : Int32} (h : v_X12_longest_0 r I' L' I L x1) : q_C kX12_longest [.ref 96, .int x1] I L r I' L' := fun w l => q_ct (by decide) (Nat.le_of_ble_eq_true rfl) (Nat.le_refl _) (fun g _ K => h w g K)
abbrev v_X12_longestBy_0 (r : Option Value) (I' : Nat → Nat → Int32) (L' : Nat → Nat → Int64) (I : Nat → Nat → Int32) (L : Nat → Nat → Int64) (x1 : Int32) (x2 : Int32) : Prop := q_W kX12_longestBy 0 [(0, .ref 96), (1, .int x1), (2, .int x2)] [] I L r I' L'
abbrev v_X12_longestBy_5 (r : Option Value) (I' : Nat → Nat → Int32) (L' : Nat → Nat → Int64) (I : Nat → Nat → Int32) (L : Nat → Nat → Int64) (x1 : Int32) (x2 : Int32) (x3 : Int32) (x4 : Int32) : Prop := q_W kX12_longestBy 5 [(0, .ref 96), (1, .int x1), (2, .int x2), (3, .int x3), (4, .int x4)] [] I L r I' L'
set_option maxRecDepth 20000 in
set_option maxHeartbeats 2000000 in
theorem vc_X12_longestBy_0 {r : Option Value} {I' : Nat → Nat → Int32} {L' : Nat → Nat → Int64} {I : Nat → Nat → Int32} {L : Nat → Nat → Int64} {x1 : Int32} {x2 : Int32} (h : (v_X12_longestBy_5 r I' L' I L x1 x2 (-1) 0)) : v_X12_longestBy_0 r I' L' I L x1 x2 := by
  intro w g K
  have K1 := K.1
  refine g_iconst K1 (-1) dX12_longestBy_0 rfl ?_
  refine g_istore_n K1 dX12_longestBy_1 rfl (by decide) rfl ?_
  refine g_iconst K1 0 dX12_longestBy_2 rfl ?_
  refine g_istore K1 dX12_longestBy_3 (by decide) rfl ?_
  exact g_perm [2, 3, 4, 1, 0] rfl (h w g K)
set_option maxRecDepth 20000 in
set_option maxHeartbeats 2000000 in
theorem vc_X12_longestBy_5 {r : Option Value} {I' : Nat → Nat → Int32} {L' : Nat → Nat → Int64} {I : Nat → Nat → Int32} {L : Nat → Nat → Int64} {x1 : Int32} {x2 : Int32} {x3 : Int32} {x4 : Int32} (h : (∃ r1, q_C kX12_pews [.ref 96] I L (some (.int r1)) I L ∧ ((r1 ≤ x4 → (r = some (.int x3) ∧ I' = I ∧ L' = L)) ∧ (¬ r1 ≤ x4 → (∃ r2, q_C kX12_saysOf [.ref 96, .int x4, .int x1] I L (some (.int r2)) I L ∧ ((r2 = 0 → (v_X12_longestBy_5 r I' L' I L x1 x2 x3 (x4 + 1))) ∧ (¬ r2 = 0 → ((x3 = (-1) → (v_X12_longestBy_5 r I' L' I L x1 x2 x4 (x4 + 1))) ∧ (¬ x3 = (-1) → (∃ r3, q_C kX12_saysOf [.ref 96, .int x4, .int x1] I L (some (.int r3)) I L ∧ (∃ r4, q_C kX12_longOf [.int r3] I L (some (.int r4)) I L ∧ (∃ r5, q_C kX12_saysOf [.ref 96, .int x3, .int x1] I L (some (.int r5)) I L ∧ (∃ r6, q_C kX12_longOf [.int r5] I L (some (.int r6)) I L ∧ (((x2 * r4) ≤ (x2 * r6) → (v_X12_longestBy_5 r I' L' I L x1 x2 x3 (x4 + 1))) ∧ (¬ (x2 * r4) ≤ (x2 * r6) → (v_X12_longestBy_5 r I' L' I L x1 x2 x4 (x4 + 1))))))))))))))))) : v_X12_longestBy_5 r I' L' I L x1 x2 x3 x4 := by
  intro w g K
  have K1 := K.1
  refine g_iload K1 4 dX12_longestBy_5 rfl ?_
  refine g_aload_n K1 0 dX12_longestBy_7 rfl ?_
  obtain ⟨r1, hct, h⟩ := h
  refine h_callV K1 (st := [.int x4]) [] (hct w (gl g)) q_clX12 lyp_96 rfl ok_X12_pews ml_X12_74 ⟨Nat.le_of_ble_eq_true rfl, Nat.le_of_ble_eq_true rfl⟩ (Nat.le_of_ble_eq_true rfl) dX12_longestBy_8 ?_
  show q_Gs w g 11 [(0, .ref 96), (1, .int x1), (2, .int x2), (3, .int x3), (4, .int x4)] [.int r1, .int x4] (q_mm I L)
  refine g_icmp_ge K1 67 dX12_longestBy_11 rfl (fun hc => ?_) (fun hc => ?_)
  · replace h := h.1 hc
    refine g_iload_n K1 3 dX12_longestBy_67 rfl ?_
    obtain ⟨hr, hI, hL⟩ := h
    subst hr hI hL
    exact g_ireturn K rfl dX12_longestBy_68
  · replace h := h.2 hc
    refine g_aload_n K1 0 dX12_longestBy_14 rfl ?_
    refine g_iload K1 4 dX12_longestBy_15 rfl ?_
    refine g_iload_n K1 1 dX12_longestBy_17 rfl ?_
    obtain ⟨r2, hct, h⟩ := h
    refine h_callV K1 (st := []) [.int x4, .int x1] (hct w (gl g)) q_clX12 lyp_96 rfl ok_X12_saysOf ml_X12_275 ⟨Nat.le_of_ble_eq_true rfl, Nat.le_of_ble_eq_true rfl⟩ (Nat.le_of_ble_eq_true rfl) dX12_longestBy_18 ?_
    show q_Gs w g 21 [(0, .ref 96), (1, .int x1), (2, .int x2), (3, .int x3), (4, .int x4)] [.int r2] (q_mm I L)
    refine g_if_ne K1 27 dX12_longestBy_21 rfl (fun hc => ?_) (fun hc => ?_)
    · replace h := h.2 hc
      refine g_iload_n K1 3 dX12_longestBy_27 rfl ?_
      refine g_iconst K1 (-1) dX12_longestBy_28 rfl ?_
      refine g_icmp_eq K1 58 dX12_longestBy_29 rfl (fun hc => ?_) (fun hc => ?_)
      · replace h := h.1 hc
        refine g_iload K1 4 dX12_longestBy_58 rfl ?_
        refine g_istore_n K1 dX12_longestBy_60 rfl (by decide) rfl ?_
        refine g_iinc K1 (x4 + 1) 4 dX12_longestBy_61 rfl rfl (by decide) rfl ?_
        refine g_goto K1 5 dX12_longestBy_64 rfl ?_
        exact g_perm [2, 3, 4, 1, 0] rfl (h w g K)
      · replace h := h.2 hc
        refine g_iload_n K1 2 dX12_longestBy_32 rfl ?_
        refine g_aload_n K1 0 dX12_longestBy_33 rfl ?_
        refine g_iload K1 4 dX12_longestBy_34 rfl ?_
        refine g_iload_n K1 1 dX12_longestBy_36 rfl ?_
        obtain ⟨r3, hct, h⟩ := h
        refine h_callV K1 (st := [.int x2]) [.int x4, .int x1] (hct w (gl g)) q_clX12 lyp_96 rfl ok_X12_saysOf ml_X12_275 ⟨Nat.le_of_ble_eq_true rfl, Nat.le_of_ble_eq_true rfl⟩ (Nat.le_of_ble_eq_true rfl) dX12_longestBy_37 ?_
        show q_Gs w g 40 [(0, .ref 96), (1, .int x1), (2, .int x2), (3, .int x3), (4, .int x4)] [.int r3, .int x2] (q_mm I L)
        obtain ⟨r4, hct, h⟩ := h
        refine h_callS K1 (st := [.int x2]) [.int r3] (hct w (gl g)) ok_X12_longOf ml_X12_225 ⟨Nat.le_of_ble_eq_true rfl, Nat.le_of_ble_eq_true rfl⟩ (Nat.le_of_ble_eq_true rfl) dX12_longestBy_40 ?_
        show q_Gs w g 43 [(0, .ref 96), (1, .int x1), (2, .int x2), (3, .int x3), (4, .int x4)] [.int r4, .int x2] (q_mm I L)
        refine g_imul K1 dX12_longestBy_43 ?_
        refine g_iload_n K1 2 dX12_longestBy_44 rfl ?_
        refine g_aload_n K1 0 dX12_longestBy_45 rfl ?_
        refine g_iload_n K1 3 dX12_longestBy_46 rfl ?_
        refine g_iload_n K1 1 dX12_longestBy_47 rfl ?_
        obtain ⟨r5, hct, h⟩ := h
        refine h_callV K1 (st := [.int x2, .int (x2 * r4)]) [.int x3, .int x1] (hct w (gl g)) q_clX12 lyp_96 rfl ok_X12_saysOf ml_X12_275 ⟨Nat.le_of_ble_eq_true rfl, Nat.le_of_ble_eq_true rfl⟩ (Nat.le_of_ble_eq_true rfl) dX12_longestBy_48 ?_
        show q_Gs w g 51 [(0, .ref 96), (1, .int x1), (2, .int x2), (3, .int x3), (4, .int x4)] [.int r5, .int x2, .int (x2 * r4)] (q_mm I L)
        obtain ⟨r6, hct, h⟩ := h
        refine h_callS K1 (st := [.int x2, .int (x2 * r4)]) [.int r5] (hct w (gl g)) ok_X12_longOf ml_X12_225 ⟨Nat.le_of_ble_eq_true rfl, Nat.le_of_ble_eq_true rfl⟩ (Nat.le_of_ble_eq_true rfl) dX12_longestBy_51 ?_
        show q_Gs w g 54 [(0, .ref 96), (1, .int x1), (2, .int x2), (3, .int x3), (4, .int x4)] [.int r6, .int x2, .int (x2 * r4)] (q_mm I L)
        refine g_imul K1 dX12_longestBy_54 ?_
        refine g_icmp_le K1 61 dX12_longestBy_55 rfl (fun hc => ?_) (fun hc => ?_)
        · replace h := h.1 hc
          refine g_iinc K1 (x4 + 1) 4 dX12_longestBy_61 rfl rfl (by decide) rfl ?_
          refine g_goto K1 5 dX12_longestBy_64 rfl ?_
          exact g_perm [1, 2, 3, 4, 0] rfl (h w g K)
        · replace h := h.2 hc
          refine g_iload K1 4 dX12_longestBy_58 rfl ?_
          refine g_istore_n K1 dX12_longestBy_60 rfl (by decide) rfl ?_
          refine g_iinc K1 (x4 + 1) 4 dX12_longestBy_61 rfl rfl (by decide) rfl ?_
          refine g_goto K1 5 dX12_longestBy_64 rfl ?_
          exact g_perm [2, 3, 4, 1, 0] rfl (h w g K)
    · replace h := h.1 hc
      refine g_goto K1 61 dX12_longestBy_24 rfl ?_
      refine g_iinc K1 (x4 + 1) 4 dX12_longestBy_61 rfl rfl (by decide) rfl ?_
      refine g_goto K1 5 dX12_longestBy_64 rfl ?_
      exact g_perm [1, 2, 3, 4, 0] rfl (h w g K)
theorem c0_X12_longestBy {r : Option Value} {I I' : Nat → Nat → Int32} {L L' : Nat → Nat → Int64} {x1 : Int32} {x2 : Int32} (h : v_X12_longestBy_0 r I' L' I L x1 x2) : q_C kX12_longestBy [.ref 96, .int x1, .int x2] I L r I' L' := fun w l => q_ct (by decide) (Nat.le_of_ble_eq_true rfl) (Nat.le_refl _) (fun g _ K => h w g K)
abbrev v_X12_luck_0 (r : Option Value) (I' : Nat → Nat → Int32) (L' : Nat → Nat → Int64) (I : Nat → Nat → Int32) (L : Nat → Nat → Int64) (x1 : Int32) (x2 : Int32) (x3 : Int32) : Prop := q_W kX12_luck 0 [(0, .ref 96), (1, .int x1), (2, .int x2), (3, .int x3)] [] I L r I' L'
abbrev v_X12_luck_37 (r : Option Value) (I' : Nat → Nat → Int32) (L' : Nat → Nat → Int64) (I : Nat → Nat → Int32) (L : Nat → Nat → Int64) (x1 : Int32) (x2 : Int32) (x3 : Int32) (x4 : Int32) (x5 : Int32) : Prop := q_W kX12_luck 37 [(0, .ref 96), (1, .int x1), (2, .int x2), (3, .int x3), (4, .int x4), (5, .int x5)] [] I L r I' L'
set_option maxRecDepth 20000 in
set_option maxHeartbeats 2000000 in
theorem vc_X12_luck_0 {r : Option Value} {I' : Nat → Nat → Int32} {L' : Nat → Nat → Int64} {I : Nat → Nat → Int32} {L : Nat → Nat → Int64} {x1 : Int32} {x2 : Int32} {x3 : Int32} (h : (∃ r1, q_C kX12_isSeed [.int x1] I L (some (.int r1)) I L ∧ ((r1 = 0 → (r = some (.int (-2)) ∧ I' = I ∧ L' = L)) ∧ (¬ r1 = 0 → (∃ r2, q_C kX12_in [.long x2.toInt64, .long 1, .long 20] I L (some (.int r2)) I L ∧ ((r2 = 0 → (r = some (.int (-2)) ∧ I' = I ∧ L' = L)) ∧ (¬ r2 = 0 → (∃ r3, q_C kX12_isPew [.ref 96, .long x3.toInt64] I L (some (.int r3)) I L ∧ ((r3 = 0 → (r = some (.int (-2)) ∧ I' = I ∧ L' = L)) ∧ (¬ r3 = 0 → (v_X12_luck_37 r I' L' I L x1 x2 x3 0 0))))))))))) : v_X12_luck_0 r I' L' I L x1 x2 x3 := by
  intro w g K
  have K1 := K.1
  refine g_iload_n K1 1 dX12_luck_0 rfl ?_
  obtain ⟨r1, hct, h⟩ := h
  refine h_callS K1 (st := []) [.int x1] (hct w (gl g)) ok_X12_isSeed ml_X12_478 ⟨Nat.le_of_ble_eq_true rfl, Nat.le_of_ble_eq_true rfl⟩ (Nat.le_of_ble_eq_true rfl) dX12_luck_1 ?_
  show q_Gs w g 4 [(0, .ref 96), (1, .int x1), (2, .int x2), (3, .int x3)] [.int r1] (q_mm I L)
  refine g_if_eq K1 28 dX12_luck_4 rfl (fun hc => ?_) (fun hc => ?_)
  · replace h := h.1 hc
    refine g_bipush K1 (-2) dX12_luck_28 rfl ?_
    obtain ⟨hr, hI, hL⟩ := h
    subst hr hI hL
    exact g_ireturn K rfl dX12_luck_30
  · replace h := h.2 hc
    refine g_iload_n K1 2 dX12_luck_7 rfl ?_
    refine g_i2l K1 dX12_luck_8 ?_
    refine g_lconst K1 1 dX12_luck_9 rfl ?_
    refine g_ldc2_w K1 20 dX12_luck_10 cn_X12_485 ?_
    obtain ⟨r2, hct, h⟩ := h
    refine h_callS K1 (st := []) [.long x2.toInt64, .long 1, .long 20] (hct w (gl g)) ok_X12_in ml_X12_70 ⟨Nat.le_of_ble_eq_true rfl, Nat.le_of_ble_eq_true rfl⟩ (Nat.le_of_ble_eq_true rfl) dX12_luck_13 ?_
    show q_Gs w g 16 [(0, .ref 96), (1, .int x1), (2, .int x2), (3, .int x3)] [.int r2] (q_mm I L)
    refine g_if_eq K1 28 dX12_luck_16 rfl (fun hc => ?_) (fun hc => ?_)
    · replace h := h.1 hc
      refine g_bipush K1 (-2) dX12_luck_28 rfl ?_
      obtain ⟨hr, hI, hL⟩ := h
      subst hr hI hL
      exact g_ireturn K rfl dX12_luck_30
    · replace h := h.2 hc
      refine g_aload_n K1 0 dX12_luck_19 rfl ?_
      refine g_iload_n K1 3 dX12_luck_20 rfl ?_
      refine g_i2l K1 dX12_luck_21 ?_
      obtain ⟨r3, hct, h⟩ := h
      refine h_callV K1 (st := []) [.long x3.toInt64] (hct w (gl g)) q_clX12 lyp_96 rfl ok_X12_isPew ml_X12_218 ⟨Nat.le_of_ble_eq_true rfl, Nat.le_of_ble_eq_true rfl⟩ (Nat.le_of_ble_eq_true rfl) dX12_luck_22 ?_
      show q_Gs w g 25 [(0, .ref 96), (1, .int x1), (2, .int x2), (3, .int x3)] [.int r3] (q_mm I L)
      refine g_if_ne K1 31 dX12_luck_25 rfl (fun hc => ?_) (fun hc => ?_)
      · replace h := h.2 hc
        refine g_iconst K1 0 dX12_luck_31 rfl ?_
        refine g_istore K1 dX12_luck_32 (by decide) rfl ?_
        refine g_iconst K1 0 dX12_luck_34 rfl ?_
        refine g_istore K1 dX12_luck_35 (by decide) rfl ?_
        exact g_perm [2, 3, 4, 5, 1, 0] rfl (h w g K)
      · replace h := h.1 hc
        refine g_bipush K1 (-2) dX12_luck_28 rfl ?_
        obtain ⟨hr, hI, hL⟩ := h
        subst hr hI hL
        exact g_ireturn K rfl dX12_luck_30
set_option maxRecDepth 20000 in
set_option maxHeartbeats 2000000 in
theorem vc_X12_luck_37 {r : Option Value} {I' : Nat → Nat → Int32} {L' : Nat → Nat → Int64} {I : Nat → Nat → Int32} {L : Nat → Nat → Int64} {x1 : Int32} {x2 : Int32} {x3 : Int32} {x4 : Int32} {x5 : Int32} (h : ((x2 ≤ x5 → (r = some (.int x4) ∧ I' = I ∧ L' = L)) ∧ (¬ x2 ≤ x5 → (∃ I1, q_C kX12_goDrawn [.ref 96, .long (x1.toInt64 + x5.toInt64)] I L none I1 L ∧ (∃ r2, q_C kX12_hours [.ref 96] I1 L (some (.int r2)) I1 L ∧ (∃ r3, q_C kX12_saysOf [.ref 96, .int x3, .int r2] I1 L (some (.int r3)) I1 L ∧ ((r3 ≤ 0 → (v_X12_luck_37 r I' L' I1 L x1 x2 x3 (x4 + 0) (x5 + 1))) ∧ (¬ r3 ≤ 0 → (v_X12_luck_37 r I' L' I1 L x1 x2 x3 (x4 + 1) (x5 + 1)))))))))) : v_X12_luck_37 r I' L' I L x1 x2 x3 x4 x5 := by
  intro w g K
  have K1 := K.1
  refine g_iload K1 5 dX12_luck_37 rfl ?_
  refine g_iload_n K1 2 dX12_luck_39 rfl ?_
  refine g_icmp_ge K1 81 dX12_luck_40 rfl (fun hc => ?_) (fun hc => ?_)
  · replace h := h.1 hc
    refine g_iload K1 4 dX12_luck_81 rfl ?_
    obtain ⟨hr, hI, hL⟩ := h
    subst hr hI hL
    exact g_ireturn K rfl dX12_luck_83
  · replace h := h.2 hc
    refine g_aload_n K1 0 dX12_luck_43 rfl ?_
    refine g_iload_n K1 1 dX12_luck_44 rfl ?_
    refine g_i2l K1 dX12_luck_45 ?_
    refine g_iload K1 5 dX12_luck_46 rfl ?_
    refine g_i2l K1 dX12_luck_48 ?_
    refine g_ladd K1 dX12_luck_49 ?_
    obtain ⟨I1, hct, h⟩ := h
    refine h_callV K1 (st := []) [.long (x1.toInt64 + x5.toInt64)] (hct w (gl g)) q_clX12 lyp_96 rfl ok_X12_goDrawn ml_X12_481 ⟨Nat.le_of_ble_eq_true rfl, Nat.le_of_ble_eq_true rfl⟩ (Nat.le_of_ble_eq_true rfl) dX12_luck_50 ?_
    show q_Gs w g 53 [(0, .ref 96), (1, .int x1), (2, .int x2), (3, .int x3), (4, .int x4), (5, .int x5)] [] (q_mm I1 L)
    refine g_iload K1 4 dX12_luck_53 rfl ?_
    refine g_aload_n K1 0 dX12_luck_55 rfl ?_
    refine g_iload_n K1 3 dX12_luck_56 rfl ?_
    refine g_aload_n K1 0 dX12_luck_57 rfl ?_
    obtain ⟨r2, hct, h⟩ := h
    refine h_callV K1 (st := [.int x3, .ref 96, .int x4]) [] (hct w (gl g)) q_clX12 lyp_96 rfl ok_X12_hours ml_X12_82 ⟨Nat.le_of_ble_eq_true rfl, Nat.le_of_ble_eq_true rfl⟩ (Nat.le_of_ble_eq_true rfl) dX12_luck_58 ?_
    show q_Gs w g 61 [(0, .ref 96), (1, .int x1), (2, .int x2), (3, .int x3), (4, .int x4), (5, .int x5)] [.int r2, .int x3, .ref 96, .int x4] (q_mm I1 L)
    obtain ⟨r3, hct, h⟩ := h
    refine h_callV K1 (st := [.int x4]) [.int x3, .int r2] (hct w (gl g)) q_clX12 lyp_96 rfl ok_X12_saysOf ml_X12_275 ⟨Nat.le_of_ble_eq_true rfl, Nat.le_of_ble_eq_true rfl⟩ (Nat.le_of_ble_eq_true rfl) dX12_luck_61 ?_
    show q_Gs w g 64 [(0, .ref 96), (1, .int x1), (2, .int x2), (3, .int x3), (4, .int x4), (5, .int x5)] [.int r3, .int x4] (q_mm I1 L)
    refine g_if_le K1 71 dX12_luck_64 rfl (fun hc => ?_) (fun hc => ?_)
    · replace h := h.1 hc
      refine g_iconst K1 0 dX12_luck_71 rfl ?_
      refine g_iadd K1 dX12_luck_72 ?_
      refine g_istore K1 dX12_luck_73 (by decide) rfl ?_
      refine g_iinc K1 (x5 + 1) 5 dX12_luck_75 rfl rfl (by decide) rfl ?_
      refine g_goto K1 37 dX12_luck_78 rfl ?_
      exact g_perm [2, 3, 4, 5, 1, 0] rfl (h w g K)
    · replace h := h.2 hc
      refine g_iconst K1 1 dX12_luck_67 rfl ?_
      refine g_goto K1 72 dX12_luck_68 rfl ?_
      refine g_iadd K1 dX12_luck_72 ?_
      refine g_istore K1 dX12_luck_73 (by decide) rfl ?_
      refine g_iinc K1 (x5 + 1) 5 dX12_luck_75 rfl rfl (by decide) rfl ?_
      refine g_goto K1 37 dX12_luck_78 rfl ?_
      exact g_perm [2, 3, 4, 5, 1, 0] rfl (h w g K)
theorem c0_X12_luck {r : Option Value} {I I' : Nat → Nat → Int32} {L L' : Nat → Nat → Int64} {x1 : Int32} {x2 : Int32} {x3 : Int32} (h : v_X12_luck_0 r I' L' I L x1 x2 x3) : q_C kX12_luck [.ref 96, .int x1, .int x2, .int x3] I L r I' L' := fun w l => q_ct (by decide) (Nat.le_of_ble_eq_true rfl) (Nat.le_refl _) (fun g _ K => h w g K)
abbrev v_X12_mean_0 (r : Option Value) (I' : Nat → Nat → Int32) (L' : Nat → Nat → Int64) (I : Nat → Nat → Int32) (L : Nat → Nat → Int64) (x1 : Int32) (x2 : Int32) : Prop := q_W kX12_mean 0 [(0, .ref 96), (1, .int x1), (2, .int x2)] [] I L r I' L'
set_option maxRecDepth 20000 in
set_option maxHeartbeats 2000000 in
theorem vc_X12_mean_0 {r : Option Value} {I' : Nat → Nat → Int32} {L' : Nat → Nat → Int64} {I : Nat → Nat → Int32} {L : Nat → Nat → Int64} {x1 : Int32} {x2 : Int32} (h : (∃ r1, q_C kX12_isSilence [.ref 96, .int x1, .int x2] I L (some (.int r1)) I L ∧ ((r1 = 0 → (r = some (.long (-2)) ∧ I' = I ∧ L' = L)) ∧ (¬ r1 = 0 → (∃ I2 L3, q_C kX12_laySilence [.ref 96, .int 0, .int x1] I L none I2 L3 ∧ (∃ r4, q_C kX12_part [.long (L3 96 36), .long (L3 96 34), .int x2] I2 L3 (some (.long r4)) I2 L3 ∧ (r = some (.long r4) ∧ I' = I2 ∧ L' = L3))))))) : v_X12_mean_0 r I' L' I L x1 x2 := by
  intro w g K
  have K1 := K.1
  refine g_aload_n K1 0 dX12_mean_0 rfl ?_
  refine g_iload_n K1 1 dX12_mean_1 rfl ?_
  refine g_iload_n K1 2 dX12_mean_2 rfl ?_
  obtain ⟨r1, hct, h⟩ := h
  refine h_callV K1 (st := []) [.int x1, .int x2] (hct w (gl g)) q_clX12 lyp_96 rfl ok_X12_isSilence ml_X12_455 ⟨Nat.le_of_ble_eq_true rfl, Nat.le_of_ble_eq_true rfl⟩ (Nat.le_of_ble_eq_true rfl) dX12_mean_3 ?_
  show q_Gs w g 6 [(0, .ref 96), (1, .int x1), (2, .int x2)] [.int r1] (q_mm I L)
  refine g_if_ne K1 13 dX12_mean_6 rfl (fun hc => ?_) (fun hc => ?_)
  · replace h := h.2 hc
    refine g_aload_n K1 0 dX12_mean_13 rfl ?_
    refine g_iconst K1 0 dX12_mean_14 rfl ?_
    refine g_iload_n K1 1 dX12_mean_15 rfl ?_
    obtain ⟨I2, L3, hct, h⟩ := h
    refine h_callV K1 (st := []) [.int 0, .int x1] (hct w (gl g)) q_clX12 lyp_96 rfl ok_X12_laySilence ml_X12_460 ⟨Nat.le_of_ble_eq_true rfl, Nat.le_of_ble_eq_true rfl⟩ (Nat.le_of_ble_eq_true rfl) dX12_mean_16 ?_
    show q_Gs w g 19 [(0, .ref 96), (1, .int x1), (2, .int x2)] [] (q_mm I2 L3)
    refine g_aload_n K1 0 dX12_mean_19 rfl ?_
    refine h_getL K1 q_clX12 36 lyp_96 fkX12_36 fl_X12_450 dX12_mean_20 ?_
    refine g_aload_n K1 0 dX12_mean_23 rfl ?_
    refine h_getL K1 q_clX12 34 lyp_96 fkX12_34 fl_X12_443 dX12_mean_24 ?_
    refine g_iload_n K1 2 dX12_mean_27 rfl ?_
    obtain ⟨r4, hct, h⟩ := h
    refine h_callS K1 (st := []) [.long (L3 96 36), .long (L3 96 34), .int x2] (hct w (gl g)) ok_X12_part ml_X12_394 ⟨Nat.le_of_ble_eq_true rfl, Nat.le_of_ble_eq_true rfl⟩ (Nat.le_of_ble_eq_true rfl) dX12_mean_28 ?_
    show q_Gs w g 31 [(0, .ref 96), (1, .int x1), (2, .int x2)] [.long r4] (q_mm I2 L3)
    obtain ⟨hr, hI, hL⟩ := h
    subst hr hI hL
    exact g_lreturn K rfl dX12_mean_31
  · replace h := h.1 hc
    refine g_ldc2_w K1 (-2) dX12_mean_9 cn_X12_458 ?_
    obtain ⟨hr, hI, hL⟩ := h
    subst hr hI hL
    exact g_lreturn K rfl dX12_mean_12
theorem c0_X12_mean {r : Option Value} {I I' : Nat → Nat → Int32} {L L' : Nat → Nat → Int64} {x1 : Int32} {x2 : Int32} (h : v_X12_mean_0 r I' L' I L x1 x2) : q_C kX12_mean [.ref 96, .int x1, .int x2] I L r I' L' := fun w l => q_ct (by decide) (Nat.le_of_ble_eq_true rfl) (Nat.le_refl _) (fun g _ K => h w g K)
abbrev v_X12_near_0 (r : Option Value) (I' : Nat → Nat → Int32) (L' : Nat → Nat → Int64) (I : Nat → Nat → Int32) (L : Nat → Nat → Int64) (x1 : Int32) : Prop := q_W kX12_near 0 [(0, .ref 96), (1, .int x1)] [] I L r I' L'
set_option maxRecDepth 20000 in
set_option maxHeartbeats 2000000 in
theorem vc_X12_near_0 {r : Option Value} {I' : Nat → Nat → Int32} {L' : Nat → Nat → Int64} {I : Nat → Nat → Int32} {L : Nat → Nat → Int64} {x1 : Int32} (h : (∃ r1, q_C kX12_isPew [.ref 96, .long x1.toInt64] (up2 I 96 15 0) L (some (.int r1)) (up2 I 96 15 0) L ∧ ((r1 = 0 → (r = some (.int (-2)) ∧ I' = (up2 I 96 15 0) ∧ L' = L)) ∧ (¬ r1 = 0 → (∃ r2, q_C kX12_nearOf [.ref 96, .int x1] (up2 I 96 15 0) L (some (.int r2)) (up2 I 96 15 0) L ∧ (r = some (.int r2) ∧ I' = (up2 I 96 15 0) ∧ L' = L)))))) : v_X12_near_0 r I' L' I L x1 := by
  intro w g K
  have K1 := K.1
  refine g_aload_n K1 0 dX12_near_0 rfl ?_
  refine g_iconst K1 0 dX12_near_1 rfl ?_
  refine h_putI K1 q_clX12 15 lyp_96 fkX12_15 fl_X12_234 rfl rfl rfl dX12_near_2 ?_
  refine g_aload_n K1 0 dX12_near_5 rfl ?_
  refine g_iload_n K1 1 dX12_near_6 rfl ?_
  refine g_i2l K1 dX12_near_7 ?_
  obtain ⟨r1, hct, h⟩ := h
  refine h_callV K1 (st := []) [.long x1.toInt64] (hct w (gl g)) q_clX12 lyp_96 rfl ok_X12_isPew ml_X12_218 ⟨Nat.le_of_ble_eq_true rfl, Nat.le_of_ble_eq_true rfl⟩ (Nat.le_of_ble_eq_true rfl) dX12_near_8 ?_
  show q_Gs w g 11 [(0, .ref 96), (1, .int x1)] [.int r1] (q_mm (up2 I 96 15 0) L)
  refine g_if_eq K1 22 dX12_near_11 rfl (fun hc => ?_) (fun hc => ?_)
  · replace h := h.1 hc
    refine g_bipush K1 (-2) dX12_near_22 rfl ?_
    obtain ⟨hr, hI, hL⟩ := h
    subst hr hI hL
    exact g_ireturn K rfl dX12_near_24
  · replace h := h.2 hc
    refine g_aload_n K1 0 dX12_near_14 rfl ?_
    refine g_iload_n K1 1 dX12_near_15 rfl ?_
    obtain ⟨r2, hct, h⟩ := h
    refine h_callV K1 (st := []) [.int x1] (hct w (gl g)) q_clX12 lyp_96 rfl ok_X12_nearOf ml_X12_240 ⟨Nat.le_of_ble_eq_true rfl, Nat.le_of_ble_eq_true rfl⟩ (Nat.le_of_ble_eq_true rfl) dX12_near_16 ?_
    show q_Gs w g 19 [(0, .ref 96), (1, .int x1)] [.int r2] (q_mm (up2 I 96 15 0) L)
    refine g_goto K1 24 dX12_near_19 rfl ?_
    obtain ⟨hr, hI, hL⟩ := h
    subst hr hI hL
    exact g_ireturn K rfl dX12_near_24
theorem c0_X12_near {r : Option Value} {I I' : Nat → Nat → Int32} {L L' : Nat → Nat → Int64} {x1 : Int32} (h : v_X12_near_0 r I' L' I L x1) : q_C kX12_near [.ref 96, .int x1] I L r I' L' := fun w l => q_ct (by decide) (Nat.le_of_ble_eq_true rfl) (Nat.le_refl _) (fun g _ K => h w g K)
abbrev v_X12_nearOf_0 (r : Option Value) (I' : Nat → Nat → Int32) (L' : Nat → Nat → Int64) (I : Nat → Nat → Int32) (L : Nat → Nat → Int64) (x1 : Int32) : Prop := q_W kX12_nearOf 0 [(0, .ref 96), (1, .int x1)] [] I L r I' L'
abbrev v_X12_nearOf_4 (r : Option Value) (I' : Nat → Nat → Int32) (L' : Nat → Nat → Int64) (I : Nat → Nat → Int32) (L : Nat → Nat → Int64) (x1 : Int32) (x2 : Int32) (x3 : Int32) : Prop := q_W kX12_nearOf 4 [(0, .ref 96), (1, .int x1), (2, .int x2), (3, .int x3)] [] I L r I' L'
set_option maxRecDepth 20000 in
set_option maxHeartbeats 2000000 in
theorem vc_X12_nearOf_0 {r : Option Value} {I' : Nat → Nat → Int32} {L' : Nat → Nat → Int64} {I : Nat → Nat → Int32} {L : Nat → Nat → Int64} {x1 : Int32} (h : (v_X12_nearOf_4 r I' L' I L x1 0 0)) : v_X12_nearOf_0 r I' L' I L x1 := by
  intro w g K
  have K1 := K.1
  refine g_iconst K1 0 dX12_nearOf_0 rfl ?_
  refine g_istore_n K1 dX12_nearOf_1 rfl (by decide) rfl ?_
  refine g_iconst K1 0 dX12_nearOf_2 rfl ?_
  refine g_istore_n K1 dX12_nearOf_3 rfl (by decide) rfl ?_
  exact g_perm [2, 3, 1, 0] rfl (h w g K)
set_option maxRecDepth 20000 in
set_option maxHeartbeats 2000000 in
theorem vc_X12_nearOf_4 {r : Option Value} {I' : Nat → Nat → Int32} {L' : Nat → Nat → Int64} {I : Nat → Nat → Int32} {L : Nat → Nat → Int64} {x1 : Int32} {x2 : Int32} {x3 : Int32} (h : (vp_in 4 104 ∧ (((I 97 (4 : Int32).toNatClampNeg) ≤ x3 → (∃ r1, q_C kX12_bit [.int (I 96 15), .int x1] I L (some (.int r1)) I L ∧ ((r1 = 1 → (r = some (.int 0) ∧ I' = I ∧ L' = L)) ∧ (¬ r1 = 1 → (r = some (.int (x2 &&& ((I 96 15) ^^^ (-1)))) ∧ I' = I ∧ L' = L))))) ∧ (¬ (I 97 (4 : Int32).toNatClampNeg) ≤ x3 → (vp_in (30 + (2 * x3)) 104 ∧ (vp_in ((30 + (2 * x3)) + 1) 104 ∧ ∀ z2 : Int32, z2 = (I 97 (((30 + (2 * x3)) + 1) : Int32).toNatClampNeg) → (((I 97 ((30 + (2 * x3)) : Int32).toNatClampNeg) = x1 → (v_X12_nearOf_4 r I' L' I L x1 (x2 ||| ((1 : Int32) <<< (z2 &&& 31))) (x3 + 1))) ∧ (¬ (I 97 ((30 + (2 * x3)) : Int32).toNatClampNeg) = x1 → ((z2 = x1 → ∀ z3 : Int32, z3 = (x2 ||| ((1 : Int32) <<< ((I 97 ((30 + (2 * x3)) : Int32).toNatClampNeg) &&& 31))) → (v_X12_nearOf_4 r I' L' I L x1 z3 (x3 + 1))) ∧ (¬ z2 = x1 → (v_X12_nearOf_4 r I' L' I L x1 (x2 ||| 0) (x3 + 1)))))))))))) : v_X12_nearOf_4 r I' L' I L x1 x2 x3 := by
  intro w g K
  have K1 := K.1
  refine g_iload_n K1 3 dX12_nearOf_4 rfl ?_
  refine g_aload_n K1 0 dX12_nearOf_5 rfl ?_
  refine h_getO K1 q_clX12 1 97 lyp_96 fkX12_1 rfl fl_X12_9 dX12_nearOf_6 ?_
  refine g_iconst K1 4 dX12_nearOf_9 rfl ?_
  obtain ⟨hg, h⟩ := h
  refine h_iaload K1 lyp_97 hg dX12_nearOf_10 ?_
  refine g_icmp_ge K1 78 dX12_nearOf_11 rfl (fun hc => ?_) (fun hc => ?_)
  · replace h := h.1 hc
    refine g_aload_n K1 0 dX12_nearOf_78 rfl ?_
    refine h_getI K1 q_clX12 15 lyp_96 fkX12_15 fl_X12_234 dX12_nearOf_79 ?_
    refine g_iload_n K1 1 dX12_nearOf_82 rfl ?_
    obtain ⟨r1, hct, h⟩ := h
    refine h_callS K1 (st := []) [.int (I 96 15), .int x1] (hct w (gl g)) ok_X12_bit ml_X12_237 ⟨Nat.le_of_ble_eq_true rfl, Nat.le_of_ble_eq_true rfl⟩ (Nat.le_of_ble_eq_true rfl) dX12_nearOf_83 ?_
    show q_Gs w g 86 [(0, .ref 96), (1, .int x1), (2, .int x2), (3, .int x3)] [.int r1] (q_mm I L)
    refine g_iconst K1 1 dX12_nearOf_86 rfl ?_
    refine g_icmp_ne K1 94 dX12_nearOf_87 rfl (fun hc => ?_) (fun hc => ?_)
    · replace h := h.2 hc
      refine g_iload_n K1 2 dX12_nearOf_94 rfl ?_
      refine g_aload_n K1 0 dX12_nearOf_95 rfl ?_
      refine h_getI K1 q_clX12 15 lyp_96 fkX12_15 fl_X12_234 dX12_nearOf_96 ?_
      refine g_iconst K1 (-1) dX12_nearOf_99 rfl ?_
      refine g_ixor K1 dX12_nearOf_100 ?_
      refine g_iand K1 dX12_nearOf_101 ?_
      obtain ⟨hr, hI, hL⟩ := h
      subst hr hI hL
      exact g_ireturn K rfl dX12_nearOf_102
    · replace h := h.1 hc
      refine g_iconst K1 0 dX12_nearOf_90 rfl ?_
      refine g_goto K1 102 dX12_nearOf_91 rfl ?_
      obtain ⟨hr, hI, hL⟩ := h
      subst hr hI hL
      exact g_ireturn K rfl dX12_nearOf_102
  · replace h := h.2 hc
    refine g_aload_n K1 0 dX12_nearOf_14 rfl ?_
    refine h_getO K1 q_clX12 1 97 lyp_96 fkX12_1 rfl fl_X12_9 dX12_nearOf_15 ?_
    refine g_bipush K1 30 dX12_nearOf_18 rfl ?_
    refine g_iconst K1 2 dX12_nearOf_20 rfl ?_
    refine g_iload_n K1 3 dX12_nearOf_21 rfl ?_
    refine g_imul K1 dX12_nearOf_22 ?_
    refine g_iadd K1 dX12_nearOf_23 ?_
    obtain ⟨hg, h⟩ := h
    refine h_iaload K1 lyp_97 hg dX12_nearOf_24 ?_
    refine g_istore K1 dX12_nearOf_25 (by decide) rfl ?_
    refine g_aload_n K1 1 dX12_nearOf_27 rfl ?_
    refine h_getO K1 q_clX12 1 97 lyp_96 fkX12_1 rfl fl_X12_9 dX12_nearOf_28 ?_
    refine g_bipush K1 30 dX12_nearOf_31 rfl ?_
    refine g_iconst K1 2 dX12_nearOf_33 rfl ?_
    refine g_iload_n K1 4 dX12_nearOf_34 rfl ?_
    refine g_imul K1 dX12_nearOf_35 ?_
    refine g_iadd K1 dX12_nearOf_36 ?_
    refine g_iconst K1 1 dX12_nearOf_37 rfl ?_
    refine g_iadd K1 dX12_nearOf_38 ?_
    obtain ⟨hg, h⟩ := h
    refine h_iaload K1 lyp_97 hg dX12_nearOf_39 ?_
    refine g_nameI (fun z2 hz2 => ?_)
    replace h := h z2 hz2
    refine g_istore K1 dX12_nearOf_40 (by decide) rfl ?_
    refine g_iload_n K1 4 dX12_nearOf_42 rfl ?_
    refine g_iload K1 1 dX12_nearOf_43 rfl ?_
    refine g_iload_n K1 3 dX12_nearOf_45 rfl ?_
    refine g_icmp_ne K1 56 dX12_nearOf_46 rfl (fun hc => ?_) (fun hc => ?_)
    · replace h := h.2 hc
      refine g_iload K1 0 dX12_nearOf_56 rfl ?_
      refine g_iload_n K1 3 dX12_nearOf_58 rfl ?_
      refine g_icmp_ne K1 69 dX12_nearOf_59 rfl (fun hc => ?_) (fun hc => ?_)
      · replace h := h.2 hc
        refine g_iconst K1 0 dX12_nearOf_69 rfl ?_
        refine g_ior K1 dX12_nearOf_70 ?_
        refine g_istore_n K1 dX12_nearOf_71 rfl (by decide) rfl ?_
        refine g_iinc K1 (x3 + 1) 5 dX12_nearOf_72 rfl rfl (by decide) rfl ?_
        refine g_goto K1 4 dX12_nearOf_75 rfl ?_
        exact g_perm [4, 5, 1, 0] rfl (h w g K)
      · replace h := h.1 hc
        refine g_iconst K1 1 dX12_nearOf_62 rfl ?_
        refine g_iload K1 1 dX12_nearOf_63 rfl ?_
        refine g_ishl K1 dX12_nearOf_65 ?_
        refine g_goto K1 70 dX12_nearOf_66 rfl ?_
        refine g_ior K1 dX12_nearOf_70 ?_
        refine g_nameI (fun z3 hz3 => ?_)
        replace h := h z3 hz3
        refine g_istore_n K1 dX12_nearOf_71 rfl (by decide) rfl ?_
        refine g_iinc K1 (x3 + 1) 5 dX12_nearOf_72 rfl rfl (by decide) rfl ?_
        refine g_goto K1 4 dX12_nearOf_75 rfl ?_
        exact g_perm [4, 5, 1, 0] rfl (h w g K)
    · replace h := h.1 hc
      refine g_iconst K1 1 dX12_nearOf_49 rfl ?_
      refine g_iload K1 0 dX12_nearOf_50 rfl ?_
      refine g_ishl K1 dX12_nearOf_52 ?_
      refine g_goto K1 70 dX12_nearOf_53 rfl ?_
      refine g_ior K1 dX12_nearOf_70 ?_
      refine g_istore_n K1 dX12_nearOf_71 rfl (by decide) rfl ?_
      refine g_iinc K1 (x3 + 1) 5 dX12_nearOf_72 rfl rfl (by decide) rfl ?_
      refine g_goto K1 4 dX12_nearOf_75 rfl ?_
      exact g_perm [4, 5, 1, 0] rfl (h w g K)
theorem c0_X12_nearOf {r : Option Value} {I I' : Nat → Nat → Int32} {L L' : Nat → Nat → Int64} {x1 : Int32} (h : v_X12_nearOf_0 r I' L' I L x1) : q_C kX12_nearOf [.ref 96, .int x1] I L r I' L' := fun w l => q_ct (by decide) (Nat.le_of_ble_eq_true rfl) (Nat.le_refl _) (fun g _ K => h w g K)
abbrev v_X12_night_0 (r : Option Value) (I' : Nat → Nat → Int32) (L' : Nat → Nat → Int64) (I : Nat → Nat → Int32) (L : Nat → Nat → Int64)  : Prop := q_W kX12_night 0 [(0, .ref 96)] [] I L r I' L'
abbrev v_X12_night_30 (r : Option Value) (I' : Nat → Nat → Int32) (L' : Nat → Nat → Int64) (I : Nat → Nat → Int32) (L : Nat → Nat → Int64) (x1 : Int32) : Prop := q_W kX12_night 30 [(0, .ref 96), (1, .int x1)] [] I L r I' L'
abbrev v_X12_night_53 (r : Option Value) (I' : Nat → Nat → Int32) (L' : Nat → Nat → Int64) (I : Nat → Nat → Int32) (L : Nat → Nat → Int64)  : Prop := q_W kX12_night 53 [(0, .ref 96)] [] I L r I' L'
abbrev v_X12_night_86 (r : Option Value) (I' : Nat → Nat → Int32) (L' : Nat → Nat → Int64) (I : Nat → Nat → Int32) (L : Nat → Nat → Int64) (x1 : Int32) : Prop := q_W kX12_night 86 [(0, .ref 96), (1, .int x1)] [] I L r I' L'
set_option maxRecDepth 20000 in
set_option maxHeartbeats 2000000 in
theorem vc_X12_night_0 {r : Option Value} {I' : Nat → Nat → Int32} {L' : Nat → Nat → Int64} {I : Nat → Nat → Int32} {L : Nat → Nat → Int64}  (h : ∀ I1, I1 = (up2 (up2 (up2 (up2 (up2 I 96 7 (I 96 5)) 96 5 0) 96 8 0) 96 12 0) 96 13 (-1)) → (v_X12_night_30 r I' L' I1 L 0)) : v_X12_night_0 r I' L' I L  := by
  intro w g K
  have K1 := K.1
  refine g_aload_n K1 0 dX12_night_0 rfl ?_
  refine g_aload_n K1 0 dX12_night_1 rfl ?_
  refine h_getI K1 q_clX12 5 lyp_96 fkX12_5 fl_X12_85 dX12_night_2 ?_
  refine h_putI K1 q_clX12 7 lyp_96 fkX12_7 fl_X12_88 rfl rfl rfl dX12_night_5 ?_
  refine g_aload_n K1 0 dX12_night_8 rfl ?_
  refine g_iconst K1 0 dX12_night_9 rfl ?_
  refine h_putI K1 q_clX12 5 lyp_96 fkX12_5 fl_X12_85 rfl rfl rfl dX12_night_10 ?_
  refine g_aload_n K1 0 dX12_night_13 rfl ?_
  refine g_iconst K1 0 dX12_night_14 rfl ?_
  refine h_putI K1 q_clX12 8 lyp_96 fkX12_8 fl_X12_91 rfl rfl rfl dX12_night_15 ?_
  refine g_aload_n K1 0 dX12_night_18 rfl ?_
  refine g_iconst K1 0 dX12_night_19 rfl ?_
  refine h_putI K1 q_clX12 12 lyp_96 fkX12_12 fl_X12_122 rfl rfl rfl dX12_night_20 ?_
  refine g_aload_n K1 0 dX12_night_23 rfl ?_
  refine g_iconst K1 (-1) dX12_night_24 rfl ?_
  refine h_putI K1 q_clX12 13 lyp_96 fkX12_13 fl_X12_27 rfl rfl rfl dX12_night_25 ?_
  refine g_nameMI (fun I1 hI1 => ?_)
  replace h := h I1 hI1
  refine g_iconst K1 0 dX12_night_28 rfl ?_
  refine g_istore_n K1 dX12_night_29 rfl (by decide) rfl ?_
  exact g_perm [1, 0] rfl (h w g K)
set_option maxRecDepth 20000 in
set_option maxHeartbeats 2000000 in
theorem vc_X12_night_30 {r : Option Value} {I' : Nat → Nat → Int32} {L' : Nat → Nat → Int64} {I : Nat → Nat → Int32} {L : Nat → Nat → Int64} {x1 : Int32} (h : ((104 ≤ x1 → (∃ I1, q_C kX12_advance [.ref 96] I L none I1 L ∧ (v_X12_night_53 r I' L' I1 L))) ∧ (¬ 104 ≤ x1 → (vp_in x1 104 ∧ (v_X12_night_30 r I' L' (up2 I 102 x1.toNatClampNeg 0) L (x1 + 1)))))) : v_X12_night_30 r I' L' I L x1 := by
  intro w g K
  have K1 := K.1
  refine g_iload_n K1 1 dX12_night_30 rfl ?_
  refine g_bipush K1 104 dX12_night_31 rfl ?_
  refine g_icmp_ge K1 49 dX12_night_33 rfl (fun hc => ?_) (fun hc => ?_)
  · replace h := h.1 hc
    refine g_aload_n K1 0 dX12_night_49 rfl ?_
    obtain ⟨I1, hct, h⟩ := h
    refine h_callV K1 (st := []) [] (hct w (gl g)) q_clX12 lyp_96 rfl ok_X12_advance ml_X12_141 ⟨Nat.le_of_ble_eq_true rfl, Nat.le_of_ble_eq_true rfl⟩ (Nat.le_of_ble_eq_true rfl) dX12_night_50 ?_
    show q_Gs w g 53 [(0, .ref 96), (1, .int x1)] [] (q_mm I1 L)
    exact g_perm [0] rfl (h w g K)
  · replace h := h.2 hc
    refine g_aload_n K1 0 dX12_night_36 rfl ?_
    refine h_getO K1 q_clX12 14 102 lyp_96 fkX12_14 rfl fl_X12_31 dX12_night_37 ?_
    refine g_iload_n K1 1 dX12_night_40 rfl ?_
    refine g_iconst K1 0 dX12_night_41 rfl ?_
    obtain ⟨hg, h⟩ := h
    refine h_iastore K1 lyp_102 hg dX12_night_42 ?_
    refine g_iinc K1 (x1 + 1) 1 dX12_night_43 rfl rfl (by decide) rfl ?_
    refine g_goto K1 30 dX12_night_46 rfl ?_
    exact g_perm [1, 0] rfl (h w g K)
set_option maxRecDepth 20000 in
set_option maxHeartbeats 2000000 in
theorem vc_X12_night_53 {r : Option Value} {I' : Nat → Nat → Int32} {L' : Nat → Nat → Int64} {I : Nat → Nat → Int32} {L : Nat → Nat → Int64}  (h : (∃ r1, q_C kX12_good [.ref 96] I L (some (.int r1)) I L ∧ ((r1 = 0 → (∃ r2, q_C kX12_good [.ref 96] I L (some (.int r2)) I L ∧ ((r2 = 0 → (r = some (.int (-4)) ∧ I' = I ∧ L' = L)) ∧ (¬ r2 = 0 → (v_X12_night_86 r I' L' I L 0))))) ∧ (¬ r1 = 0 → (((I 96 10) = 0 → (∃ r3, q_C kX12_good [.ref 96] I L (some (.int r3)) I L ∧ ((r3 = 0 → (r = some (.int (-4)) ∧ I' = I ∧ L' = L)) ∧ (¬ r3 = 0 → (v_X12_night_86 r I' L' I L 0))))) ∧ (¬ (I 96 10) = 0 → (∃ I4, q_C kX12_readLine [.ref 96] I L none I4 L ∧ (v_X12_night_53 r I' L' I4 L)))))))) : v_X12_night_53 r I' L' I L  := by
  intro w g K
  have K1 := K.1
  refine g_aload_n K1 0 dX12_night_53 rfl ?_
  obtain ⟨r1, hct, h⟩ := h
  refine h_callV K1 (st := []) [] (hct w (gl g)) q_clX12 lyp_96 rfl ok_X12_good ml_X12_125 ⟨Nat.le_of_ble_eq_true rfl, Nat.le_of_ble_eq_true rfl⟩ (Nat.le_of_ble_eq_true rfl) dX12_night_54 ?_
  show q_Gs w g 57 [(0, .ref 96)] [.int r1] (q_mm I L)
  refine g_if_eq K1 74 dX12_night_57 rfl (fun hc => ?_) (fun hc => ?_)
  · replace h := h.1 hc
    refine g_aload_n K1 0 dX12_night_74 rfl ?_
    obtain ⟨r2, hct, h⟩ := h
    refine h_callV K1 (st := []) [] (hct w (gl g)) q_clX12 lyp_96 rfl ok_X12_good ml_X12_125 ⟨Nat.le_of_ble_eq_true rfl, Nat.le_of_ble_eq_true rfl⟩ (Nat.le_of_ble_eq_true rfl) dX12_night_75 ?_
    show q_Gs w g 78 [(0, .ref 96)] [.int r2] (q_mm I L)
    refine g_if_ne K1 84 dX12_night_78 rfl (fun hc => ?_) (fun hc => ?_)
    · replace h := h.2 hc
      refine g_iconst K1 0 dX12_night_84 rfl ?_
      refine g_istore_n K1 dX12_night_85 rfl (by decide) rfl ?_
      exact g_perm [1, 0] rfl (h w g K)
    · replace h := h.1 hc
      refine g_bipush K1 (-4) dX12_night_81 rfl ?_
      obtain ⟨hr, hI, hL⟩ := h
      subst hr hI hL
      exact g_ireturn K rfl dX12_night_83
  · replace h := h.2 hc
    refine g_aload_n K1 0 dX12_night_60 rfl ?_
    refine h_getI K1 q_clX12 10 lyp_96 fkX12_10 fl_X12_101 dX12_night_61 ?_
    refine g_if_eq K1 74 dX12_night_64 rfl (fun hc => ?_) (fun hc => ?_)
    · replace h := h.1 hc
      refine g_aload_n K1 0 dX12_night_74 rfl ?_
      obtain ⟨r3, hct, h⟩ := h
      refine h_callV K1 (st := []) [] (hct w (gl g)) q_clX12 lyp_96 rfl ok_X12_good ml_X12_125 ⟨Nat.le_of_ble_eq_true rfl, Nat.le_of_ble_eq_true rfl⟩ (Nat.le_of_ble_eq_true rfl) dX12_night_75 ?_
      show q_Gs w g 78 [(0, .ref 96)] [.int r3] (q_mm I L)
      refine g_if_ne K1 84 dX12_night_78 rfl (fun hc => ?_) (fun hc => ?_)
      · replace h := h.2 hc
        refine g_iconst K1 0 dX12_night_84 rfl ?_
        refine g_istore_n K1 dX12_night_85 rfl (by decide) rfl ?_
        exact g_perm [1, 0] rfl (h w g K)
      · replace h := h.1 hc
        refine g_bipush K1 (-4) dX12_night_81 rfl ?_
        obtain ⟨hr, hI, hL⟩ := h
        subst hr hI hL
        exact g_ireturn K rfl dX12_night_83
    · replace h := h.2 hc
      refine g_aload_n K1 0 dX12_night_67 rfl ?_
      obtain ⟨I4, hct, h⟩ := h
      refine h_callV K1 (st := []) [] (hct w (gl g)) q_clX12 lyp_96 rfl ok_X12_readLine ml_X12_215 ⟨Nat.le_of_ble_eq_true rfl, Nat.le_of_ble_eq_true rfl⟩ (Nat.le_of_ble_eq_true rfl) dX12_night_68 ?_
      show q_Gs w g 71 [(0, .ref 96)] [] (q_mm I4 L)
      refine g_goto K1 53 dX12_night_71 rfl ?_
      exact g_perm [0] rfl (h w g K)
set_option maxRecDepth 20000 in
set_option maxHeartbeats 2000000 in
theorem vc_X12_night_86 {r : Option Value} {I' : Nat → Nat → Int32} {L' : Nat → Nat → Int64} {I : Nat → Nat → Int32} {L : Nat → Nat → Int64} {x1 : Int32} (h : ((104 ≤ x1 → (vp_in 8 104 ∧ (r = some (.int (I 97 (8 : Int32).toNatClampNeg)) ∧ I' = I ∧ L' = L))) ∧ (¬ 104 ≤ x1 → (vp_in x1 104 ∧ (vp_in x1 104 ∧ (v_X12_night_86 r I' L' (up2 I 97 x1.toNatClampNeg (I 102 x1.toNatClampNeg)) L (x1 + 1))))))) : v_X12_night_86 r I' L' I L x1 := by
  intro w g K
  have K1 := K.1
  refine g_iload_n K1 1 dX12_night_86 rfl ?_
  refine g_bipush K1 104 dX12_night_87 rfl ?_
  refine g_icmp_ge K1 110 dX12_night_89 rfl (fun hc => ?_) (fun hc => ?_)
  · replace h := h.1 hc
    refine g_aload_n K1 0 dX12_night_110 rfl ?_
    refine h_getO K1 q_clX12 1 97 lyp_96 fkX12_1 rfl fl_X12_9 dX12_night_111 ?_
    refine g_bipush K1 8 dX12_night_114 rfl ?_
    obtain ⟨hg, h⟩ := h
    refine h_iaload K1 lyp_97 hg dX12_night_116 ?_
    obtain ⟨hr, hI, hL⟩ := h
    subst hr hI hL
    exact g_ireturn K rfl dX12_night_117
  · replace h := h.2 hc
    refine g_aload_n K1 0 dX12_night_92 rfl ?_
    refine h_getO K1 q_clX12 1 97 lyp_96 fkX12_1 rfl fl_X12_9 dX12_night_93 ?_
    refine g_iload_n K1 1 dX12_night_96 rfl ?_
    refine g_aload_n K1 0 dX12_night_97 rfl ?_
    refine h_getO K1 q_clX12 14 102 lyp_96 fkX12_14 rfl fl_X12_31 dX12_night_98 ?_
    refine g_iload_n K1 1 dX12_night_101 rfl ?_
    obtain ⟨hg, h⟩ := h
    refine h_iaload K1 lyp_102 hg dX12_night_102 ?_
    obtain ⟨hg, h⟩ := h
    refine h_iastore K1 lyp_97 hg dX12_night_103 ?_
    refine g_iinc K1 (x1 + 1) 1 dX12_night_104 rfl rfl (by decide) rfl ?_
    refine g_goto K1 86 dX12_night_107 rfl ?_
    exact g_perm [1, 0] rfl (h w g K)
theorem c0_X12_night {r : Option Value} {I I' : Nat → Nat → Int32} {L L' : Nat → Nat → Int64}  (h : v_X12_night_0 r I' L' I L ) : q_C kX12_night [.ref 96] I L r I' L' := fun w l => q_ct (by decide) (Nat.le_of_ble_eq_true rfl) (Nat.le_refl _) (fun g _ K => h w g K)
abbrev v_X12_number_0 (r : Option Value) (I' : Nat → Nat → Int32) (L' : Nat → Nat → Int64) (I : Nat → Nat → Int32) (L : Nat → Nat → Int64) (x1 : Int32) (x2 : Int32) : Prop := q_W kX12_number 0 [(0, .ref 96), (1, .int x1), (2, .int x2)] [] I L r I' L'
abbrev v_X12_number_20 (r : Option Value) (I' : Nat → Nat → Int32) (L' : Nat → Nat → Int64) (I : Nat → Nat → Int32) (L : Nat → Nat → Int64) (x1 : Int32) (x2 : Int32) : Prop := q_W kX12_number 20 [(0, .ref 96), (1, .int x1), (2, .int x2)] [] I L r I' L'
set_option maxRecDepth 20000 in
set_option maxHeartbeats 2000000 in
theorem vc_X12_number_0 {r : Option Value} {I' : Nat → Nat → Int32} {L' : Nat → Nat → Int64} {I : Nat → Nat → Int32} {L : Nat → Nat → Int64} {x1 : Int32} {x2 : Int32} (h : (∃ r1, q_C kX12_good [.ref 96] I L (some (.int r1)) I L ∧ ((r1 = 0 → (v_X12_number_20 r I' L' I L x1 x2)) ∧ (¬ r1 = 0 → (((I 96 10) = 2 → (v_X12_number_20 r I' L' I L x1 x2)) ∧ (¬ (I 96 10) = 2 → (∃ I2, q_C kX12_errs [.ref 96, .int 1] I L none I2 L ∧ (v_X12_number_20 r I' L' I2 L x1 x2)))))))) : v_X12_number_0 r I' L' I L x1 x2 := by
  intro w g K
  have K1 := K.1
  refine g_aload_n K1 0 dX12_number_0 rfl ?_
  obtain ⟨r1, hct, h⟩ := h
  refine h_callV K1 (st := []) [] (hct w (gl g)) q_clX12 lyp_96 rfl ok_X12_good ml_X12_125 ⟨Nat.le_of_ble_eq_true rfl, Nat.le_of_ble_eq_true rfl⟩ (Nat.le_of_ble_eq_true rfl) dX12_number_1 ?_
  show q_Gs w g 4 [(0, .ref 96), (1, .int x1), (2, .int x2)] [.int r1] (q_mm I L)
  refine g_if_eq K1 20 dX12_number_4 rfl (fun hc => ?_) (fun hc => ?_)
  · replace h := h.1 hc
    exact g_perm [0, 1, 2] rfl (h w g K)
  · replace h := h.2 hc
    refine g_aload_n K1 0 dX12_number_7 rfl ?_
    refine h_getI K1 q_clX12 10 lyp_96 fkX12_10 fl_X12_101 dX12_number_8 ?_
    refine g_iconst K1 2 dX12_number_11 rfl ?_
    refine g_icmp_eq K1 20 dX12_number_12 rfl (fun hc => ?_) (fun hc => ?_)
    · replace h := h.1 hc
      exact g_perm [0, 1, 2] rfl (h w g K)
    · replace h := h.2 hc
      refine g_aload_n K1 0 dX12_number_15 rfl ?_
      refine g_iconst K1 1 dX12_number_16 rfl ?_
      obtain ⟨I2, hct, h⟩ := h
      refine h_callV K1 (st := []) [.int 1] (hct w (gl g)) q_clX12 lyp_96 rfl ok_X12_errs ml_X12_147 ⟨Nat.le_of_ble_eq_true rfl, Nat.le_of_ble_eq_true rfl⟩ (Nat.le_of_ble_eq_true rfl) dX12_number_17 ?_
      show q_Gs w g 20 [(0, .ref 96), (1, .int x1), (2, .int x2)] [] (q_mm I2 L)
      exact g_perm [0, 1, 2] rfl (h w g K)
set_option maxRecDepth 20000 in
set_option maxHeartbeats 2000000 in
theorem vc_X12_number_20 {r : Option Value} {I' : Nat → Nat → Int32} {L' : Nat → Nat → Int64} {I : Nat → Nat → Int32} {L : Nat → Nat → Int64} {x1 : Int32} {x2 : Int32} (h : (∃ r1, q_C kX12_good [.ref 96] I L (some (.int r1)) I L ∧ ((r1 = 0 → (∃ r2, q_C kX12_good [.ref 96] I L (some (.int r2)) I L ∧ ((r2 = 0 → (r = some (.int 0) ∧ I' = I ∧ L' = L)) ∧ (¬ r2 = 0 → (∃ I3, q_C kX12_advance [.ref 96] I L none I3 L ∧ (r = some (.int (I 96 11)) ∧ I' = I3 ∧ L' = L)))))) ∧ (¬ r1 = 0 → (∃ r4, q_C kX12_in [.long ((I 96 11) : Int32).toInt64, .long x1.toInt64, .long x2.toInt64] I L (some (.int r4)) I L ∧ ((r4 = 0 → (∃ I7, q_C kX12_errs [.ref 96, .int 2] I L none I7 L ∧ (∃ r8, q_C kX12_good [.ref 96] I7 L (some (.int r8)) I7 L ∧ ((r8 = 0 → (r = some (.int 0) ∧ I' = I7 ∧ L' = L)) ∧ (¬ r8 = 0 → (∃ I9, q_C kX12_advance [.ref 96] I7 L none I9 L ∧ (r = some (.int (I7 96 11)) ∧ I' = I9 ∧ L' = L))))))) ∧ (¬ r4 = 0 → (∃ r5, q_C kX12_good [.ref 96] I L (some (.int r5)) I L ∧ ((r5 = 0 → (r = some (.int 0) ∧ I' = I ∧ L' = L)) ∧ (¬ r5 = 0 → (∃ I6, q_C kX12_advance [.ref 96] I L none I6 L ∧ (r = some (.int (I 96 11)) ∧ I' = I6 ∧ L' = L)))))))))))) : v_X12_number_20 r I' L' I L x1 x2 := by
  intro w g K
  have K1 := K.1
  refine g_aload_n K1 0 dX12_number_20 rfl ?_
  obtain ⟨r1, hct, h⟩ := h
  refine h_callV K1 (st := []) [] (hct w (gl g)) q_clX12 lyp_96 rfl ok_X12_good ml_X12_125 ⟨Nat.le_of_ble_eq_true rfl, Nat.le_of_ble_eq_true rfl⟩ (Nat.le_of_ble_eq_true rfl) dX12_number_21 ?_
  show q_Gs w g 24 [(0, .ref 96), (1, .int x1), (2, .int x2)] [.int r1] (q_mm I L)
  refine g_if_eq K1 47 dX12_number_24 rfl (fun hc => ?_) (fun hc => ?_)
  · replace h := h.1 hc
    refine g_aload_n K1 0 dX12_number_47 rfl ?_
    obtain ⟨r2, hct, h⟩ := h
    refine h_callV K1 (st := []) [] (hct w (gl g)) q_clX12 lyp_96 rfl ok_X12_good ml_X12_125 ⟨Nat.le_of_ble_eq_true rfl, Nat.le_of_ble_eq_true rfl⟩ (Nat.le_of_ble_eq_true rfl) dX12_number_48 ?_
    show q_Gs w g 51 [(0, .ref 96), (1, .int x1), (2, .int x2)] [.int r2] (q_mm I L)
    refine g_if_ne K1 56 dX12_number_51 rfl (fun hc => ?_) (fun hc => ?_)
    · replace h := h.2 hc
      refine g_aload_n K1 0 dX12_number_56 rfl ?_
      refine h_getI K1 q_clX12 11 lyp_96 fkX12_11 fl_X12_112 dX12_number_57 ?_
      refine g_istore_n K1 dX12_number_60 rfl (by decide) rfl ?_
      refine g_aload_n K1 1 dX12_number_61 rfl ?_
      obtain ⟨I3, hct, h⟩ := h
      refine h_callV K1 (st := []) [] (hct w (gl g)) q_clX12 lyp_96 rfl ok_X12_advance ml_X12_141 ⟨Nat.le_of_ble_eq_true rfl, Nat.le_of_ble_eq_true rfl⟩ (Nat.le_of_ble_eq_true rfl) dX12_number_62 ?_
      show q_Gs w g 65 [(3, .int (I 96 11)), (0, .ref 96), (1, .int x1), (2, .int x2)] [] (q_mm I3 L)
      refine g_iload_n K1 0 dX12_number_65 rfl ?_
      obtain ⟨hr, hI, hL⟩ := h
      subst hr hI hL
      exact g_ireturn K rfl dX12_number_66
    · replace h := h.1 hc
      refine g_iconst K1 0 dX12_number_54 rfl ?_
      obtain ⟨hr, hI, hL⟩ := h
      subst hr hI hL
      exact g_ireturn K rfl dX12_number_55
  · replace h := h.2 hc
    refine g_aload_n K1 0 dX12_number_27 rfl ?_
    refine h_getI K1 q_clX12 11 lyp_96 fkX12_11 fl_X12_112 dX12_number_28 ?_
    refine g_i2l K1 dX12_number_31 ?_
    refine g_iload_n K1 1 dX12_number_32 rfl ?_
    refine g_i2l K1 dX12_number_33 ?_
    refine g_iload_n K1 2 dX12_number_34 rfl ?_
    refine g_i2l K1 dX12_number_35 ?_
    obtain ⟨r4, hct, h⟩ := h
    refine h_callS K1 (st := []) [.long ((I 96 11) : Int32).toInt64, .long x1.toInt64, .long x2.toInt64] (hct w (gl g)) ok_X12_in ml_X12_70 ⟨Nat.le_of_ble_eq_true rfl, Nat.le_of_ble_eq_true rfl⟩ (Nat.le_of_ble_eq_true rfl) dX12_number_36 ?_
    show q_Gs w g 39 [(0, .ref 96), (1, .int x1), (2, .int x2)] [.int r4] (q_mm I L)
    refine g_if_ne K1 47 dX12_number_39 rfl (fun hc => ?_) (fun hc => ?_)
    · replace h := h.2 hc
      refine g_aload_n K1 0 dX12_number_47 rfl ?_
      obtain ⟨r5, hct, h⟩ := h
      refine h_callV K1 (st := []) [] (hct w (gl g)) q_clX12 lyp_96 rfl ok_X12_good ml_X12_125 ⟨Nat.le_of_ble_eq_true rfl, Nat.le_of_ble_eq_true rfl⟩ (Nat.le_of_ble_eq_true rfl) dX12_number_48 ?_
      show q_Gs w g 51 [(0, .ref 96), (1, .int x1), (2, .int x2)] [.int r5] (q_mm I L)
      refine g_if_ne K1 56 dX12_number_51 rfl (fun hc => ?_) (fun hc => ?_)
      · replace h := h.2 hc
        refine g_aload_n K1 0 dX12_number_56 rfl ?_
        refine h_getI K1 q_clX12 11 lyp_96 fkX12_11 fl_X12_112 dX12_number_57 ?_
        refine g_istore_n K1 dX12_number_60 rfl (by decide) rfl ?_
        refine g_aload_n K1 1 dX12_number_61 rfl ?_
        obtain ⟨I6, hct, h⟩ := h
        refine h_callV K1 (st := []) [] (hct w (gl g)) q_clX12 lyp_96 rfl ok_X12_advance ml_X12_141 ⟨Nat.le_of_ble_eq_true rfl, Nat.le_of_ble_eq_true rfl⟩ (Nat.le_of_ble_eq_true rfl) dX12_number_62 ?_
        show q_Gs w g 65 [(3, .int (I 96 11)), (0, .ref 96), (1, .int x1), (2, .int x2)] [] (q_mm I6 L)
        refine g_iload_n K1 0 dX12_number_65 rfl ?_
        obtain ⟨hr, hI, hL⟩ := h
        subst hr hI hL
        exact g_ireturn K rfl dX12_number_66
      · replace h := h.1 hc
        refine g_iconst K1 0 dX12_number_54 rfl ?_
        obtain ⟨hr, hI, hL⟩ := h
        subst hr hI hL
        exact g_ireturn K rfl dX12_number_55
    · replace h := h.1 hc
      refine g_aload_n K1 0 dX12_number_42 rfl ?_
      refine g_iconst K1 2 dX12_number_43 rfl ?_
      obtain ⟨I7, hct, h⟩ := h
      refine h_callV K1 (st := []) [.int 2] (hct w (gl g)) q_clX12 lyp_96 rfl ok_X12_errs ml_X12_147 ⟨Nat.le_of_ble_eq_true rfl, Nat.le_of_ble_eq_true rfl⟩ (Nat.le_of_ble_eq_true rfl) dX12_number_44 ?_
      show q_Gs w g 47 [(0, .ref 96), (1, .int x1), (2, .int x2)] [] (q_mm I7 L)
      refine g_aload_n K1 0 dX12_number_47 rfl ?_
      obtain ⟨r8, hct, h⟩ := h
      refine h_callV K1 (st := []) [] (hct w (gl g)) q_clX12 lyp_96 rfl ok_X12_good ml_X12_125 ⟨Nat.le_of_ble_eq_true rfl, Nat.le_of_ble_eq_true rfl⟩ (Nat.le_of_ble_eq_true rfl) dX12_number_48 ?_
      show q_Gs w g 51 [(0, .ref 96), (1, .int x1), (2, .int x2)] [.int r8] (q_mm I7 L)
      refine g_if_ne K1 56 dX12_number_51 rfl (fun hc => ?_) (fun hc => ?_)
      · replace h := h.2 hc
        refine g_aload_n K1 0 dX12_number_56 rfl ?_
        refine h_getI K1 q_clX12 11 lyp_96 fkX12_11 fl_X12_112 dX12_number_57 ?_
        refine g_istore_n K1 dX12_number_60 rfl (by decide) rfl ?_
        refine g_aload_n K1 1 dX12_number_61 rfl ?_
        obtain ⟨I9, hct, h⟩ := h
        refine h_callV K1 (st := []) [] (hct w (gl g)) q_clX12 lyp_96 rfl ok_X12_advance ml_X12_141 ⟨Nat.le_of_ble_eq_true rfl, Nat.le_of_ble_eq_true rfl⟩ (Nat.le_of_ble_eq_true rfl) dX12_number_62 ?_
        show q_Gs w g 65 [(3, .int (I7 96 11)), (0, .ref 96), (1, .int x1), (2, .int x2)] [] (q_mm I9 L)
        refine g_iload_n K1 0 dX12_number_65 rfl ?_
        obtain ⟨hr, hI, hL⟩ := h
        subst hr hI hL
        exact g_ireturn K rfl dX12_number_66
      · replace h := h.1 hc
        refine g_iconst K1 0 dX12_number_54 rfl ?_
        obtain ⟨hr, hI, hL⟩ := h
        subst hr hI hL
        exact g_ireturn K rfl dX12_number_55
theorem c0_X12_number {r : Option Value} {I I' : Nat → Nat → Int32} {L L' : Nat → Nat → Int64} {x1 : Int32} {x2 : Int32} (h : v_X12_number_0 r I' L' I L x1 x2) : q_C kX12_number [.ref 96, .int x1, .int x2] I L r I' L' := fun w l => q_ct (by decide) (Nat.le_of_ble_eq_true rfl) (Nat.le_refl _) (fun g _ K => h w g K)
abbrev v_X12_numberAt_0 (r : Option Value) (I' : Nat → Nat → Int32) (L' : Nat → Nat → Int64) (I : Nat → Nat → Int32) (L : Nat → Nat → Int64) (x1 : Int32) (x2 : Int32) : Prop := q_W kX12_numberAt 0 [(0, .ref 96), (1, .int x1), (2, .int x2)] [] I L r I' L'
set_option maxRecDepth 20000 in
set_option maxHeartbeats 2000000 in
theorem vc_X12_numberAt_0 {r : Option Value} {I' : Nat → Nat → Int32} {L' : Nat → Nat → Int64} {I : Nat → Nat → Int32} {L : Nat → Nat → Int64} {x1 : Int32} {x2 : Int32} (h : (vp_in ((60 * x1) + x2) 240 ∧ (r = some (.long (L 111 (((60 * x1) + x2) : Int32).toNatClampNeg)) ∧ I' = I ∧ L' = L))) : v_X12_numberAt_0 r I' L' I L x1 x2 := by
  intro w g K
  have K1 := K.1
  refine g_aload_n K1 0 dX12_numberAt_0 rfl ?_
  refine h_getO K1 q_clX12 39 111 lyp_96 fkX12_39 rfl fl_X12_58 dX12_numberAt_1 ?_
  refine g_bipush K1 60 dX12_numberAt_4 rfl ?_
  refine g_iload_n K1 1 dX12_numberAt_6 rfl ?_
  refine g_imul K1 dX12_numberAt_7 ?_
  refine g_iload_n K1 2 dX12_numberAt_8 rfl ?_
  refine g_iadd K1 dX12_numberAt_9 ?_
  obtain ⟨hg, h⟩ := h
  refine h_laload K1 lyp_111 hg dX12_numberAt_10 ?_
  obtain ⟨hr, hI, hL⟩ := h
  subst hr hI hL
  exact g_lreturn K rfl dX12_numberAt_11
theorem c0_X12_numberAt {r : Option Value} {I I' : Nat → Nat → Int32} {L L' : Nat → Nat → Int64} {x1 : Int32} {x2 : Int32} (h : v_X12_numberAt_0 r I' L' I L x1 x2) : q_C kX12_numberAt [.ref 96, .int x1, .int x2] I L r I' L' := fun w l => q_ct (by decide) (Nat.le_of_ble_eq_true rfl) (Nat.le_refl _) (fun g _ K => h w g K)
abbrev v_X12_often_0 (r : Option Value) (I' : Nat → Nat → Int32) (L' : Nat → Nat → Int64) (I : Nat → Nat → Int32) (L : Nat → Nat → Int64) (x1 : Int32) : Prop := q_W kX12_often 0 [(0, .ref 96), (1, .int x1)] [] I L r I' L'
abbrev v_X12_often_15 (r : Option Value) (I' : Nat → Nat → Int32) (L' : Nat → Nat → Int64) (I : Nat → Nat → Int32) (L : Nat → Nat → Int64) (x1 : Int32) (x2 : Int32) (x3 : Int32) : Prop := q_W kX12_often 15 [(0, .ref 96), (1, .int x1), (2, .int x2), (3, .int x3)] [] I L r I' L'
set_option maxRecDepth 20000 in
set_option maxHeartbeats 2000000 in
theorem vc_X12_often_0 {r : Option Value} {I' : Nat → Nat → Int32} {L' : Nat → Nat → Int64} {I : Nat → Nat → Int32} {L : Nat → Nat → Int64} {x1 : Int32} (h : (∃ r1 I2, q_C kX12_asksPew [.ref 96, .int x1] I L (some (.int r1)) I2 L ∧ ((r1 = 0 → (r = some (.int (-2)) ∧ I' = I2 ∧ L' = L)) ∧ (¬ r1 = 0 → (v_X12_often_15 r I' L' I2 L x1 0 0))))) : v_X12_often_0 r I' L' I L x1 := by
  intro w g K
  have K1 := K.1
  refine g_aload_n K1 0 dX12_often_0 rfl ?_
  refine g_iload_n K1 1 dX12_often_1 rfl ?_
  obtain ⟨r1, I2, hct, h⟩ := h
  refine h_callV K1 (st := []) [.int x1] (hct w (gl g)) q_clX12 lyp_96 rfl ok_X12_asksPew ml_X12_322 ⟨Nat.le_of_ble_eq_true rfl, Nat.le_of_ble_eq_true rfl⟩ (Nat.le_of_ble_eq_true rfl) dX12_often_2 ?_
  show q_Gs w g 5 [(0, .ref 96), (1, .int x1)] [.int r1] (q_mm I2 L)
  refine g_if_ne K1 11 dX12_often_5 rfl (fun hc => ?_) (fun hc => ?_)
  · replace h := h.2 hc
    refine g_iconst K1 0 dX12_often_11 rfl ?_
    refine g_istore_n K1 dX12_often_12 rfl (by decide) rfl ?_
    refine g_iconst K1 0 dX12_often_13 rfl ?_
    refine g_istore_n K1 dX12_often_14 rfl (by decide) rfl ?_
    exact g_perm [2, 3, 1, 0] rfl (h w g K)
  · replace h := h.1 hc
    refine g_bipush K1 (-2) dX12_often_8 rfl ?_
    obtain ⟨hr, hI, hL⟩ := h
    subst hr hI hL
    exact g_ireturn K rfl dX12_often_10
set_option maxRecDepth 20000 in
set_option maxHeartbeats 2000000 in
theorem vc_X12_often_15 {r : Option Value} {I' : Nat → Nat → Int32} {L' : Nat → Nat → Int64} {I : Nat → Nat → Int32} {L : Nat → Nat → Int64} {x1 : Int32} {x2 : Int32} {x3 : Int32} (h : (∃ r1, q_C kX12_hours [.ref 96] I L (some (.int r1)) I L ∧ ((r1 < x3 → (r = some (.int x2) ∧ I' = I ∧ L' = L)) ∧ (¬ r1 < x3 → (∃ r2, q_C kX12_saysOf [.ref 96, .int x1, .int x3] I L (some (.int r2)) I L ∧ ((r2 ≤ 0 → (v_X12_often_15 r I' L' I L x1 (x2 + 0) (x3 + 1))) ∧ (¬ r2 ≤ 0 → (v_X12_often_15 r I' L' I L x1 (x2 + 1) (x3 + 1))))))))) : v_X12_often_15 r I' L' I L x1 x2 x3 := by
  intro w g K
  have K1 := K.1
  refine g_iload_n K1 3 dX12_often_15 rfl ?_
  refine g_aload_n K1 0 dX12_often_16 rfl ?_
  obtain ⟨r1, hct, h⟩ := h
  refine h_callV K1 (st := [.int x3]) [] (hct w (gl g)) q_clX12 lyp_96 rfl ok_X12_hours ml_X12_82 ⟨Nat.le_of_ble_eq_true rfl, Nat.le_of_ble_eq_true rfl⟩ (Nat.le_of_ble_eq_true rfl) dX12_often_17 ?_
  show q_Gs w g 20 [(0, .ref 96), (1, .int x1), (2, .int x2), (3, .int x3)] [.int r1, .int x3] (q_mm I L)
  refine g_icmp_gt K1 46 dX12_often_20 rfl (fun hc => ?_) (fun hc => ?_)
  · replace h := h.1 hc
    refine g_iload_n K1 2 dX12_often_46 rfl ?_
    obtain ⟨hr, hI, hL⟩ := h
    subst hr hI hL
    exact g_ireturn K rfl dX12_often_47
  · replace h := h.2 hc
    refine g_iload_n K1 2 dX12_often_23 rfl ?_
    refine g_aload_n K1 0 dX12_often_24 rfl ?_
    refine g_iload_n K1 1 dX12_often_25 rfl ?_
    refine g_iload_n K1 3 dX12_often_26 rfl ?_
    obtain ⟨r2, hct, h⟩ := h
    refine h_callV K1 (st := [.int x2]) [.int x1, .int x3] (hct w (gl g)) q_clX12 lyp_96 rfl ok_X12_saysOf ml_X12_275 ⟨Nat.le_of_ble_eq_true rfl, Nat.le_of_ble_eq_true rfl⟩ (Nat.le_of_ble_eq_true rfl) dX12_often_27 ?_
    show q_Gs w g 30 [(0, .ref 96), (1, .int x1), (2, .int x2), (3, .int x3)] [.int r2, .int x2] (q_mm I L)
    refine g_if_le K1 37 dX12_often_30 rfl (fun hc => ?_) (fun hc => ?_)
    · replace h := h.1 hc
      refine g_iconst K1 0 dX12_often_37 rfl ?_
      refine g_iadd K1 dX12_often_38 ?_
      refine g_istore_n K1 dX12_often_39 rfl (by decide) rfl ?_
      refine g_iinc K1 (x3 + 1) 3 dX12_often_40 rfl rfl (by decide) rfl ?_
      refine g_goto K1 15 dX12_often_43 rfl ?_
      exact g_perm [2, 3, 1, 0] rfl (h w g K)
    · replace h := h.2 hc
      refine g_iconst K1 1 dX12_often_33 rfl ?_
      refine g_goto K1 38 dX12_often_34 rfl ?_
      refine g_iadd K1 dX12_often_38 ?_
      refine g_istore_n K1 dX12_often_39 rfl (by decide) rfl ?_
      refine g_iinc K1 (x3 + 1) 3 dX12_often_40 rfl rfl (by decide) rfl ?_
      refine g_goto K1 15 dX12_often_43 rfl ?_
      exact g_perm [2, 3, 1, 0] rfl (h w g K)
theorem c0_X12_often {r : Option Value} {I I' : Nat → Nat → Int32} {L L' : Nat → Nat → Int64} {x1 : Int32} (h : v_X12_often_0 r I' L' I L x1) : q_C kX12_often [.ref 96, .int x1] I L r I' L' := fun w l => q_ct (by decide) (Nat.le_of_ble_eq_true rfl) (Nat.le_refl _) (fun g _ K => h w g K)
abbrev v_X12_opens_0 (r : Option Value) (I' : Nat → Nat → Int32) (L' : Nat → Nat → Int64) (I : Nat → Nat → Int32) (L : Nat → Nat → Int64)  : Prop := q_W kX12_opens 0 [(0, .ref 96)] [] I L r I' L'
set_option maxRecDepth 20000 in
set_option maxHeartbeats 2000000 in
theorem vc_X12_opens_0 {r : Option Value} {I' : Nat → Nat → Int32} {L' : Nat → Nat → Int64} {I : Nat → Nat → Int32} {L : Nat → Nat → Int64}  (h : (∃ I1, q_C kX12_asItIs [.ref 96] I L none I1 L ∧ (∃ r2, q_C kX12_isNight [.ref 96] I1 L (some (.int r2)) I1 L ∧ ((r2 = 0 → (r = some (.int (-2)) ∧ I' = I1 ∧ L' = L)) ∧ (¬ r2 = 0 → (∃ r3 I4, q_C kX12_opensOf [.ref 96] I1 L (some (.int r3)) I4 L ∧ (r = some (.int r3) ∧ I' = I4 ∧ L' = L))))))) : v_X12_opens_0 r I' L' I L  := by
  intro w g K
  have K1 := K.1
  refine g_aload_n K1 0 dX12_opens_0 rfl ?_
  obtain ⟨I1, hct, h⟩ := h
  refine h_callV K1 (st := []) [] (hct w (gl g)) q_clX12 lyp_96 rfl ok_X12_asItIs ml_X12_297 ⟨Nat.le_of_ble_eq_true rfl, Nat.le_of_ble_eq_true rfl⟩ (Nat.le_of_ble_eq_true rfl) dX12_opens_1 ?_
  show q_Gs w g 4 [(0, .ref 96)] [] (q_mm I1 L)
  refine g_aload_n K1 0 dX12_opens_4 rfl ?_
  obtain ⟨r2, hct, h⟩ := h
  refine h_callV K1 (st := []) [] (hct w (gl g)) q_clX12 lyp_96 rfl ok_X12_isNight ml_X12_78 ⟨Nat.le_of_ble_eq_true rfl, Nat.le_of_ble_eq_true rfl⟩ (Nat.le_of_ble_eq_true rfl) dX12_opens_5 ?_
  show q_Gs w g 8 [(0, .ref 96)] [.int r2] (q_mm I1 L)
  refine g_if_eq K1 18 dX12_opens_8 rfl (fun hc => ?_) (fun hc => ?_)
  · replace h := h.1 hc
    refine g_bipush K1 (-2) dX12_opens_18 rfl ?_
    obtain ⟨hr, hI, hL⟩ := h
    subst hr hI hL
    exact g_ireturn K rfl dX12_opens_20
  · replace h := h.2 hc
    refine g_aload_n K1 0 dX12_opens_11 rfl ?_
    obtain ⟨r3, I4, hct, h⟩ := h
    refine h_callV K1 (st := []) [] (hct w (gl g)) q_clX12 lyp_96 rfl ok_X12_opensOf ml_X12_433 ⟨Nat.le_of_ble_eq_true rfl, Nat.le_of_ble_eq_true rfl⟩ (Nat.le_of_ble_eq_true rfl) dX12_opens_12 ?_
    show q_Gs w g 15 [(0, .ref 96)] [.int r3] (q_mm I4 L)
    refine g_goto K1 20 dX12_opens_15 rfl ?_
    obtain ⟨hr, hI, hL⟩ := h
    subst hr hI hL
    exact g_ireturn K rfl dX12_opens_20
theorem c0_X12_opens {r : Option Value} {I I' : Nat → Nat → Int32} {L L' : Nat → Nat → Int64}  (h : v_X12_opens_0 r I' L' I L ) : q_C kX12_opens [.ref 96] I L r I' L' := fun w l => q_ct (by decide) (Nat.le_of_ble_eq_true rfl) (Nat.le_refl _) (fun g _ K => h w g K)
abbrev v_X12_opensOf_0 (r : Option Value) (I' : Nat → Nat → Int32) (L' : Nat → Nat → Int64) (I : Nat → Nat → Int32) (L : Nat → Nat → Int64)  : Prop := q_W kX12_opensOf 0 [(0, .ref 96)] [] I L r I' L'
abbrev v_X12_opensOf_6 (r : Option Value) (I' : Nat → Nat → Int32) (L' : Nat → Nat → Int64) (I : Nat → Nat → Int32) (L : Nat → Nat → Int64) (x1 : Int32) (x2 : Int32) (x3 : Int32) : Prop := q_W kX12_opensOf 6 [(0, .ref 96), (1, .int x1), (2, .int x2), (3, .int x3)] [] I L r I' L'
set_option maxRecDepth 20000 in
set_option maxHeartbeats 2000000 in
theorem vc_X12_opensOf_0 {r : Option Value} {I' : Nat → Nat → Int32} {L' : Nat → Nat → Int64} {I : Nat → Nat → Int32} {L : Nat → Nat → Int64}  (h : (v_X12_opensOf_6 r I' L' I L (-1) (-1) 0)) : v_X12_opensOf_0 r I' L' I L  := by
  intro w g K
  have K1 := K.1
  refine g_iconst K1 (-1) dX12_opensOf_0 rfl ?_
  refine g_istore_n K1 dX12_opensOf_1 rfl (by decide) rfl ?_
  refine g_iconst K1 (-1) dX12_opensOf_2 rfl ?_
  refine g_istore_n K1 dX12_opensOf_3 rfl (by decide) rfl ?_
  refine g_iconst K1 0 dX12_opensOf_4 rfl ?_
  refine g_istore_n K1 dX12_opensOf_5 rfl (by decide) rfl ?_
  exact g_perm [3, 2, 1, 0] rfl (h w g K)
set_option maxRecDepth 20000 in
set_option maxHeartbeats 2000000 in
theorem vc_X12_opensOf_6 {r : Option Value} {I' : Nat → Nat → Int32} {L' : Nat → Nat → Int64} {I : Nat → Nat → Int32} {L : Nat → Nat → Int64} {x1 : Int32} {x2 : Int32} {x3 : Int32} (h : (∃ r1, q_C kX12_pews [.ref 96] I L (some (.int r1)) I L ∧ ((r1 ≤ x3 → (r = some (.int x1) ∧ I' = I ∧ L' = L)) ∧ (¬ r1 ≤ x3 → (∃ r2 I3, q_C kX12_repliesTo [.ref 96, .int x3] I L (some (.int r2)) I3 L ∧ (∃ r4 I5, q_C kX12_litByTurns [.ref 96, .int x3, .int r2] I3 L (some (.int r4)) I5 L ∧ ((x2 < r4 → (v_X12_opensOf_6 r I' L' I5 L x3 r4 (x3 + 1))) ∧ (¬ x2 < r4 → (v_X12_opensOf_6 r I' L' I5 L x1 x2 (x3 + 1)))))))))) : v_X12_opensOf_6 r I' L' I L x1 x2 x3 := by
  intro w g K
  have K1 := K.1
  refine g_iload_n K1 3 dX12_opensOf_6 rfl ?_
  refine g_aload_n K1 0 dX12_opensOf_7 rfl ?_
  obtain ⟨r1, hct, h⟩ := h
  refine h_callV K1 (st := [.int x3]) [] (hct w (gl g)) q_clX12 lyp_96 rfl ok_X12_pews ml_X12_74 ⟨Nat.le_of_ble_eq_true rfl, Nat.le_of_ble_eq_true rfl⟩ (Nat.le_of_ble_eq_true rfl) dX12_opensOf_8 ?_
  show q_Gs w g 11 [(0, .ref 96), (1, .int x1), (2, .int x2), (3, .int x3)] [.int r1, .int x3] (q_mm I L)
  refine g_icmp_ge K1 46 dX12_opensOf_11 rfl (fun hc => ?_) (fun hc => ?_)
  · replace h := h.1 hc
    refine g_iload_n K1 1 dX12_opensOf_46 rfl ?_
    obtain ⟨hr, hI, hL⟩ := h
    subst hr hI hL
    exact g_ireturn K rfl dX12_opensOf_47
  · replace h := h.2 hc
    refine g_aload_n K1 0 dX12_opensOf_14 rfl ?_
    refine g_iload_n K1 3 dX12_opensOf_15 rfl ?_
    refine g_aload_n K1 0 dX12_opensOf_16 rfl ?_
    refine g_iload_n K1 3 dX12_opensOf_17 rfl ?_
    obtain ⟨r2, I3, hct, h⟩ := h
    refine h_callV K1 (st := [.int x3, .ref 96]) [.int x3] (hct w (gl g)) q_clX12 lyp_96 rfl ok_X12_repliesTo ml_X12_430 ⟨Nat.le_of_ble_eq_true rfl, Nat.le_of_ble_eq_true rfl⟩ (Nat.le_of_ble_eq_true rfl) dX12_opensOf_18 ?_
    show q_Gs w g 21 [(0, .ref 96), (1, .int x1), (2, .int x2), (3, .int x3)] [.int r2, .int x3, .ref 96] (q_mm I3 L)
    obtain ⟨r4, I5, hct, h⟩ := h
    refine h_callV K1 (st := []) [.int x3, .int r2] (hct w (gl g)) q_clX12 lyp_96 rfl ok_X12_litByTurns ml_X12_427 ⟨Nat.le_of_ble_eq_true rfl, Nat.le_of_ble_eq_true rfl⟩ (Nat.le_of_ble_eq_true rfl) dX12_opensOf_21 ?_
    show q_Gs w g 24 [(0, .ref 96), (1, .int x1), (2, .int x2), (3, .int x3)] [.int r4] (q_mm I5 L)
    refine g_istore K1 dX12_opensOf_24 (by decide) rfl ?_
    refine g_iload K1 0 dX12_opensOf_26 rfl ?_
    refine g_iload_n K1 3 dX12_opensOf_28 rfl ?_
    refine g_icmp_gt K1 35 dX12_opensOf_29 rfl (fun hc => ?_) (fun hc => ?_)
    · replace h := h.1 hc
      refine g_iload K1 0 dX12_opensOf_35 rfl ?_
      refine g_istore_n K1 dX12_opensOf_37 rfl (by decide) rfl ?_
      refine g_iload_n K1 4 dX12_opensOf_38 rfl ?_
      refine g_istore_n K1 dX12_opensOf_39 rfl (by decide) rfl ?_
      refine g_iinc K1 (x3 + 1) 4 dX12_opensOf_40 rfl rfl (by decide) rfl ?_
      refine g_goto K1 6 dX12_opensOf_43 rfl ?_
      exact g_perm [4, 1, 2, 0] rfl (h w g K)
    · replace h := h.2 hc
      refine g_goto K1 40 dX12_opensOf_32 rfl ?_
      refine g_iinc K1 (x3 + 1) 4 dX12_opensOf_40 rfl rfl (by decide) rfl ?_
      refine g_goto K1 6 dX12_opensOf_43 rfl ?_
      exact g_perm [2, 3, 4, 0] rfl (h w g K)
theorem c0_X12_opensOf {r : Option Value} {I I' : Nat → Nat → Int32} {L L' : Nat → Nat → Int64}  (h : v_X12_opensOf_0 r I' L' I L ) : q_C kX12_opensOf [.ref 96] I L r I' L' := fun w l => q_ct (by decide) (Nat.le_of_ble_eq_true rfl) (Nat.le_refl _) (fun g _ K => h w g K)
abbrev v_X12_part_0 (r : Option Value) (I' : Nat → Nat → Int32) (L' : Nat → Nat → Int64) (I : Nat → Nat → Int32) (L : Nat → Nat → Int64) (x0 : Int64) (x2 : Int64) (x4 : Int32) : Prop := q_W kX12_part 0 [(0, .long x0), (2, .long x2), (4, .int x4)] [] I L r I' L'
set_option maxRecDepth 20000 in
set_option maxHeartbeats 2000000 in
theorem vc_X12_part_0 {r : Option Value} {I' : Nat → Nat → Int32} {L' : Nat → Nat → Int64} {I : Nat → Nat → Int32} {L : Nat → Nat → Int64} {x0 : Int64} {x2 : Int64} {x4 : Int32} (h : ((x4 = 0 → (∃ r2, q_C kX12_divisor [.long x0, .long x2] I L (some (.long r2)) I L ∧ (¬ r2 = 0 ∧ (r = some (.long (x0 / r2)) ∧ I' = I ∧ L' = L)))) ∧ (¬ x4 = 0 → (∃ r1, q_C kX12_divisor [.long x0, .long x2] I L (some (.long r1)) I L ∧ (¬ r1 = 0 ∧ (r = some (.long (x2 / r1)) ∧ I' = I ∧ L' = L)))))) : v_X12_part_0 r I' L' I L x0 x2 x4 := by
  intro w g K
  have K1 := K.1
  refine g_iload K1 2 dX12_part_0 rfl ?_
  refine g_if_ne K1 9 dX12_part_2 rfl (fun hc => ?_) (fun hc => ?_)
  · replace h := h.2 hc
    refine g_lload_n K1 1 dX12_part_9 rfl ?_
    refine g_lload_n K1 0 dX12_part_10 rfl ?_
    refine g_lload_n K1 1 dX12_part_11 rfl ?_
    obtain ⟨r1, hct, h⟩ := h
    refine h_callS K1 (st := [.long x2]) [.long x0, .long x2] (hct w (gl g)) ok_X12_divisor ml_X12_387 ⟨Nat.le_of_ble_eq_true rfl, Nat.le_of_ble_eq_true rfl⟩ (Nat.le_of_ble_eq_true rfl) dX12_part_12 ?_
    show q_Gs w g 15 [(0, .long x0), (2, .long x2), (4, .int x4)] [.long r1, .long x2] (q_mm I L)
    obtain ⟨hg, h⟩ := h
    refine g_ldiv K1 dX12_part_15 hg ?_
    obtain ⟨hr, hI, hL⟩ := h
    subst hr hI hL
    exact g_lreturn K rfl dX12_part_16
  · replace h := h.1 hc
    refine g_lload_n K1 0 dX12_part_5 rfl ?_
    refine g_goto K1 10 dX12_part_6 rfl ?_
    refine g_lload_n K1 0 dX12_part_10 rfl ?_
    refine g_lload_n K1 1 dX12_part_11 rfl ?_
    obtain ⟨r2, hct, h⟩ := h
    refine h_callS K1 (st := [.long x0]) [.long x0, .long x2] (hct w (gl g)) ok_X12_divisor ml_X12_387 ⟨Nat.le_of_ble_eq_true rfl, Nat.le_of_ble_eq_true rfl⟩ (Nat.le_of_ble_eq_true rfl) dX12_part_12 ?_
    show q_Gs w g 15 [(0, .long x0), (2, .long x2), (4, .int x4)] [.long r2, .long x0] (q_mm I L)
    obtain ⟨hg, h⟩ := h
    refine g_ldiv K1 dX12_part_15 hg ?_
    obtain ⟨hr, hI, hL⟩ := h
    subst hr hI hL
    exact g_lreturn K rfl dX12_part_16
theorem c0_X12_part {r : Option Value} {I I' : Nat → Nat → Int32} {L L' : Nat → Nat → Int64} {x0 : Int64} {x2 : Int64} {x4 : Int32} (h : v_X12_part_0 r I' L' I L x0 x2 x4) : q_C kX12_part [.long x0, .long x2, .int x4] I L r I' L' := fun w l => q_ct (by decide) (Nat.le_of_ble_eq_true rfl) (Nat.le_refl _) (fun g _ K => h w g K)
abbrev v_X12_paste_0 (r : Option Value) (I' : Nat → Nat → Int32) (L' : Nat → Nat → Int64) (I : Nat → Nat → Int32) (L : Nat → Nat → Int64) (x1 : Int32) (x2 : Int32) (x3 : Int32) (x4 : Int32) (x5 : Int32) : Prop := q_W kX12_paste 0 [(0, .ref 96), (1, .int x1), (2, .int x2), (3, .int x3), (4, .int x4), (5, .int x5)] [] I L r I' L'
abbrev v_X12_paste_113 (r : Option Value) (I' : Nat → Nat → Int32) (L' : Nat → Nat → Int64) (I : Nat → Nat → Int32) (L : Nat → Nat → Int64) (x1 : Int32) (x2 : Int32) (x3 : Int32) (x4 : Int32) (x5 : Int32) (x6 : Int32) : Prop := q_W kX12_paste 113 [(0, .ref 96), (1, .int x1), (2, .int x2), (3, .int x3), (4, .int x4), (5, .int x5), (6, .int x6)] [] I L r I' L'
abbrev v_X12_paste_150 (r : Option Value) (I' : Nat → Nat → Int32) (L' : Nat → Nat → Int64) (I : Nat → Nat → Int32) (L : Nat → Nat → Int64) (x3 : Int32) (x4 : Int32) (x5 : Int32) (x6 : Int32) : Prop := q_W kX12_paste 150 [(0, .ref 96), (3, .int x3), (4, .int x4), (5, .int x5), (6, .int x6)] [] I L r I' L'
set_option maxRecDepth 20000 in
set_option maxHeartbeats 2000000 in
theorem vc_X12_paste_0 {r : Option Value} {I' : Nat → Nat → Int32} {L' : Nat → Nat → Int64} {I : Nat → Nat → Int32} {L : Nat → Nat → Int64} {x1 : Int32} {x2 : Int32} {x3 : Int32} {x4 : Int32} {x5 : Int32} (h : (∃ r1, q_C kX12_isSlot [.int x1] I L (some (.int r1)) I L ∧ ((r1 = 0 → (r = some (.int (-2)) ∧ I' = I ∧ L' = L)) ∧ (¬ r1 = 0 → (∃ r2, q_C kX12_isSlot [.int x3] I L (some (.int r2)) I L ∧ ((r2 = 0 → (r = some (.int (-2)) ∧ I' = I ∧ L' = L)) ∧ (¬ r2 = 0 → (vp_in x1 4 ∧ (((I 109 x1.toNatClampNeg) = (-1) → (r = some (.int (-6)) ∧ I' = I ∧ L' = L)) ∧ (¬ (I 109 x1.toNatClampNeg) = (-1) → (vp_in x3 4 ∧ (((I 109 x3.toNatClampNeg) = (-1) → (r = some (.int (-6)) ∧ I' = I ∧ L' = L)) ∧ (¬ (I 109 x3.toNatClampNeg) = (-1) → (vp_in x1 4 ∧ (vp_in x3 4 ∧ (((I 110 x1.toNatClampNeg) = (I 110 x3.toNatClampNeg) → ((x2 < 0 → (r = some (.int (-7)) ∧ I' = I ∧ L' = L)) ∧ (¬ x2 < 0 → ((x4 < 0 → (r = some (.int (-7)) ∧ I' = I ∧ L' = L)) ∧ (¬ x4 < 0 → ((x5 < 0 → (r = some (.int (-7)) ∧ I' = I ∧ L' = L)) ∧ (¬ x5 < 0 → (vp_in x1 4 ∧ ((0 < (lg_cmp (x2.toInt64 + x5.toInt64) ((I 109 x1.toNatClampNeg) : Int32).toInt64) → (r = some (.int (-7)) ∧ I' = I ∧ L' = L)) ∧ (¬ 0 < (lg_cmp (x2.toInt64 + x5.toInt64) ((I 109 x1.toNatClampNeg) : Int32).toInt64) → (vp_in x3 4 ∧ (((lg_cmp (x4.toInt64 + x5.toInt64) ((I 109 x3.toNatClampNeg) : Int32).toInt64) ≤ 0 → (v_X12_paste_113 r I' L' I L x1 x2 x3 x4 x5 0)) ∧ (¬ (lg_cmp (x4.toInt64 + x5.toInt64) ((I 109 x3.toNatClampNeg) : Int32).toInt64) ≤ 0 → (r = some (.int (-7)) ∧ I' = I ∧ L' = L)))))))))))))) ∧ (¬ (I 110 x1.toNatClampNeg) = (I 110 x3.toNatClampNeg) → (r = some (.int (-8)) ∧ I' = I ∧ L' = L)))))))))))))))))) : v_X12_paste_0 r I' L' I L x1 x2 x3 x4 x5 := by
  intro w g K
  have K1 := K.1
  refine g_iload_n K1 1 dX12_paste_0 rfl ?_
  obtain ⟨r1, hct, h⟩ := h
  refine h_callS K1 (st := []) [.int x1] (hct w (gl g)) ok_X12_isSlot ml_X12_343 ⟨Nat.le_of_ble_eq_true rfl, Nat.le_of_ble_eq_true rfl⟩ (Nat.le_of_ble_eq_true rfl) dX12_paste_1 ?_
  show q_Gs w g 4 [(0, .ref 96), (1, .int x1), (2, .int x2), (3, .int x3), (4, .int x4), (5, .int x5)] [.int r1] (q_mm I L)
  refine g_if_eq K1 14 dX12_paste_4 rfl (fun hc => ?_) (fun hc => ?_)
  · replace h := h.1 hc
    refine g_bipush K1 (-2) dX12_paste_14 rfl ?_
    obtain ⟨hr, hI, hL⟩ := h
    subst hr hI hL
    exact g_ireturn K rfl dX12_paste_16
  · replace h := h.2 hc
    refine g_iload_n K1 3 dX12_paste_7 rfl ?_
    obtain ⟨r2, hct, h⟩ := h
    refine h_callS K1 (st := []) [.int x3] (hct w (gl g)) ok_X12_isSlot ml_X12_343 ⟨Nat.le_of_ble_eq_true rfl, Nat.le_of_ble_eq_true rfl⟩ (Nat.le_of_ble_eq_true rfl) dX12_paste_8 ?_
    show q_Gs w g 11 [(0, .ref 96), (1, .int x1), (2, .int x2), (3, .int x3), (4, .int x4), (5, .int x5)] [.int r2] (q_mm I L)
    refine g_if_ne K1 17 dX12_paste_11 rfl (fun hc => ?_) (fun hc => ?_)
    · replace h := h.2 hc
      refine g_aload_n K1 0 dX12_paste_17 rfl ?_
      refine h_getO K1 q_clX12 37 109 lyp_96 fkX12_37 rfl fl_X12_52 dX12_paste_18 ?_
      refine g_iload_n K1 1 dX12_paste_21 rfl ?_
      obtain ⟨hg, h⟩ := h
      refine h_iaload K1 lyp_109 hg dX12_paste_22 ?_
      refine g_iconst K1 (-1) dX12_paste_23 rfl ?_
      refine g_icmp_eq K1 37 dX12_paste_24 rfl (fun hc => ?_) (fun hc => ?_)
      · replace h := h.1 hc
        refine g_bipush K1 (-6) dX12_paste_37 rfl ?_
        obtain ⟨hr, hI, hL⟩ := h
        subst hr hI hL
        exact g_ireturn K rfl dX12_paste_39
      · replace h := h.2 hc
        refine g_aload_n K1 0 dX12_paste_27 rfl ?_
        refine h_getO K1 q_clX12 37 109 lyp_96 fkX12_37 rfl fl_X12_52 dX12_paste_28 ?_
        refine g_iload_n K1 3 dX12_paste_31 rfl ?_
        obtain ⟨hg, h⟩ := h
        refine h_iaload K1 lyp_109 hg dX12_paste_32 ?_
        refine g_iconst K1 (-1) dX12_paste_33 rfl ?_
        refine g_icmp_ne K1 40 dX12_paste_34 rfl (fun hc => ?_) (fun hc => ?_)
        · replace h := h.2 hc
          refine g_aload_n K1 0 dX12_paste_40 rfl ?_
          refine h_getO K1 q_clX12 38 110 lyp_96 fkX12_38 rfl fl_X12_55 dX12_paste_41 ?_
          refine g_iload_n K1 1 dX12_paste_44 rfl ?_
          obtain ⟨hg, h⟩ := h
          refine h_iaload K1 lyp_110 hg dX12_paste_45 ?_
          refine g_aload_n K1 0 dX12_paste_46 rfl ?_
          refine h_getO K1 q_clX12 38 110 lyp_96 fkX12_38 rfl fl_X12_55 dX12_paste_47 ?_
          refine g_iload_n K1 3 dX12_paste_50 rfl ?_
          obtain ⟨hg, h⟩ := h
          refine h_iaload K1 lyp_110 hg dX12_paste_51 ?_
          refine g_icmp_eq K1 58 dX12_paste_52 rfl (fun hc => ?_) (fun hc => ?_)
          · replace h := h.1 hc
            refine g_iload_n K1 2 dX12_paste_58 rfl ?_
            refine g_if_lt K1 107 dX12_paste_59 rfl (fun hc => ?_) (fun hc => ?_)
            · replace h := h.1 hc
              refine g_bipush K1 (-7) dX12_paste_107 rfl ?_
              obtain ⟨hr, hI, hL⟩ := h
              subst hr hI hL
              exact g_ireturn K rfl dX12_paste_109
            · replace h := h.2 hc
              refine g_iload K1 4 dX12_paste_62 rfl ?_
              refine g_if_lt K1 107 dX12_paste_64 rfl (fun hc => ?_) (fun hc => ?_)
              · replace h := h.1 hc
                refine g_bipush K1 (-7) dX12_paste_107 rfl ?_
                obtain ⟨hr, hI, hL⟩ := h
                subst hr hI hL
                exact g_ireturn K rfl dX12_paste_109
              · replace h := h.2 hc
                refine g_iload K1 5 dX12_paste_67 rfl ?_
                refine g_if_lt K1 107 dX12_paste_69 rfl (fun hc => ?_) (fun hc => ?_)
                · replace h := h.1 hc
                  refine g_bipush K1 (-7) dX12_paste_107 rfl ?_
                  obtain ⟨hr, hI, hL⟩ := h
                  subst hr hI hL
                  exact g_ireturn K rfl dX12_paste_109
                · replace h := h.2 hc
                  refine g_iload_n K1 2 dX12_paste_72 rfl ?_
                  refine g_i2l K1 dX12_paste_73 ?_
                  refine g_iload K1 5 dX12_paste_74 rfl ?_
                  refine g_i2l K1 dX12_paste_76 ?_
                  refine g_ladd K1 dX12_paste_77 ?_
                  refine g_aload_n K1 0 dX12_paste_78 rfl ?_
                  refine h_getO K1 q_clX12 37 109 lyp_96 fkX12_37 rfl fl_X12_52 dX12_paste_79 ?_
                  refine g_iload_n K1 1 dX12_paste_82 rfl ?_
                  obtain ⟨hg, h⟩ := h
                  refine h_iaload K1 lyp_109 hg dX12_paste_83 ?_
                  refine g_i2l K1 dX12_paste_84 ?_
                  refine g_lcmp K1 dX12_paste_85 ?_
                  refine g_if_gt K1 107 dX12_paste_86 rfl (fun hc => ?_) (fun hc => ?_)
                  · replace h := h.1 hc
                    refine g_bipush K1 (-7) dX12_paste_107 rfl ?_
                    obtain ⟨hr, hI, hL⟩ := h
                    subst hr hI hL
                    exact g_ireturn K rfl dX12_paste_109
                  · replace h := h.2 hc
                    refine g_iload K1 4 dX12_paste_89 rfl ?_
                    refine g_i2l K1 dX12_paste_91 ?_
                    refine g_iload K1 5 dX12_paste_92 rfl ?_
                    refine g_i2l K1 dX12_paste_94 ?_
                    refine g_ladd K1 dX12_paste_95 ?_
                    refine g_aload_n K1 0 dX12_paste_96 rfl ?_
                    refine h_getO K1 q_clX12 37 109 lyp_96 fkX12_37 rfl fl_X12_52 dX12_paste_97 ?_
                    refine g_iload_n K1 3 dX12_paste_100 rfl ?_
                    obtain ⟨hg, h⟩ := h
                    refine h_iaload K1 lyp_109 hg dX12_paste_101 ?_
                    refine g_i2l K1 dX12_paste_102 ?_
                    refine g_lcmp K1 dX12_paste_103 ?_
                    refine g_if_le K1 110 dX12_paste_104 rfl (fun hc => ?_) (fun hc => ?_)
                    · replace h := h.1 hc
                      refine g_iconst K1 0 dX12_paste_110 rfl ?_
                      refine g_istore K1 dX12_paste_111 (by decide) rfl ?_
                      exact g_perm [1, 2, 3, 4, 5, 6, 0] rfl (h w g K)
                    · replace h := h.2 hc
                      refine g_bipush K1 (-7) dX12_paste_107 rfl ?_
                      obtain ⟨hr, hI, hL⟩ := h
                      subst hr hI hL
                      exact g_ireturn K rfl dX12_paste_109
          · replace h := h.2 hc
            refine g_bipush K1 (-8) dX12_paste_55 rfl ?_
            obtain ⟨hr, hI, hL⟩ := h
            subst hr hI hL
            exact g_ireturn K rfl dX12_paste_57
        · replace h := h.1 hc
          refine g_bipush K1 (-6) dX12_paste_37 rfl ?_
          obtain ⟨hr, hI, hL⟩ := h
          subst hr hI hL
          exact g_ireturn K rfl dX12_paste_39
    · replace h := h.1 hc
      refine g_bipush K1 (-2) dX12_paste_14 rfl ?_
      obtain ⟨hr, hI, hL⟩ := h
      subst hr hI hL
      exact g_ireturn K rfl dX12_paste_16
set_option maxRecDepth 20000 in
set_option maxHeartbeats 2000000 in
theorem vc_X12_paste_113 {r : Option Value} {I' : Nat → Nat → Int32} {L' : Nat → Nat → Int64} {I : Nat → Nat → Int32} {L : Nat → Nat → Int64} {x1 : Int32} {x2 : Int32} {x3 : Int32} {x4 : Int32} {x5 : Int32} {x6 : Int32} (h : ((x5 ≤ x6 → (v_X12_paste_150 r I' L' I L x3 x4 x5 0)) ∧ (¬ x5 ≤ x6 → (vp_in (((60 * x1) + x2) + x6) 240 ∧ (vp_in x6 60 ∧ ∀ L1, L1 = (up2 L 112 x6.toNatClampNeg (L 111 ((((60 * x1) + x2) + x6) : Int32).toNatClampNeg)) → (v_X12_paste_113 r I' L' I L1 x1 x2 x3 x4 x5 (x6 + 1))))))) : v_X12_paste_113 r I' L' I L x1 x2 x3 x4 x5 x6 := by
  intro w g K
  have K1 := K.1
  refine g_iload K1 6 dX12_paste_113 rfl ?_
  refine g_iload K1 5 dX12_paste_115 rfl ?_
  refine g_icmp_ge K1 147 dX12_paste_117 rfl (fun hc => ?_) (fun hc => ?_)
  · replace h := h.1 hc
    refine g_iconst K1 0 dX12_paste_147 rfl ?_
    refine g_istore K1 dX12_paste_148 (by decide) rfl ?_
    exact g_perm [1, 4, 5, 6, 0] rfl (h w g K)
  · replace h := h.2 hc
    refine g_aload_n K1 0 dX12_paste_120 rfl ?_
    refine h_getO K1 q_clX12 40 112 lyp_96 fkX12_40 rfl fl_X12_62 dX12_paste_121 ?_
    refine g_iload K1 6 dX12_paste_124 rfl ?_
    refine g_aload_n K1 0 dX12_paste_126 rfl ?_
    refine h_getO K1 q_clX12 39 111 lyp_96 fkX12_39 rfl fl_X12_58 dX12_paste_127 ?_
    refine g_bipush K1 60 dX12_paste_130 rfl ?_
    refine g_iload_n K1 1 dX12_paste_132 rfl ?_
    refine g_imul K1 dX12_paste_133 ?_
    refine g_iload_n K1 2 dX12_paste_134 rfl ?_
    refine g_iadd K1 dX12_paste_135 ?_
    refine g_iload K1 6 dX12_paste_136 rfl ?_
    refine g_iadd K1 dX12_paste_138 ?_
    obtain ⟨hg, h⟩ := h
    refine h_laload K1 lyp_111 hg dX12_paste_139 ?_
    obtain ⟨hg, h⟩ := h
    refine h_lastore K1 lyp_112 hg dX12_paste_140 ?_
    refine g_nameML (fun L1 hL1 => ?_)
    replace h := h L1 hL1
    refine g_iinc K1 (x6 + 1) 6 dX12_paste_141 rfl rfl (by decide) rfl ?_
    refine g_goto K1 113 dX12_paste_144 rfl ?_
    exact g_perm [1, 2, 3, 4, 5, 6, 0] rfl (h w g K)
set_option maxRecDepth 20000 in
set_option maxHeartbeats 2000000 in
theorem vc_X12_paste_150 {r : Option Value} {I' : Nat → Nat → Int32} {L' : Nat → Nat → Int64} {I : Nat → Nat → Int32} {L : Nat → Nat → Int64} {x3 : Int32} {x4 : Int32} {x5 : Int32} {x6 : Int32} (h : ((x5 ≤ x6 → (r = some (.int 0) ∧ I' = I ∧ L' = L)) ∧ (¬ x5 ≤ x6 → (vp_in x6 60 ∧ (vp_in (((60 * x3) + x4) + x6) 240 ∧ ∀ L1, L1 = (up2 L 111 ((((60 * x3) + x4) + x6) : Int32).toNatClampNeg (L 112 x6.toNatClampNeg)) → (v_X12_paste_150 r I' L' I L1 x3 x4 x5 (x6 + 1))))))) : v_X12_paste_150 r I' L' I L x3 x4 x5 x6 := by
  intro w g K
  have K1 := K.1
  refine g_iload K1 4 dX12_paste_150 rfl ?_
  refine g_iload K1 3 dX12_paste_152 rfl ?_
  refine g_icmp_ge K1 185 dX12_paste_154 rfl (fun hc => ?_) (fun hc => ?_)
  · replace h := h.1 hc
    refine g_iconst K1 0 dX12_paste_185 rfl ?_
    obtain ⟨hr, hI, hL⟩ := h
    subst hr hI hL
    exact g_ireturn K rfl dX12_paste_186
  · replace h := h.2 hc
    refine g_aload_n K1 0 dX12_paste_157 rfl ?_
    refine h_getO K1 q_clX12 39 111 lyp_96 fkX12_39 rfl fl_X12_58 dX12_paste_158 ?_
    refine g_bipush K1 60 dX12_paste_161 rfl ?_
    refine g_iload_n K1 1 dX12_paste_163 rfl ?_
    refine g_imul K1 dX12_paste_164 ?_
    refine g_iload K1 2 dX12_paste_165 rfl ?_
    refine g_iadd K1 dX12_paste_167 ?_
    refine g_iload K1 4 dX12_paste_168 rfl ?_
    refine g_iadd K1 dX12_paste_170 ?_
    refine g_aload_n K1 0 dX12_paste_171 rfl ?_
    refine h_getO K1 q_clX12 40 112 lyp_96 fkX12_40 rfl fl_X12_62 dX12_paste_172 ?_
    refine g_iload K1 4 dX12_paste_175 rfl ?_
    obtain ⟨hg, h⟩ := h
    refine h_laload K1 lyp_112 hg dX12_paste_177 ?_
    obtain ⟨hg, h⟩ := h
    refine h_lastore K1 lyp_111 hg dX12_paste_178 ?_
    refine g_nameML (fun L1 hL1 => ?_)
    replace h := h L1 hL1
    refine g_iinc K1 (x6 + 1) 4 dX12_paste_179 rfl rfl (by decide) rfl ?_
    refine g_goto K1 150 dX12_paste_182 rfl ?_
    exact g_perm [1, 2, 3, 4, 0] rfl (h w g K)
theorem c0_X12_paste {r : Option Value} {I I' : Nat → Nat → Int32} {L L' : Nat → Nat → Int64} {x1 : Int32} {x2 : Int32} {x3 : Int32} {x4 : Int32} {x5 : Int32} (h : v_X12_paste_0 r I' L' I L x1 x2 x3 x4 x5) : q_C kX12_paste [.ref 96, .int x1, .int x2, .int x3, .int x4, .int x5] I L r I' L' := fun w l => q_ct (by decide) (Nat.le_of_ble_eq_true rfl) (Nat.le_refl _) (fun g _ K => h w g K)
abbrev v_X12_pew_0 (r : Option Value) (I' : Nat → Nat → Int32) (L' : Nat → Nat → Int64) (I : Nat → Nat → Int32) (L : Nat → Nat → Int64) (x1 : Int32) (x2 : Int32) : Prop := q_W kX12_pew 0 [(0, .ref 96), (1, .int x1), (2, .int x2)] [] I L r I' L'
set_option maxRecDepth 20000 in
set_option maxHeartbeats 2000000 in
theorem vc_X12_pew_0 {r : Option Value} {I' : Nat → Nat → Int32} {L' : Nat → Nat → Int64} {I : Nat → Nat → Int32} {L : Nat → Nat → Int64} {x1 : Int32} {x2 : Int32} (h : (∃ r1, q_C kX12_isPew [.ref 96, .long x1.toInt64] I L (some (.int r1)) I L ∧ ((r1 = 0 → (r = some (.int (-2)) ∧ I' = I ∧ L' = L)) ∧ (¬ r1 = 0 → (∃ r2, q_C kX12_in [.long x2.toInt64, .long 0, .long 2] I L (some (.int r2)) I L ∧ ((r2 = 0 → (r = some (.int (-2)) ∧ I' = I ∧ L' = L)) ∧ (¬ r2 = 0 → (∃ r3, q_C kX12_ruleOf [.ref 96, .int x1, .int x2] I L (some (.int r3)) I L ∧ (r = some (.int r3) ∧ I' = I ∧ L' = L))))))))) : v_X12_pew_0 r I' L' I L x1 x2 := by
  intro w g K
  have K1 := K.1
  refine g_aload_n K1 0 dX12_pew_0 rfl ?_
  refine g_iload_n K1 1 dX12_pew_1 rfl ?_
  refine g_i2l K1 dX12_pew_2 ?_
  obtain ⟨r1, hct, h⟩ := h
  refine h_callV K1 (st := []) [.long x1.toInt64] (hct w (gl g)) q_clX12 lyp_96 rfl ok_X12_isPew ml_X12_218 ⟨Nat.le_of_ble_eq_true rfl, Nat.le_of_ble_eq_true rfl⟩ (Nat.le_of_ble_eq_true rfl) dX12_pew_3 ?_
  show q_Gs w g 6 [(0, .ref 96), (1, .int x1), (2, .int x2)] [.int r1] (q_mm I L)
  refine g_if_eq K1 30 dX12_pew_6 rfl (fun hc => ?_) (fun hc => ?_)
  · replace h := h.1 hc
    refine g_bipush K1 (-2) dX12_pew_30 rfl ?_
    obtain ⟨hr, hI, hL⟩ := h
    subst hr hI hL
    exact g_ireturn K rfl dX12_pew_32
  · replace h := h.2 hc
    refine g_iload_n K1 2 dX12_pew_9 rfl ?_
    refine g_i2l K1 dX12_pew_10 ?_
    refine g_lconst K1 0 dX12_pew_11 rfl ?_
    refine g_ldc2_w K1 2 dX12_pew_12 cn_X12_68 ?_
    obtain ⟨r2, hct, h⟩ := h
    refine h_callS K1 (st := []) [.long x2.toInt64, .long 0, .long 2] (hct w (gl g)) ok_X12_in ml_X12_70 ⟨Nat.le_of_ble_eq_true rfl, Nat.le_of_ble_eq_true rfl⟩ (Nat.le_of_ble_eq_true rfl) dX12_pew_15 ?_
    show q_Gs w g 18 [(0, .ref 96), (1, .int x1), (2, .int x2)] [.int r2] (q_mm I L)
    refine g_if_eq K1 30 dX12_pew_18 rfl (fun hc => ?_) (fun hc => ?_)
    · replace h := h.1 hc
      refine g_bipush K1 (-2) dX12_pew_30 rfl ?_
      obtain ⟨hr, hI, hL⟩ := h
      subst hr hI hL
      exact g_ireturn K rfl dX12_pew_32
    · replace h := h.2 hc
      refine g_aload_n K1 0 dX12_pew_21 rfl ?_
      refine g_iload_n K1 1 dX12_pew_22 rfl ?_
      refine g_iload_n K1 2 dX12_pew_23 rfl ?_
      obtain ⟨r3, hct, h⟩ := h
      refine h_callV K1 (st := []) [.int x1, .int x2] (hct w (gl g)) q_clX12 lyp_96 rfl ok_X12_ruleOf ml_X12_222 ⟨Nat.le_of_ble_eq_true rfl, Nat.le_of_ble_eq_true rfl⟩ (Nat.le_of_ble_eq_true rfl) dX12_pew_24 ?_
      show q_Gs w g 27 [(0, .ref 96), (1, .int x1), (2, .int x2)] [.int r3] (q_mm I L)
      refine g_goto K1 32 dX12_pew_27 rfl ?_
      obtain ⟨hr, hI, hL⟩ := h
      subst hr hI hL
      exact g_ireturn K rfl dX12_pew_32
theorem c0_X12_pew {r : Option Value} {I I' : Nat → Nat → Int32} {L L' : Nat → Nat → Int64} {x1 : Int32} {x2 : Int32} (h : v_X12_pew_0 r I' L' I L x1 x2) : q_C kX12_pew [.ref 96, .int x1, .int x2] I L r I' L' := fun w l => q_ct (by decide) (Nat.le_of_ble_eq_true rfl) (Nat.le_refl _) (fun g _ K => h w g K)
abbrev v_X12_pews_0 (r : Option Value) (I' : Nat → Nat → Int32) (L' : Nat → Nat → Int64) (I : Nat → Nat → Int32) (L : Nat → Nat → Int64)  : Prop := q_W kX12_pews 0 [(0, .ref 96)] [] I L r I' L'
set_option maxRecDepth 20000 in
set_option maxHeartbeats 2000000 in
theorem vc_X12_pews_0 {r : Option Value} {I' : Nat → Nat → Int32} {L' : Nat → Nat → Int64} {I : Nat → Nat → Int32} {L : Nat → Nat → Int64}  (h : (vp_in 3 104 ∧ (r = some (.int (I 97 (3 : Int32).toNatClampNeg)) ∧ I' = I ∧ L' = L))) : v_X12_pews_0 r I' L' I L  := by
  intro w g K
  have K1 := K.1
  refine g_aload_n K1 0 dX12_pews_0 rfl ?_
  refine h_getO K1 q_clX12 1 97 lyp_96 fkX12_1 rfl fl_X12_9 dX12_pews_1 ?_
  refine g_iconst K1 3 dX12_pews_4 rfl ?_
  obtain ⟨hg, h⟩ := h
  refine h_iaload K1 lyp_97 hg dX12_pews_5 ?_
  obtain ⟨hr, hI, hL⟩ := h
  subst hr hI hL
  exact g_ireturn K rfl dX12_pews_6
theorem c0_X12_pews {r : Option Value} {I I' : Nat → Nat → Int32} {L L' : Nat → Nat → Int64}  (h : v_X12_pews_0 r I' L' I L ) : q_C kX12_pews [.ref 96] I L r I' L' := fun w l => q_ct (by decide) (Nat.le_of_ble_eq_true rfl) (Nat.le_refl _) (fun g _ K => h w g K)
abbrev v_X12_putsOut_0 (r : Option Value) (I' : Nat → Nat → Int32) (L' : Nat → Nat → Int64) (I : Nat → Nat → Int32) (L : Nat → Nat → Int64) (x1 : Int32) (x2 : Int32) : Prop := q_W kX12_putsOut 0 [(0, .ref 96), (1, .int x1), (2, .int x2)] [] I L r I' L'
set_option maxRecDepth 20000 in
set_option maxHeartbeats 2000000 in
theorem vc_X12_putsOut_0 {r : Option Value} {I' : Nat → Nat → Int32} {L' : Nat → Nat → Int64} {I : Nat → Nat → Int32} {L : Nat → Nat → Int64} {x1 : Int32} {x2 : Int32} (h : (vp_in ((7 * x2) + x1) 91 ∧ (vp_in ((7 * x2) + x1) 91 ∧ ∀ I1, I1 = (up2 (up2 I 103 (((7 * x2) + x1) : Int32).toNatClampNeg 0) 104 (((7 * x2) + x1) : Int32).toNatClampNeg (-1)) → (vp_in ((7 * x2) + x1) 91 ∧ (vp_in ((7 * x2) + x1) 91 ∧ ∀ I2, I2 = (up2 (up2 I1 105 (((7 * x2) + x1) : Int32).toNatClampNeg (-1)) 106 (((7 * x2) + x1) : Int32).toNatClampNeg (-1)) → (r = none ∧ I' = I2 ∧ L' = L)))))) : v_X12_putsOut_0 r I' L' I L x1 x2 := by
  intro w g K
  have K1 := K.1
  refine g_bipush K1 7 dX12_putsOut_0 rfl ?_
  refine g_iload_n K1 2 dX12_putsOut_2 rfl ?_
  refine g_imul K1 dX12_putsOut_3 ?_
  refine g_iload_n K1 1 dX12_putsOut_4 rfl ?_
  refine g_iadd K1 dX12_putsOut_5 ?_
  refine g_istore_n K1 dX12_putsOut_6 rfl (by decide) rfl ?_
  refine g_aload_n K1 1 dX12_putsOut_7 rfl ?_
  refine h_getO K1 q_clX12 24 103 lyp_96 fkX12_24 rfl fl_X12_34 dX12_putsOut_8 ?_
  refine g_iload_n K1 0 dX12_putsOut_11 rfl ?_
  refine g_iconst K1 0 dX12_putsOut_12 rfl ?_
  obtain ⟨hg, h⟩ := h
  refine h_iastore K1 lyp_103 hg dX12_putsOut_13 ?_
  refine g_aload_n K1 1 dX12_putsOut_14 rfl ?_
  refine h_getO K1 q_clX12 25 104 lyp_96 fkX12_25 rfl fl_X12_37 dX12_putsOut_15 ?_
  refine g_iload_n K1 0 dX12_putsOut_18 rfl ?_
  refine g_iconst K1 (-1) dX12_putsOut_19 rfl ?_
  obtain ⟨hg, h⟩ := h
  refine h_iastore K1 lyp_104 hg dX12_putsOut_20 ?_
  refine g_nameMI (fun I1 hI1 => ?_)
  replace h := h I1 hI1
  refine g_aload_n K1 1 dX12_putsOut_21 rfl ?_
  refine h_getO K1 q_clX12 26 105 lyp_96 fkX12_26 rfl fl_X12_40 dX12_putsOut_22 ?_
  refine g_iload_n K1 0 dX12_putsOut_25 rfl ?_
  refine g_iconst K1 (-1) dX12_putsOut_26 rfl ?_
  obtain ⟨hg, h⟩ := h
  refine h_iastore K1 lyp_105 hg dX12_putsOut_27 ?_
  refine g_aload_n K1 1 dX12_putsOut_28 rfl ?_
  refine h_getO K1 q_clX12 27 106 lyp_96 fkX12_27 rfl fl_X12_43 dX12_putsOut_29 ?_
  refine g_iload_n K1 0 dX12_putsOut_32 rfl ?_
  refine g_iconst K1 (-1) dX12_putsOut_33 rfl ?_
  obtain ⟨hg, h⟩ := h
  refine h_iastore K1 lyp_106 hg dX12_putsOut_34 ?_
  refine g_nameMI (fun I2 hI2 => ?_)
  replace h := h I2 hI2
  obtain ⟨hr, hI, hL⟩ := h
  subst hr hI hL
  exact g_vreturn K rfl dX12_putsOut_35
theorem c0_X12_putsOut {r : Option Value} {I I' : Nat → Nat → Int32} {L L' : Nat → Nat → Int64} {x1 : Int32} {x2 : Int32} (h : v_X12_putsOut_0 r I' L' I L x1 x2) : q_C kX12_putsOut [.ref 96, .int x1, .int x2] I L r I' L' := fun w l => q_ct (by decide) (Nat.le_of_ble_eq_true rfl) (Nat.le_refl _) (fun g _ K => h w g K)
abbrev v_X12_readAisle_0 (r : Option Value) (I' : Nat → Nat → Int32) (L' : Nat → Nat → Int64) (I : Nat → Nat → Int32) (L : Nat → Nat → Int64)  : Prop := q_W kX12_readAisle 0 [(0, .ref 96)] [] I L r I' L'
abbrev v_X12_readAisle_66 (r : Option Value) (I' : Nat → Nat → Int32) (L' : Nat → Nat → Int64) (I : Nat → Nat → Int32) (L : Nat → Nat → Int64) (x1 : Int32) (x2 : Int32) : Prop := q_W kX12_readAisle 66 [(0, .ref 96), (1, .int x1), (2, .int x2)] [] I L r I' L'
set_option maxRecDepth 20000 in
set_option maxHeartbeats 2000000 in
theorem vc_X12_readAisle_0 {r : Option Value} {I' : Nat → Nat → Int32} {L' : Nat → Nat → Int64} {I : Nat → Nat → Int32} {L : Nat → Nat → Int64}  (h : (vp_in 4 104 ∧ (vp_in 3 104 ∧ (∃ r1 I2, q_C kX12_number [.ref 96, .int 0, .int ((I 102 (3 : Int32).toNatClampNeg) - 1)] I L (some (.int r1)) I2 L ∧ (∃ r3, q_C kX12_good [.ref 96] I2 L (some (.int r3)) I2 L ∧ ((r3 = 0 → (v_X12_readAisle_66 r I' L' I2 L (30 + (2 * (I 102 (4 : Int32).toNatClampNeg))) r1)) ∧ (¬ r3 = 0 → (((I2 96 10) = 2 → (((I2 96 11) = r1 → (∃ I4, q_C kX12_errs [.ref 96, .int 2] I2 L none I4 L ∧ (v_X12_readAisle_66 r I' L' I4 L (30 + (2 * (I 102 (4 : Int32).toNatClampNeg))) r1))) ∧ (¬ (I2 96 11) = r1 → (∃ r5, q_C kX12_isJoined [.ref 96, .int r1, .int (I2 96 11)] I2 L (some (.int r5)) I2 L ∧ ((r5 = 0 → (v_X12_readAisle_66 r I' L' I2 L (30 + (2 * (I 102 (4 : Int32).toNatClampNeg))) r1)) ∧ (¬ r5 = 0 → (∃ I6, q_C kX12_errs [.ref 96, .int 2] I2 L none I6 L ∧ (v_X12_readAisle_66 r I' L' I6 L (30 + (2 * (I 102 (4 : Int32).toNatClampNeg))) r1)))))))) ∧ (¬ (I2 96 10) = 2 → (v_X12_readAisle_66 r I' L' I2 L (30 + (2 * (I 102 (4 : Int32).toNatClampNeg))) r1)))))))))) : v_X12_readAisle_0 r I' L' I L  := by
  intro w g K
  have K1 := K.1
  refine g_bipush K1 30 dX12_readAisle_0 rfl ?_
  refine g_iconst K1 2 dX12_readAisle_2 rfl ?_
  refine g_aload_n K1 0 dX12_readAisle_3 rfl ?_
  refine h_getO K1 q_clX12 14 102 lyp_96 fkX12_14 rfl fl_X12_31 dX12_readAisle_4 ?_
  refine g_iconst K1 4 dX12_readAisle_7 rfl ?_
  obtain ⟨hg, h⟩ := h
  refine h_iaload K1 lyp_102 hg dX12_readAisle_8 ?_
  refine g_imul K1 dX12_readAisle_9 ?_
  refine g_iadd K1 dX12_readAisle_10 ?_
  refine g_istore_n K1 dX12_readAisle_11 rfl (by decide) rfl ?_
  refine g_aload_n K1 1 dX12_readAisle_12 rfl ?_
  refine g_iconst K1 0 dX12_readAisle_13 rfl ?_
  refine g_aload_n K1 1 dX12_readAisle_14 rfl ?_
  refine h_getO K1 q_clX12 14 102 lyp_96 fkX12_14 rfl fl_X12_31 dX12_readAisle_15 ?_
  refine g_iconst K1 3 dX12_readAisle_18 rfl ?_
  obtain ⟨hg, h⟩ := h
  refine h_iaload K1 lyp_102 hg dX12_readAisle_19 ?_
  refine g_iconst K1 1 dX12_readAisle_20 rfl ?_
  refine g_isub K1 dX12_readAisle_21 ?_
  obtain ⟨r1, I2, hct, h⟩ := h
  refine h_callV K1 (st := []) [.int 0, .int ((I 102 (3 : Int32).toNatClampNeg) - 1)] (hct w (gl g)) q_clX12 lyp_96 rfl ok_X12_number ml_X12_155 ⟨Nat.le_of_ble_eq_true rfl, Nat.le_of_ble_eq_true rfl⟩ (Nat.le_of_ble_eq_true rfl) dX12_readAisle_22 ?_
  show q_Gs w g 25 [(1, .int (30 + (2 * (I 102 (4 : Int32).toNatClampNeg)))), (0, .ref 96)] [.int r1] (q_mm I2 L)
  refine g_istore_n K1 dX12_readAisle_25 rfl (by decide) rfl ?_
  refine g_aload_n K1 2 dX12_readAisle_26 rfl ?_
  obtain ⟨r3, hct, h⟩ := h
  refine h_callV K1 (st := []) [] (hct w (gl g)) q_clX12 lyp_96 rfl ok_X12_good ml_X12_125 ⟨Nat.le_of_ble_eq_true rfl, Nat.le_of_ble_eq_true rfl⟩ (Nat.le_of_ble_eq_true rfl) dX12_readAisle_27 ?_
  show q_Gs w g 30 [(2, .int r1), (1, .int (30 + (2 * (I 102 (4 : Int32).toNatClampNeg)))), (0, .ref 96)] [.int r3] (q_mm I2 L)
  refine g_if_eq K1 66 dX12_readAisle_30 rfl (fun hc => ?_) (fun hc => ?_)
  · replace h := h.1 hc
    exact g_perm [2, 1, 0] rfl (h w g K)
  · replace h := h.2 hc
    refine g_aload_n K1 2 dX12_readAisle_33 rfl ?_
    refine h_getI K1 q_clX12 10 lyp_96 fkX12_10 fl_X12_101 dX12_readAisle_34 ?_
    refine g_iconst K1 2 dX12_readAisle_37 rfl ?_
    refine g_icmp_ne K1 66 dX12_readAisle_38 rfl (fun hc => ?_) (fun hc => ?_)
    · replace h := h.2 hc
      exact g_perm [2, 1, 0] rfl (h w g K)
    · replace h := h.1 hc
      refine g_aload_n K1 2 dX12_readAisle_41 rfl ?_
      refine h_getI K1 q_clX12 11 lyp_96 fkX12_11 fl_X12_112 dX12_readAisle_42 ?_
      refine g_iload_n K1 0 dX12_readAisle_45 rfl ?_
      refine g_icmp_eq K1 61 dX12_readAisle_46 rfl (fun hc => ?_) (fun hc => ?_)
      · replace h := h.1 hc
        refine g_aload_n K1 2 dX12_readAisle_61 rfl ?_
        refine g_iconst K1 2 dX12_readAisle_62 rfl ?_
        obtain ⟨I4, hct, h⟩ := h
        refine h_callV K1 (st := []) [.int 2] (hct w (gl g)) q_clX12 lyp_96 rfl ok_X12_errs ml_X12_147 ⟨Nat.le_of_ble_eq_true rfl, Nat.le_of_ble_eq_true rfl⟩ (Nat.le_of_ble_eq_true rfl) dX12_readAisle_63 ?_
        show q_Gs w g 66 [(2, .int r1), (1, .int (30 + (2 * (I 102 (4 : Int32).toNatClampNeg)))), (0, .ref 96)] [] (q_mm I4 L)
        exact g_perm [2, 1, 0] rfl (h w g K)
      · replace h := h.2 hc
        refine g_aload_n K1 2 dX12_readAisle_49 rfl ?_
        refine g_iload_n K1 0 dX12_readAisle_50 rfl ?_
        refine g_aload_n K1 2 dX12_readAisle_51 rfl ?_
        refine h_getI K1 q_clX12 11 lyp_96 fkX12_11 fl_X12_112 dX12_readAisle_52 ?_
        obtain ⟨r5, hct, h⟩ := h
        refine h_callV K1 (st := []) [.int r1, .int (I2 96 11)] (hct w (gl g)) q_clX12 lyp_96 rfl ok_X12_isJoined ml_X12_179 ⟨Nat.le_of_ble_eq_true rfl, Nat.le_of_ble_eq_true rfl⟩ (Nat.le_of_ble_eq_true rfl) dX12_readAisle_55 ?_
        show q_Gs w g 58 [(2, .int r1), (1, .int (30 + (2 * (I 102 (4 : Int32).toNatClampNeg)))), (0, .ref 96)] [.int r5] (q_mm I2 L)
        refine g_if_eq K1 66 dX12_readAisle_58 rfl (fun hc => ?_) (fun hc => ?_)
        · replace h := h.1 hc
          exact g_perm [2, 1, 0] rfl (h w g K)
        · replace h := h.2 hc
          refine g_aload_n K1 2 dX12_readAisle_61 rfl ?_
          refine g_iconst K1 2 dX12_readAisle_62 rfl ?_
          obtain ⟨I6, hct, h⟩ := h
          refine h_callV K1 (st := []) [.int 2] (hct w (gl g)) q_clX12 lyp_96 rfl ok_X12_errs ml_X12_147 ⟨Nat.le_of_ble_eq_true rfl, Nat.le_of_ble_eq_true rfl⟩ (Nat.le_of_ble_eq_true rfl) dX12_readAisle_63 ?_
          show q_Gs w g 66 [(2, .int r1), (1, .int (30 + (2 * (I 102 (4 : Int32).toNatClampNeg)))), (0, .ref 96)] [] (q_mm I6 L)
          exact g_perm [2, 1, 0] rfl (h w g K)
set_option maxRecDepth 20000 in
set_option maxHeartbeats 2000000 in
theorem vc_X12_readAisle_66 {r : Option Value} {I' : Nat → Nat → Int32} {L' : Nat → Nat → Int64} {I : Nat → Nat → Int32} {L : Nat → Nat → Int64} {x1 : Int32} {x2 : Int32} (h : (vp_in 3 104 ∧ (∃ r1 I2, q_C kX12_number [.ref 96, .int 0, .int ((I 102 (3 : Int32).toNatClampNeg) - 1)] I L (some (.int r1)) I2 L ∧ (∃ r3, q_C kX12_good [.ref 96] I2 L (some (.int r3)) I2 L ∧ ((r3 = 0 → (r = none ∧ I' = I2 ∧ L' = L)) ∧ (¬ r3 = 0 → (vp_in x1 104 ∧ (vp_in (x1 + 1) 104 ∧ ∀ I4, I4 = (up2 (up2 I2 102 x1.toNatClampNeg x2) 102 ((x1 + 1) : Int32).toNatClampNeg r1) → (vp_in 4 104 ∧ (vp_in 4 104 ∧ ∀ I5, I5 = (up2 I4 102 (4 : Int32).toNatClampNeg ((I4 102 (4 : Int32).toNatClampNeg) + 1)) → (r = none ∧ I' = I5 ∧ L' = L))))))))))) : v_X12_readAisle_66 r I' L' I L x1 x2 := by
  intro w g K
  have K1 := K.1
  refine g_aload_n K1 0 dX12_readAisle_66 rfl ?_
  refine g_iconst K1 0 dX12_readAisle_67 rfl ?_
  refine g_aload_n K1 0 dX12_readAisle_68 rfl ?_
  refine h_getO K1 q_clX12 14 102 lyp_96 fkX12_14 rfl fl_X12_31 dX12_readAisle_69 ?_
  refine g_iconst K1 3 dX12_readAisle_72 rfl ?_
  obtain ⟨hg, h⟩ := h
  refine h_iaload K1 lyp_102 hg dX12_readAisle_73 ?_
  refine g_iconst K1 1 dX12_readAisle_74 rfl ?_
  refine g_isub K1 dX12_readAisle_75 ?_
  obtain ⟨r1, I2, hct, h⟩ := h
  refine h_callV K1 (st := []) [.int 0, .int ((I 102 (3 : Int32).toNatClampNeg) - 1)] (hct w (gl g)) q_clX12 lyp_96 rfl ok_X12_number ml_X12_155 ⟨Nat.le_of_ble_eq_true rfl, Nat.le_of_ble_eq_true rfl⟩ (Nat.le_of_ble_eq_true rfl) dX12_readAisle_76 ?_
  show q_Gs w g 79 [(0, .ref 96), (1, .int x1), (2, .int x2)] [.int r1] (q_mm I2 L)
  refine g_istore_n K1 dX12_readAisle_79 rfl (by decide) rfl ?_
  refine g_aload_n K1 1 dX12_readAisle_80 rfl ?_
  obtain ⟨r3, hct, h⟩ := h
  refine h_callV K1 (st := []) [] (hct w (gl g)) q_clX12 lyp_96 rfl ok_X12_good ml_X12_125 ⟨Nat.le_of_ble_eq_true rfl, Nat.le_of_ble_eq_true rfl⟩ (Nat.le_of_ble_eq_true rfl) dX12_readAisle_81 ?_
  show q_Gs w g 84 [(3, .int r1), (0, .ref 96), (1, .int x1), (2, .int x2)] [.int r3] (q_mm I2 L)
  refine g_if_ne K1 88 dX12_readAisle_84 rfl (fun hc => ?_) (fun hc => ?_)
  · replace h := h.2 hc
    refine g_aload_n K1 1 dX12_readAisle_88 rfl ?_
    refine h_getO K1 q_clX12 14 102 lyp_96 fkX12_14 rfl fl_X12_31 dX12_readAisle_89 ?_
    refine g_iload_n K1 2 dX12_readAisle_92 rfl ?_
    refine g_iload_n K1 3 dX12_readAisle_93 rfl ?_
    obtain ⟨hg, h⟩ := h
    refine h_iastore K1 lyp_102 hg dX12_readAisle_94 ?_
    refine g_aload_n K1 1 dX12_readAisle_95 rfl ?_
    refine h_getO K1 q_clX12 14 102 lyp_96 fkX12_14 rfl fl_X12_31 dX12_readAisle_96 ?_
    refine g_iload_n K1 2 dX12_readAisle_99 rfl ?_
    refine g_iconst K1 1 dX12_readAisle_100 rfl ?_
    refine g_iadd K1 dX12_readAisle_101 ?_
    refine g_iload_n K1 0 dX12_readAisle_102 rfl ?_
    obtain ⟨hg, h⟩ := h
    refine h_iastore K1 lyp_102 hg dX12_readAisle_103 ?_
    refine g_nameMI (fun I4 hI4 => ?_)
    replace h := h I4 hI4
    refine g_aload_n K1 1 dX12_readAisle_104 rfl ?_
    refine h_getO K1 q_clX12 14 102 lyp_96 fkX12_14 rfl fl_X12_31 dX12_readAisle_105 ?_
    refine g_iconst K1 4 dX12_readAisle_108 rfl ?_
    refine g_dup2 K1 dX12_readAisle_109 rfl rfl ?_
    obtain ⟨hg, h⟩ := h
    refine h_iaload K1 lyp_102 hg dX12_readAisle_110 ?_
    refine g_iconst K1 1 dX12_readAisle_111 rfl ?_
    refine g_iadd K1 dX12_readAisle_112 ?_
    obtain ⟨hg, h⟩ := h
    refine h_iastore K1 lyp_102 hg dX12_readAisle_113 ?_
    refine g_nameMI (fun I5 hI5 => ?_)
    replace h := h I5 hI5
    obtain ⟨hr, hI, hL⟩ := h
    subst hr hI hL
    exact g_vreturn K rfl dX12_readAisle_114
  · replace h := h.1 hc
    obtain ⟨hr, hI, hL⟩ := h
    subst hr hI hL
    exact g_vreturn K rfl dX12_readAisle_87
theorem c0_X12_readAisle {r : Option Value} {I I' : Nat → Nat → Int32} {L L' : Nat → Nat → Int64}  (h : v_X12_readAisle_0 r I' L' I L ) : q_C kX12_readAisle [.ref 96] I L r I' L' := fun w l => q_ct (by decide) (Nat.le_of_ble_eq_true rfl) (Nat.le_refl _) (fun g _ K => h w g K)
abbrev v_X12_readDraught_0 (r : Option Value) (I' : Nat → Nat → Int32) (L' : Nat → Nat → Int64) (I : Nat → Nat → Int32) (L : Nat → Nat → Int64)  : Prop := q_W kX12_readDraught 0 [(0, .ref 96)] [] I L r I' L'
set_option maxRecDepth 20000 in
set_option maxHeartbeats 2000000 in
theorem vc_X12_readDraught_0 {r : Option Value} {I' : Nat → Nat → Int32} {L' : Nat → Nat → Int64} {I : Nat → Nat → Int32} {L : Nat → Nat → Int64}  (h : (vp_in 6 104 ∧ (vp_in 3 104 ∧ (∃ r1 I2, q_C kX12_number [.ref 96, .int 0, .int ((I 102 (3 : Int32).toNatClampNeg) - 1)] I L (some (.int r1)) I2 L ∧ (vp_in (62 + (2 * (I 102 (6 : Int32).toNatClampNeg))) 104 ∧ ∀ I3, I3 = (up2 I2 102 ((62 + (2 * (I 102 (6 : Int32).toNatClampNeg))) : Int32).toNatClampNeg r1) → (∃ r4 I5, q_C kX12_toldBy [.ref 96, .ref 10028, .int 0, .int 11] I3 L (some (.int r4)) I5 L ∧ (vp_in ((62 + (2 * (I 102 (6 : Int32).toNatClampNeg))) + 1) 104 ∧ ∀ I6, I6 = (up2 I5 102 (((62 + (2 * (I 102 (6 : Int32).toNatClampNeg))) + 1) : Int32).toNatClampNeg r4) → (vp_in 6 104 ∧ (vp_in 6 104 ∧ ∀ I7, I7 = (up2 I6 102 (6 : Int32).toNatClampNeg ((I6 102 (6 : Int32).toNatClampNeg) + 1)) → (r = none ∧ I' = I7 ∧ L' = L)))))))))) : v_X12_readDraught_0 r I' L' I L  := by
  intro w g K
  have K1 := K.1
  refine g_bipush K1 62 dX12_readDraught_0 rfl ?_
  refine g_iconst K1 2 dX12_readDraught_2 rfl ?_
  refine g_aload_n K1 0 dX12_readDraught_3 rfl ?_
  refine h_getO K1 q_clX12 14 102 lyp_96 fkX12_14 rfl fl_X12_31 dX12_readDraught_4 ?_
  refine g_bipush K1 6 dX12_readDraught_7 rfl ?_
  obtain ⟨hg, h⟩ := h
  refine h_iaload K1 lyp_102 hg dX12_readDraught_9 ?_
  refine g_imul K1 dX12_readDraught_10 ?_
  refine g_iadd K1 dX12_readDraught_11 ?_
  refine g_istore_n K1 dX12_readDraught_12 rfl (by decide) rfl ?_
  refine g_aload_n K1 1 dX12_readDraught_13 rfl ?_
  refine h_getO K1 q_clX12 14 102 lyp_96 fkX12_14 rfl fl_X12_31 dX12_readDraught_14 ?_
  refine g_iload_n K1 0 dX12_readDraught_17 rfl ?_
  refine g_aload_n K1 1 dX12_readDraught_18 rfl ?_
  refine g_iconst K1 0 dX12_readDraught_19 rfl ?_
  refine g_aload_n K1 1 dX12_readDraught_20 rfl ?_
  refine h_getO K1 q_clX12 14 102 lyp_96 fkX12_14 rfl fl_X12_31 dX12_readDraught_21 ?_
  refine g_iconst K1 3 dX12_readDraught_24 rfl ?_
  obtain ⟨hg, h⟩ := h
  refine h_iaload K1 lyp_102 hg dX12_readDraught_25 ?_
  refine g_iconst K1 1 dX12_readDraught_26 rfl ?_
  refine g_isub K1 dX12_readDraught_27 ?_
  obtain ⟨r1, I2, hct, h⟩ := h
  refine h_callV K1 (st := [.int (62 + (2 * (I 102 (6 : Int32).toNatClampNeg))), .ref 102]) [.int 0, .int ((I 102 (3 : Int32).toNatClampNeg) - 1)] (hct w (gl g)) q_clX12 lyp_96 rfl ok_X12_number ml_X12_155 ⟨Nat.le_of_ble_eq_true rfl, Nat.le_of_ble_eq_true rfl⟩ (Nat.le_of_ble_eq_true rfl) dX12_readDraught_28 ?_
  show q_Gs w g 31 [(1, .int (62 + (2 * (I 102 (6 : Int32).toNatClampNeg)))), (0, .ref 96)] [.int r1, .int (62 + (2 * (I 102 (6 : Int32).toNatClampNeg))), .ref 102] (q_mm I2 L)
  obtain ⟨hg, h⟩ := h
  refine h_iastore K1 lyp_102 hg dX12_readDraught_31 ?_
  refine g_nameMI (fun I3 hI3 => ?_)
  replace h := h I3 hI3
  refine g_aload_n K1 1 dX12_readDraught_32 rfl ?_
  refine h_getO K1 q_clX12 14 102 lyp_96 fkX12_14 rfl fl_X12_31 dX12_readDraught_33 ?_
  refine g_iload_n K1 0 dX12_readDraught_36 rfl ?_
  refine g_iconst K1 1 dX12_readDraught_37 rfl ?_
  refine g_iadd K1 dX12_readDraught_38 ?_
  refine g_aload_n K1 1 dX12_readDraught_39 rfl ?_
  refine g_ldcS K1 27 (q := _) rfl rfl rfl dX12_readDraught_40 ?_
  refine g_iconst K1 0 dX12_readDraught_42 rfl ?_
  refine g_bipush K1 11 dX12_readDraught_43 rfl ?_
  obtain ⟨r4, I5, hct, h⟩ := h
  refine h_callV K1 (st := [.int ((62 + (2 * (I 102 (6 : Int32).toNatClampNeg))) + 1), .ref 102]) [.ref 10028, .int 0, .int 11] (hct w (gl g)) q_clX12 lyp_96 rfl ok_X12_toldBy ml_X12_161 ⟨Nat.le_of_ble_eq_true rfl, Nat.le_of_ble_eq_true rfl⟩ (Nat.le_of_ble_eq_true rfl) dX12_readDraught_45 ?_
  show q_Gs w g 48 [(1, .int (62 + (2 * (I 102 (6 : Int32).toNatClampNeg)))), (0, .ref 96)] [.int r4, .int ((62 + (2 * (I 102 (6 : Int32).toNatClampNeg))) + 1), .ref 102] (q_mm I5 L)
  obtain ⟨hg, h⟩ := h
  refine h_iastore K1 lyp_102 hg dX12_readDraught_48 ?_
  refine g_nameMI (fun I6 hI6 => ?_)
  replace h := h I6 hI6
  refine g_aload_n K1 1 dX12_readDraught_49 rfl ?_
  refine h_getO K1 q_clX12 14 102 lyp_96 fkX12_14 rfl fl_X12_31 dX12_readDraught_50 ?_
  refine g_bipush K1 6 dX12_readDraught_53 rfl ?_
  refine g_dup2 K1 dX12_readDraught_55 rfl rfl ?_
  obtain ⟨hg, h⟩ := h
  refine h_iaload K1 lyp_102 hg dX12_readDraught_56 ?_
  refine g_iconst K1 1 dX12_readDraught_57 rfl ?_
  refine g_iadd K1 dX12_readDraught_58 ?_
  obtain ⟨hg, h⟩ := h
  refine h_iastore K1 lyp_102 hg dX12_readDraught_59 ?_
  refine g_nameMI (fun I7 hI7 => ?_)
  replace h := h I7 hI7
  obtain ⟨hr, hI, hL⟩ := h
  subst hr hI hL
  exact g_vreturn K rfl dX12_readDraught_60
theorem c0_X12_readDraught {r : Option Value} {I I' : Nat → Nat → Int32} {L L' : Nat → Nat → Int64}  (h : v_X12_readDraught_0 r I' L' I L ) : q_C kX12_readDraught [.ref 96] I L r I' L' := fun w l => q_ct (by decide) (Nat.le_of_ble_eq_true rfl) (Nat.le_refl _) (fun g _ K => h w g K)
abbrev v_X12_readFirst_0 (r : Option Value) (I' : Nat → Nat → Int32) (L' : Nat → Nat → Int64) (I : Nat → Nat → Int32) (L : Nat → Nat → Int64)  : Prop := q_W kX12_readFirst 0 [(0, .ref 96)] [] I L r I' L'
set_option maxRecDepth 20000 in
set_option maxHeartbeats 2000000 in
theorem vc_X12_readFirst_0 {r : Option Value} {I' : Nat → Nat → Int32} {L' : Nat → Nat → Int64} {I : Nat → Nat → Int32} {L : Nat → Nat → Int64}  (h : (∃ I1, q_C kX12_expects [.ref 96, .ref 10015] I L none I1 L ∧ (∃ r2 I3, q_C kX12_toldBy [.ref 96, .ref 10016, .int 1, .int 12] I1 L (some (.int r2)) I3 L ∧ (vp_in 0 104 ∧ (∃ r4 I5, q_C kX12_toldBy [.ref 96, .ref 10017, .int 0, .int 3] (up2 I3 102 (0 : Int32).toNatClampNeg r2) L (some (.int r4)) I5 L ∧ (vp_in 1 104 ∧ (∃ r6 I7, q_C kX12_toldBy [.ref 96, .ref 10018, .int 0, .int 10] (up2 I5 102 (1 : Int32).toNatClampNeg r4) L (some (.int r6)) I7 L ∧ (vp_in 2 104 ∧ (r = none ∧ I' = (up2 I7 102 (2 : Int32).toNatClampNeg r6) ∧ L' = L))))))))) : v_X12_readFirst_0 r I' L' I L  := by
  intro w g K
  have K1 := K.1
  refine g_aload_n K1 0 dX12_readFirst_0 rfl ?_
  refine g_ldcS K1 14 (q := _) rfl rfl rfl dX12_readFirst_1 ?_
  obtain ⟨I1, hct, h⟩ := h
  refine h_callV K1 (st := []) [.ref 10015] (hct w (gl g)) q_clX12 lyp_96 rfl ok_X12_expects ml_X12_151 ⟨Nat.le_of_ble_eq_true rfl, Nat.le_of_ble_eq_true rfl⟩ (Nat.le_of_ble_eq_true rfl) dX12_readFirst_3 ?_
  show q_Gs w g 6 [(0, .ref 96)] [] (q_mm I1 L)
  refine g_aload_n K1 0 dX12_readFirst_6 rfl ?_
  refine h_getO K1 q_clX12 14 102 lyp_96 fkX12_14 rfl fl_X12_31 dX12_readFirst_7 ?_
  refine g_iconst K1 0 dX12_readFirst_10 rfl ?_
  refine g_aload_n K1 0 dX12_readFirst_11 rfl ?_
  refine g_ldcS K1 15 (q := _) rfl rfl rfl dX12_readFirst_12 ?_
  refine g_iconst K1 1 dX12_readFirst_14 rfl ?_
  refine g_bipush K1 12 dX12_readFirst_15 rfl ?_
  obtain ⟨r2, I3, hct, h⟩ := h
  refine h_callV K1 (st := [.int 0, .ref 102]) [.ref 10016, .int 1, .int 12] (hct w (gl g)) q_clX12 lyp_96 rfl ok_X12_toldBy ml_X12_161 ⟨Nat.le_of_ble_eq_true rfl, Nat.le_of_ble_eq_true rfl⟩ (Nat.le_of_ble_eq_true rfl) dX12_readFirst_17 ?_
  show q_Gs w g 20 [(0, .ref 96)] [.int r2, .int 0, .ref 102] (q_mm I3 L)
  obtain ⟨hg, h⟩ := h
  refine h_iastore K1 lyp_102 hg dX12_readFirst_20 ?_
  refine g_aload_n K1 0 dX12_readFirst_21 rfl ?_
  refine h_getO K1 q_clX12 14 102 lyp_96 fkX12_14 rfl fl_X12_31 dX12_readFirst_22 ?_
  refine g_iconst K1 1 dX12_readFirst_25 rfl ?_
  refine g_aload_n K1 0 dX12_readFirst_26 rfl ?_
  refine g_ldcS K1 16 (q := _) rfl rfl rfl dX12_readFirst_27 ?_
  refine g_iconst K1 0 dX12_readFirst_29 rfl ?_
  refine g_iconst K1 3 dX12_readFirst_30 rfl ?_
  obtain ⟨r4, I5, hct, h⟩ := h
  refine h_callV K1 (st := [.int 1, .ref 102]) [.ref 10017, .int 0, .int 3] (hct w (gl g)) q_clX12 lyp_96 rfl ok_X12_toldBy ml_X12_161 ⟨Nat.le_of_ble_eq_true rfl, Nat.le_of_ble_eq_true rfl⟩ (Nat.le_of_ble_eq_true rfl) dX12_readFirst_31 ?_
  show q_Gs w g 34 [(0, .ref 96)] [.int r4, .int 1, .ref 102] (q_mm I5 L)
  obtain ⟨hg, h⟩ := h
  refine h_iastore K1 lyp_102 hg dX12_readFirst_34 ?_
  refine g_aload_n K1 0 dX12_readFirst_35 rfl ?_
  refine h_getO K1 q_clX12 14 102 lyp_96 fkX12_14 rfl fl_X12_31 dX12_readFirst_36 ?_
  refine g_iconst K1 2 dX12_readFirst_39 rfl ?_
  refine g_aload_n K1 0 dX12_readFirst_40 rfl ?_
  refine g_ldcS K1 17 (q := _) rfl rfl rfl dX12_readFirst_41 ?_
  refine g_iconst K1 0 dX12_readFirst_43 rfl ?_
  refine g_bipush K1 10 dX12_readFirst_44 rfl ?_
  obtain ⟨r6, I7, hct, h⟩ := h
  refine h_callV K1 (st := [.int 2, .ref 102]) [.ref 10018, .int 0, .int 10] (hct w (gl g)) q_clX12 lyp_96 rfl ok_X12_toldBy ml_X12_161 ⟨Nat.le_of_ble_eq_true rfl, Nat.le_of_ble_eq_true rfl⟩ (Nat.le_of_ble_eq_true rfl) dX12_readFirst_46 ?_
  show q_Gs w g 49 [(0, .ref 96)] [.int r6, .int 2, .ref 102] (q_mm I7 L)
  obtain ⟨hg, h⟩ := h
  refine h_iastore K1 lyp_102 hg dX12_readFirst_49 ?_
  obtain ⟨hr, hI, hL⟩ := h
  subst hr hI hL
  exact g_vreturn K rfl dX12_readFirst_50
theorem c0_X12_readFirst {r : Option Value} {I I' : Nat → Nat → Int32} {L L' : Nat → Nat → Int64}  (h : v_X12_readFirst_0 r I' L' I L ) : q_C kX12_readFirst [.ref 96] I L r I' L' := fun w l => q_ct (by decide) (Nat.le_of_ble_eq_true rfl) (Nat.le_refl _) (fun g _ K => h w g K)
abbrev v_X12_readLight_0 (r : Option Value) (I' : Nat → Nat → Int32) (L' : Nat → Nat → Int64) (I : Nat → Nat → Int32) (L : Nat → Nat → Int64)  : Prop := q_W kX12_readLight 0 [(0, .ref 96)] [] I L r I' L'
abbrev v_X12_readLight_33 (r : Option Value) (I' : Nat → Nat → Int32) (L' : Nat → Nat → Int64) (I : Nat → Nat → Int32) (L : Nat → Nat → Int64) (x1 : Int32) (x2 : Int32) : Prop := q_W kX12_readLight 33 [(0, .ref 96), (1, .int x1), (2, .int x2)] [] I L r I' L'
abbrev v_X12_readLight_52 (r : Option Value) (I' : Nat → Nat → Int32) (L' : Nat → Nat → Int64) (I : Nat → Nat → Int32) (L : Nat → Nat → Int64) (x1 : Int32) (x2 : Int32) : Prop := q_W kX12_readLight 52 [(0, .ref 96), (1, .int x1), (2, .int x2)] [] I L r I' L'
abbrev v_X12_readLight_96 (r : Option Value) (I' : Nat → Nat → Int32) (L' : Nat → Nat → Int64) (I : Nat → Nat → Int32) (L : Nat → Nat → Int64) (x1 : Int32) (x2 : Int32) : Prop := q_W kX12_readLight 96 [(0, .ref 96), (1, .int x1), (2, .int x2)] [] I L r I' L'
set_option maxRecDepth 20000 in
set_option maxHeartbeats 2000000 in
theorem vc_X12_readLight_0 {r : Option Value} {I' : Nat → Nat → Int32} {L' : Nat → Nat → Int64} {I : Nat → Nat → Int32} {L : Nat → Nat → Int64}  (h : (vp_in 5 104 ∧ (vp_in 3 104 ∧ (∃ r1 I2, q_C kX12_number [.ref 96, .int 0, .int ((I 102 (3 : Int32).toNatClampNeg) - 1)] I L (some (.int r1)) I2 L ∧ (vp_in (54 + (2 * (I 102 (5 : Int32).toNatClampNeg))) 104 ∧ ∀ I3, I3 = (up2 I2 102 ((54 + (2 * (I 102 (5 : Int32).toNatClampNeg))) : Int32).toNatClampNeg r1) → (v_X12_readLight_33 r I' L' I3 L (54 + (2 * (I 102 (5 : Int32).toNatClampNeg))) 0)))))) : v_X12_readLight_0 r I' L' I L  := by
  intro w g K
  have K1 := K.1
  refine g_bipush K1 54 dX12_readLight_0 rfl ?_
  refine g_iconst K1 2 dX12_readLight_2 rfl ?_
  refine g_aload_n K1 0 dX12_readLight_3 rfl ?_
  refine h_getO K1 q_clX12 14 102 lyp_96 fkX12_14 rfl fl_X12_31 dX12_readLight_4 ?_
  refine g_iconst K1 5 dX12_readLight_7 rfl ?_
  obtain ⟨hg, h⟩ := h
  refine h_iaload K1 lyp_102 hg dX12_readLight_8 ?_
  refine g_imul K1 dX12_readLight_9 ?_
  refine g_iadd K1 dX12_readLight_10 ?_
  refine g_istore_n K1 dX12_readLight_11 rfl (by decide) rfl ?_
  refine g_aload_n K1 1 dX12_readLight_12 rfl ?_
  refine h_getO K1 q_clX12 14 102 lyp_96 fkX12_14 rfl fl_X12_31 dX12_readLight_13 ?_
  refine g_iload_n K1 0 dX12_readLight_16 rfl ?_
  refine g_aload_n K1 1 dX12_readLight_17 rfl ?_
  refine g_iconst K1 0 dX12_readLight_18 rfl ?_
  refine g_aload_n K1 1 dX12_readLight_19 rfl ?_
  refine h_getO K1 q_clX12 14 102 lyp_96 fkX12_14 rfl fl_X12_31 dX12_readLight_20 ?_
  refine g_iconst K1 3 dX12_readLight_23 rfl ?_
  obtain ⟨hg, h⟩ := h
  refine h_iaload K1 lyp_102 hg dX12_readLight_24 ?_
  refine g_iconst K1 1 dX12_readLight_25 rfl ?_
  refine g_isub K1 dX12_readLight_26 ?_
  obtain ⟨r1, I2, hct, h⟩ := h
  refine h_callV K1 (st := [.int (54 + (2 * (I 102 (5 : Int32).toNatClampNeg))), .ref 102]) [.int 0, .int ((I 102 (3 : Int32).toNatClampNeg) - 1)] (hct w (gl g)) q_clX12 lyp_96 rfl ok_X12_number ml_X12_155 ⟨Nat.le_of_ble_eq_true rfl, Nat.le_of_ble_eq_true rfl⟩ (Nat.le_of_ble_eq_true rfl) dX12_readLight_27 ?_
  show q_Gs w g 30 [(1, .int (54 + (2 * (I 102 (5 : Int32).toNatClampNeg)))), (0, .ref 96)] [.int r1, .int (54 + (2 * (I 102 (5 : Int32).toNatClampNeg))), .ref 102] (q_mm I2 L)
  obtain ⟨hg, h⟩ := h
  refine h_iastore K1 lyp_102 hg dX12_readLight_30 ?_
  refine g_nameMI (fun I3 hI3 => ?_)
  replace h := h I3 hI3
  refine g_iconst K1 0 dX12_readLight_31 rfl ?_
  refine g_istore_n K1 dX12_readLight_32 rfl (by decide) rfl ?_
  exact g_perm [2, 1, 0] rfl (h w g K)
set_option maxRecDepth 20000 in
set_option maxHeartbeats 2000000 in
theorem vc_X12_readLight_33 {r : Option Value} {I' : Nat → Nat → Int32} {L' : Nat → Nat → Int64} {I : Nat → Nat → Int32} {L : Nat → Nat → Int64} {x1 : Int32} {x2 : Int32} (h : (∃ r1, q_C kX12_good [.ref 96] I L (some (.int r1)) I L ∧ ((r1 = 0 → (vp_in 5 104 ∧ (vp_in 5 104 ∧ ∀ I2, I2 = (up2 I 102 (5 : Int32).toNatClampNeg ((I 102 (5 : Int32).toNatClampNeg) + 1)) → (r = none ∧ I' = I2 ∧ L' = L)))) ∧ (¬ r1 = 0 → ((x2 = 0 → (v_X12_readLight_52 r I' L' I L x1 x2)) ∧ (¬ x2 = 0 → (((I 96 10) = 2 → (v_X12_readLight_52 r I' L' I L x1 x2)) ∧ (¬ (I 96 10) = 2 → (vp_in 5 104 ∧ (vp_in 5 104 ∧ ∀ I3, I3 = (up2 I 102 (5 : Int32).toNatClampNeg ((I 102 (5 : Int32).toNatClampNeg) + 1)) → (r = none ∧ I' = I3 ∧ L' = L))))))))))) : v_X12_readLight_33 r I' L' I L x1 x2 := by
  intro w g K
  have K1 := K.1
  refine g_aload_n K1 0 dX12_readLight_33 rfl ?_
  obtain ⟨r1, hct, h⟩ := h
  refine h_callV K1 (st := []) [] (hct w (gl g)) q_clX12 lyp_96 rfl ok_X12_good ml_X12_125 ⟨Nat.le_of_ble_eq_true rfl, Nat.le_of_ble_eq_true rfl⟩ (Nat.le_of_ble_eq_true rfl) dX12_readLight_34 ?_
  show q_Gs w g 37 [(0, .ref 96), (1, .int x1), (2, .int x2)] [.int r1] (q_mm I L)
  refine g_if_eq K1 127 dX12_readLight_37 rfl (fun hc => ?_) (fun hc => ?_)
  · replace h := h.1 hc
    refine g_aload_n K1 0 dX12_readLight_127 rfl ?_
    refine h_getO K1 q_clX12 14 102 lyp_96 fkX12_14 rfl fl_X12_31 dX12_readLight_128 ?_
    refine g_iconst K1 5 dX12_readLight_131 rfl ?_
    refine g_dup2 K1 dX12_readLight_132 rfl rfl ?_
    obtain ⟨hg, h⟩ := h
    refine h_iaload K1 lyp_102 hg dX12_readLight_133 ?_
    refine g_iconst K1 1 dX12_readLight_134 rfl ?_
    refine g_iadd K1 dX12_readLight_135 ?_
    obtain ⟨hg, h⟩ := h
    refine h_iastore K1 lyp_102 hg dX12_readLight_136 ?_
    refine g_nameMI (fun I2 hI2 => ?_)
    replace h := h I2 hI2
    obtain ⟨hr, hI, hL⟩ := h
    subst hr hI hL
    exact g_vreturn K rfl dX12_readLight_137
  · replace h := h.2 hc
    refine g_iload_n K1 2 dX12_readLight_40 rfl ?_
    refine g_if_eq K1 52 dX12_readLight_41 rfl (fun hc => ?_) (fun hc => ?_)
    · replace h := h.1 hc
      exact g_perm [0, 1, 2] rfl (h w g K)
    · replace h := h.2 hc
      refine g_aload_n K1 0 dX12_readLight_44 rfl ?_
      refine h_getI K1 q_clX12 10 lyp_96 fkX12_10 fl_X12_101 dX12_readLight_45 ?_
      refine g_iconst K1 2 dX12_readLight_48 rfl ?_
      refine g_icmp_ne K1 127 dX12_readLight_49 rfl (fun hc => ?_) (fun hc => ?_)
      · replace h := h.2 hc
        refine g_aload_n K1 0 dX12_readLight_127 rfl ?_
        refine h_getO K1 q_clX12 14 102 lyp_96 fkX12_14 rfl fl_X12_31 dX12_readLight_128 ?_
        refine g_iconst K1 5 dX12_readLight_131 rfl ?_
        refine g_dup2 K1 dX12_readLight_132 rfl rfl ?_
        obtain ⟨hg, h⟩ := h
        refine h_iaload K1 lyp_102 hg dX12_readLight_133 ?_
        refine g_iconst K1 1 dX12_readLight_134 rfl ?_
        refine g_iadd K1 dX12_readLight_135 ?_
        obtain ⟨hg, h⟩ := h
        refine h_iastore K1 lyp_102 hg dX12_readLight_136 ?_
        refine g_nameMI (fun I3 hI3 => ?_)
        replace h := h I3 hI3
        obtain ⟨hr, hI, hL⟩ := h
        subst hr hI hL
        exact g_vreturn K rfl dX12_readLight_137
      · replace h := h.1 hc
        exact g_perm [0, 1, 2] rfl (h w g K)
set_option maxRecDepth 20000 in
set_option maxHeartbeats 2000000 in
theorem vc_X12_readLight_52 {r : Option Value} {I' : Nat → Nat → Int32} {L' : Nat → Nat → Int64} {I : Nat → Nat → Int32} {L : Nat → Nat → Int64} {x1 : Int32} {x2 : Int32} (h : (((I 96 10) = 2 → (∃ r2, q_C kX12_in [.long ((I 96 11) : Int32).toInt64, .long 1, .long 4] I L (some (.int r2)) I L ∧ ((r2 = 0 → ((x2 = 6 → (((0 : Int32) = (0 : Int32) → (v_X12_readLight_96 r I' L' I L x1 x2)) ∧ (¬ (0 : Int32) = (0 : Int32) → (∃ I3, q_C kX12_errs [.ref 96, .int 3] I L none I3 L ∧ (v_X12_readLight_96 r I' L' I3 L x1 x2))))) ∧ (¬ x2 = 6 → (v_X12_readLight_96 r I' L' I L x1 x2)))) ∧ (¬ r2 = 0 → ((x2 = 6 → (((1 : Int32) = (0 : Int32) → (v_X12_readLight_96 r I' L' I L x1 x2)) ∧ (¬ (1 : Int32) = (0 : Int32) → (∃ I4, q_C kX12_errs [.ref 96, .int 3] I L none I4 L ∧ (v_X12_readLight_96 r I' L' I4 L x1 x2))))) ∧ (¬ x2 = 6 → (v_X12_readLight_96 r I' L' I L x1 x2))))))) ∧ (¬ (I 96 10) = 2 → ((x2 = 6 → (((0 : Int32) = (0 : Int32) → (v_X12_readLight_96 r I' L' I L x1 x2)) ∧ (¬ (0 : Int32) = (0 : Int32) → (∃ I1, q_C kX12_errs [.ref 96, .int 3] I L none I1 L ∧ (v_X12_readLight_96 r I' L' I1 L x1 x2))))) ∧ (¬ x2 = 6 → (v_X12_readLight_96 r I' L' I L x1 x2)))))) : v_X12_readLight_52 r I' L' I L x1 x2 := by
  intro w g K
  have K1 := K.1
  refine g_aload_n K1 0 dX12_readLight_52 rfl ?_
  refine h_getI K1 q_clX12 10 lyp_96 fkX12_10 fl_X12_101 dX12_readLight_53 ?_
  refine g_iconst K1 2 dX12_readLight_56 rfl ?_
  refine g_icmp_ne K1 79 dX12_readLight_57 rfl (fun hc => ?_) (fun hc => ?_)
  · replace h := h.2 hc
    refine g_iconst K1 0 dX12_readLight_79 rfl ?_
    refine g_istore_n K1 dX12_readLight_80 rfl (by decide) rfl ?_
    refine g_iload_n K1 3 dX12_readLight_81 rfl ?_
    refine g_bipush K1 6 dX12_readLight_82 rfl ?_
    refine g_icmp_ne K1 96 dX12_readLight_84 rfl (fun hc => ?_) (fun hc => ?_)
    · replace h := h.2 hc
      exact g_perm [1, 2, 3] rfl (h w g K)
    · replace h := h.1 hc
      refine g_iload_n K1 0 dX12_readLight_87 rfl ?_
      refine g_if_eq K1 96 dX12_readLight_88 rfl (fun hc => ?_) (fun hc => ?_)
      · replace h := h.1 hc
        exact g_perm [1, 2, 3] rfl (h w g K)
      · replace h := h.2 hc
        refine g_aload_n K1 1 dX12_readLight_91 rfl ?_
        refine g_iconst K1 3 dX12_readLight_92 rfl ?_
        obtain ⟨I1, hct, h⟩ := h
        refine h_callV K1 (st := []) [.int 3] (hct w (gl g)) q_clX12 lyp_96 rfl ok_X12_errs ml_X12_147 ⟨Nat.le_of_ble_eq_true rfl, Nat.le_of_ble_eq_true rfl⟩ (Nat.le_of_ble_eq_true rfl) dX12_readLight_93 ?_
        show q_Gs w g 96 [(3, .int 0), (0, .ref 96), (1, .int x1), (2, .int x2)] [] (q_mm I1 L)
        exact g_perm [1, 2, 3] rfl (h w g K)
  · replace h := h.1 hc
    refine g_aload_n K1 0 dX12_readLight_60 rfl ?_
    refine h_getI K1 q_clX12 11 lyp_96 fkX12_11 fl_X12_112 dX12_readLight_61 ?_
    refine g_i2l K1 dX12_readLight_64 ?_
    refine g_lconst K1 1 dX12_readLight_65 rfl ?_
    refine g_ldc2_w K1 4 dX12_readLight_66 cn_X12_183 ?_
    obtain ⟨r2, hct, h⟩ := h
    refine h_callS K1 (st := []) [.long ((I 96 11) : Int32).toInt64, .long 1, .long 4] (hct w (gl g)) ok_X12_in ml_X12_70 ⟨Nat.le_of_ble_eq_true rfl, Nat.le_of_ble_eq_true rfl⟩ (Nat.le_of_ble_eq_true rfl) dX12_readLight_69 ?_
    show q_Gs w g 72 [(0, .ref 96), (1, .int x1), (2, .int x2)] [.int r2] (q_mm I L)
    refine g_if_eq K1 79 dX12_readLight_72 rfl (fun hc => ?_) (fun hc => ?_)
    · replace h := h.1 hc
      refine g_iconst K1 0 dX12_readLight_79 rfl ?_
      refine g_istore_n K1 dX12_readLight_80 rfl (by decide) rfl ?_
      refine g_iload_n K1 3 dX12_readLight_81 rfl ?_
      refine g_bipush K1 6 dX12_readLight_82 rfl ?_
      refine g_icmp_ne K1 96 dX12_readLight_84 rfl (fun hc => ?_) (fun hc => ?_)
      · replace h := h.2 hc
        exact g_perm [1, 2, 3] rfl (h w g K)
      · replace h := h.1 hc
        refine g_iload_n K1 0 dX12_readLight_87 rfl ?_
        refine g_if_eq K1 96 dX12_readLight_88 rfl (fun hc => ?_) (fun hc => ?_)
        · replace h := h.1 hc
          exact g_perm [1, 2, 3] rfl (h w g K)
        · replace h := h.2 hc
          refine g_aload_n K1 1 dX12_readLight_91 rfl ?_
          refine g_iconst K1 3 dX12_readLight_92 rfl ?_
          obtain ⟨I3, hct, h⟩ := h
          refine h_callV K1 (st := []) [.int 3] (hct w (gl g)) q_clX12 lyp_96 rfl ok_X12_errs ml_X12_147 ⟨Nat.le_of_ble_eq_true rfl, Nat.le_of_ble_eq_true rfl⟩ (Nat.le_of_ble_eq_true rfl) dX12_readLight_93 ?_
          show q_Gs w g 96 [(3, .int 0), (0, .ref 96), (1, .int x1), (2, .int x2)] [] (q_mm I3 L)
          exact g_perm [1, 2, 3] rfl (h w g K)
    · replace h := h.2 hc
      refine g_iconst K1 1 dX12_readLight_75 rfl ?_
      refine g_goto K1 80 dX12_readLight_76 rfl ?_
      refine g_istore_n K1 dX12_readLight_80 rfl (by decide) rfl ?_
      refine g_iload_n K1 3 dX12_readLight_81 rfl ?_
      refine g_bipush K1 6 dX12_readLight_82 rfl ?_
      refine g_icmp_ne K1 96 dX12_readLight_84 rfl (fun hc => ?_) (fun hc => ?_)
      · replace h := h.2 hc
        exact g_perm [1, 2, 3] rfl (h w g K)
      · replace h := h.1 hc
        refine g_iload_n K1 0 dX12_readLight_87 rfl ?_
        refine g_if_eq K1 96 dX12_readLight_88 rfl (fun hc => ?_) (fun hc => ?_)
        · replace h := h.1 hc
          exact g_perm [1, 2, 3] rfl (h w g K)
        · replace h := h.2 hc
          refine g_aload_n K1 1 dX12_readLight_91 rfl ?_
          refine g_iconst K1 3 dX12_readLight_92 rfl ?_
          obtain ⟨I4, hct, h⟩ := h
          refine h_callV K1 (st := []) [.int 3] (hct w (gl g)) q_clX12 lyp_96 rfl ok_X12_errs ml_X12_147 ⟨Nat.le_of_ble_eq_true rfl, Nat.le_of_ble_eq_true rfl⟩ (Nat.le_of_ble_eq_true rfl) dX12_readLight_93 ?_
          show q_Gs w g 96 [(3, .int 1), (0, .ref 96), (1, .int x1), (2, .int x2)] [] (q_mm I4 L)
          exact g_perm [1, 2, 3] rfl (h w g K)
set_option maxRecDepth 20000 in
set_option maxHeartbeats 2000000 in
theorem vc_X12_readLight_96 {r : Option Value} {I' : Nat → Nat → Int32} {L' : Nat → Nat → Int64} {I : Nat → Nat → Int32} {L : Nat → Nat → Int64} {x1 : Int32} {x2 : Int32} (h : (vp_in (x1 + 1) 104 ∧ (∃ r1 I2, q_C kX12_number [.ref 96, .int 1, .int 4] I L (some (.int r1)) I2 L ∧ (vp_in (x1 + 1) 104 ∧ ∀ I3, I3 = (up2 I2 102 ((x1 + 1) : Int32).toNatClampNeg ((5 * (I 102 ((x1 + 1) : Int32).toNatClampNeg)) + r1)) → (v_X12_readLight_33 r I' L' I3 L x1 (x2 + 1)))))) : v_X12_readLight_96 r I' L' I L x1 x2 := by
  intro w g K
  have K1 := K.1
  refine g_aload_n K1 0 dX12_readLight_96 rfl ?_
  refine h_getO K1 q_clX12 14 102 lyp_96 fkX12_14 rfl fl_X12_31 dX12_readLight_97 ?_
  refine g_iload_n K1 1 dX12_readLight_100 rfl ?_
  refine g_iconst K1 1 dX12_readLight_101 rfl ?_
  refine g_iadd K1 dX12_readLight_102 ?_
  refine g_iconst K1 5 dX12_readLight_103 rfl ?_
  refine g_aload_n K1 0 dX12_readLight_104 rfl ?_
  refine h_getO K1 q_clX12 14 102 lyp_96 fkX12_14 rfl fl_X12_31 dX12_readLight_105 ?_
  refine g_iload_n K1 1 dX12_readLight_108 rfl ?_
  refine g_iconst K1 1 dX12_readLight_109 rfl ?_
  refine g_iadd K1 dX12_readLight_110 ?_
  obtain ⟨hg, h⟩ := h
  refine h_iaload K1 lyp_102 hg dX12_readLight_111 ?_
  refine g_imul K1 dX12_readLight_112 ?_
  refine g_aload_n K1 0 dX12_readLight_113 rfl ?_
  refine g_iconst K1 1 dX12_readLight_114 rfl ?_
  refine g_iconst K1 4 dX12_readLight_115 rfl ?_
  obtain ⟨r1, I2, hct, h⟩ := h
  refine h_callV K1 (st := [.int (5 * (I 102 ((x1 + 1) : Int32).toNatClampNeg)), .int (x1 + 1), .ref 102]) [.int 1, .int 4] (hct w (gl g)) q_clX12 lyp_96 rfl ok_X12_number ml_X12_155 ⟨Nat.le_of_ble_eq_true rfl, Nat.le_of_ble_eq_true rfl⟩ (Nat.le_of_ble_eq_true rfl) dX12_readLight_116 ?_
  show q_Gs w g 119 [(0, .ref 96), (1, .int x1), (2, .int x2)] [.int r1, .int (5 * (I 102 ((x1 + 1) : Int32).toNatClampNeg)), .int (x1 + 1), .ref 102] (q_mm I2 L)
  refine g_iadd K1 dX12_readLight_119 ?_
  obtain ⟨hg, h⟩ := h
  refine h_iastore K1 lyp_102 hg dX12_readLight_120 ?_
  refine g_nameMI (fun I3 hI3 => ?_)
  replace h := h I3 hI3
  refine g_iinc K1 (x2 + 1) 2 dX12_readLight_121 rfl rfl (by decide) rfl ?_
  refine g_goto K1 33 dX12_readLight_124 rfl ?_
  exact g_perm [1, 2, 0] rfl (h w g K)
theorem c0_X12_readLight {r : Option Value} {I I' : Nat → Nat → Int32} {L L' : Nat → Nat → Int64}  (h : v_X12_readLight_0 r I' L' I L ) : q_C kX12_readLight [.ref 96] I L r I' L' := fun w l => q_ct (by decide) (Nat.le_of_ble_eq_true rfl) (Nat.le_refl _) (fun g _ K => h w g K)
abbrev v_X12_readLine_0 (r : Option Value) (I' : Nat → Nat → Int32) (L' : Nat → Nat → Int64) (I : Nat → Nat → Int32) (L : Nat → Nat → Int64)  : Prop := q_W kX12_readLine 0 [(0, .ref 96)] [] I L r I' L'
abbrev v_X12_readLine_41 (r : Option Value) (I' : Nat → Nat → Int32) (L' : Nat → Nat → Int64) (I : Nat → Nat → Int32) (L : Nat → Nat → Int64)  : Prop := q_W kX12_readLine 41 [(0, .ref 96)] [] I L r I' L'
set_option maxRecDepth 20000 in
set_option maxHeartbeats 2000000 in
theorem vc_X12_readLine_0 {r : Option Value} {I' : Nat → Nat → Int32} {L' : Nat → Nat → Int64} {I : Nat → Nat → Int32} {L : Nat → Nat → Int64}  (h : (vp_in 8 104 ∧ (((I 102 (8 : Int32).toNatClampNeg) = 0 → (∃ I4, q_C kX12_readFirst [.ref 96] I L none I4 L ∧ (∃ r5, q_C kX12_good [.ref 96] I4 L (some (.int r5)) I4 L ∧ ((r5 = 0 → (v_X12_readLine_41 r I' L' I4 L)) ∧ (¬ r5 = 0 → (((I4 96 10) = 3 → (v_X12_readLine_41 r I' L' I4 L)) ∧ (¬ (I4 96 10) = 3 → (∃ I6, q_C kX12_errs [.ref 96, .int 1] I4 L none I6 L ∧ (v_X12_readLine_41 r I' L' I6 L))))))))) ∧ (¬ (I 102 (8 : Int32).toNatClampNeg) = 0 → (∃ I1, q_C kX12_readNext [.ref 96] I L none I1 L ∧ (∃ r2, q_C kX12_good [.ref 96] I1 L (some (.int r2)) I1 L ∧ ((r2 = 0 → (v_X12_readLine_41 r I' L' I1 L)) ∧ (¬ r2 = 0 → (((I1 96 10) = 3 → (v_X12_readLine_41 r I' L' I1 L)) ∧ (¬ (I1 96 10) = 3 → (∃ I3, q_C kX12_errs [.ref 96, .int 1] I1 L none I3 L ∧ (v_X12_readLine_41 r I' L' I3 L)))))))))))) : v_X12_readLine_0 r I' L' I L  := by
  intro w g K
  have K1 := K.1
  refine g_aload_n K1 0 dX12_readLine_0 rfl ?_
  refine h_getO K1 q_clX12 14 102 lyp_96 fkX12_14 rfl fl_X12_31 dX12_readLine_1 ?_
  refine g_bipush K1 8 dX12_readLine_4 rfl ?_
  obtain ⟨hg, h⟩ := h
  refine h_iaload K1 lyp_102 hg dX12_readLine_6 ?_
  refine g_if_ne K1 17 dX12_readLine_7 rfl (fun hc => ?_) (fun hc => ?_)
  · replace h := h.2 hc
    refine g_aload_n K1 0 dX12_readLine_17 rfl ?_
    obtain ⟨I1, hct, h⟩ := h
    refine h_callV K1 (st := []) [] (hct w (gl g)) q_clX12 lyp_96 rfl ok_X12_readNext ml_X12_212 ⟨Nat.le_of_ble_eq_true rfl, Nat.le_of_ble_eq_true rfl⟩ (Nat.le_of_ble_eq_true rfl) dX12_readLine_18 ?_
    show q_Gs w g 21 [(0, .ref 96)] [] (q_mm I1 L)
    refine g_aload_n K1 0 dX12_readLine_21 rfl ?_
    obtain ⟨r2, hct, h⟩ := h
    refine h_callV K1 (st := []) [] (hct w (gl g)) q_clX12 lyp_96 rfl ok_X12_good ml_X12_125 ⟨Nat.le_of_ble_eq_true rfl, Nat.le_of_ble_eq_true rfl⟩ (Nat.le_of_ble_eq_true rfl) dX12_readLine_22 ?_
    show q_Gs w g 25 [(0, .ref 96)] [.int r2] (q_mm I1 L)
    refine g_if_eq K1 41 dX12_readLine_25 rfl (fun hc => ?_) (fun hc => ?_)
    · replace h := h.1 hc
      exact g_perm [0] rfl (h w g K)
    · replace h := h.2 hc
      refine g_aload_n K1 0 dX12_readLine_28 rfl ?_
      refine h_getI K1 q_clX12 10 lyp_96 fkX12_10 fl_X12_101 dX12_readLine_29 ?_
      refine g_iconst K1 3 dX12_readLine_32 rfl ?_
      refine g_icmp_eq K1 41 dX12_readLine_33 rfl (fun hc => ?_) (fun hc => ?_)
      · replace h := h.1 hc
        exact g_perm [0] rfl (h w g K)
      · replace h := h.2 hc
        refine g_aload_n K1 0 dX12_readLine_36 rfl ?_
        refine g_iconst K1 1 dX12_readLine_37 rfl ?_
        obtain ⟨I3, hct, h⟩ := h
        refine h_callV K1 (st := []) [.int 1] (hct w (gl g)) q_clX12 lyp_96 rfl ok_X12_errs ml_X12_147 ⟨Nat.le_of_ble_eq_true rfl, Nat.le_of_ble_eq_true rfl⟩ (Nat.le_of_ble_eq_true rfl) dX12_readLine_38 ?_
        show q_Gs w g 41 [(0, .ref 96)] [] (q_mm I3 L)
        exact g_perm [0] rfl (h w g K)
  · replace h := h.1 hc
    refine g_aload_n K1 0 dX12_readLine_10 rfl ?_
    obtain ⟨I4, hct, h⟩ := h
    refine h_callV K1 (st := []) [] (hct w (gl g)) q_clX12 lyp_96 rfl ok_X12_readFirst ml_X12_209 ⟨Nat.le_of_ble_eq_true rfl, Nat.le_of_ble_eq_true rfl⟩ (Nat.le_of_ble_eq_true rfl) dX12_readLine_11 ?_
    show q_Gs w g 14 [(0, .ref 96)] [] (q_mm I4 L)
    refine g_goto K1 21 dX12_readLine_14 rfl ?_
    refine g_aload_n K1 0 dX12_readLine_21 rfl ?_
    obtain ⟨r5, hct, h⟩ := h
    refine h_callV K1 (st := []) [] (hct w (gl g)) q_clX12 lyp_96 rfl ok_X12_good ml_X12_125 ⟨Nat.le_of_ble_eq_true rfl, Nat.le_of_ble_eq_true rfl⟩ (Nat.le_of_ble_eq_true rfl) dX12_readLine_22 ?_
    show q_Gs w g 25 [(0, .ref 96)] [.int r5] (q_mm I4 L)
    refine g_if_eq K1 41 dX12_readLine_25 rfl (fun hc => ?_) (fun hc => ?_)
    · replace h := h.1 hc
      exact g_perm [0] rfl (h w g K)
    · replace h := h.2 hc
      refine g_aload_n K1 0 dX12_readLine_28 rfl ?_
      refine h_getI K1 q_clX12 10 lyp_96 fkX12_10 fl_X12_101 dX12_readLine_29 ?_
      refine g_iconst K1 3 dX12_readLine_32 rfl ?_
      refine g_icmp_eq K1 41 dX12_readLine_33 rfl (fun hc => ?_) (fun hc => ?_)
      · replace h := h.1 hc
        exact g_perm [0] rfl (h w g K)
      · replace h := h.2 hc
        refine g_aload_n K1 0 dX12_readLine_36 rfl ?_
        refine g_iconst K1 1 dX12_readLine_37 rfl ?_
        obtain ⟨I6, hct, h⟩ := h
        refine h_callV K1 (st := []) [.int 1] (hct w (gl g)) q_clX12 lyp_96 rfl ok_X12_errs ml_X12_147 ⟨Nat.le_of_ble_eq_true rfl, Nat.le_of_ble_eq_true rfl⟩ (Nat.le_of_ble_eq_true rfl) dX12_readLine_38 ?_
        show q_Gs w g 41 [(0, .ref 96)] [] (q_mm I6 L)
        exact g_perm [0] rfl (h w g K)
set_option maxRecDepth 20000 in
set_option maxHeartbeats 2000000 in
theorem vc_X12_readLine_41 {r : Option Value} {I' : Nat → Nat → Int32} {L' : Nat → Nat → Int64} {I : Nat → Nat → Int32} {L : Nat → Nat → Int64}  (h : (∃ r1, q_C kX12_good [.ref 96] I L (some (.int r1)) I L ∧ ((r1 = 0 → (vp_in 8 104 ∧ (vp_in 8 104 ∧ ∀ I2, I2 = (up2 I 102 (8 : Int32).toNatClampNeg ((I 102 (8 : Int32).toNatClampNeg) + 1)) → (r = none ∧ I' = I2 ∧ L' = L)))) ∧ (¬ r1 = 0 → (∃ I3, q_C kX12_advance [.ref 96] I L none I3 L ∧ (vp_in 8 104 ∧ (vp_in 8 104 ∧ ∀ I4, I4 = (up2 I3 102 (8 : Int32).toNatClampNeg ((I3 102 (8 : Int32).toNatClampNeg) + 1)) → (r = none ∧ I' = I4 ∧ L' = L)))))))) : v_X12_readLine_41 r I' L' I L  := by
  intro w g K
  have K1 := K.1
  refine g_aload_n K1 0 dX12_readLine_41 rfl ?_
  obtain ⟨r1, hct, h⟩ := h
  refine h_callV K1 (st := []) [] (hct w (gl g)) q_clX12 lyp_96 rfl ok_X12_good ml_X12_125 ⟨Nat.le_of_ble_eq_true rfl, Nat.le_of_ble_eq_true rfl⟩ (Nat.le_of_ble_eq_true rfl) dX12_readLine_42 ?_
  show q_Gs w g 45 [(0, .ref 96)] [.int r1] (q_mm I L)
  refine g_if_eq K1 52 dX12_readLine_45 rfl (fun hc => ?_) (fun hc => ?_)
  · replace h := h.1 hc
    refine g_aload_n K1 0 dX12_readLine_52 rfl ?_
    refine h_getO K1 q_clX12 14 102 lyp_96 fkX12_14 rfl fl_X12_31 dX12_readLine_53 ?_
    refine g_bipush K1 8 dX12_readLine_56 rfl ?_
    refine g_dup2 K1 dX12_readLine_58 rfl rfl ?_
    obtain ⟨hg, h⟩ := h
    refine h_iaload K1 lyp_102 hg dX12_readLine_59 ?_
    refine g_iconst K1 1 dX12_readLine_60 rfl ?_
    refine g_iadd K1 dX12_readLine_61 ?_
    obtain ⟨hg, h⟩ := h
    refine h_iastore K1 lyp_102 hg dX12_readLine_62 ?_
    refine g_nameMI (fun I2 hI2 => ?_)
    replace h := h I2 hI2
    obtain ⟨hr, hI, hL⟩ := h
    subst hr hI hL
    exact g_vreturn K rfl dX12_readLine_63
  · replace h := h.2 hc
    refine g_aload_n K1 0 dX12_readLine_48 rfl ?_
    obtain ⟨I3, hct, h⟩ := h
    refine h_callV K1 (st := []) [] (hct w (gl g)) q_clX12 lyp_96 rfl ok_X12_advance ml_X12_141 ⟨Nat.le_of_ble_eq_true rfl, Nat.le_of_ble_eq_true rfl⟩ (Nat.le_of_ble_eq_true rfl) dX12_readLine_49 ?_
    show q_Gs w g 52 [(0, .ref 96)] [] (q_mm I3 L)
    refine g_aload_n K1 0 dX12_readLine_52 rfl ?_
    refine h_getO K1 q_clX12 14 102 lyp_96 fkX12_14 rfl fl_X12_31 dX12_readLine_53 ?_
    refine g_bipush K1 8 dX12_readLine_56 rfl ?_
    refine g_dup2 K1 dX12_readLine_58 rfl rfl ?_
    obtain ⟨hg, h⟩ := h
    refine h_iaload K1 lyp_102 hg dX12_readLine_59 ?_
    refine g_iconst K1 1 dX12_readLine_60 rfl ?_
    refine g_iadd K1 dX12_readLine_61 ?_
    obtain ⟨hg, h⟩ := h
    refine h_iastore K1 lyp_102 hg dX12_readLine_62 ?_
    refine g_nameMI (fun I4 hI4 => ?_)
    replace h := h I4 hI4
    obtain ⟨hr, hI, hL⟩ := h
    subst hr hI hL
    exact g_vreturn K rfl dX12_readLine_63
theorem c0_X12_readLine {r : Option Value} {I I' : Nat → Nat → Int32} {L L' : Nat → Nat → Int64}  (h : v_X12_readLine_0 r I' L' I L ) : q_C kX12_readLine [.ref 96] I L r I' L' := fun w l => q_ct (by decide) (Nat.le_of_ble_eq_true rfl) (Nat.le_refl _) (fun g _ K => h w g K)
abbrev v_X12_readNext_0 (r : Option Value) (I' : Nat → Nat → Int32) (L' : Nat → Nat → Int64) (I : Nat → Nat → Int32) (L : Nat → Nat → Int64)  : Prop := q_W kX12_readNext 0 [(0, .ref 96)] [] I L r I' L'
abbrev v_X12_readNext_41 (r : Option Value) (I' : Nat → Nat → Int32) (L' : Nat → Nat → Int64) (I : Nat → Nat → Int32) (L : Nat → Nat → Int64) (s0 : Int32) : Prop := q_W kX12_readNext 41 [(0, .ref 96)] [.int s0] I L r I' L'
abbrev v_X12_readNext_63 (r : Option Value) (I' : Nat → Nat → Int32) (L' : Nat → Nat → Int64) (I : Nat → Nat → Int32) (L : Nat → Nat → Int64)  : Prop := q_W kX12_readNext 63 [(0, .ref 96)] [] I L r I' L'
set_option maxRecDepth 20000 in
set_option maxHeartbeats 2000000 in
theorem vc_X12_readNext_0 {r : Option Value} {I' : Nat → Nat → Int32} {L' : Nat → Nat → Int64} {I : Nat → Nat → Int32} {L : Nat → Nat → Int64}  (h : (∃ r1, q_C kX12_is [.ref 96, .ref 10019] I L (some (.int r1)) I L ∧ ((r1 = 0 → (∃ r2, q_C kX12_is [.ref 96, .ref 10020] I L (some (.int r2)) I L ∧ ((r2 = 0 → (∃ r3, q_C kX12_is [.ref 96, .ref 10021] I L (some (.int r3)) I L ∧ ((r3 = 0 → (∃ r4, q_C kX12_is [.ref 96, .ref 10022] I L (some (.int r4)) I L ∧ ((r4 = 0 → (v_X12_readNext_41 r I' L' I L 0)) ∧ (¬ r4 = 0 → (v_X12_readNext_41 r I' L' I L 1))))) ∧ (¬ r3 = 0 → (v_X12_readNext_41 r I' L' I L 1))))) ∧ (¬ r2 = 0 → (v_X12_readNext_41 r I' L' I L 1))))) ∧ (¬ r1 = 0 → (v_X12_readNext_41 r I' L' I L 1))))) : v_X12_readNext_0 r I' L' I L  := by
  intro w g K
  have K1 := K.1
  refine g_aload_n K1 0 dX12_readNext_0 rfl ?_
  refine g_ldcS K1 18 (q := _) rfl rfl rfl dX12_readNext_1 ?_
  obtain ⟨r1, hct, h⟩ := h
  refine h_callV K1 (st := []) [.ref 10019] (hct w (gl g)) q_clX12 lyp_96 rfl ok_X12_is ml_X12_137 ⟨Nat.le_of_ble_eq_true rfl, Nat.le_of_ble_eq_true rfl⟩ (Nat.le_of_ble_eq_true rfl) dX12_readNext_3 ?_
  show q_Gs w g 6 [(0, .ref 96)] [.int r1] (q_mm I L)
  refine g_if_ne K1 36 dX12_readNext_6 rfl (fun hc => ?_) (fun hc => ?_)
  · replace h := h.2 hc
    refine g_iconst K1 1 dX12_readNext_36 rfl ?_
    refine g_goto K1 41 dX12_readNext_37 rfl ?_
    exact g_perm [0] rfl (h w g K)
  · replace h := h.1 hc
    refine g_aload_n K1 0 dX12_readNext_9 rfl ?_
    refine g_ldcS K1 19 (q := _) rfl rfl rfl dX12_readNext_10 ?_
    obtain ⟨r2, hct, h⟩ := h
    refine h_callV K1 (st := []) [.ref 10020] (hct w (gl g)) q_clX12 lyp_96 rfl ok_X12_is ml_X12_137 ⟨Nat.le_of_ble_eq_true rfl, Nat.le_of_ble_eq_true rfl⟩ (Nat.le_of_ble_eq_true rfl) dX12_readNext_12 ?_
    show q_Gs w g 15 [(0, .ref 96)] [.int r2] (q_mm I L)
    refine g_if_ne K1 36 dX12_readNext_15 rfl (fun hc => ?_) (fun hc => ?_)
    · replace h := h.2 hc
      refine g_iconst K1 1 dX12_readNext_36 rfl ?_
      refine g_goto K1 41 dX12_readNext_37 rfl ?_
      exact g_perm [0] rfl (h w g K)
    · replace h := h.1 hc
      refine g_aload_n K1 0 dX12_readNext_18 rfl ?_
      refine g_ldcS K1 20 (q := _) rfl rfl rfl dX12_readNext_19 ?_
      obtain ⟨r3, hct, h⟩ := h
      refine h_callV K1 (st := []) [.ref 10021] (hct w (gl g)) q_clX12 lyp_96 rfl ok_X12_is ml_X12_137 ⟨Nat.le_of_ble_eq_true rfl, Nat.le_of_ble_eq_true rfl⟩ (Nat.le_of_ble_eq_true rfl) dX12_readNext_21 ?_
      show q_Gs w g 24 [(0, .ref 96)] [.int r3] (q_mm I L)
      refine g_if_ne K1 36 dX12_readNext_24 rfl (fun hc => ?_) (fun hc => ?_)
      · replace h := h.2 hc
        refine g_iconst K1 1 dX12_readNext_36 rfl ?_
        refine g_goto K1 41 dX12_readNext_37 rfl ?_
        exact g_perm [0] rfl (h w g K)
      · replace h := h.1 hc
        refine g_aload_n K1 0 dX12_readNext_27 rfl ?_
        refine g_ldcS K1 21 (q := _) rfl rfl rfl dX12_readNext_28 ?_
        obtain ⟨r4, hct, h⟩ := h
        refine h_callV K1 (st := []) [.ref 10022] (hct w (gl g)) q_clX12 lyp_96 rfl ok_X12_is ml_X12_137 ⟨Nat.le_of_ble_eq_true rfl, Nat.le_of_ble_eq_true rfl⟩ (Nat.le_of_ble_eq_true rfl) dX12_readNext_30 ?_
        show q_Gs w g 33 [(0, .ref 96)] [.int r4] (q_mm I L)
        refine g_if_eq K1 40 dX12_readNext_33 rfl (fun hc => ?_) (fun hc => ?_)
        · replace h := h.1 hc
          refine g_iconst K1 0 dX12_readNext_40 rfl ?_
          exact g_perm [0] rfl (h w g K)
        · replace h := h.2 hc
          refine g_iconst K1 1 dX12_readNext_36 rfl ?_
          refine g_goto K1 41 dX12_readNext_37 rfl ?_
          exact g_perm [0] rfl (h w g K)
set_option maxRecDepth 20000 in
set_option maxHeartbeats 2000000 in
theorem vc_X12_readNext_41 {r : Option Value} {I' : Nat → Nat → Int32} {L' : Nat → Nat → Int64} {I : Nat → Nat → Int32} {L : Nat → Nat → Int64} {s0 : Int32} (h : ((s0 = 0 → (∃ I3, q_C kX12_errs [.ref 96, .int 1] I L none I3 L ∧ (∃ r4, q_C kX12_isFull [.ref 96] I3 L (some (.int r4)) I3 L ∧ ((r4 = 0 → (v_X12_readNext_63 r I' L' I3 L)) ∧ (¬ r4 = 0 → (∃ I5, q_C kX12_errs [.ref 96, .int 3] I3 L none I5 L ∧ (v_X12_readNext_63 r I' L' I5 L))))))) ∧ (¬ s0 = 0 → (∃ r1, q_C kX12_isFull [.ref 96] I L (some (.int r1)) I L ∧ ((r1 = 0 → (v_X12_readNext_63 r I' L' I L)) ∧ (¬ r1 = 0 → (∃ I2, q_C kX12_errs [.ref 96, .int 3] I L none I2 L ∧ (v_X12_readNext_63 r I' L' I2 L)))))))) : v_X12_readNext_41 r I' L' I L s0 := by
  intro w g K
  have K1 := K.1
  refine g_istore_n K1 dX12_readNext_41 rfl (by decide) rfl ?_
  refine g_iload_n K1 0 dX12_readNext_42 rfl ?_
  refine g_if_ne K1 51 dX12_readNext_43 rfl (fun hc => ?_) (fun hc => ?_)
  · replace h := h.2 hc
    refine g_aload_n K1 1 dX12_readNext_51 rfl ?_
    obtain ⟨r1, hct, h⟩ := h
    refine h_callV K1 (st := []) [] (hct w (gl g)) q_clX12 lyp_96 rfl ok_X12_isFull ml_X12_194 ⟨Nat.le_of_ble_eq_true rfl, Nat.le_of_ble_eq_true rfl⟩ (Nat.le_of_ble_eq_true rfl) dX12_readNext_52 ?_
    show q_Gs w g 55 [(1, .int s0), (0, .ref 96)] [.int r1] (q_mm I L)
    refine g_if_eq K1 63 dX12_readNext_55 rfl (fun hc => ?_) (fun hc => ?_)
    · replace h := h.1 hc
      exact g_perm [1] rfl (h w g K)
    · replace h := h.2 hc
      refine g_aload_n K1 1 dX12_readNext_58 rfl ?_
      refine g_iconst K1 3 dX12_readNext_59 rfl ?_
      obtain ⟨I2, hct, h⟩ := h
      refine h_callV K1 (st := []) [.int 3] (hct w (gl g)) q_clX12 lyp_96 rfl ok_X12_errs ml_X12_147 ⟨Nat.le_of_ble_eq_true rfl, Nat.le_of_ble_eq_true rfl⟩ (Nat.le_of_ble_eq_true rfl) dX12_readNext_60 ?_
      show q_Gs w g 63 [(1, .int s0), (0, .ref 96)] [] (q_mm I2 L)
      exact g_perm [1] rfl (h w g K)
  · replace h := h.1 hc
    refine g_aload_n K1 1 dX12_readNext_46 rfl ?_
    refine g_iconst K1 1 dX12_readNext_47 rfl ?_
    obtain ⟨I3, hct, h⟩ := h
    refine h_callV K1 (st := []) [.int 1] (hct w (gl g)) q_clX12 lyp_96 rfl ok_X12_errs ml_X12_147 ⟨Nat.le_of_ble_eq_true rfl, Nat.le_of_ble_eq_true rfl⟩ (Nat.le_of_ble_eq_true rfl) dX12_readNext_48 ?_
    show q_Gs w g 51 [(1, .int s0), (0, .ref 96)] [] (q_mm I3 L)
    refine g_aload_n K1 1 dX12_readNext_51 rfl ?_
    obtain ⟨r4, hct, h⟩ := h
    refine h_callV K1 (st := []) [] (hct w (gl g)) q_clX12 lyp_96 rfl ok_X12_isFull ml_X12_194 ⟨Nat.le_of_ble_eq_true rfl, Nat.le_of_ble_eq_true rfl⟩ (Nat.le_of_ble_eq_true rfl) dX12_readNext_52 ?_
    show q_Gs w g 55 [(1, .int s0), (0, .ref 96)] [.int r4] (q_mm I3 L)
    refine g_if_eq K1 63 dX12_readNext_55 rfl (fun hc => ?_) (fun hc => ?_)
    · replace h := h.1 hc
      exact g_perm [1] rfl (h w g K)
    · replace h := h.2 hc
      refine g_aload_n K1 1 dX12_readNext_58 rfl ?_
      refine g_iconst K1 3 dX12_readNext_59 rfl ?_
      obtain ⟨I5, hct, h⟩ := h
      refine h_callV K1 (st := []) [.int 3] (hct w (gl g)) q_clX12 lyp_96 rfl ok_X12_errs ml_X12_147 ⟨Nat.le_of_ble_eq_true rfl, Nat.le_of_ble_eq_true rfl⟩ (Nat.le_of_ble_eq_true rfl) dX12_readNext_60 ?_
      show q_Gs w g 63 [(1, .int s0), (0, .ref 96)] [] (q_mm I5 L)
      exact g_perm [1] rfl (h w g K)
set_option maxRecDepth 20000 in
set_option maxHeartbeats 2000000 in
theorem vc_X12_readNext_63 {r : Option Value} {I' : Nat → Nat → Int32} {L' : Nat → Nat → Int64} {I : Nat → Nat → Int32} {L : Nat → Nat → Int64}  (h : (∃ r1, q_C kX12_good [.ref 96] I L (some (.int r1)) I L ∧ ((r1 = 0 → (r = none ∧ I' = I ∧ L' = L)) ∧ (¬ r1 = 0 → (∃ r2 I3, q_C kX12_takes [.ref 96, .ref 10019] I L (some (.int r2)) I3 L ∧ ((r2 = 0 → (∃ r4 I5, q_C kX12_takes [.ref 96, .ref 10020] I3 L (some (.int r4)) I5 L ∧ ((r4 = 0 → (∃ r6 I7, q_C kX12_takes [.ref 96, .ref 10021] I5 L (some (.int r6)) I7 L ∧ ((r6 = 0 → (∃ I8, q_C kX12_advance [.ref 96] I7 L none I8 L ∧ (∃ I9, q_C kX12_readDraught [.ref 96] I8 L none I9 L ∧ (r = none ∧ I' = I9 ∧ L' = L)))) ∧ (¬ r6 = 0 → (∃ I10, q_C kX12_readLight [.ref 96] I7 L none I10 L ∧ (r = none ∧ I' = I10 ∧ L' = L)))))) ∧ (¬ r4 = 0 → (∃ I11, q_C kX12_readAisle [.ref 96] I5 L none I11 L ∧ (r = none ∧ I' = I11 ∧ L' = L)))))) ∧ (¬ r2 = 0 → (∃ I12, q_C kX12_readPew [.ref 96] I3 L none I12 L ∧ (r = none ∧ I' = I12 ∧ L' = L))))))))) : v_X12_readNext_63 r I' L' I L  := by
  intro w g K
  have K1 := K.1
  refine g_aload_n K1 0 dX12_readNext_63 rfl ?_
  obtain ⟨r1, hct, h⟩ := h
  refine h_callV K1 (st := []) [] (hct w (gl g)) q_clX12 lyp_96 rfl ok_X12_good ml_X12_125 ⟨Nat.le_of_ble_eq_true rfl, Nat.le_of_ble_eq_true rfl⟩ (Nat.le_of_ble_eq_true rfl) dX12_readNext_64 ?_
  show q_Gs w g 67 [(0, .ref 96)] [.int r1] (q_mm I L)
  refine g_if_ne K1 71 dX12_readNext_67 rfl (fun hc => ?_) (fun hc => ?_)
  · replace h := h.2 hc
    refine g_aload_n K1 0 dX12_readNext_71 rfl ?_
    refine g_ldcS K1 18 (q := _) rfl rfl rfl dX12_readNext_72 ?_
    obtain ⟨r2, I3, hct, h⟩ := h
    refine h_callV K1 (st := []) [.ref 10019] (hct w (gl g)) q_clX12 lyp_96 rfl ok_X12_takes ml_X12_144 ⟨Nat.le_of_ble_eq_true rfl, Nat.le_of_ble_eq_true rfl⟩ (Nat.le_of_ble_eq_true rfl) dX12_readNext_74 ?_
    show q_Gs w g 77 [(0, .ref 96)] [.int r2] (q_mm I3 L)
    refine g_if_eq K1 87 dX12_readNext_77 rfl (fun hc => ?_) (fun hc => ?_)
    · replace h := h.1 hc
      refine g_aload_n K1 0 dX12_readNext_87 rfl ?_
      refine g_ldcS K1 19 (q := _) rfl rfl rfl dX12_readNext_88 ?_
      obtain ⟨r4, I5, hct, h⟩ := h
      refine h_callV K1 (st := []) [.ref 10020] (hct w (gl g)) q_clX12 lyp_96 rfl ok_X12_takes ml_X12_144 ⟨Nat.le_of_ble_eq_true rfl, Nat.le_of_ble_eq_true rfl⟩ (Nat.le_of_ble_eq_true rfl) dX12_readNext_90 ?_
      show q_Gs w g 93 [(0, .ref 96)] [.int r4] (q_mm I5 L)
      refine g_if_eq K1 103 dX12_readNext_93 rfl (fun hc => ?_) (fun hc => ?_)
      · replace h := h.1 hc
        refine g_aload_n K1 0 dX12_readNext_103 rfl ?_
        refine g_ldcS K1 20 (q := _) rfl rfl rfl dX12_readNext_104 ?_
        obtain ⟨r6, I7, hct, h⟩ := h
        refine h_callV K1 (st := []) [.ref 10021] (hct w (gl g)) q_clX12 lyp_96 rfl ok_X12_takes ml_X12_144 ⟨Nat.le_of_ble_eq_true rfl, Nat.le_of_ble_eq_true rfl⟩ (Nat.le_of_ble_eq_true rfl) dX12_readNext_106 ?_
        show q_Gs w g 109 [(0, .ref 96)] [.int r6] (q_mm I7 L)
        refine g_if_eq K1 119 dX12_readNext_109 rfl (fun hc => ?_) (fun hc => ?_)
        · replace h := h.1 hc
          refine g_aload_n K1 0 dX12_readNext_119 rfl ?_
          obtain ⟨I8, hct, h⟩ := h
          refine h_callV K1 (st := []) [] (hct w (gl g)) q_clX12 lyp_96 rfl ok_X12_advance ml_X12_141 ⟨Nat.le_of_ble_eq_true rfl, Nat.le_of_ble_eq_true rfl⟩ (Nat.le_of_ble_eq_true rfl) dX12_readNext_120 ?_
          show q_Gs w g 123 [(0, .ref 96)] [] (q_mm I8 L)
          refine g_aload_n K1 0 dX12_readNext_123 rfl ?_
          obtain ⟨I9, hct, h⟩ := h
          refine h_callV K1 (st := []) [] (hct w (gl g)) q_clX12 lyp_96 rfl ok_X12_readDraught ml_X12_206 ⟨Nat.le_of_ble_eq_true rfl, Nat.le_of_ble_eq_true rfl⟩ (Nat.le_of_ble_eq_true rfl) dX12_readNext_124 ?_
          show q_Gs w g 127 [(0, .ref 96)] [] (q_mm I9 L)
          obtain ⟨hr, hI, hL⟩ := h
          subst hr hI hL
          exact g_vreturn K rfl dX12_readNext_127
        · replace h := h.2 hc
          refine g_aload_n K1 0 dX12_readNext_112 rfl ?_
          obtain ⟨I10, hct, h⟩ := h
          refine h_callV K1 (st := []) [] (hct w (gl g)) q_clX12 lyp_96 rfl ok_X12_readLight ml_X12_203 ⟨Nat.le_of_ble_eq_true rfl, Nat.le_of_ble_eq_true rfl⟩ (Nat.le_of_ble_eq_true rfl) dX12_readNext_113 ?_
          show q_Gs w g 116 [(0, .ref 96)] [] (q_mm I10 L)
          refine g_goto K1 127 dX12_readNext_116 rfl ?_
          obtain ⟨hr, hI, hL⟩ := h
          subst hr hI hL
          exact g_vreturn K rfl dX12_readNext_127
      · replace h := h.2 hc
        refine g_aload_n K1 0 dX12_readNext_96 rfl ?_
        obtain ⟨I11, hct, h⟩ := h
        refine h_callV K1 (st := []) [] (hct w (gl g)) q_clX12 lyp_96 rfl ok_X12_readAisle ml_X12_200 ⟨Nat.le_of_ble_eq_true rfl, Nat.le_of_ble_eq_true rfl⟩ (Nat.le_of_ble_eq_true rfl) dX12_readNext_97 ?_
        show q_Gs w g 100 [(0, .ref 96)] [] (q_mm I11 L)
        refine g_goto K1 127 dX12_readNext_100 rfl ?_
        obtain ⟨hr, hI, hL⟩ := h
        subst hr hI hL
        exact g_vreturn K rfl dX12_readNext_127
    · replace h := h.2 hc
      refine g_aload_n K1 0 dX12_readNext_80 rfl ?_
      obtain ⟨I12, hct, h⟩ := h
      refine h_callV K1 (st := []) [] (hct w (gl g)) q_clX12 lyp_96 rfl ok_X12_readPew ml_X12_197 ⟨Nat.le_of_ble_eq_true rfl, Nat.le_of_ble_eq_true rfl⟩ (Nat.le_of_ble_eq_true rfl) dX12_readNext_81 ?_
      show q_Gs w g 84 [(0, .ref 96)] [] (q_mm I12 L)
      refine g_goto K1 127 dX12_readNext_84 rfl ?_
      obtain ⟨hr, hI, hL⟩ := h
      subst hr hI hL
      exact g_vreturn K rfl dX12_readNext_127
  · replace h := h.1 hc
    obtain ⟨hr, hI, hL⟩ := h
    subst hr hI hL
    exact g_vreturn K rfl dX12_readNext_70
theorem c0_X12_readNext {r : Option Value} {I I' : Nat → Nat → Int32} {L L' : Nat → Nat → Int64}  (h : v_X12_readNext_0 r I' L' I L ) : q_C kX12_readNext [.ref 96] I L r I' L' := fun w l => q_ct (by decide) (Nat.le_of_ble_eq_true rfl) (Nat.le_refl _) (fun g _ K => h w g K)
abbrev v_X12_readPew_0 (r : Option Value) (I' : Nat → Nat → Int32) (L' : Nat → Nat → Int64) (I : Nat → Nat → Int32) (L : Nat → Nat → Int64)  : Prop := q_W kX12_readPew 0 [(0, .ref 96)] [] I L r I' L'
abbrev v_X12_readPew_164 (r : Option Value) (I' : Nat → Nat → Int32) (L' : Nat → Nat → Int64) (I : Nat → Nat → Int32) (L : Nat → Nat → Int64) (x1 : Int32) : Prop := q_W kX12_readPew 164 [(0, .ref 96), (1, .int x1)] [] I L r I' L'
set_option maxRecDepth 20000 in
set_option maxHeartbeats 2000000 in
theorem vc_X12_readPew_0 {r : Option Value} {I' : Nat → Nat → Int32} {L' : Nat → Nat → Int64} {I : Nat → Nat → Int32} {L : Nat → Nat → Int64}  (h : (vp_in 3 104 ∧ (∃ r1 I2, q_C kX12_takes [.ref 96, .ref 10023] I L (some (.int r1)) I2 L ∧ ((r1 = 0 → (∃ r3 I4, q_C kX12_takes [.ref 96, .ref 10024] I2 L (some (.int r3)) I4 L ∧ ((r3 = 0 → (∃ r5 I6, q_C kX12_takes [.ref 96, .ref 10025] I4 L (some (.int r5)) I6 L ∧ ((r5 = 0 → (∃ r7 I8, q_C kX12_takes [.ref 96, .ref 10026] I6 L (some (.int r7)) I8 L ∧ ((r7 = 0 → (∃ I9, q_C kX12_expects [.ref 96, .ref 10027] I8 L none I9 L ∧ (vp_in (9 + (3 * (I 102 (3 : Int32).toNatClampNeg))) 104 ∧ ∀ I10, I10 = (up2 I9 102 ((9 + (3 * (I 102 (3 : Int32).toNatClampNeg))) : Int32).toNatClampNeg 4) → (∃ r11 I12, q_C kX12_number [.ref 96, .int 1, .int 4] I10 L (some (.int r11)) I12 L ∧ (vp_in ((9 + (3 * (I 102 (3 : Int32).toNatClampNeg))) + 1) 104 ∧ ∀ I13, I13 = (up2 I12 102 (((9 + (3 * (I 102 (3 : Int32).toNatClampNeg))) + 1) : Int32).toNatClampNeg r11) → (∃ r14, q_C kX12_good [.ref 96] I13 L (some (.int r14)) I13 L ∧ ((r14 = 0 → (v_X12_readPew_164 r I' L' I13 L (9 + (3 * (I 102 (3 : Int32).toNatClampNeg))))) ∧ (¬ r14 = 0 → (((I13 96 10) = 2 → (vp_in ((9 + (3 * (I 102 (3 : Int32).toNatClampNeg))) + 1) 104 ∧ (((I13 96 11) = (I13 102 (((9 + (3 * (I 102 (3 : Int32).toNatClampNeg))) + 1) : Int32).toNatClampNeg) → (∃ I15, q_C kX12_errs [.ref 96, .int 2] I13 L none I15 L ∧ (v_X12_readPew_164 r I' L' I15 L (9 + (3 * (I 102 (3 : Int32).toNatClampNeg)))))) ∧ (¬ (I13 96 11) = (I13 102 (((9 + (3 * (I 102 (3 : Int32).toNatClampNeg))) + 1) : Int32).toNatClampNeg) → (v_X12_readPew_164 r I' L' I13 L (9 + (3 * (I 102 (3 : Int32).toNatClampNeg)))))))) ∧ (¬ (I13 96 10) = 2 → (v_X12_readPew_164 r I' L' I13 L (9 + (3 * (I 102 (3 : Int32).toNatClampNeg)))))))))))))) ∧ (¬ r7 = 0 → (vp_in (9 + (3 * (I 102 (3 : Int32).toNatClampNeg))) 104 ∧ ∀ I16, I16 = (up2 I8 102 ((9 + (3 * (I 102 (3 : Int32).toNatClampNeg))) : Int32).toNatClampNeg 3) → (∃ r17 I18, q_C kX12_number [.ref 96, .int 1, .int 4] I16 L (some (.int r17)) I18 L ∧ (vp_in ((9 + (3 * (I 102 (3 : Int32).toNatClampNeg))) + 1) 104 ∧ ∀ I19, I19 = (up2 I18 102 (((9 + (3 * (I 102 (3 : Int32).toNatClampNeg))) + 1) : Int32).toNatClampNeg r17) → (vp_in 3 104 ∧ (vp_in 3 104 ∧ ∀ I20, I20 = (up2 I19 102 (3 : Int32).toNatClampNeg ((I19 102 (3 : Int32).toNatClampNeg) + 1)) → (r = none ∧ I' = I20 ∧ L' = L)))))))))) ∧ (¬ r5 = 0 → (vp_in (9 + (3 * (I 102 (3 : Int32).toNatClampNeg))) 104 ∧ ∀ I21, I21 = (up2 I6 102 ((9 + (3 * (I 102 (3 : Int32).toNatClampNeg))) : Int32).toNatClampNeg 2) → (vp_in 3 104 ∧ (vp_in 3 104 ∧ ∀ I22, I22 = (up2 I21 102 (3 : Int32).toNatClampNeg ((I21 102 (3 : Int32).toNatClampNeg) + 1)) → (r = none ∧ I' = I22 ∧ L' = L)))))))) ∧ (¬ r3 = 0 → (vp_in (9 + (3 * (I 102 (3 : Int32).toNatClampNeg))) 104 ∧ ∀ I23, I23 = (up2 I4 102 ((9 + (3 * (I 102 (3 : Int32).toNatClampNeg))) : Int32).toNatClampNeg 1) → (vp_in 3 104 ∧ (vp_in 3 104 ∧ ∀ I24, I24 = (up2 I23 102 (3 : Int32).toNatClampNeg ((I23 102 (3 : Int32).toNatClampNeg) + 1)) → (r = none ∧ I' = I24 ∧ L' = L)))))))) ∧ (¬ r1 = 0 → (vp_in (9 + (3 * (I 102 (3 : Int32).toNatClampNeg))) 104 ∧ ∀ I25, I25 = (up2 I2 102 ((9 + (3 * (I 102 (3 : Int32).toNatClampNeg))) : Int32).toNatClampNeg 0) → (vp_in 3 104 ∧ (vp_in 3 104 ∧ ∀ I26, I26 = (up2 I25 102 (3 : Int32).toNatClampNeg ((I25 102 (3 : Int32).toNatClampNeg) + 1)) → (r = none ∧ I' = I26 ∧ L' = L))))))))) : v_X12_readPew_0 r I' L' I L  := by
  intro w g K
  have K1 := K.1
  refine g_bipush K1 9 dX12_readPew_0 rfl ?_
  refine g_iconst K1 3 dX12_readPew_2 rfl ?_
  refine g_aload_n K1 0 dX12_readPew_3 rfl ?_
  refine h_getO K1 q_clX12 14 102 lyp_96 fkX12_14 rfl fl_X12_31 dX12_readPew_4 ?_
  refine g_iconst K1 3 dX12_readPew_7 rfl ?_
  obtain ⟨hg, h⟩ := h
  refine h_iaload K1 lyp_102 hg dX12_readPew_8 ?_
  refine g_imul K1 dX12_readPew_9 ?_
  refine g_iadd K1 dX12_readPew_10 ?_
  refine g_istore_n K1 dX12_readPew_11 rfl (by decide) rfl ?_
  refine g_aload_n K1 1 dX12_readPew_12 rfl ?_
  refine g_ldcS K1 22 (q := _) rfl rfl rfl dX12_readPew_13 ?_
  obtain ⟨r1, I2, hct, h⟩ := h
  refine h_callV K1 (st := []) [.ref 10023] (hct w (gl g)) q_clX12 lyp_96 rfl ok_X12_takes ml_X12_144 ⟨Nat.le_of_ble_eq_true rfl, Nat.le_of_ble_eq_true rfl⟩ (Nat.le_of_ble_eq_true rfl) dX12_readPew_15 ?_
  show q_Gs w g 18 [(1, .int (9 + (3 * (I 102 (3 : Int32).toNatClampNeg)))), (0, .ref 96)] [.int r1] (q_mm I2 L)
  refine g_if_eq K1 31 dX12_readPew_18 rfl (fun hc => ?_) (fun hc => ?_)
  · replace h := h.1 hc
    refine g_aload_n K1 1 dX12_readPew_31 rfl ?_
    refine g_ldcS K1 23 (q := _) rfl rfl rfl dX12_readPew_32 ?_
    obtain ⟨r3, I4, hct, h⟩ := h
    refine h_callV K1 (st := []) [.ref 10024] (hct w (gl g)) q_clX12 lyp_96 rfl ok_X12_takes ml_X12_144 ⟨Nat.le_of_ble_eq_true rfl, Nat.le_of_ble_eq_true rfl⟩ (Nat.le_of_ble_eq_true rfl) dX12_readPew_34 ?_
    show q_Gs w g 37 [(1, .int (9 + (3 * (I 102 (3 : Int32).toNatClampNeg)))), (0, .ref 96)] [.int r3] (q_mm I4 L)
    refine g_if_eq K1 50 dX12_readPew_37 rfl (fun hc => ?_) (fun hc => ?_)
    · replace h := h.1 hc
      refine g_aload_n K1 1 dX12_readPew_50 rfl ?_
      refine g_ldcS K1 24 (q := _) rfl rfl rfl dX12_readPew_51 ?_
      obtain ⟨r5, I6, hct, h⟩ := h
      refine h_callV K1 (st := []) [.ref 10025] (hct w (gl g)) q_clX12 lyp_96 rfl ok_X12_takes ml_X12_144 ⟨Nat.le_of_ble_eq_true rfl, Nat.le_of_ble_eq_true rfl⟩ (Nat.le_of_ble_eq_true rfl) dX12_readPew_53 ?_
      show q_Gs w g 56 [(1, .int (9 + (3 * (I 102 (3 : Int32).toNatClampNeg)))), (0, .ref 96)] [.int r5] (q_mm I6 L)
      refine g_if_eq K1 69 dX12_readPew_56 rfl (fun hc => ?_) (fun hc => ?_)
      · replace h := h.1 hc
        refine g_aload_n K1 1 dX12_readPew_69 rfl ?_
        refine g_ldcS K1 25 (q := _) rfl rfl rfl dX12_readPew_70 ?_
        obtain ⟨r7, I8, hct, h⟩ := h
        refine h_callV K1 (st := []) [.ref 10026] (hct w (gl g)) q_clX12 lyp_96 rfl ok_X12_takes ml_X12_144 ⟨Nat.le_of_ble_eq_true rfl, Nat.le_of_ble_eq_true rfl⟩ (Nat.le_of_ble_eq_true rfl) dX12_readPew_72 ?_
        show q_Gs w g 75 [(1, .int (9 + (3 * (I 102 (3 : Int32).toNatClampNeg)))), (0, .ref 96)] [.int r7] (q_mm I8 L)
        refine g_if_eq K1 102 dX12_readPew_75 rfl (fun hc => ?_) (fun hc => ?_)
        · replace h := h.1 hc
          refine g_aload_n K1 1 dX12_readPew_102 rfl ?_
          refine g_ldcS K1 26 (q := _) rfl rfl rfl dX12_readPew_103 ?_
          obtain ⟨I9, hct, h⟩ := h
          refine h_callV K1 (st := []) [.ref 10027] (hct w (gl g)) q_clX12 lyp_96 rfl ok_X12_expects ml_X12_151 ⟨Nat.le_of_ble_eq_true rfl, Nat.le_of_ble_eq_true rfl⟩ (Nat.le_of_ble_eq_true rfl) dX12_readPew_105 ?_
          show q_Gs w g 108 [(1, .int (9 + (3 * (I 102 (3 : Int32).toNatClampNeg)))), (0, .ref 96)] [] (q_mm I9 L)
          refine g_aload_n K1 1 dX12_readPew_108 rfl ?_
          refine h_getO K1 q_clX12 14 102 lyp_96 fkX12_14 rfl fl_X12_31 dX12_readPew_109 ?_
          refine g_iload_n K1 0 dX12_readPew_112 rfl ?_
          refine g_iconst K1 4 dX12_readPew_113 rfl ?_
          obtain ⟨hg, h⟩ := h
          refine h_iastore K1 lyp_102 hg dX12_readPew_114 ?_
          refine g_nameMI (fun I10 hI10 => ?_)
          replace h := h I10 hI10
          refine g_aload_n K1 1 dX12_readPew_115 rfl ?_
          refine h_getO K1 q_clX12 14 102 lyp_96 fkX12_14 rfl fl_X12_31 dX12_readPew_116 ?_
          refine g_iload_n K1 0 dX12_readPew_119 rfl ?_
          refine g_iconst K1 1 dX12_readPew_120 rfl ?_
          refine g_iadd K1 dX12_readPew_121 ?_
          refine g_aload_n K1 1 dX12_readPew_122 rfl ?_
          refine g_iconst K1 1 dX12_readPew_123 rfl ?_
          refine g_iconst K1 4 dX12_readPew_124 rfl ?_
          obtain ⟨r11, I12, hct, h⟩ := h
          refine h_callV K1 (st := [.int ((9 + (3 * (I 102 (3 : Int32).toNatClampNeg))) + 1), .ref 102]) [.int 1, .int 4] (hct w (gl g)) q_clX12 lyp_96 rfl ok_X12_number ml_X12_155 ⟨Nat.le_of_ble_eq_true rfl, Nat.le_of_ble_eq_true rfl⟩ (Nat.le_of_ble_eq_true rfl) dX12_readPew_125 ?_
          show q_Gs w g 128 [(1, .int (9 + (3 * (I 102 (3 : Int32).toNatClampNeg)))), (0, .ref 96)] [.int r11, .int ((9 + (3 * (I 102 (3 : Int32).toNatClampNeg))) + 1), .ref 102] (q_mm I12 L)
          obtain ⟨hg, h⟩ := h
          refine h_iastore K1 lyp_102 hg dX12_readPew_128 ?_
          refine g_nameMI (fun I13 hI13 => ?_)
          replace h := h I13 hI13
          refine g_aload_n K1 1 dX12_readPew_129 rfl ?_
          obtain ⟨r14, hct, h⟩ := h
          refine h_callV K1 (st := []) [] (hct w (gl g)) q_clX12 lyp_96 rfl ok_X12_good ml_X12_125 ⟨Nat.le_of_ble_eq_true rfl, Nat.le_of_ble_eq_true rfl⟩ (Nat.le_of_ble_eq_true rfl) dX12_readPew_130 ?_
          show q_Gs w g 133 [(1, .int (9 + (3 * (I 102 (3 : Int32).toNatClampNeg)))), (0, .ref 96)] [.int r14] (q_mm I13 L)
          refine g_if_eq K1 164 dX12_readPew_133 rfl (fun hc => ?_) (fun hc => ?_)
          · replace h := h.1 hc
            exact g_perm [1, 0] rfl (h w g K)
          · replace h := h.2 hc
            refine g_aload_n K1 1 dX12_readPew_136 rfl ?_
            refine h_getI K1 q_clX12 10 lyp_96 fkX12_10 fl_X12_101 dX12_readPew_137 ?_
            refine g_iconst K1 2 dX12_readPew_140 rfl ?_
            refine g_icmp_ne K1 164 dX12_readPew_141 rfl (fun hc => ?_) (fun hc => ?_)
            · replace h := h.2 hc
              exact g_perm [1, 0] rfl (h w g K)
            · replace h := h.1 hc
              refine g_aload_n K1 1 dX12_readPew_144 rfl ?_
              refine h_getI K1 q_clX12 11 lyp_96 fkX12_11 fl_X12_112 dX12_readPew_145 ?_
              refine g_aload_n K1 1 dX12_readPew_148 rfl ?_
              refine h_getO K1 q_clX12 14 102 lyp_96 fkX12_14 rfl fl_X12_31 dX12_readPew_149 ?_
              refine g_iload_n K1 0 dX12_readPew_152 rfl ?_
              refine g_iconst K1 1 dX12_readPew_153 rfl ?_
              refine g_iadd K1 dX12_readPew_154 ?_
              obtain ⟨hg, h⟩ := h
              refine h_iaload K1 lyp_102 hg dX12_readPew_155 ?_
              refine g_icmp_ne K1 164 dX12_readPew_156 rfl (fun hc => ?_) (fun hc => ?_)
              · replace h := h.2 hc
                exact g_perm [1, 0] rfl (h w g K)
              · replace h := h.1 hc
                refine g_aload_n K1 1 dX12_readPew_159 rfl ?_
                refine g_iconst K1 2 dX12_readPew_160 rfl ?_
                obtain ⟨I15, hct, h⟩ := h
                refine h_callV K1 (st := []) [.int 2] (hct w (gl g)) q_clX12 lyp_96 rfl ok_X12_errs ml_X12_147 ⟨Nat.le_of_ble_eq_true rfl, Nat.le_of_ble_eq_true rfl⟩ (Nat.le_of_ble_eq_true rfl) dX12_readPew_161 ?_
                show q_Gs w g 164 [(1, .int (9 + (3 * (I 102 (3 : Int32).toNatClampNeg)))), (0, .ref 96)] [] (q_mm I15 L)
                exact g_perm [1, 0] rfl (h w g K)
        · replace h := h.2 hc
          refine g_aload_n K1 1 dX12_readPew_78 rfl ?_
          refine h_getO K1 q_clX12 14 102 lyp_96 fkX12_14 rfl fl_X12_31 dX12_readPew_79 ?_
          refine g_iload_n K1 0 dX12_readPew_82 rfl ?_
          refine g_iconst K1 3 dX12_readPew_83 rfl ?_
          obtain ⟨hg, h⟩ := h
          refine h_iastore K1 lyp_102 hg dX12_readPew_84 ?_
          refine g_nameMI (fun I16 hI16 => ?_)
          replace h := h I16 hI16
          refine g_aload_n K1 1 dX12_readPew_85 rfl ?_
          refine h_getO K1 q_clX12 14 102 lyp_96 fkX12_14 rfl fl_X12_31 dX12_readPew_86 ?_
          refine g_iload_n K1 0 dX12_readPew_89 rfl ?_
          refine g_iconst K1 1 dX12_readPew_90 rfl ?_
          refine g_iadd K1 dX12_readPew_91 ?_
          refine g_aload_n K1 1 dX12_readPew_92 rfl ?_
          refine g_iconst K1 1 dX12_readPew_93 rfl ?_
          refine g_iconst K1 4 dX12_readPew_94 rfl ?_
          obtain ⟨r17, I18, hct, h⟩ := h
          refine h_callV K1 (st := [.int ((9 + (3 * (I 102 (3 : Int32).toNatClampNeg))) + 1), .ref 102]) [.int 1, .int 4] (hct w (gl g)) q_clX12 lyp_96 rfl ok_X12_number ml_X12_155 ⟨Nat.le_of_ble_eq_true rfl, Nat.le_of_ble_eq_true rfl⟩ (Nat.le_of_ble_eq_true rfl) dX12_readPew_95 ?_
          show q_Gs w g 98 [(1, .int (9 + (3 * (I 102 (3 : Int32).toNatClampNeg)))), (0, .ref 96)] [.int r17, .int ((9 + (3 * (I 102 (3 : Int32).toNatClampNeg))) + 1), .ref 102] (q_mm I18 L)
          obtain ⟨hg, h⟩ := h
          refine h_iastore K1 lyp_102 hg dX12_readPew_98 ?_
          refine g_nameMI (fun I19 hI19 => ?_)
          replace h := h I19 hI19
          refine g_goto K1 178 dX12_readPew_99 rfl ?_
          refine g_aload_n K1 1 dX12_readPew_178 rfl ?_
          refine h_getO K1 q_clX12 14 102 lyp_96 fkX12_14 rfl fl_X12_31 dX12_readPew_179 ?_
          refine g_iconst K1 3 dX12_readPew_182 rfl ?_
          refine g_dup2 K1 dX12_readPew_183 rfl rfl ?_
          obtain ⟨hg, h⟩ := h
          refine h_iaload K1 lyp_102 hg dX12_readPew_184 ?_
          refine g_iconst K1 1 dX12_readPew_185 rfl ?_
          refine g_iadd K1 dX12_readPew_186 ?_
          obtain ⟨hg, h⟩ := h
          refine h_iastore K1 lyp_102 hg dX12_readPew_187 ?_
          refine g_nameMI (fun I20 hI20 => ?_)
          replace h := h I20 hI20
          obtain ⟨hr, hI, hL⟩ := h
          subst hr hI hL
          exact g_vreturn K rfl dX12_readPew_188
      · replace h := h.2 hc
        refine g_aload_n K1 1 dX12_readPew_59 rfl ?_
        refine h_getO K1 q_clX12 14 102 lyp_96 fkX12_14 rfl fl_X12_31 dX12_readPew_60 ?_
        refine g_iload_n K1 0 dX12_readPew_63 rfl ?_
        refine g_iconst K1 2 dX12_readPew_64 rfl ?_
        obtain ⟨hg, h⟩ := h
        refine h_iastore K1 lyp_102 hg dX12_readPew_65 ?_
        refine g_nameMI (fun I21 hI21 => ?_)
        replace h := h I21 hI21
        refine g_goto K1 178 dX12_readPew_66 rfl ?_
        refine g_aload_n K1 1 dX12_readPew_178 rfl ?_
        refine h_getO K1 q_clX12 14 102 lyp_96 fkX12_14 rfl fl_X12_31 dX12_readPew_179 ?_
        refine g_iconst K1 3 dX12_readPew_182 rfl ?_
        refine g_dup2 K1 dX12_readPew_183 rfl rfl ?_
        obtain ⟨hg, h⟩ := h
        refine h_iaload K1 lyp_102 hg dX12_readPew_184 ?_
        refine g_iconst K1 1 dX12_readPew_185 rfl ?_
        refine g_iadd K1 dX12_readPew_186 ?_
        obtain ⟨hg, h⟩ := h
        refine h_iastore K1 lyp_102 hg dX12_readPew_187 ?_
        refine g_nameMI (fun I22 hI22 => ?_)
        replace h := h I22 hI22
        obtain ⟨hr, hI, hL⟩ := h
        subst hr hI hL
        exact g_vreturn K rfl dX12_readPew_188
    · replace h := h.2 hc
      refine g_aload_n K1 1 dX12_readPew_40 rfl ?_
      refine h_getO K1 q_clX12 14 102 lyp_96 fkX12_14 rfl fl_X12_31 dX12_readPew_41 ?_
      refine g_iload_n K1 0 dX12_readPew_44 rfl ?_
      refine g_iconst K1 1 dX12_readPew_45 rfl ?_
      obtain ⟨hg, h⟩ := h
      refine h_iastore K1 lyp_102 hg dX12_readPew_46 ?_
      refine g_nameMI (fun I23 hI23 => ?_)
      replace h := h I23 hI23
      refine g_goto K1 178 dX12_readPew_47 rfl ?_
      refine g_aload_n K1 1 dX12_readPew_178 rfl ?_
      refine h_getO K1 q_clX12 14 102 lyp_96 fkX12_14 rfl fl_X12_31 dX12_readPew_179 ?_
      refine g_iconst K1 3 dX12_readPew_182 rfl ?_
      refine g_dup2 K1 dX12_readPew_183 rfl rfl ?_
      obtain ⟨hg, h⟩ := h
      refine h_iaload K1 lyp_102 hg dX12_readPew_184 ?_
      refine g_iconst K1 1 dX12_readPew_185 rfl ?_
      refine g_iadd K1 dX12_readPew_186 ?_
      obtain ⟨hg, h⟩ := h
      refine h_iastore K1 lyp_102 hg dX12_readPew_187 ?_
      refine g_nameMI (fun I24 hI24 => ?_)
      replace h := h I24 hI24
      obtain ⟨hr, hI, hL⟩ := h
      subst hr hI hL
      exact g_vreturn K rfl dX12_readPew_188
  · replace h := h.2 hc
    refine g_aload_n K1 1 dX12_readPew_21 rfl ?_
    refine h_getO K1 q_clX12 14 102 lyp_96 fkX12_14 rfl fl_X12_31 dX12_readPew_22 ?_
    refine g_iload_n K1 0 dX12_readPew_25 rfl ?_
    refine g_iconst K1 0 dX12_readPew_26 rfl ?_
    obtain ⟨hg, h⟩ := h
    refine h_iastore K1 lyp_102 hg dX12_readPew_27 ?_
    refine g_nameMI (fun I25 hI25 => ?_)
    replace h := h I25 hI25
    refine g_goto K1 178 dX12_readPew_28 rfl ?_
    refine g_aload_n K1 1 dX12_readPew_178 rfl ?_
    refine h_getO K1 q_clX12 14 102 lyp_96 fkX12_14 rfl fl_X12_31 dX12_readPew_179 ?_
    refine g_iconst K1 3 dX12_readPew_182 rfl ?_
    refine g_dup2 K1 dX12_readPew_183 rfl rfl ?_
    obtain ⟨hg, h⟩ := h
    refine h_iaload K1 lyp_102 hg dX12_readPew_184 ?_
    refine g_iconst K1 1 dX12_readPew_185 rfl ?_
    refine g_iadd K1 dX12_readPew_186 ?_
    obtain ⟨hg, h⟩ := h
    refine h_iastore K1 lyp_102 hg dX12_readPew_187 ?_
    refine g_nameMI (fun I26 hI26 => ?_)
    replace h := h I26 hI26
    obtain ⟨hr, hI, hL⟩ := h
    subst hr hI hL
    exact g_vreturn K rfl dX12_readPew_188
set_option maxRecDepth 20000 in
set_option maxHeartbeats 2000000 in
theorem vc_X12_readPew_164 {r : Option Value} {I' : Nat → Nat → Int32} {L' : Nat → Nat → Int64} {I : Nat → Nat → Int32} {L : Nat → Nat → Int64} {x1 : Int32} (h : (∃ r1 I2, q_C kX12_number [.ref 96, .int 1, .int 4] I L (some (.int r1)) I2 L ∧ (vp_in (x1 + 2) 104 ∧ (vp_in 3 104 ∧ (vp_in 3 104 ∧ ∀ I3, I3 = (up2 (up2 I2 102 ((x1 + 2) : Int32).toNatClampNeg r1) 102 (3 : Int32).toNatClampNeg (((up2 I2 102 ((x1 + 2) : Int32).toNatClampNeg r1) 102 (3 : Int32).toNatClampNeg) + 1)) → (r = none ∧ I' = I3 ∧ L' = L)))))) : v_X12_readPew_164 r I' L' I L x1 := by
  intro w g K
  have K1 := K.1
  refine g_aload_n K1 0 dX12_readPew_164 rfl ?_
  refine h_getO K1 q_clX12 14 102 lyp_96 fkX12_14 rfl fl_X12_31 dX12_readPew_165 ?_
  refine g_iload_n K1 1 dX12_readPew_168 rfl ?_
  refine g_iconst K1 2 dX12_readPew_169 rfl ?_
  refine g_iadd K1 dX12_readPew_170 ?_
  refine g_aload_n K1 0 dX12_readPew_171 rfl ?_
  refine g_iconst K1 1 dX12_readPew_172 rfl ?_
  refine g_iconst K1 4 dX12_readPew_173 rfl ?_
  obtain ⟨r1, I2, hct, h⟩ := h
  refine h_callV K1 (st := [.int (x1 + 2), .ref 102]) [.int 1, .int 4] (hct w (gl g)) q_clX12 lyp_96 rfl ok_X12_number ml_X12_155 ⟨Nat.le_of_ble_eq_true rfl, Nat.le_of_ble_eq_true rfl⟩ (Nat.le_of_ble_eq_true rfl) dX12_readPew_174 ?_
  show q_Gs w g 177 [(0, .ref 96), (1, .int x1)] [.int r1, .int (x1 + 2), .ref 102] (q_mm I2 L)
  obtain ⟨hg, h⟩ := h
  refine h_iastore K1 lyp_102 hg dX12_readPew_177 ?_
  refine g_aload_n K1 0 dX12_readPew_178 rfl ?_
  refine h_getO K1 q_clX12 14 102 lyp_96 fkX12_14 rfl fl_X12_31 dX12_readPew_179 ?_
  refine g_iconst K1 3 dX12_readPew_182 rfl ?_
  refine g_dup2 K1 dX12_readPew_183 rfl rfl ?_
  obtain ⟨hg, h⟩ := h
  refine h_iaload K1 lyp_102 hg dX12_readPew_184 ?_
  refine g_iconst K1 1 dX12_readPew_185 rfl ?_
  refine g_iadd K1 dX12_readPew_186 ?_
  obtain ⟨hg, h⟩ := h
  refine h_iastore K1 lyp_102 hg dX12_readPew_187 ?_
  refine g_nameMI (fun I3 hI3 => ?_)
  replace h := h I3 hI3
  obtain ⟨hr, hI, hL⟩ := h
  subst hr hI hL
  exact g_vreturn K rfl dX12_readPew_188
theorem c0_X12_readPew {r : Option Value} {I I' : Nat → Nat → Int32} {L L' : Nat → Nat → Int64}  (h : v_X12_readPew_0 r I' L' I L ) : q_C kX12_readPew [.ref 96] I L r I' L' := fun w l => q_ct (by decide) (Nat.le_of_ble_eq_true rfl) (Nat.le_refl _) (fun g _ K => h w g K)
abbrev v_X12_rector_0 (r : Option Value) (I' : Nat → Nat → Int32) (L' : Nat → Nat → Int64) (I : Nat → Nat → Int32) (L : Nat → Nat → Int64)  : Prop := q_W kX12_rector 0 [(0, .ref 96)] [] I L r I' L'
set_option maxRecDepth 20000 in
set_option maxHeartbeats 2000000 in
theorem vc_X12_rector_0 {r : Option Value} {I' : Nat → Nat → Int32} {L' : Nat → Nat → Int64} {I : Nat → Nat → Int32} {L : Nat → Nat → Int64}  (h : (∃ I1, q_C kX12_asItIs [.ref 96] I L none I1 L ∧ (∃ r2, q_C kX12_pews [.ref 96] I1 L (some (.int r2)) I1 L ∧ ((r2 = 0 → (r = some (.int (-1000)) ∧ I' = I1 ∧ L' = L)) ∧ (¬ r2 = 0 → (∃ r3 I4, q_C kX12_opensOf [.ref 96] I1 L (some (.int r3)) I4 L ∧ (∃ r5 I6, q_C kX12_repliesTo [.ref 96, .int r3] I4 L (some (.int r5)) I6 L ∧ (∃ r7 I8, q_C kX12_litByTurns [.ref 96, .int r3, .int r5] I6 L (some (.int r7)) I8 L ∧ (r = some (.int r7) ∧ I' = I8 ∧ L' = L))))))))) : v_X12_rector_0 r I' L' I L  := by
  intro w g K
  have K1 := K.1
  refine g_aload_n K1 0 dX12_rector_0 rfl ?_
  obtain ⟨I1, hct, h⟩ := h
  refine h_callV K1 (st := []) [] (hct w (gl g)) q_clX12 lyp_96 rfl ok_X12_asItIs ml_X12_297 ⟨Nat.le_of_ble_eq_true rfl, Nat.le_of_ble_eq_true rfl⟩ (Nat.le_of_ble_eq_true rfl) dX12_rector_1 ?_
  show q_Gs w g 4 [(0, .ref 96)] [] (q_mm I1 L)
  refine g_aload_n K1 0 dX12_rector_4 rfl ?_
  obtain ⟨r2, hct, h⟩ := h
  refine h_callV K1 (st := []) [] (hct w (gl g)) q_clX12 lyp_96 rfl ok_X12_pews ml_X12_74 ⟨Nat.le_of_ble_eq_true rfl, Nat.le_of_ble_eq_true rfl⟩ (Nat.le_of_ble_eq_true rfl) dX12_rector_5 ?_
  show q_Gs w g 8 [(0, .ref 96)] [.int r2] (q_mm I1 L)
  refine g_if_ne K1 15 dX12_rector_8 rfl (fun hc => ?_) (fun hc => ?_)
  · replace h := h.2 hc
    refine g_aload_n K1 0 dX12_rector_15 rfl ?_
    obtain ⟨r3, I4, hct, h⟩ := h
    refine h_callV K1 (st := []) [] (hct w (gl g)) q_clX12 lyp_96 rfl ok_X12_opensOf ml_X12_433 ⟨Nat.le_of_ble_eq_true rfl, Nat.le_of_ble_eq_true rfl⟩ (Nat.le_of_ble_eq_true rfl) dX12_rector_16 ?_
    show q_Gs w g 19 [(0, .ref 96)] [.int r3] (q_mm I4 L)
    refine g_istore_n K1 dX12_rector_19 rfl (by decide) rfl ?_
    refine g_aload_n K1 1 dX12_rector_20 rfl ?_
    refine g_iload_n K1 0 dX12_rector_21 rfl ?_
    refine g_aload_n K1 1 dX12_rector_22 rfl ?_
    refine g_iload_n K1 0 dX12_rector_23 rfl ?_
    obtain ⟨r5, I6, hct, h⟩ := h
    refine h_callV K1 (st := [.int r3, .ref 96]) [.int r3] (hct w (gl g)) q_clX12 lyp_96 rfl ok_X12_repliesTo ml_X12_430 ⟨Nat.le_of_ble_eq_true rfl, Nat.le_of_ble_eq_true rfl⟩ (Nat.le_of_ble_eq_true rfl) dX12_rector_24 ?_
    show q_Gs w g 27 [(1, .int r3), (0, .ref 96)] [.int r5, .int r3, .ref 96] (q_mm I6 L)
    obtain ⟨r7, I8, hct, h⟩ := h
    refine h_callV K1 (st := []) [.int r3, .int r5] (hct w (gl g)) q_clX12 lyp_96 rfl ok_X12_litByTurns ml_X12_427 ⟨Nat.le_of_ble_eq_true rfl, Nat.le_of_ble_eq_true rfl⟩ (Nat.le_of_ble_eq_true rfl) dX12_rector_27 ?_
    show q_Gs w g 30 [(1, .int r3), (0, .ref 96)] [.int r7] (q_mm I8 L)
    obtain ⟨hr, hI, hL⟩ := h
    subst hr hI hL
    exact g_ireturn K rfl dX12_rector_30
  · replace h := h.1 hc
    refine g_sipush K1 (-1000) dX12_rector_11 rfl ?_
    obtain ⟨hr, hI, hL⟩ := h
    subst hr hI hL
    exact g_ireturn K rfl dX12_rector_14
theorem c0_X12_rector {r : Option Value} {I I' : Nat → Nat → Int32} {L L' : Nat → Nat → Int64}  (h : v_X12_rector_0 r I' L' I L ) : q_C kX12_rector [.ref 96] I L r I' L' := fun w l => q_ct (by decide) (Nat.le_of_ble_eq_true rfl) (Nat.le_refl _) (fun g _ K => h w g K)
abbrev v_X12_replies_0 (r : Option Value) (I' : Nat → Nat → Int32) (L' : Nat → Nat → Int64) (I : Nat → Nat → Int32) (L : Nat → Nat → Int64) (x1 : Int32) : Prop := q_W kX12_replies 0 [(0, .ref 96), (1, .int x1)] [] I L r I' L'
set_option maxRecDepth 20000 in
set_option maxHeartbeats 2000000 in
theorem vc_X12_replies_0 {r : Option Value} {I' : Nat → Nat → Int32} {L' : Nat → Nat → Int64} {I : Nat → Nat → Int32} {L : Nat → Nat → Int64} {x1 : Int32} (h : (∃ I1, q_C kX12_asItIs [.ref 96] I L none I1 L ∧ (∃ r2, q_C kX12_isPew [.ref 96, .long x1.toInt64] I1 L (some (.int r2)) I1 L ∧ ((r2 = 0 → (r = some (.int (-2)) ∧ I' = I1 ∧ L' = L)) ∧ (¬ r2 = 0 → (∃ r3 I4, q_C kX12_repliesTo [.ref 96, .int x1] I1 L (some (.int r3)) I4 L ∧ (r = some (.int r3) ∧ I' = I4 ∧ L' = L))))))) : v_X12_replies_0 r I' L' I L x1 := by
  intro w g K
  have K1 := K.1
  refine g_aload_n K1 0 dX12_replies_0 rfl ?_
  obtain ⟨I1, hct, h⟩ := h
  refine h_callV K1 (st := []) [] (hct w (gl g)) q_clX12 lyp_96 rfl ok_X12_asItIs ml_X12_297 ⟨Nat.le_of_ble_eq_true rfl, Nat.le_of_ble_eq_true rfl⟩ (Nat.le_of_ble_eq_true rfl) dX12_replies_1 ?_
  show q_Gs w g 4 [(0, .ref 96), (1, .int x1)] [] (q_mm I1 L)
  refine g_aload_n K1 0 dX12_replies_4 rfl ?_
  refine g_iload_n K1 1 dX12_replies_5 rfl ?_
  refine g_i2l K1 dX12_replies_6 ?_
  obtain ⟨r2, hct, h⟩ := h
  refine h_callV K1 (st := []) [.long x1.toInt64] (hct w (gl g)) q_clX12 lyp_96 rfl ok_X12_isPew ml_X12_218 ⟨Nat.le_of_ble_eq_true rfl, Nat.le_of_ble_eq_true rfl⟩ (Nat.le_of_ble_eq_true rfl) dX12_replies_7 ?_
  show q_Gs w g 10 [(0, .ref 96), (1, .int x1)] [.int r2] (q_mm I1 L)
  refine g_if_eq K1 21 dX12_replies_10 rfl (fun hc => ?_) (fun hc => ?_)
  · replace h := h.1 hc
    refine g_bipush K1 (-2) dX12_replies_21 rfl ?_
    obtain ⟨hr, hI, hL⟩ := h
    subst hr hI hL
    exact g_ireturn K rfl dX12_replies_23
  · replace h := h.2 hc
    refine g_aload_n K1 0 dX12_replies_13 rfl ?_
    refine g_iload_n K1 1 dX12_replies_14 rfl ?_
    obtain ⟨r3, I4, hct, h⟩ := h
    refine h_callV K1 (st := []) [.int x1] (hct w (gl g)) q_clX12 lyp_96 rfl ok_X12_repliesTo ml_X12_430 ⟨Nat.le_of_ble_eq_true rfl, Nat.le_of_ble_eq_true rfl⟩ (Nat.le_of_ble_eq_true rfl) dX12_replies_15 ?_
    show q_Gs w g 18 [(0, .ref 96), (1, .int x1)] [.int r3] (q_mm I4 L)
    refine g_goto K1 23 dX12_replies_18 rfl ?_
    obtain ⟨hr, hI, hL⟩ := h
    subst hr hI hL
    exact g_ireturn K rfl dX12_replies_23
theorem c0_X12_replies {r : Option Value} {I I' : Nat → Nat → Int32} {L L' : Nat → Nat → Int64} {x1 : Int32} (h : v_X12_replies_0 r I' L' I L x1) : q_C kX12_replies [.ref 96, .int x1] I L r I' L' := fun w l => q_ct (by decide) (Nat.le_of_ble_eq_true rfl) (Nat.le_refl _) (fun g _ K => h w g K)
abbrev v_X12_repliesTo_0 (r : Option Value) (I' : Nat → Nat → Int32) (L' : Nat → Nat → Int64) (I : Nat → Nat → Int32) (L : Nat → Nat → Int64) (x1 : Int32) : Prop := q_W kX12_repliesTo 0 [(0, .ref 96), (1, .int x1)] [] I L r I' L'
abbrev v_X12_repliesTo_4 (r : Option Value) (I' : Nat → Nat → Int32) (L' : Nat → Nat → Int64) (I : Nat → Nat → Int32) (L : Nat → Nat → Int64) (x1 : Int32) (x2 : Int32) (x3 : Int32) : Prop := q_W kX12_repliesTo 4 [(0, .ref 96), (1, .int x1), (2, .int x2), (3, .int x3)] [] I L r I' L'
set_option maxRecDepth 20000 in
set_option maxHeartbeats 2000000 in
theorem vc_X12_repliesTo_0 {r : Option Value} {I' : Nat → Nat → Int32} {L' : Nat → Nat → Int64} {I : Nat → Nat → Int32} {L : Nat → Nat → Int64} {x1 : Int32} (h : (v_X12_repliesTo_4 r I' L' I L x1 0 1)) : v_X12_repliesTo_0 r I' L' I L x1 := by
  intro w g K
  have K1 := K.1
  refine g_iconst K1 0 dX12_repliesTo_0 rfl ?_
  refine g_istore_n K1 dX12_repliesTo_1 rfl (by decide) rfl ?_
  refine g_iconst K1 1 dX12_repliesTo_2 rfl ?_
  refine g_istore_n K1 dX12_repliesTo_3 rfl (by decide) rfl ?_
  exact g_perm [2, 3, 1, 0] rfl (h w g K)
set_option maxRecDepth 20000 in
set_option maxHeartbeats 2000000 in
theorem vc_X12_repliesTo_4 {r : Option Value} {I' : Nat → Nat → Int32} {L' : Nat → Nat → Int64} {I : Nat → Nat → Int32} {L : Nat → Nat → Int64} {x1 : Int32} {x2 : Int32} {x3 : Int32} (h : (∃ r1, q_C kX12_pews [.ref 96] I L (some (.int r1)) I L ∧ ((r1 ≤ x3 → (r = some (.int x2) ∧ I' = I ∧ L' = L)) ∧ (¬ r1 ≤ x3 → (∃ r2 I3, q_C kX12_litByTurns [.ref 96, .int x1, .int x3] I L (some (.int r2)) I3 L ∧ (∃ r4 I5, q_C kX12_litByTurns [.ref 96, .int x1, .int x2] I3 L (some (.int r4)) I5 L ∧ ((r4 ≤ r2 → (v_X12_repliesTo_4 r I' L' I5 L x1 x2 (x3 + 1))) ∧ (¬ r4 ≤ r2 → (v_X12_repliesTo_4 r I' L' I5 L x1 x3 (x3 + 1)))))))))) : v_X12_repliesTo_4 r I' L' I L x1 x2 x3 := by
  intro w g K
  have K1 := K.1
  refine g_iload_n K1 3 dX12_repliesTo_4 rfl ?_
  refine g_aload_n K1 0 dX12_repliesTo_5 rfl ?_
  obtain ⟨r1, hct, h⟩ := h
  refine h_callV K1 (st := [.int x3]) [] (hct w (gl g)) q_clX12 lyp_96 rfl ok_X12_pews ml_X12_74 ⟨Nat.le_of_ble_eq_true rfl, Nat.le_of_ble_eq_true rfl⟩ (Nat.le_of_ble_eq_true rfl) dX12_repliesTo_6 ?_
  show q_Gs w g 9 [(0, .ref 96), (1, .int x1), (2, .int x2), (3, .int x3)] [.int r1, .int x3] (q_mm I L)
  refine g_icmp_ge K1 39 dX12_repliesTo_9 rfl (fun hc => ?_) (fun hc => ?_)
  · replace h := h.1 hc
    refine g_iload_n K1 2 dX12_repliesTo_39 rfl ?_
    obtain ⟨hr, hI, hL⟩ := h
    subst hr hI hL
    exact g_ireturn K rfl dX12_repliesTo_40
  · replace h := h.2 hc
    refine g_aload_n K1 0 dX12_repliesTo_12 rfl ?_
    refine g_iload_n K1 1 dX12_repliesTo_13 rfl ?_
    refine g_iload_n K1 3 dX12_repliesTo_14 rfl ?_
    obtain ⟨r2, I3, hct, h⟩ := h
    refine h_callV K1 (st := []) [.int x1, .int x3] (hct w (gl g)) q_clX12 lyp_96 rfl ok_X12_litByTurns ml_X12_427 ⟨Nat.le_of_ble_eq_true rfl, Nat.le_of_ble_eq_true rfl⟩ (Nat.le_of_ble_eq_true rfl) dX12_repliesTo_15 ?_
    show q_Gs w g 18 [(0, .ref 96), (1, .int x1), (2, .int x2), (3, .int x3)] [.int r2] (q_mm I3 L)
    refine g_aload_n K1 0 dX12_repliesTo_18 rfl ?_
    refine g_iload_n K1 1 dX12_repliesTo_19 rfl ?_
    refine g_iload_n K1 2 dX12_repliesTo_20 rfl ?_
    obtain ⟨r4, I5, hct, h⟩ := h
    refine h_callV K1 (st := [.int r2]) [.int x1, .int x2] (hct w (gl g)) q_clX12 lyp_96 rfl ok_X12_litByTurns ml_X12_427 ⟨Nat.le_of_ble_eq_true rfl, Nat.le_of_ble_eq_true rfl⟩ (Nat.le_of_ble_eq_true rfl) dX12_repliesTo_21 ?_
    show q_Gs w g 24 [(0, .ref 96), (1, .int x1), (2, .int x2), (3, .int x3)] [.int r4, .int r2] (q_mm I5 L)
    refine g_icmp_ge K1 31 dX12_repliesTo_24 rfl (fun hc => ?_) (fun hc => ?_)
    · replace h := h.1 hc
      refine g_iload_n K1 2 dX12_repliesTo_31 rfl ?_
      refine g_istore_n K1 dX12_repliesTo_32 rfl (by decide) rfl ?_
      refine g_iinc K1 (x3 + 1) 3 dX12_repliesTo_33 rfl rfl (by decide) rfl ?_
      refine g_goto K1 4 dX12_repliesTo_36 rfl ?_
      exact g_perm [2, 3, 1, 0] rfl (h w g K)
    · replace h := h.2 hc
      refine g_iload_n K1 3 dX12_repliesTo_27 rfl ?_
      refine g_goto K1 32 dX12_repliesTo_28 rfl ?_
      refine g_istore_n K1 dX12_repliesTo_32 rfl (by decide) rfl ?_
      refine g_iinc K1 (x3 + 1) 3 dX12_repliesTo_33 rfl rfl (by decide) rfl ?_
      refine g_goto K1 4 dX12_repliesTo_36 rfl ?_
      exact g_perm [2, 3, 1, 0] rfl (h w g K)
theorem c0_X12_repliesTo {r : Option Value} {I I' : Nat → Nat → Int32} {L L' : Nat → Nat → Int64} {x1 : Int32} (h : v_X12_repliesTo_0 r I' L' I L x1) : q_C kX12_repliesTo [.ref 96, .int x1] I L r I' L' := fun w l => q_ct (by decide) (Nat.le_of_ble_eq_true rfl) (Nat.le_refl _) (fun g _ K => h w g K)
abbrev v_X12_rests_0 (r : Option Value) (I' : Nat → Nat → Int32) (L' : Nat → Nat → Int64) (I : Nat → Nat → Int32) (L : Nat → Nat → Int64) (x1 : Int32) (x2 : Int32) : Prop := q_W kX12_rests 0 [(0, .ref 96), (1, .int x1), (2, .int x2)] [] I L r I' L'
abbrev v_X12_rests_17 (r : Option Value) (I' : Nat → Nat → Int32) (L' : Nat → Nat → Int64) (I : Nat → Nat → Int32) (L : Nat → Nat → Int64) (x1 : Int32) (x2 : Int32) (x3 : Int32) (x4 : Int32) : Prop := q_W kX12_rests 17 [(0, .ref 96), (1, .int x1), (2, .int x2), (3, .int x3), (4, .int x4)] [] I L r I' L'
abbrev v_X12_rests_94 (r : Option Value) (I' : Nat → Nat → Int32) (L' : Nat → Nat → Int64) (I : Nat → Nat → Int32) (L : Nat → Nat → Int64) (x1 : Int32) (x2 : Int32) (x3 : Int32) (x4 : Int32) (s0 : Int32) : Prop := q_W kX12_rests 94 [(0, .ref 96), (1, .int x1), (2, .int x2), (3, .int x3), (4, .int x4)] [.int s0] I L r I' L'
set_option maxRecDepth 20000 in
set_option maxHeartbeats 2000000 in
theorem vc_X12_rests_0 {r : Option Value} {I' : Nat → Nat → Int32} {L' : Nat → Nat → Int64} {I : Nat → Nat → Int32} {L : Nat → Nat → Int64} {x1 : Int32} {x2 : Int32} (h : (∃ r1, q_C kX12_areTwo [.ref 96, .int x1, .int x2] I L (some (.int r1)) I L ∧ ((r1 = 0 → (r = some (.int (-2)) ∧ I' = I ∧ L' = L)) ∧ (¬ r1 = 0 → (v_X12_rests_17 r I' L' I L x1 x2 0 0))))) : v_X12_rests_0 r I' L' I L x1 x2 := by
  intro w g K
  have K1 := K.1
  refine g_aload_n K1 0 dX12_rests_0 rfl ?_
  refine g_iload_n K1 1 dX12_rests_1 rfl ?_
  refine g_iload_n K1 2 dX12_rests_2 rfl ?_
  obtain ⟨r1, hct, h⟩ := h
  refine h_callV K1 (st := []) [.int x1, .int x2] (hct w (gl g)) q_clX12 lyp_96 rfl ok_X12_areTwo ml_X12_436 ⟨Nat.le_of_ble_eq_true rfl, Nat.le_of_ble_eq_true rfl⟩ (Nat.le_of_ble_eq_true rfl) dX12_rests_3 ?_
  show q_Gs w g 6 [(0, .ref 96), (1, .int x1), (2, .int x2)] [.int r1] (q_mm I L)
  refine g_if_ne K1 12 dX12_rests_6 rfl (fun hc => ?_) (fun hc => ?_)
  · replace h := h.2 hc
    refine g_iconst K1 0 dX12_rests_12 rfl ?_
    refine g_istore_n K1 dX12_rests_13 rfl (by decide) rfl ?_
    refine g_iconst K1 0 dX12_rests_14 rfl ?_
    refine g_istore K1 dX12_rests_15 (by decide) rfl ?_
    exact g_perm [2, 3, 4, 1, 0] rfl (h w g K)
  · replace h := h.1 hc
    refine g_bipush K1 (-2) dX12_rests_9 rfl ?_
    obtain ⟨hr, hI, hL⟩ := h
    subst hr hI hL
    exact g_ireturn K rfl dX12_rests_11
set_option maxRecDepth 20000 in
set_option maxHeartbeats 2000000 in
theorem vc_X12_rests_17 {r : Option Value} {I' : Nat → Nat → Int32} {L' : Nat → Nat → Int64} {I : Nat → Nat → Int32} {L : Nat → Nat → Int64} {x1 : Int32} {x2 : Int32} {x3 : Int32} {x4 : Int32} (h : ((4 ≤ x4 → (r = some (.int x3) ∧ I' = I ∧ L' = L)) ∧ (¬ 4 ≤ x4 → (∃ r1 I2, q_C kX12_getsBy [.ref 96, .int x1, .int x2, .int (x4 &&& 1), .int (x4 >>> ((1 : Int32) &&& 31)), .int 0] I L (some (.int r1)) I2 L ∧ (∃ r3 I4, q_C kX12_getsBy [.ref 96, .int x1, .int x2, .int (1 - (x4 &&& 1)), .int (x4 >>> ((1 : Int32) &&& 31)), .int 0] I2 L (some (.int r3)) I4 L ∧ ((r1 < r3 → (v_X12_rests_94 r I' L' I4 L x1 x2 x3 x4 0)) ∧ (¬ r1 < r3 → (∃ r5 I6, q_C kX12_getsBy [.ref 96, .int x1, .int x2, .int (x4 &&& 1), .int (x4 >>> ((1 : Int32) &&& 31)), .int 1] I4 L (some (.int r5)) I6 L ∧ (∃ r7 I8, q_C kX12_getsBy [.ref 96, .int x1, .int x2, .int (x4 &&& 1), .int (1 - (x4 >>> ((1 : Int32) &&& 31))), .int 1] I6 L (some (.int r7)) I8 L ∧ ((r5 < r7 → (v_X12_rests_94 r I' L' I8 L x1 x2 x3 x4 0)) ∧ (¬ r5 < r7 → (v_X12_rests_94 r I' L' I8 L x1 x2 x3 x4 1)))))))))))) : v_X12_rests_17 r I' L' I L x1 x2 x3 x4 := by
  intro w g K
  have K1 := K.1
  refine g_iload K1 4 dX12_rests_17 rfl ?_
  refine g_iconst K1 4 dX12_rests_19 rfl ?_
  refine g_icmp_ge K1 118 dX12_rests_20 rfl (fun hc => ?_) (fun hc => ?_)
  · replace h := h.1 hc
    refine g_iload_n K1 3 dX12_rests_118 rfl ?_
    obtain ⟨hr, hI, hL⟩ := h
    subst hr hI hL
    exact g_ireturn K rfl dX12_rests_119
  · replace h := h.2 hc
    refine g_iload K1 4 dX12_rests_23 rfl ?_
    refine g_iconst K1 1 dX12_rests_25 rfl ?_
    refine g_iand K1 dX12_rests_26 ?_
    refine g_istore K1 dX12_rests_27 (by decide) rfl ?_
    refine g_iload K1 5 dX12_rests_29 rfl ?_
    refine g_iconst K1 1 dX12_rests_31 rfl ?_
    refine g_ishr K1 dX12_rests_32 ?_
    refine g_istore K1 dX12_rests_33 (by decide) rfl ?_
    refine g_aload_n K1 2 dX12_rests_35 rfl ?_
    refine g_iload_n K1 3 dX12_rests_36 rfl ?_
    refine g_iload_n K1 4 dX12_rests_37 rfl ?_
    refine g_iload K1 1 dX12_rests_38 rfl ?_
    refine g_iload K1 0 dX12_rests_40 rfl ?_
    refine g_iconst K1 0 dX12_rests_42 rfl ?_
    obtain ⟨r1, I2, hct, h⟩ := h
    refine h_callV K1 (st := []) [.int x1, .int x2, .int (x4 &&& 1), .int (x4 >>> ((1 : Int32) &&& 31)), .int 0] (hct w (gl g)) q_clX12 lyp_96 rfl ok_X12_getsBy ml_X12_439 ⟨Nat.le_of_ble_eq_true rfl, Nat.le_of_ble_eq_true rfl⟩ (Nat.le_of_ble_eq_true rfl) dX12_rests_43 ?_
    show q_Gs w g 46 [(6, .int (x4 >>> ((1 : Int32) &&& 31))), (5, .int (x4 &&& 1)), (0, .ref 96), (1, .int x1), (2, .int x2), (3, .int x3), (4, .int x4)] [.int r1] (q_mm I2 L)
    refine g_aload_n K1 2 dX12_rests_46 rfl ?_
    refine g_iload_n K1 3 dX12_rests_47 rfl ?_
    refine g_iload_n K1 4 dX12_rests_48 rfl ?_
    refine g_iconst K1 1 dX12_rests_49 rfl ?_
    refine g_iload K1 1 dX12_rests_50 rfl ?_
    refine g_isub K1 dX12_rests_52 ?_
    refine g_iload K1 0 dX12_rests_53 rfl ?_
    refine g_iconst K1 0 dX12_rests_55 rfl ?_
    obtain ⟨r3, I4, hct, h⟩ := h
    refine h_callV K1 (st := [.int r1]) [.int x1, .int x2, .int (1 - (x4 &&& 1)), .int (x4 >>> ((1 : Int32) &&& 31)), .int 0] (hct w (gl g)) q_clX12 lyp_96 rfl ok_X12_getsBy ml_X12_439 ⟨Nat.le_of_ble_eq_true rfl, Nat.le_of_ble_eq_true rfl⟩ (Nat.le_of_ble_eq_true rfl) dX12_rests_56 ?_
    show q_Gs w g 59 [(6, .int (x4 >>> ((1 : Int32) &&& 31))), (5, .int (x4 &&& 1)), (0, .ref 96), (1, .int x1), (2, .int x2), (3, .int x3), (4, .int x4)] [.int r3, .int r1] (q_mm I4 L)
    refine g_icmp_lt K1 93 dX12_rests_59 rfl (fun hc => ?_) (fun hc => ?_)
    · replace h := h.1 hc
      refine g_iconst K1 0 dX12_rests_93 rfl ?_
      exact g_perm [2, 3, 4, 5, 6] rfl (h w g K)
    · replace h := h.2 hc
      refine g_aload_n K1 2 dX12_rests_62 rfl ?_
      refine g_iload_n K1 3 dX12_rests_63 rfl ?_
      refine g_iload_n K1 4 dX12_rests_64 rfl ?_
      refine g_iload K1 1 dX12_rests_65 rfl ?_
      refine g_iload K1 0 dX12_rests_67 rfl ?_
      refine g_iconst K1 1 dX12_rests_69 rfl ?_
      obtain ⟨r5, I6, hct, h⟩ := h
      refine h_callV K1 (st := []) [.int x1, .int x2, .int (x4 &&& 1), .int (x4 >>> ((1 : Int32) &&& 31)), .int 1] (hct w (gl g)) q_clX12 lyp_96 rfl ok_X12_getsBy ml_X12_439 ⟨Nat.le_of_ble_eq_true rfl, Nat.le_of_ble_eq_true rfl⟩ (Nat.le_of_ble_eq_true rfl) dX12_rests_70 ?_
      show q_Gs w g 73 [(6, .int (x4 >>> ((1 : Int32) &&& 31))), (5, .int (x4 &&& 1)), (0, .ref 96), (1, .int x1), (2, .int x2), (3, .int x3), (4, .int x4)] [.int r5] (q_mm I6 L)
      refine g_aload_n K1 2 dX12_rests_73 rfl ?_
      refine g_iload_n K1 3 dX12_rests_74 rfl ?_
      refine g_iload_n K1 4 dX12_rests_75 rfl ?_
      refine g_iload K1 1 dX12_rests_76 rfl ?_
      refine g_iconst K1 1 dX12_rests_78 rfl ?_
      refine g_iload K1 0 dX12_rests_79 rfl ?_
      refine g_isub K1 dX12_rests_81 ?_
      refine g_iconst K1 1 dX12_rests_82 rfl ?_
      obtain ⟨r7, I8, hct, h⟩ := h
      refine h_callV K1 (st := [.int r5]) [.int x1, .int x2, .int (x4 &&& 1), .int (1 - (x4 >>> ((1 : Int32) &&& 31))), .int 1] (hct w (gl g)) q_clX12 lyp_96 rfl ok_X12_getsBy ml_X12_439 ⟨Nat.le_of_ble_eq_true rfl, Nat.le_of_ble_eq_true rfl⟩ (Nat.le_of_ble_eq_true rfl) dX12_rests_83 ?_
      show q_Gs w g 86 [(6, .int (x4 >>> ((1 : Int32) &&& 31))), (5, .int (x4 &&& 1)), (0, .ref 96), (1, .int x1), (2, .int x2), (3, .int x3), (4, .int x4)] [.int r7, .int r5] (q_mm I8 L)
      refine g_icmp_lt K1 93 dX12_rests_86 rfl (fun hc => ?_) (fun hc => ?_)
      · replace h := h.1 hc
        refine g_iconst K1 0 dX12_rests_93 rfl ?_
        exact g_perm [2, 3, 4, 5, 6] rfl (h w g K)
      · replace h := h.2 hc
        refine g_iconst K1 1 dX12_rests_89 rfl ?_
        refine g_goto K1 94 dX12_rests_90 rfl ?_
        exact g_perm [2, 3, 4, 5, 6] rfl (h w g K)
set_option maxRecDepth 20000 in
set_option maxHeartbeats 2000000 in
theorem vc_X12_rests_94 {r : Option Value} {I' : Nat → Nat → Int32} {L' : Nat → Nat → Int64} {I : Nat → Nat → Int32} {L : Nat → Nat → Int64} {x1 : Int32} {x2 : Int32} {x3 : Int32} {x4 : Int32} {s0 : Int32} (h : ((s0 = 0 → (v_X12_rests_17 r I' L' I L x1 x2 (x3 ||| 0) (x4 + 1))) ∧ (¬ s0 = 0 → (v_X12_rests_17 r I' L' I L x1 x2 (x3 ||| ((1 : Int32) <<< (x4 &&& 31))) (x4 + 1))))) : v_X12_rests_94 r I' L' I L x1 x2 x3 x4 s0 := by
  intro w g K
  have K1 := K.1
  refine g_istore K1 dX12_rests_94 (by decide) rfl ?_
  refine g_iload_n K1 4 dX12_rests_96 rfl ?_
  refine g_iload K1 0 dX12_rests_97 rfl ?_
  refine g_if_eq K1 109 dX12_rests_99 rfl (fun hc => ?_) (fun hc => ?_)
  · replace h := h.1 hc
    refine g_iconst K1 0 dX12_rests_109 rfl ?_
    refine g_ior K1 dX12_rests_110 ?_
    refine g_istore_n K1 dX12_rests_111 rfl (by decide) rfl ?_
    refine g_iinc K1 (x4 + 1) 5 dX12_rests_112 rfl rfl (by decide) rfl ?_
    refine g_goto K1 17 dX12_rests_115 rfl ?_
    exact g_perm [3, 4, 5, 1, 0] rfl (h w g K)
  · replace h := h.2 hc
    refine g_iconst K1 1 dX12_rests_102 rfl ?_
    refine g_iload K1 5 dX12_rests_103 rfl ?_
    refine g_ishl K1 dX12_rests_105 ?_
    refine g_goto K1 110 dX12_rests_106 rfl ?_
    refine g_ior K1 dX12_rests_110 ?_
    refine g_istore_n K1 dX12_rests_111 rfl (by decide) rfl ?_
    refine g_iinc K1 (x4 + 1) 5 dX12_rests_112 rfl rfl (by decide) rfl ?_
    refine g_goto K1 17 dX12_rests_115 rfl ?_
    exact g_perm [3, 4, 5, 1, 0] rfl (h w g K)
theorem c0_X12_rests {r : Option Value} {I I' : Nat → Nat → Int32} {L L' : Nat → Nat → Int64} {x1 : Int32} {x2 : Int32} (h : v_X12_rests_0 r I' L' I L x1 x2) : q_C kX12_rests [.ref 96, .int x1, .int x2] I L r I' L' := fun w l => q_ct (by decide) (Nat.le_of_ble_eq_true rfl) (Nat.le_refl _) (fun g _ K => h w g K)
abbrev v_X12_round_0 (r : Option Value) (I' : Nat → Nat → Int32) (L' : Nat → Nat → Int64) (I : Nat → Nat → Int32) (L : Nat → Nat → Int64) (x1 : Int32) (x2 : Int32) (x3 : Int32) : Prop := q_W kX12_round 0 [(0, .ref 96), (1, .int x1), (2, .int x2), (3, .int x3)] [] I L r I' L'
abbrev v_X12_round_26 (r : Option Value) (I' : Nat → Nat → Int32) (L' : Nat → Nat → Int64) (I : Nat → Nat → Int32) (L : Nat → Nat → Int64) (x2 : Int32) (x3 : Int32) (x5 : Int32) (x6 : Int32) : Prop := q_W kX12_round 26 [(0, .ref 96), (2, .int x2), (3, .int x3), (5, .int x5), (6, .int x6)] [] I L r I' L'
set_option maxRecDepth 20000 in
set_option maxHeartbeats 2000000 in
theorem vc_X12_round_0 {r : Option Value} {I' : Nat → Nat → Int32} {L' : Nat → Nat → Int64} {I : Nat → Nat → Int32} {L : Nat → Nat → Int64} {x1 : Int32} {x2 : Int32} {x3 : Int32} (h : (∃ r1 I2, q_C kX12_askRow [.ref 96, .int x1, .int x2, .int x3] I L (some (.int r1)) I2 L ∧ ((0 ≤ r1 → (v_X12_round_26 r I' L' I2 L x2 x3 (I2 96 28) 1)) ∧ (¬ 0 ≤ r1 → (r = some (.int r1) ∧ I' = I2 ∧ L' = L))))) : v_X12_round_0 r I' L' I L x1 x2 x3 := by
  intro w g K
  have K1 := K.1
  refine g_aload_n K1 0 dX12_round_0 rfl ?_
  refine g_iload_n K1 1 dX12_round_1 rfl ?_
  refine g_iload_n K1 2 dX12_round_2 rfl ?_
  refine g_iload_n K1 3 dX12_round_3 rfl ?_
  obtain ⟨r1, I2, hct, h⟩ := h
  refine h_callV K1 (st := []) [.int x1, .int x2, .int x3] (hct w (gl g)) q_clX12 lyp_96 rfl ok_X12_askRow ml_X12_355 ⟨Nat.le_of_ble_eq_true rfl, Nat.le_of_ble_eq_true rfl⟩ (Nat.le_of_ble_eq_true rfl) dX12_round_4 ?_
  show q_Gs w g 7 [(0, .ref 96), (1, .int x1), (2, .int x2), (3, .int x3)] [.int r1] (q_mm I2 L)
  refine g_istore K1 dX12_round_7 (by decide) rfl ?_
  refine g_iload K1 0 dX12_round_9 rfl ?_
  refine g_if_ge K1 17 dX12_round_11 rfl (fun hc => ?_) (fun hc => ?_)
  · replace h := h.1 hc
    refine g_aload_n K1 1 dX12_round_17 rfl ?_
    refine h_getI K1 q_clX12 28 lyp_96 fkX12_28 fl_X12_348 dX12_round_18 ?_
    refine g_istore K1 dX12_round_21 (by decide) rfl ?_
    refine g_iconst K1 1 dX12_round_23 rfl ?_
    refine g_istore K1 dX12_round_24 (by decide) rfl ?_
    exact g_perm [3, 5, 6, 1, 0] rfl (h w g K)
  · replace h := h.2 hc
    refine g_iload K1 0 dX12_round_14 rfl ?_
    obtain ⟨hr, hI, hL⟩ := h
    subst hr hI hL
    exact g_ireturn K rfl dX12_round_16
set_option maxRecDepth 20000 in
set_option maxHeartbeats 2000000 in
theorem vc_X12_round_26 {r : Option Value} {I' : Nat → Nat → Int32} {L' : Nat → Nat → Int64} {I : Nat → Nat → Int32} {L : Nat → Nat → Int64} {x2 : Int32} {x3 : Int32} {x5 : Int32} {x6 : Int32} (h : ((50 < x6 → (r = some (.int (-1)) ∧ I' = I ∧ L' = L)) ∧ (¬ 50 < x6 → (∃ r1, q_C kX12_heardTwice [.ref 96, .int x2, .int x3, .int x5] I L (some (.int r1)) I L ∧ ((r1 = (I 96 28) → (r = some (.int x6) ∧ I' = I ∧ L' = L)) ∧ (¬ r1 = (I 96 28) → ((r1 = 0 → (r = some (.int (-1)) ∧ I' = I ∧ L' = L)) ∧ (¬ r1 = 0 → (v_X12_round_26 r I' L' I L x2 x3 r1 (x6 + 1)))))))))) : v_X12_round_26 r I' L' I L x2 x3 x5 x6 := by
  intro w g K
  have K1 := K.1
  refine g_iload K1 4 dX12_round_26 rfl ?_
  refine g_bipush K1 50 dX12_round_28 rfl ?_
  refine g_icmp_gt K1 68 dX12_round_30 rfl (fun hc => ?_) (fun hc => ?_)
  · replace h := h.1 hc
    refine g_iconst K1 (-1) dX12_round_68 rfl ?_
    obtain ⟨hr, hI, hL⟩ := h
    subst hr hI hL
    exact g_ireturn K rfl dX12_round_69
  · replace h := h.2 hc
    refine g_aload_n K1 0 dX12_round_33 rfl ?_
    refine g_iload_n K1 1 dX12_round_34 rfl ?_
    refine g_iload_n K1 2 dX12_round_35 rfl ?_
    refine g_iload K1 3 dX12_round_36 rfl ?_
    obtain ⟨r1, hct, h⟩ := h
    refine h_callV K1 (st := []) [.int x2, .int x3, .int x5] (hct w (gl g)) q_clX12 lyp_96 rfl ok_X12_heardTwice ml_X12_359 ⟨Nat.le_of_ble_eq_true rfl, Nat.le_of_ble_eq_true rfl⟩ (Nat.le_of_ble_eq_true rfl) dX12_round_38 ?_
    show q_Gs w g 41 [(0, .ref 96), (2, .int x2), (3, .int x3), (5, .int x5), (6, .int x6)] [.int r1] (q_mm I L)
    refine g_istore K1 dX12_round_41 (by decide) rfl ?_
    refine g_iload K1 0 dX12_round_43 rfl ?_
    refine g_aload_n K1 1 dX12_round_45 rfl ?_
    refine h_getI K1 q_clX12 28 lyp_96 fkX12_28 fl_X12_348 dX12_round_46 ?_
    refine g_icmp_ne K1 55 dX12_round_49 rfl (fun hc => ?_) (fun hc => ?_)
    · replace h := h.2 hc
      refine g_iload K1 0 dX12_round_55 rfl ?_
      refine g_if_ne K1 62 dX12_round_57 rfl (fun hc => ?_) (fun hc => ?_)
      · replace h := h.2 hc
        refine g_iinc K1 (x6 + 1) 4 dX12_round_62 rfl rfl (by decide) rfl ?_
        refine g_goto K1 26 dX12_round_65 rfl ?_
        exact g_perm [2, 3, 4, 1, 0] rfl (h w g K)
      · replace h := h.1 hc
        refine g_iconst K1 (-1) dX12_round_60 rfl ?_
        obtain ⟨hr, hI, hL⟩ := h
        subst hr hI hL
        exact g_ireturn K rfl dX12_round_61
    · replace h := h.1 hc
      refine g_iload K1 4 dX12_round_52 rfl ?_
      obtain ⟨hr, hI, hL⟩ := h
      subst hr hI hL
      exact g_ireturn K rfl dX12_round_54
theorem c0_X12_round {r : Option Value} {I I' : Nat → Nat → Int32} {L L' : Nat → Nat → Int64} {x1 : Int32} {x2 : Int32} {x3 : Int32} (h : v_X12_round_0 r I' L' I L x1 x2 x3) : q_C kX12_round [.ref 96, .int x1, .int x2, .int x3] I L r I' L' := fun w l => q_ct (by decide) (Nat.le_of_ble_eq_true rfl) (Nat.le_refl _) (fun g _ K => h w g K)
abbrev v_X12_row_0 (r : Option Value) (I' : Nat → Nat → Int32) (L' : Nat → Nat → Int64) (I : Nat → Nat → Int32) (L : Nat → Nat → Int64) (x1 : Int32) (x2 : Int32) (x3 : Int32) : Prop := q_W kX12_row 0 [(0, .ref 96), (1, .int x1), (2, .int x2), (3, .int x3)] [] I L r I' L'
abbrev v_X12_row_52 (r : Option Value) (I' : Nat → Nat → Int32) (L' : Nat → Nat → Int64) (I : Nat → Nat → Int32) (L : Nat → Nat → Int64) (x1 : Int32) (x4 : Int32) : Prop := q_W kX12_row 52 [(0, .ref 96), (1, .int x1), (4, .int x4)] [] I L r I' L'
set_option maxRecDepth 20000 in
set_option maxHeartbeats 2000000 in
theorem vc_X12_row_0 {r : Option Value} {I' : Nat → Nat → Int32} {L' : Nat → Nat → Int64} {I : Nat → Nat → Int32} {L : Nat → Nat → Int64} {x1 : Int32} {x2 : Int32} {x3 : Int32} (h : (∃ r1, q_C kX12_isSlot [.int x1] I L (some (.int r1)) I L ∧ ((r1 = 0 → (r = some (.int (-2)) ∧ I' = I ∧ L' = L)) ∧ (¬ r1 = 0 → (∃ r2, q_C kX12_in [.long x2.toInt64, .long 0, .long 3] I L (some (.int r2)) I L ∧ ((r2 = 0 → (r = some (.int (-2)) ∧ I' = I ∧ L' = L)) ∧ (¬ r2 = 0 → ((x3 ≤ 60 → ((0 ≤ x3 → (vp_in x1 4 ∧ (vp_in x1 4 ∧ (v_X12_row_52 r I' L' (up2 (up2 I 109 x1.toNatClampNeg x3) 110 x1.toNatClampNeg x2) L x1 0)))) ∧ (¬ 0 ≤ x3 → (r = some (.int (-3)) ∧ I' = I ∧ L' = L)))) ∧ (¬ x3 ≤ 60 → (r = some (.int (-2)) ∧ I' = I ∧ L' = L)))))))))) : v_X12_row_0 r I' L' I L x1 x2 x3 := by
  intro w g K
  have K1 := K.1
  refine g_iload_n K1 1 dX12_row_0 rfl ?_
  obtain ⟨r1, hct, h⟩ := h
  refine h_callS K1 (st := []) [.int x1] (hct w (gl g)) ok_X12_isSlot ml_X12_343 ⟨Nat.le_of_ble_eq_true rfl, Nat.le_of_ble_eq_true rfl⟩ (Nat.le_of_ble_eq_true rfl) dX12_row_1 ?_
  show q_Gs w g 4 [(0, .ref 96), (1, .int x1), (2, .int x2), (3, .int x3)] [.int r1] (q_mm I L)
  refine g_if_eq K1 25 dX12_row_4 rfl (fun hc => ?_) (fun hc => ?_)
  · replace h := h.1 hc
    refine g_bipush K1 (-2) dX12_row_25 rfl ?_
    obtain ⟨hr, hI, hL⟩ := h
    subst hr hI hL
    exact g_ireturn K rfl dX12_row_27
  · replace h := h.2 hc
    refine g_iload_n K1 2 dX12_row_7 rfl ?_
    refine g_i2l K1 dX12_row_8 ?_
    refine g_lconst K1 0 dX12_row_9 rfl ?_
    refine g_ldc2_w K1 3 dX12_row_10 cn_X12_422 ?_
    obtain ⟨r2, hct, h⟩ := h
    refine h_callS K1 (st := []) [.long x2.toInt64, .long 0, .long 3] (hct w (gl g)) ok_X12_in ml_X12_70 ⟨Nat.le_of_ble_eq_true rfl, Nat.le_of_ble_eq_true rfl⟩ (Nat.le_of_ble_eq_true rfl) dX12_row_13 ?_
    show q_Gs w g 16 [(0, .ref 96), (1, .int x1), (2, .int x2), (3, .int x3)] [.int r2] (q_mm I L)
    refine g_if_eq K1 25 dX12_row_16 rfl (fun hc => ?_) (fun hc => ?_)
    · replace h := h.1 hc
      refine g_bipush K1 (-2) dX12_row_25 rfl ?_
      obtain ⟨hr, hI, hL⟩ := h
      subst hr hI hL
      exact g_ireturn K rfl dX12_row_27
    · replace h := h.2 hc
      refine g_iload_n K1 3 dX12_row_19 rfl ?_
      refine g_bipush K1 60 dX12_row_20 rfl ?_
      refine g_icmp_le K1 28 dX12_row_22 rfl (fun hc => ?_) (fun hc => ?_)
      · replace h := h.1 hc
        refine g_iload_n K1 3 dX12_row_28 rfl ?_
        refine g_if_ge K1 35 dX12_row_29 rfl (fun hc => ?_) (fun hc => ?_)
        · replace h := h.1 hc
          refine g_aload_n K1 0 dX12_row_35 rfl ?_
          refine h_getO K1 q_clX12 37 109 lyp_96 fkX12_37 rfl fl_X12_52 dX12_row_36 ?_
          refine g_iload_n K1 1 dX12_row_39 rfl ?_
          refine g_iload_n K1 3 dX12_row_40 rfl ?_
          obtain ⟨hg, h⟩ := h
          refine h_iastore K1 lyp_109 hg dX12_row_41 ?_
          refine g_aload_n K1 0 dX12_row_42 rfl ?_
          refine h_getO K1 q_clX12 38 110 lyp_96 fkX12_38 rfl fl_X12_55 dX12_row_43 ?_
          refine g_iload_n K1 1 dX12_row_46 rfl ?_
          refine g_iload_n K1 2 dX12_row_47 rfl ?_
          obtain ⟨hg, h⟩ := h
          refine h_iastore K1 lyp_110 hg dX12_row_48 ?_
          refine g_iconst K1 0 dX12_row_49 rfl ?_
          refine g_istore K1 dX12_row_50 (by decide) rfl ?_
          exact g_perm [1, 2, 0] rfl (h w g K)
        · replace h := h.2 hc
          refine g_bipush K1 (-3) dX12_row_32 rfl ?_
          obtain ⟨hr, hI, hL⟩ := h
          subst hr hI hL
          exact g_ireturn K rfl dX12_row_34
      · replace h := h.2 hc
        refine g_bipush K1 (-2) dX12_row_25 rfl ?_
        obtain ⟨hr, hI, hL⟩ := h
        subst hr hI hL
        exact g_ireturn K rfl dX12_row_27
set_option maxRecDepth 20000 in
set_option maxHeartbeats 2000000 in
theorem vc_X12_row_52 {r : Option Value} {I' : Nat → Nat → Int32} {L' : Nat → Nat → Int64} {I : Nat → Nat → Int32} {L : Nat → Nat → Int64} {x1 : Int32} {x4 : Int32} (h : ((60 ≤ x4 → (r = some (.int 0) ∧ I' = I ∧ L' = L)) ∧ (¬ 60 ≤ x4 → (vp_in ((60 * x1) + x4) 240 ∧ (v_X12_row_52 r I' L' I (up2 L 111 (((60 * x1) + x4) : Int32).toNatClampNeg 0) x1 (x4 + 1)))))) : v_X12_row_52 r I' L' I L x1 x4 := by
  intro w g K
  have K1 := K.1
  refine g_iload K1 2 dX12_row_52 rfl ?_
  refine g_bipush K1 60 dX12_row_54 rfl ?_
  refine g_icmp_ge K1 78 dX12_row_56 rfl (fun hc => ?_) (fun hc => ?_)
  · replace h := h.1 hc
    refine g_iconst K1 0 dX12_row_78 rfl ?_
    obtain ⟨hr, hI, hL⟩ := h
    subst hr hI hL
    exact g_ireturn K rfl dX12_row_79
  · replace h := h.2 hc
    refine g_aload_n K1 0 dX12_row_59 rfl ?_
    refine h_getO K1 q_clX12 39 111 lyp_96 fkX12_39 rfl fl_X12_58 dX12_row_60 ?_
    refine g_bipush K1 60 dX12_row_63 rfl ?_
    refine g_iload_n K1 1 dX12_row_65 rfl ?_
    refine g_imul K1 dX12_row_66 ?_
    refine g_iload K1 2 dX12_row_67 rfl ?_
    refine g_iadd K1 dX12_row_69 ?_
    refine g_lconst K1 0 dX12_row_70 rfl ?_
    obtain ⟨hg, h⟩ := h
    refine h_lastore K1 lyp_111 hg dX12_row_71 ?_
    refine g_iinc K1 (x4 + 1) 2 dX12_row_72 rfl rfl (by decide) rfl ?_
    refine g_goto K1 52 dX12_row_75 rfl ?_
    exact g_perm [1, 2, 0] rfl (h w g K)
theorem c0_X12_row {r : Option Value} {I I' : Nat → Nat → Int32} {L L' : Nat → Nat → Int64} {x1 : Int32} {x2 : Int32} {x3 : Int32} (h : v_X12_row_0 r I' L' I L x1 x2 x3) : q_C kX12_row [.ref 96, .int x1, .int x2, .int x3] I L r I' L' := fun w l => q_ct (by decide) (Nat.le_of_ble_eq_true rfl) (Nat.le_refl _) (fun g _ K => h w g K)
abbrev v_X12_ruleOf_0 (r : Option Value) (I' : Nat → Nat → Int32) (L' : Nat → Nat → Int64) (I : Nat → Nat → Int32) (L : Nat → Nat → Int64) (x1 : Int32) (x2 : Int32) : Prop := q_W kX12_ruleOf 0 [(0, .ref 96), (1, .int x1), (2, .int x2)] [] I L r I' L'
set_option maxRecDepth 20000 in
set_option maxHeartbeats 2000000 in
theorem vc_X12_ruleOf_0 {r : Option Value} {I' : Nat → Nat → Int32} {L' : Nat → Nat → Int64} {I : Nat → Nat → Int32} {L : Nat → Nat → Int64} {x1 : Int32} {x2 : Int32} (h : (vp_in ((9 + (3 * x1)) + x2) 104 ∧ (r = some (.int (I 97 (((9 + (3 * x1)) + x2) : Int32).toNatClampNeg)) ∧ I' = I ∧ L' = L))) : v_X12_ruleOf_0 r I' L' I L x1 x2 := by
  intro w g K
  have K1 := K.1
  refine g_aload_n K1 0 dX12_ruleOf_0 rfl ?_
  refine h_getO K1 q_clX12 1 97 lyp_96 fkX12_1 rfl fl_X12_9 dX12_ruleOf_1 ?_
  refine g_bipush K1 9 dX12_ruleOf_4 rfl ?_
  refine g_iconst K1 3 dX12_ruleOf_6 rfl ?_
  refine g_iload_n K1 1 dX12_ruleOf_7 rfl ?_
  refine g_imul K1 dX12_ruleOf_8 ?_
  refine g_iadd K1 dX12_ruleOf_9 ?_
  refine g_iload_n K1 2 dX12_ruleOf_10 rfl ?_
  refine g_iadd K1 dX12_ruleOf_11 ?_
  obtain ⟨hg, h⟩ := h
  refine h_iaload K1 lyp_97 hg dX12_ruleOf_12 ?_
  obtain ⟨hr, hI, hL⟩ := h
  subst hr hI hL
  exact g_ireturn K rfl dX12_ruleOf_13
theorem c0_X12_ruleOf {r : Option Value} {I I' : Nat → Nat → Int32} {L L' : Nat → Nat → Int64} {x1 : Int32} {x2 : Int32} (h : v_X12_ruleOf_0 r I' L' I L x1 x2) : q_C kX12_ruleOf [.ref 96, .int x1, .int x2] I L r I' L' := fun w l => q_ct (by decide) (Nat.le_of_ble_eq_true rfl) (Nat.le_refl _) (fun g _ K => h w g K)
abbrev v_X12_says_0 (r : Option Value) (I' : Nat → Nat → Int32) (L' : Nat → Nat → Int64) (I : Nat → Nat → Int32) (L : Nat → Nat → Int64) (x1 : Int32) (x2 : Int32) (x3 : Int32) : Prop := q_W kX12_says 0 [(0, .ref 96), (1, .int x1), (2, .int x2), (3, .int x3)] [] I L r I' L'
set_option maxRecDepth 20000 in
set_option maxHeartbeats 2000000 in
theorem vc_X12_says_0 {r : Option Value} {I' : Nat → Nat → Int32} {L' : Nat → Nat → Int64} {I : Nat → Nat → Int32} {L : Nat → Nat → Int64} {x1 : Int32} {x2 : Int32} {x3 : Int32} (h : (∃ r1 I2, q_C kX12_asksHour [.ref 96, .int x2] I L (some (.int r1)) I2 L ∧ ((r1 = 0 → (r = some (.int (-2)) ∧ I' = I2 ∧ L' = L)) ∧ (¬ r1 = 0 → (∃ r3, q_C kX12_isPew [.ref 96, .long x1.toInt64] I2 L (some (.int r3)) I2 L ∧ ((r3 = 0 → (r = some (.int (-2)) ∧ I' = I2 ∧ L' = L)) ∧ (¬ r3 = 0 → ((0 ≤ x3 → (∃ r4, q_C kX12_saysOf [.ref 96, .int x1, .int x2] I2 L (some (.int r4)) I2 L ∧ (∃ r5, q_C kX12_letterOrNone [.int r4, .int x3] I2 L (some (.int r5)) I2 L ∧ (r = some (.int r5) ∧ I' = I2 ∧ L' = L)))) ∧ (¬ 0 ≤ x3 → (r = some (.int (-2)) ∧ I' = I2 ∧ L' = L)))))))))) : v_X12_says_0 r I' L' I L x1 x2 x3 := by
  intro w g K
  have K1 := K.1
  refine g_aload_n K1 0 dX12_says_0 rfl ?_
  refine g_iload_n K1 2 dX12_says_1 rfl ?_
  obtain ⟨r1, I2, hct, h⟩ := h
  refine h_callV K1 (st := []) [.int x2] (hct w (gl g)) q_clX12 lyp_96 rfl ok_X12_asksHour ml_X12_318 ⟨Nat.le_of_ble_eq_true rfl, Nat.le_of_ble_eq_true rfl⟩ (Nat.le_of_ble_eq_true rfl) dX12_says_2 ?_
  show q_Gs w g 5 [(0, .ref 96), (1, .int x1), (2, .int x2), (3, .int x3)] [.int r1] (q_mm I2 L)
  refine g_if_eq K1 21 dX12_says_5 rfl (fun hc => ?_) (fun hc => ?_)
  · replace h := h.1 hc
    refine g_bipush K1 (-2) dX12_says_21 rfl ?_
    obtain ⟨hr, hI, hL⟩ := h
    subst hr hI hL
    exact g_ireturn K rfl dX12_says_23
  · replace h := h.2 hc
    refine g_aload_n K1 0 dX12_says_8 rfl ?_
    refine g_iload_n K1 1 dX12_says_9 rfl ?_
    refine g_i2l K1 dX12_says_10 ?_
    obtain ⟨r3, hct, h⟩ := h
    refine h_callV K1 (st := []) [.long x1.toInt64] (hct w (gl g)) q_clX12 lyp_96 rfl ok_X12_isPew ml_X12_218 ⟨Nat.le_of_ble_eq_true rfl, Nat.le_of_ble_eq_true rfl⟩ (Nat.le_of_ble_eq_true rfl) dX12_says_11 ?_
    show q_Gs w g 14 [(0, .ref 96), (1, .int x1), (2, .int x2), (3, .int x3)] [.int r3] (q_mm I2 L)
    refine g_if_eq K1 21 dX12_says_14 rfl (fun hc => ?_) (fun hc => ?_)
    · replace h := h.1 hc
      refine g_bipush K1 (-2) dX12_says_21 rfl ?_
      obtain ⟨hr, hI, hL⟩ := h
      subst hr hI hL
      exact g_ireturn K rfl dX12_says_23
    · replace h := h.2 hc
      refine g_iload_n K1 3 dX12_says_17 rfl ?_
      refine g_if_ge K1 24 dX12_says_18 rfl (fun hc => ?_) (fun hc => ?_)
      · replace h := h.1 hc
        refine g_aload_n K1 0 dX12_says_24 rfl ?_
        refine g_iload_n K1 1 dX12_says_25 rfl ?_
        refine g_iload_n K1 2 dX12_says_26 rfl ?_
        obtain ⟨r4, hct, h⟩ := h
        refine h_callV K1 (st := []) [.int x1, .int x2] (hct w (gl g)) q_clX12 lyp_96 rfl ok_X12_saysOf ml_X12_275 ⟨Nat.le_of_ble_eq_true rfl, Nat.le_of_ble_eq_true rfl⟩ (Nat.le_of_ble_eq_true rfl) dX12_says_27 ?_
        show q_Gs w g 30 [(0, .ref 96), (1, .int x1), (2, .int x2), (3, .int x3)] [.int r4] (q_mm I2 L)
        refine g_iload_n K1 3 dX12_says_30 rfl ?_
        obtain ⟨r5, hct, h⟩ := h
        refine h_callS K1 (st := []) [.int r4, .int x3] (hct w (gl g)) ok_X12_letterOrNone ml_X12_231 ⟨Nat.le_of_ble_eq_true rfl, Nat.le_of_ble_eq_true rfl⟩ (Nat.le_of_ble_eq_true rfl) dX12_says_31 ?_
        show q_Gs w g 34 [(0, .ref 96), (1, .int x1), (2, .int x2), (3, .int x3)] [.int r5] (q_mm I2 L)
        obtain ⟨hr, hI, hL⟩ := h
        subst hr hI hL
        exact g_ireturn K rfl dX12_says_34
      · replace h := h.2 hc
        refine g_bipush K1 (-2) dX12_says_21 rfl ?_
        obtain ⟨hr, hI, hL⟩ := h
        subst hr hI hL
        exact g_ireturn K rfl dX12_says_23
theorem c0_X12_says {r : Option Value} {I I' : Nat → Nat → Int32} {L L' : Nat → Nat → Int64} {x1 : Int32} {x2 : Int32} {x3 : Int32} (h : v_X12_says_0 r I' L' I L x1 x2 x3) : q_C kX12_says [.ref 96, .int x1, .int x2, .int x3] I L r I' L' := fun w l => q_ct (by decide) (Nat.le_of_ble_eq_true rfl) (Nat.le_refl _) (fun g _ K => h w g K)
abbrev v_X12_saysOf_0 (r : Option Value) (I' : Nat → Nat → Int32) (L' : Nat → Nat → Int64) (I : Nat → Nat → Int32) (L : Nat → Nat → Int64) (x1 : Int32) (x2 : Int32) : Prop := q_W kX12_saysOf 0 [(0, .ref 96), (1, .int x1), (2, .int x2)] [] I L r I' L'
set_option maxRecDepth 20000 in
set_option maxHeartbeats 2000000 in
theorem vc_X12_saysOf_0 {r : Option Value} {I' : Nat → Nat → Int32} {L' : Nat → Nat → Int64} {I : Nat → Nat → Int32} {L : Nat → Nat → Int64} {x1 : Int32} {x2 : Int32} (h : (vp_in ((7 * x2) + x1) 91 ∧ (r = some (.int (I 103 (((7 * x2) + x1) : Int32).toNatClampNeg)) ∧ I' = I ∧ L' = L))) : v_X12_saysOf_0 r I' L' I L x1 x2 := by
  intro w g K
  have K1 := K.1
  refine g_aload_n K1 0 dX12_saysOf_0 rfl ?_
  refine h_getO K1 q_clX12 24 103 lyp_96 fkX12_24 rfl fl_X12_34 dX12_saysOf_1 ?_
  refine g_bipush K1 7 dX12_saysOf_4 rfl ?_
  refine g_iload_n K1 2 dX12_saysOf_6 rfl ?_
  refine g_imul K1 dX12_saysOf_7 ?_
  refine g_iload_n K1 1 dX12_saysOf_8 rfl ?_
  refine g_iadd K1 dX12_saysOf_9 ?_
  obtain ⟨hg, h⟩ := h
  refine h_iaload K1 lyp_103 hg dX12_saysOf_10 ?_
  obtain ⟨hr, hI, hL⟩ := h
  subst hr hI hL
  exact g_ireturn K rfl dX12_saysOf_11
theorem c0_X12_saysOf {r : Option Value} {I I' : Nat → Nat → Int32} {L L' : Nat → Nat → Int64} {x1 : Int32} {x2 : Int32} (h : v_X12_saysOf_0 r I' L' I L x1 x2) : q_C kX12_saysOf [.ref 96, .int x1, .int x2] I L r I' L' := fun w l => q_ct (by decide) (Nat.le_of_ble_eq_true rfl) (Nat.le_refl _) (fun g _ K => h w g K)
abbrev v_X12_see_0 (r : Option Value) (I' : Nat → Nat → Int32) (L' : Nat → Nat → Int64) (I : Nat → Nat → Int32) (L : Nat → Nat → Int64) (x1 : Int32) : Prop := q_W kX12_see 0 [(0, .ref 96), (1, .int x1)] [] I L r I' L'
set_option maxRecDepth 20000 in
set_option maxHeartbeats 2000000 in
theorem vc_X12_see_0 {r : Option Value} {I' : Nat → Nat → Int32} {L' : Nat → Nat → Int64} {I : Nat → Nat → Int32} {L : Nat → Nat → Int64} {x1 : Int32} (h : (((I 96 7) ≤ x1 → (r = some (.int (-1)) ∧ I' = I ∧ L' = L)) ∧ (¬ (I 96 7) ≤ x1 → (vp_in x1 600 ∧ (r = some (.int ((I 100 x1.toNatClampNeg) &&& 255)) ∧ I' = I ∧ L' = L))))) : v_X12_see_0 r I' L' I L x1 := by
  intro w g K
  have K1 := K.1
  refine g_iload_n K1 1 dX12_see_0 rfl ?_
  refine g_aload_n K1 0 dX12_see_1 rfl ?_
  refine h_getI K1 q_clX12 7 lyp_96 fkX12_7 fl_X12_88 dX12_see_2 ?_
  refine g_icmp_ge K1 21 dX12_see_5 rfl (fun hc => ?_) (fun hc => ?_)
  · replace h := h.1 hc
    refine g_iconst K1 (-1) dX12_see_21 rfl ?_
    obtain ⟨hr, hI, hL⟩ := h
    subst hr hI hL
    exact g_ireturn K rfl dX12_see_22
  · replace h := h.2 hc
    refine g_aload_n K1 0 dX12_see_8 rfl ?_
    refine h_getO K1 q_clX12 4 100 lyp_96 fkX12_4 rfl fl_X12_20 dX12_see_9 ?_
    refine g_iload_n K1 1 dX12_see_12 rfl ?_
    obtain ⟨hg, h⟩ := h
    refine h_baload K1 lyp_100 hg dX12_see_13 ?_
    refine g_sipush K1 255 dX12_see_14 rfl ?_
    refine g_iand K1 dX12_see_17 ?_
    refine g_goto K1 22 dX12_see_18 rfl ?_
    obtain ⟨hr, hI, hL⟩ := h
    subst hr hI hL
    exact g_ireturn K rfl dX12_see_22
theorem c0_X12_see {r : Option Value} {I I' : Nat → Nat → Int32} {L L' : Nat → Nat → Int64} {x1 : Int32} (h : v_X12_see_0 r I' L' I L x1) : q_C kX12_see [.ref 96, .int x1] I L r I' L' := fun w l => q_ct (by decide) (Nat.le_of_ble_eq_true rfl) (Nat.le_refl _) (fun g _ K => h w g K)
abbrev v_X12_sets_0 (r : Option Value) (I' : Nat → Nat → Int32) (L' : Nat → Nat → Int64) (I : Nat → Nat → Int32) (L : Nat → Nat → Int64)  : Prop := q_W kX12_sets 0 [(0, .ref 96)] [] I L r I' L'
set_option maxRecDepth 20000 in
set_option maxHeartbeats 2000000 in
theorem vc_X12_sets_0 {r : Option Value} {I' : Nat → Nat → Int32} {L' : Nat → Nat → Int64} {I : Nat → Nat → Int32} {L : Nat → Nat → Int64}  (h : (∃ I1, q_C kX12_asItIs [.ref 96] I L none I1 L ∧ (∃ r2, q_C kX12_isNight [.ref 96] I1 L (some (.int r2)) I1 L ∧ ((r2 = 0 → (r = some (.int (-2)) ∧ I' = I1 ∧ L' = L)) ∧ (¬ r2 = 0 → (∃ r3 I4, q_C kX12_fewestOf [.ref 96] I1 L (some (.int r3)) I4 L ∧ (r = some (.int r3) ∧ I' = I4 ∧ L' = L))))))) : v_X12_sets_0 r I' L' I L  := by
  intro w g K
  have K1 := K.1
  refine g_aload_n K1 0 dX12_sets_0 rfl ?_
  obtain ⟨I1, hct, h⟩ := h
  refine h_callV K1 (st := []) [] (hct w (gl g)) q_clX12 lyp_96 rfl ok_X12_asItIs ml_X12_297 ⟨Nat.le_of_ble_eq_true rfl, Nat.le_of_ble_eq_true rfl⟩ (Nat.le_of_ble_eq_true rfl) dX12_sets_1 ?_
  show q_Gs w g 4 [(0, .ref 96)] [] (q_mm I1 L)
  refine g_aload_n K1 0 dX12_sets_4 rfl ?_
  obtain ⟨r2, hct, h⟩ := h
  refine h_callV K1 (st := []) [] (hct w (gl g)) q_clX12 lyp_96 rfl ok_X12_isNight ml_X12_78 ⟨Nat.le_of_ble_eq_true rfl, Nat.le_of_ble_eq_true rfl⟩ (Nat.le_of_ble_eq_true rfl) dX12_sets_5 ?_
  show q_Gs w g 8 [(0, .ref 96)] [.int r2] (q_mm I1 L)
  refine g_if_eq K1 18 dX12_sets_8 rfl (fun hc => ?_) (fun hc => ?_)
  · replace h := h.1 hc
    refine g_bipush K1 (-2) dX12_sets_18 rfl ?_
    obtain ⟨hr, hI, hL⟩ := h
    subst hr hI hL
    exact g_ireturn K rfl dX12_sets_20
  · replace h := h.2 hc
    refine g_aload_n K1 0 dX12_sets_11 rfl ?_
    obtain ⟨r3, I4, hct, h⟩ := h
    refine h_callV K1 (st := []) [] (hct w (gl g)) q_clX12 lyp_96 rfl ok_X12_fewestOf ml_X12_398 ⟨Nat.le_of_ble_eq_true rfl, Nat.le_of_ble_eq_true rfl⟩ (Nat.le_of_ble_eq_true rfl) dX12_sets_12 ?_
    show q_Gs w g 15 [(0, .ref 96)] [.int r3] (q_mm I4 L)
    refine g_goto K1 20 dX12_sets_15 rfl ?_
    obtain ⟨hr, hI, hL⟩ := h
    subst hr hI hL
    exact g_ireturn K rfl dX12_sets_20
theorem c0_X12_sets {r : Option Value} {I I' : Nat → Nat → Int32} {L L' : Nat → Nat → Int64}  (h : v_X12_sets_0 r I' L' I L ) : q_C kX12_sets [.ref 96] I L r I' L' := fun w l => q_ct (by decide) (Nat.le_of_ble_eq_true rfl) (Nat.le_refl _) (fun g _ K => h w g K)
abbrev v_X12_share_0 (r : Option Value) (I' : Nat → Nat → Int32) (L' : Nat → Nat → Int64) (I : Nat → Nat → Int32) (L : Nat → Nat → Int64) (x1 : Int32) (x2 : Int32) : Prop := q_W kX12_share 0 [(0, .ref 96), (1, .int x1), (2, .int x2)] [] I L r I' L'
abbrev v_X12_share_34 (r : Option Value) (I' : Nat → Nat → Int32) (L' : Nat → Nat → Int64) (I : Nat → Nat → Int32) (L : Nat → Nat → Int64) (x1 : Int32) (x2 : Int32) (x3 : Int32) (x4 : Int32) : Prop := q_W kX12_share 34 [(0, .ref 96), (1, .int x1), (2, .int x2), (3, .int x3), (4, .int x4)] [] I L r I' L'
abbrev v_X12_share_67 (r : Option Value) (I' : Nat → Nat → Int32) (L' : Nat → Nat → Int64) (I : Nat → Nat → Int32) (L : Nat → Nat → Int64) (x1 : Int32) (x2 : Int32) (x3 : Int32) (x4 : Int64) (x6 : Int32) : Prop := q_W kX12_share 67 [(0, .ref 96), (1, .int x1), (2, .int x2), (3, .int x3), (4, .long x4), (6, .int x6)] [] I L r I' L'
set_option maxRecDepth 20000 in
set_option maxHeartbeats 2000000 in
theorem vc_X12_share_0 {r : Option Value} {I' : Nat → Nat → Int32} {L' : Nat → Nat → Int64} {I : Nat → Nat → Int32} {L : Nat → Nat → Int64} {x1 : Int32} {x2 : Int32} (h : (∃ I1, q_C kX12_asItIs [.ref 96] I L none I1 L ∧ (∃ r2, q_C kX12_isPew [.ref 96, .long x1.toInt64] I1 L (some (.int r2)) I1 L ∧ ((r2 = 0 → (r = some (.int (-2)) ∧ I' = I1 ∧ L' = L)) ∧ (¬ r2 = 0 → (∃ r3, q_C kX12_in [.long x2.toInt64, .long 0, .long 1] I1 L (some (.int r3)) I1 L ∧ ((r3 = 0 → (r = some (.int (-2)) ∧ I' = I1 ∧ L' = L)) ∧ (¬ r3 = 0 → (∃ r4, q_C kX12_pews [.ref 96] I1 L (some (.int r4)) I1 L ∧ (v_X12_share_34 r I' L' I1 L x1 x2 r4 0)))))))))) : v_X12_share_0 r I' L' I L x1 x2 := by
  intro w g K
  have K1 := K.1
  refine g_aload_n K1 0 dX12_share_0 rfl ?_
  obtain ⟨I1, hct, h⟩ := h
  refine h_callV K1 (st := []) [] (hct w (gl g)) q_clX12 lyp_96 rfl ok_X12_asItIs ml_X12_297 ⟨Nat.le_of_ble_eq_true rfl, Nat.le_of_ble_eq_true rfl⟩ (Nat.le_of_ble_eq_true rfl) dX12_share_1 ?_
  show q_Gs w g 4 [(0, .ref 96), (1, .int x1), (2, .int x2)] [] (q_mm I1 L)
  refine g_aload_n K1 0 dX12_share_4 rfl ?_
  refine g_iload_n K1 1 dX12_share_5 rfl ?_
  refine g_i2l K1 dX12_share_6 ?_
  obtain ⟨r2, hct, h⟩ := h
  refine h_callV K1 (st := []) [.long x1.toInt64] (hct w (gl g)) q_clX12 lyp_96 rfl ok_X12_isPew ml_X12_218 ⟨Nat.le_of_ble_eq_true rfl, Nat.le_of_ble_eq_true rfl⟩ (Nat.le_of_ble_eq_true rfl) dX12_share_7 ?_
  show q_Gs w g 10 [(0, .ref 96), (1, .int x1), (2, .int x2)] [.int r2] (q_mm I1 L)
  refine g_if_eq K1 23 dX12_share_10 rfl (fun hc => ?_) (fun hc => ?_)
  · replace h := h.1 hc
    refine g_bipush K1 (-2) dX12_share_23 rfl ?_
    obtain ⟨hr, hI, hL⟩ := h
    subst hr hI hL
    exact g_ireturn K rfl dX12_share_25
  · replace h := h.2 hc
    refine g_iload_n K1 2 dX12_share_13 rfl ?_
    refine g_i2l K1 dX12_share_14 ?_
    refine g_lconst K1 0 dX12_share_15 rfl ?_
    refine g_lconst K1 1 dX12_share_16 rfl ?_
    obtain ⟨r3, hct, h⟩ := h
    refine h_callS K1 (st := []) [.long x2.toInt64, .long 0, .long 1] (hct w (gl g)) ok_X12_in ml_X12_70 ⟨Nat.le_of_ble_eq_true rfl, Nat.le_of_ble_eq_true rfl⟩ (Nat.le_of_ble_eq_true rfl) dX12_share_17 ?_
    show q_Gs w g 20 [(0, .ref 96), (1, .int x1), (2, .int x2)] [.int r3] (q_mm I1 L)
    refine g_if_ne K1 26 dX12_share_20 rfl (fun hc => ?_) (fun hc => ?_)
    · replace h := h.2 hc
      refine g_aload_n K1 0 dX12_share_26 rfl ?_
      obtain ⟨r4, hct, h⟩ := h
      refine h_callV K1 (st := []) [] (hct w (gl g)) q_clX12 lyp_96 rfl ok_X12_pews ml_X12_74 ⟨Nat.le_of_ble_eq_true rfl, Nat.le_of_ble_eq_true rfl⟩ (Nat.le_of_ble_eq_true rfl) dX12_share_27 ?_
      show q_Gs w g 30 [(0, .ref 96), (1, .int x1), (2, .int x2)] [.int r4] (q_mm I1 L)
      refine g_istore_n K1 dX12_share_30 rfl (by decide) rfl ?_
      refine g_iconst K1 0 dX12_share_31 rfl ?_
      refine g_istore K1 dX12_share_32 (by decide) rfl ?_
      exact g_perm [2, 3, 4, 1, 0] rfl (h w g K)
    · replace h := h.1 hc
      refine g_bipush K1 (-2) dX12_share_23 rfl ?_
      obtain ⟨hr, hI, hL⟩ := h
      subst hr hI hL
      exact g_ireturn K rfl dX12_share_25
set_option maxRecDepth 20000 in
set_option maxHeartbeats 2000000 in
theorem vc_X12_share_34 {r : Option Value} {I' : Nat → Nat → Int32} {L' : Nat → Nat → Int64} {I : Nat → Nat → Int32} {L : Nat → Nat → Int64} {x1 : Int32} {x2 : Int32} {x3 : Int32} {x4 : Int32} (h : ((((1 : Int32) <<< (x3 &&& 31)) ≤ x4 → (v_X12_share_67 r I' L' I L x1 x2 x3 0 0)) ∧ (¬ ((1 : Int32) <<< (x3 &&& 31)) ≤ x4 → (∃ r1 I2, q_C kX12_worthOf [.ref 96, .int x4] I L (some (.int r1)) I2 L ∧ (vp_in x4 128 ∧ (v_X12_share_34 r I' L' (up2 I2 107 x4.toNatClampNeg r1) L x1 x2 x3 (x4 + 1))))))) : v_X12_share_34 r I' L' I L x1 x2 x3 x4 := by
  intro w g K
  have K1 := K.1
  refine g_iload K1 4 dX12_share_34 rfl ?_
  refine g_iconst K1 1 dX12_share_36 rfl ?_
  refine g_iload_n K1 3 dX12_share_37 rfl ?_
  refine g_ishl K1 dX12_share_38 ?_
  refine g_icmp_ge K1 61 dX12_share_39 rfl (fun hc => ?_) (fun hc => ?_)
  · replace h := h.1 hc
    refine g_lconst K1 0 dX12_share_61 rfl ?_
    refine g_lstore K1 dX12_share_62 (by decide) rfl ?_
    refine g_iconst K1 0 dX12_share_64 rfl ?_
    refine g_istore K1 dX12_share_65 (by decide) rfl ?_
    exact g_perm [2, 3, 4, 5, 1, 0] rfl (h w g K)
  · replace h := h.2 hc
    refine g_aload_n K1 0 dX12_share_42 rfl ?_
    refine h_getO K1 q_clX12 31 107 lyp_96 fkX12_31 rfl fl_X12_46 dX12_share_43 ?_
    refine g_iload K1 4 dX12_share_46 rfl ?_
    refine g_aload_n K1 0 dX12_share_48 rfl ?_
    refine g_iload K1 4 dX12_share_49 rfl ?_
    obtain ⟨r1, I2, hct, h⟩ := h
    refine h_callV K1 (st := [.int x4, .ref 107]) [.int x4] (hct w (gl g)) q_clX12 lyp_96 rfl ok_X12_worthOf ml_X12_380 ⟨Nat.le_of_ble_eq_true rfl, Nat.le_of_ble_eq_true rfl⟩ (Nat.le_of_ble_eq_true rfl) dX12_share_51 ?_
    show q_Gs w g 54 [(0, .ref 96), (1, .int x1), (2, .int x2), (3, .int x3), (4, .int x4)] [.int r1, .int x4, .ref 107] (q_mm I2 L)
    obtain ⟨hg, h⟩ := h
    refine h_iastore K1 lyp_107 hg dX12_share_54 ?_
    refine g_iinc K1 (x4 + 1) 4 dX12_share_55 rfl rfl (by decide) rfl ?_
    refine g_goto K1 34 dX12_share_58 rfl ?_
    exact g_perm [1, 2, 3, 4, 0] rfl (h w g K)
set_option maxRecDepth 20000 in
set_option maxHeartbeats 2000000 in
theorem vc_X12_share_67 {r : Option Value} {I' : Nat → Nat → Int32} {L' : Nat → Nat → Int64} {I : Nat → Nat → Int32} {L : Nat → Nat → Int64} {x1 : Int32} {x2 : Int32} {x3 : Int32} {x4 : Int64} {x6 : Int32} (h : ((((1 : Int32) <<< (x3 &&& 31)) ≤ x6 → (∃ r1, q_C kX12_factorial [.int x3] I L (some (.int r1)) I L ∧ (∃ r2, q_C kX12_part [.long x4, .long r1.toInt64, .int x2] I L (some (.long r2)) I L ∧ (r = some (.int r2.toInt32) ∧ I' = I ∧ L' = L)))) ∧ (¬ ((1 : Int32) <<< (x3 &&& 31)) ≤ x6 → (∃ r3, q_C kX12_bit [.int x6, .int x1] I L (some (.int r3)) I L ∧ ((r3 = 0 → (∃ r4, q_C kX12_bits [.int x6] I L (some (.int r4)) I L ∧ (∃ r5, q_C kX12_factorial [.int r4] I L (some (.int r5)) I L ∧ (∃ r6, q_C kX12_bits [.int x6] I L (some (.int r6)) I L ∧ (∃ r7, q_C kX12_factorial [.int ((x3 - 1) - r6)] I L (some (.int r7)) I L ∧ (vp_in (x6 ||| ((1 : Int32) <<< (x1 &&& 31))) 128 ∧ (vp_in x6 128 ∧ ∀ z8 : Int64, z8 = (x4 + ((r5.toInt64 * r7.toInt64) * (((I 107 ((x6 ||| ((1 : Int32) <<< (x1 &&& 31))) : Int32).toNatClampNeg) - (I 107 x6.toNatClampNeg)) : Int32).toInt64)) → (v_X12_share_67 r I' L' I L x1 x2 x3 z8 (x6 + 1))))))))) ∧ (¬ r3 = 0 → (v_X12_share_67 r I' L' I L x1 x2 x3 x4 (x6 + 1)))))))) : v_X12_share_67 r I' L' I L x1 x2 x3 x4 x6 := by
  intro w g K
  have K1 := K.1
  refine g_iload K1 5 dX12_share_67 rfl ?_
  refine g_iconst K1 1 dX12_share_69 rfl ?_
  refine g_iload_n K1 3 dX12_share_70 rfl ?_
  refine g_ishl K1 dX12_share_71 ?_
  refine g_icmp_ge K1 139 dX12_share_72 rfl (fun hc => ?_) (fun hc => ?_)
  · replace h := h.1 hc
    refine g_lload K1 4 dX12_share_139 rfl ?_
    refine g_iload_n K1 3 dX12_share_141 rfl ?_
    obtain ⟨r1, hct, h⟩ := h
    refine h_callS K1 (st := [.long x4]) [.int x3] (hct w (gl g)) ok_X12_factorial ml_X12_391 ⟨Nat.le_of_ble_eq_true rfl, Nat.le_of_ble_eq_true rfl⟩ (Nat.le_of_ble_eq_true rfl) dX12_share_142 ?_
    show q_Gs w g 145 [(0, .ref 96), (1, .int x1), (2, .int x2), (3, .int x3), (4, .long x4), (6, .int x6)] [.int r1, .long x4] (q_mm I L)
    refine g_i2l K1 dX12_share_145 ?_
    refine g_iload_n K1 2 dX12_share_146 rfl ?_
    obtain ⟨r2, hct, h⟩ := h
    refine h_callS K1 (st := []) [.long x4, .long r1.toInt64, .int x2] (hct w (gl g)) ok_X12_part ml_X12_394 ⟨Nat.le_of_ble_eq_true rfl, Nat.le_of_ble_eq_true rfl⟩ (Nat.le_of_ble_eq_true rfl) dX12_share_147 ?_
    show q_Gs w g 150 [(0, .ref 96), (1, .int x1), (2, .int x2), (3, .int x3), (4, .long x4), (6, .int x6)] [.long r2] (q_mm I L)
    refine g_l2i K1 dX12_share_150 ?_
    obtain ⟨hr, hI, hL⟩ := h
    subst hr hI hL
    exact g_ireturn K rfl dX12_share_151
  · replace h := h.2 hc
    refine g_iload K1 5 dX12_share_75 rfl ?_
    refine g_iload_n K1 1 dX12_share_77 rfl ?_
    obtain ⟨r3, hct, h⟩ := h
    refine h_callS K1 (st := []) [.int x6, .int x1] (hct w (gl g)) ok_X12_bit ml_X12_237 ⟨Nat.le_of_ble_eq_true rfl, Nat.le_of_ble_eq_true rfl⟩ (Nat.le_of_ble_eq_true rfl) dX12_share_78 ?_
    show q_Gs w g 81 [(0, .ref 96), (1, .int x1), (2, .int x2), (3, .int x3), (4, .long x4), (6, .int x6)] [.int r3] (q_mm I L)
    refine g_if_ne K1 133 dX12_share_81 rfl (fun hc => ?_) (fun hc => ?_)
    · replace h := h.2 hc
      refine g_iinc K1 (x6 + 1) 5 dX12_share_133 rfl rfl (by decide) rfl ?_
      refine g_goto K1 67 dX12_share_136 rfl ?_
      exact g_perm [1, 2, 3, 4, 5, 0] rfl (h w g K)
    · replace h := h.1 hc
      refine g_lload K1 4 dX12_share_84 rfl ?_
      refine g_iload K1 5 dX12_share_86 rfl ?_
      obtain ⟨r4, hct, h⟩ := h
      refine h_callS K1 (st := [.long x4]) [.int x6] (hct w (gl g)) ok_X12_bits ml_X12_315 ⟨Nat.le_of_ble_eq_true rfl, Nat.le_of_ble_eq_true rfl⟩ (Nat.le_of_ble_eq_true rfl) dX12_share_88 ?_
      show q_Gs w g 91 [(0, .ref 96), (1, .int x1), (2, .int x2), (3, .int x3), (4, .long x4), (6, .int x6)] [.int r4, .long x4] (q_mm I L)
      obtain ⟨r5, hct, h⟩ := h
      refine h_callS K1 (st := [.long x4]) [.int r4] (hct w (gl g)) ok_X12_factorial ml_X12_391 ⟨Nat.le_of_ble_eq_true rfl, Nat.le_of_ble_eq_true rfl⟩ (Nat.le_of_ble_eq_true rfl) dX12_share_91 ?_
      show q_Gs w g 94 [(0, .ref 96), (1, .int x1), (2, .int x2), (3, .int x3), (4, .long x4), (6, .int x6)] [.int r5, .long x4] (q_mm I L)
      refine g_i2l K1 dX12_share_94 ?_
      refine g_iload_n K1 3 dX12_share_95 rfl ?_
      refine g_iconst K1 1 dX12_share_96 rfl ?_
      refine g_isub K1 dX12_share_97 ?_
      refine g_iload K1 5 dX12_share_98 rfl ?_
      obtain ⟨r6, hct, h⟩ := h
      refine h_callS K1 (st := [.int (x3 - 1), .long r5.toInt64, .long x4]) [.int x6] (hct w (gl g)) ok_X12_bits ml_X12_315 ⟨Nat.le_of_ble_eq_true rfl, Nat.le_of_ble_eq_true rfl⟩ (Nat.le_of_ble_eq_true rfl) dX12_share_100 ?_
      show q_Gs w g 103 [(0, .ref 96), (1, .int x1), (2, .int x2), (3, .int x3), (4, .long x4), (6, .int x6)] [.int r6, .int (x3 - 1), .long r5.toInt64, .long x4] (q_mm I L)
      refine g_isub K1 dX12_share_103 ?_
      obtain ⟨r7, hct, h⟩ := h
      refine h_callS K1 (st := [.long r5.toInt64, .long x4]) [.int ((x3 - 1) - r6)] (hct w (gl g)) ok_X12_factorial ml_X12_391 ⟨Nat.le_of_ble_eq_true rfl, Nat.le_of_ble_eq_true rfl⟩ (Nat.le_of_ble_eq_true rfl) dX12_share_104 ?_
      show q_Gs w g 107 [(0, .ref 96), (1, .int x1), (2, .int x2), (3, .int x3), (4, .long x4), (6, .int x6)] [.int r7, .long r5.toInt64, .long x4] (q_mm I L)
      refine g_i2l K1 dX12_share_107 ?_
      refine g_lmul K1 dX12_share_108 ?_
      refine g_aload_n K1 0 dX12_share_109 rfl ?_
      refine h_getO K1 q_clX12 31 107 lyp_96 fkX12_31 rfl fl_X12_46 dX12_share_110 ?_
      refine g_iload K1 5 dX12_share_113 rfl ?_
      refine g_iconst K1 1 dX12_share_115 rfl ?_
      refine g_iload_n K1 1 dX12_share_116 rfl ?_
      refine g_ishl K1 dX12_share_117 ?_
      refine g_ior K1 dX12_share_118 ?_
      obtain ⟨hg, h⟩ := h
      refine h_iaload K1 lyp_107 hg dX12_share_119 ?_
      refine g_aload_n K1 0 dX12_share_120 rfl ?_
      refine h_getO K1 q_clX12 31 107 lyp_96 fkX12_31 rfl fl_X12_46 dX12_share_121 ?_
      refine g_iload K1 5 dX12_share_124 rfl ?_
      obtain ⟨hg, h⟩ := h
      refine h_iaload K1 lyp_107 hg dX12_share_126 ?_
      refine g_isub K1 dX12_share_127 ?_
      refine g_i2l K1 dX12_share_128 ?_
      refine g_lmul K1 dX12_share_129 ?_
      refine g_ladd K1 dX12_share_130 ?_
      refine g_nameL (fun z8 hz8 => ?_)
      replace h := h z8 hz8
      refine g_lstore K1 dX12_share_131 (by decide) rfl ?_
      refine g_iinc K1 (x6 + 1) 5 dX12_share_133 rfl rfl (by decide) rfl ?_
      refine g_goto K1 67 dX12_share_136 rfl ?_
      exact g_perm [2, 3, 4, 5, 1, 0] rfl (h w g K)
theorem c0_X12_share {r : Option Value} {I I' : Nat → Nat → Int32} {L L' : Nat → Nat → Int64} {x1 : Int32} {x2 : Int32} (h : v_X12_share_0 r I' L' I L x1 x2) : q_C kX12_share [.ref 96, .int x1, .int x2] I L r I' L' := fun w l => q_ct (by decide) (Nat.le_of_ble_eq_true rfl) (Nat.le_refl _) (fun g _ K => h w g K)
abbrev v_X12_shortest_0 (r : Option Value) (I' : Nat → Nat → Int32) (L' : Nat → Nat → Int64) (I : Nat → Nat → Int32) (L : Nat → Nat → Int64) (x1 : Int32) : Prop := q_W kX12_shortest 0 [(0, .ref 96), (1, .int x1)] [] I L r I' L'
set_option maxRecDepth 20000 in
set_option maxHeartbeats 2000000 in
theorem vc_X12_shortest_0 {r : Option Value} {I' : Nat → Nat → Int32} {L' : Nat → Nat → Int64} {I : Nat → Nat → Int32} {L : Nat → Nat → Int64} {x1 : Int32} (h : (∃ r1 I2, q_C kX12_asksHour [.ref 96, .int x1] I L (some (.int r1)) I2 L ∧ ((r1 = 0 → (r = some (.int (-2)) ∧ I' = I2 ∧ L' = L)) ∧ (¬ r1 = 0 → (∃ r3, q_C kX12_longestBy [.ref 96, .int x1, .int (-1)] I2 L (some (.int r3)) I2 L ∧ (r = some (.int r3) ∧ I' = I2 ∧ L' = L)))))) : v_X12_shortest_0 r I' L' I L x1 := by
  intro w g K
  have K1 := K.1
  refine g_aload_n K1 0 dX12_shortest_0 rfl ?_
  refine g_iload_n K1 1 dX12_shortest_1 rfl ?_
  obtain ⟨r1, I2, hct, h⟩ := h
  refine h_callV K1 (st := []) [.int x1] (hct w (gl g)) q_clX12 lyp_96 rfl ok_X12_asksHour ml_X12_318 ⟨Nat.le_of_ble_eq_true rfl, Nat.le_of_ble_eq_true rfl⟩ (Nat.le_of_ble_eq_true rfl) dX12_shortest_2 ?_
  show q_Gs w g 5 [(0, .ref 96), (1, .int x1)] [.int r1] (q_mm I2 L)
  refine g_if_eq K1 17 dX12_shortest_5 rfl (fun hc => ?_) (fun hc => ?_)
  · replace h := h.1 hc
    refine g_bipush K1 (-2) dX12_shortest_17 rfl ?_
    obtain ⟨hr, hI, hL⟩ := h
    subst hr hI hL
    exact g_ireturn K rfl dX12_shortest_19
  · replace h := h.2 hc
    refine g_aload_n K1 0 dX12_shortest_8 rfl ?_
    refine g_iload_n K1 1 dX12_shortest_9 rfl ?_
    refine g_iconst K1 (-1) dX12_shortest_10 rfl ?_
    obtain ⟨r3, hct, h⟩ := h
    refine h_callV K1 (st := []) [.int x1, .int (-1)] (hct w (gl g)) q_clX12 lyp_96 rfl ok_X12_longestBy ml_X12_334 ⟨Nat.le_of_ble_eq_true rfl, Nat.le_of_ble_eq_true rfl⟩ (Nat.le_of_ble_eq_true rfl) dX12_shortest_11 ?_
    show q_Gs w g 14 [(0, .ref 96), (1, .int x1)] [.int r3] (q_mm I2 L)
    refine g_goto K1 19 dX12_shortest_14 rfl ?_
    obtain ⟨hr, hI, hL⟩ := h
    subst hr hI hL
    exact g_ireturn K rfl dX12_shortest_19
theorem c0_X12_shortest {r : Option Value} {I I' : Nat → Nat → Int32} {L L' : Nat → Nat → Int64} {x1 : Int32} (h : v_X12_shortest_0 r I' L' I L x1) : q_C kX12_shortest [.ref 96, .int x1] I L r I' L' := fun w l => q_ct (by decide) (Nat.le_of_ble_eq_true rfl) (Nat.le_refl _) (fun g _ K => h w g K)
abbrev v_X12_since_0 (r : Option Value) (I' : Nat → Nat → Int32) (L' : Nat → Nat → Int64) (I : Nat → Nat → Int32) (L : Nat → Nat → Int64) (x1 : Int32) (x2 : Int32) : Prop := q_W kX12_since 0 [(0, .ref 96), (1, .int x1), (2, .int x2)] [] I L r I' L'
set_option maxRecDepth 20000 in
set_option maxHeartbeats 2000000 in
theorem vc_X12_since_0 {r : Option Value} {I' : Nat → Nat → Int32} {L' : Nat → Nat → Int64} {I : Nat → Nat → Int32} {L : Nat → Nat → Int64} {x1 : Int32} {x2 : Int32} (h : (∃ r1 I2, q_C kX12_asksHour [.ref 96, .int x2] I L (some (.int r1)) I2 L ∧ ((r1 = 0 → (r = some (.int (-2)) ∧ I' = I2 ∧ L' = L)) ∧ (¬ r1 = 0 → (∃ r3, q_C kX12_isPew [.ref 96, .long x1.toInt64] I2 L (some (.int r3)) I2 L ∧ ((r3 = 0 → (r = some (.int (-2)) ∧ I' = I2 ∧ L' = L)) ∧ (¬ r3 = 0 → (vp_in ((7 * x2) + x1) 91 ∧ (r = some (.int (I2 105 (((7 * x2) + x1) : Int32).toNatClampNeg)) ∧ I' = I2 ∧ L' = L))))))))) : v_X12_since_0 r I' L' I L x1 x2 := by
  intro w g K
  have K1 := K.1
  refine g_aload_n K1 0 dX12_since_0 rfl ?_
  refine g_iload_n K1 2 dX12_since_1 rfl ?_
  obtain ⟨r1, I2, hct, h⟩ := h
  refine h_callV K1 (st := []) [.int x2] (hct w (gl g)) q_clX12 lyp_96 rfl ok_X12_asksHour ml_X12_318 ⟨Nat.le_of_ble_eq_true rfl, Nat.le_of_ble_eq_true rfl⟩ (Nat.le_of_ble_eq_true rfl) dX12_since_2 ?_
  show q_Gs w g 5 [(0, .ref 96), (1, .int x1), (2, .int x2)] [.int r1] (q_mm I2 L)
  refine g_if_eq K1 31 dX12_since_5 rfl (fun hc => ?_) (fun hc => ?_)
  · replace h := h.1 hc
    refine g_bipush K1 (-2) dX12_since_31 rfl ?_
    obtain ⟨hr, hI, hL⟩ := h
    subst hr hI hL
    exact g_ireturn K rfl dX12_since_33
  · replace h := h.2 hc
    refine g_aload_n K1 0 dX12_since_8 rfl ?_
    refine g_iload_n K1 1 dX12_since_9 rfl ?_
    refine g_i2l K1 dX12_since_10 ?_
    obtain ⟨r3, hct, h⟩ := h
    refine h_callV K1 (st := []) [.long x1.toInt64] (hct w (gl g)) q_clX12 lyp_96 rfl ok_X12_isPew ml_X12_218 ⟨Nat.le_of_ble_eq_true rfl, Nat.le_of_ble_eq_true rfl⟩ (Nat.le_of_ble_eq_true rfl) dX12_since_11 ?_
    show q_Gs w g 14 [(0, .ref 96), (1, .int x1), (2, .int x2)] [.int r3] (q_mm I2 L)
    refine g_if_eq K1 31 dX12_since_14 rfl (fun hc => ?_) (fun hc => ?_)
    · replace h := h.1 hc
      refine g_bipush K1 (-2) dX12_since_31 rfl ?_
      obtain ⟨hr, hI, hL⟩ := h
      subst hr hI hL
      exact g_ireturn K rfl dX12_since_33
    · replace h := h.2 hc
      refine g_aload_n K1 0 dX12_since_17 rfl ?_
      refine h_getO K1 q_clX12 26 105 lyp_96 fkX12_26 rfl fl_X12_40 dX12_since_18 ?_
      refine g_bipush K1 7 dX12_since_21 rfl ?_
      refine g_iload_n K1 2 dX12_since_23 rfl ?_
      refine g_imul K1 dX12_since_24 ?_
      refine g_iload_n K1 1 dX12_since_25 rfl ?_
      refine g_iadd K1 dX12_since_26 ?_
      obtain ⟨hg, h⟩ := h
      refine h_iaload K1 lyp_105 hg dX12_since_27 ?_
      refine g_goto K1 33 dX12_since_28 rfl ?_
      obtain ⟨hr, hI, hL⟩ := h
      subst hr hI hL
      exact g_ireturn K rfl dX12_since_33
theorem c0_X12_since {r : Option Value} {I I' : Nat → Nat → Int32} {L L' : Nat → Nat → Int64} {x1 : Int32} {x2 : Int32} (h : v_X12_since_0 r I' L' I L x1 x2) : q_C kX12_since [.ref 96, .int x1, .int x2] I L r I' L' := fun w l => q_ct (by decide) (Nat.le_of_ble_eq_true rfl) (Nat.le_refl _) (fun g _ K => h w g K)
abbrev v_X12_sorts_0 (r : Option Value) (I' : Nat → Nat → Int32) (L' : Nat → Nat → Int64) (I : Nat → Nat → Int32) (L : Nat → Nat → Int64) (x1 : Int32) : Prop := q_W kX12_sorts 0 [(0, .ref 96), (1, .int x1)] [] I L r I' L'
abbrev v_X12_sorts_15 (r : Option Value) (I' : Nat → Nat → Int32) (L' : Nat → Nat → Int64) (I : Nat → Nat → Int32) (L : Nat → Nat → Int64) (x1 : Int32) (x2 : Int32) (x3 : Int32) : Prop := q_W kX12_sorts 15 [(0, .ref 96), (1, .int x1), (2, .int x2), (3, .int x3)] [] I L r I' L'
set_option maxRecDepth 20000 in
set_option maxHeartbeats 2000000 in
theorem vc_X12_sorts_0 {r : Option Value} {I' : Nat → Nat → Int32} {L' : Nat → Nat → Int64} {I : Nat → Nat → Int32} {L : Nat → Nat → Int64} {x1 : Int32} (h : (∃ r1 I2, q_C kX12_asksHour [.ref 96, .int x1] I L (some (.int r1)) I2 L ∧ ((r1 = 0 → (r = some (.int (-2)) ∧ I' = I2 ∧ L' = L)) ∧ (¬ r1 = 0 → (v_X12_sorts_15 r I' L' I2 L x1 0 0))))) : v_X12_sorts_0 r I' L' I L x1 := by
  intro w g K
  have K1 := K.1
  refine g_aload_n K1 0 dX12_sorts_0 rfl ?_
  refine g_iload_n K1 1 dX12_sorts_1 rfl ?_
  obtain ⟨r1, I2, hct, h⟩ := h
  refine h_callV K1 (st := []) [.int x1] (hct w (gl g)) q_clX12 lyp_96 rfl ok_X12_asksHour ml_X12_318 ⟨Nat.le_of_ble_eq_true rfl, Nat.le_of_ble_eq_true rfl⟩ (Nat.le_of_ble_eq_true rfl) dX12_sorts_2 ?_
  show q_Gs w g 5 [(0, .ref 96), (1, .int x1)] [.int r1] (q_mm I2 L)
  refine g_if_ne K1 11 dX12_sorts_5 rfl (fun hc => ?_) (fun hc => ?_)
  · replace h := h.2 hc
    refine g_iconst K1 0 dX12_sorts_11 rfl ?_
    refine g_istore_n K1 dX12_sorts_12 rfl (by decide) rfl ?_
    refine g_iconst K1 0 dX12_sorts_13 rfl ?_
    refine g_istore_n K1 dX12_sorts_14 rfl (by decide) rfl ?_
    exact g_perm [2, 3, 1, 0] rfl (h w g K)
  · replace h := h.1 hc
    refine g_bipush K1 (-2) dX12_sorts_8 rfl ?_
    obtain ⟨hr, hI, hL⟩ := h
    subst hr hI hL
    exact g_ireturn K rfl dX12_sorts_10
set_option maxRecDepth 20000 in
set_option maxHeartbeats 2000000 in
theorem vc_X12_sorts_15 {r : Option Value} {I' : Nat → Nat → Int32} {L' : Nat → Nat → Int64} {I : Nat → Nat → Int32} {L : Nat → Nat → Int64} {x1 : Int32} {x2 : Int32} {x3 : Int32} (h : (∃ r1, q_C kX12_pews [.ref 96] I L (some (.int r1)) I L ∧ ((r1 ≤ x3 → (r = some (.int x2) ∧ I' = I ∧ L' = L)) ∧ (¬ r1 ≤ x3 → (∃ r2, q_C kX12_alikeTo [.ref 96, .int x3, .int x1] I L (some (.int r2)) I L ∧ (∃ r3, q_C kX12_bit [.int r2, .int x3] I L (some (.int r3)) I L ∧ ((r3 = 1 → (∃ r4, q_C kX12_alikeTo [.ref 96, .int x3, .int x1] I L (some (.int r4)) I L ∧ (((r4 &&& (((1 : Int32) <<< (x3 &&& 31)) - 1)) = 0 → (v_X12_sorts_15 r I' L' I L x1 (x2 + 1) (x3 + 1))) ∧ (¬ (r4 &&& (((1 : Int32) <<< (x3 &&& 31)) - 1)) = 0 → (v_X12_sorts_15 r I' L' I L x1 (x2 + 0) (x3 + 1)))))) ∧ (¬ r3 = 1 → (v_X12_sorts_15 r I' L' I L x1 (x2 + 0) (x3 + 1)))))))))) : v_X12_sorts_15 r I' L' I L x1 x2 x3 := by
  intro w g K
  have K1 := K.1
  refine g_iload_n K1 3 dX12_sorts_15 rfl ?_
  refine g_aload_n K1 0 dX12_sorts_16 rfl ?_
  obtain ⟨r1, hct, h⟩ := h
  refine h_callV K1 (st := [.int x3]) [] (hct w (gl g)) q_clX12 lyp_96 rfl ok_X12_pews ml_X12_74 ⟨Nat.le_of_ble_eq_true rfl, Nat.le_of_ble_eq_true rfl⟩ (Nat.le_of_ble_eq_true rfl) dX12_sorts_17 ?_
  show q_Gs w g 20 [(0, .ref 96), (1, .int x1), (2, .int x2), (3, .int x3)] [.int r1, .int x3] (q_mm I L)
  refine g_icmp_ge K1 66 dX12_sorts_20 rfl (fun hc => ?_) (fun hc => ?_)
  · replace h := h.1 hc
    refine g_iload_n K1 2 dX12_sorts_66 rfl ?_
    obtain ⟨hr, hI, hL⟩ := h
    subst hr hI hL
    exact g_ireturn K rfl dX12_sorts_67
  · replace h := h.2 hc
    refine g_iload_n K1 2 dX12_sorts_23 rfl ?_
    refine g_aload_n K1 0 dX12_sorts_24 rfl ?_
    refine g_iload_n K1 3 dX12_sorts_25 rfl ?_
    refine g_iload_n K1 1 dX12_sorts_26 rfl ?_
    obtain ⟨r2, hct, h⟩ := h
    refine h_callV K1 (st := [.int x2]) [.int x3, .int x1] (hct w (gl g)) q_clX12 lyp_96 rfl ok_X12_alikeTo ml_X12_331 ⟨Nat.le_of_ble_eq_true rfl, Nat.le_of_ble_eq_true rfl⟩ (Nat.le_of_ble_eq_true rfl) dX12_sorts_27 ?_
    show q_Gs w g 30 [(0, .ref 96), (1, .int x1), (2, .int x2), (3, .int x3)] [.int r2, .int x2] (q_mm I L)
    refine g_iload_n K1 3 dX12_sorts_30 rfl ?_
    obtain ⟨r3, hct, h⟩ := h
    refine h_callS K1 (st := [.int x2]) [.int r2, .int x3] (hct w (gl g)) ok_X12_bit ml_X12_237 ⟨Nat.le_of_ble_eq_true rfl, Nat.le_of_ble_eq_true rfl⟩ (Nat.le_of_ble_eq_true rfl) dX12_sorts_31 ?_
    show q_Gs w g 34 [(0, .ref 96), (1, .int x1), (2, .int x2), (3, .int x3)] [.int r3, .int x2] (q_mm I L)
    refine g_iconst K1 1 dX12_sorts_34 rfl ?_
    refine g_icmp_ne K1 57 dX12_sorts_35 rfl (fun hc => ?_) (fun hc => ?_)
    · replace h := h.2 hc
      refine g_iconst K1 0 dX12_sorts_57 rfl ?_
      refine g_iadd K1 dX12_sorts_58 ?_
      refine g_istore_n K1 dX12_sorts_59 rfl (by decide) rfl ?_
      refine g_iinc K1 (x3 + 1) 3 dX12_sorts_60 rfl rfl (by decide) rfl ?_
      refine g_goto K1 15 dX12_sorts_63 rfl ?_
      exact g_perm [2, 3, 1, 0] rfl (h w g K)
    · replace h := h.1 hc
      refine g_aload_n K1 0 dX12_sorts_38 rfl ?_
      refine g_iload_n K1 3 dX12_sorts_39 rfl ?_
      refine g_iload_n K1 1 dX12_sorts_40 rfl ?_
      obtain ⟨r4, hct, h⟩ := h
      refine h_callV K1 (st := [.int x2]) [.int x3, .int x1] (hct w (gl g)) q_clX12 lyp_96 rfl ok_X12_alikeTo ml_X12_331 ⟨Nat.le_of_ble_eq_true rfl, Nat.le_of_ble_eq_true rfl⟩ (Nat.le_of_ble_eq_true rfl) dX12_sorts_41 ?_
      show q_Gs w g 44 [(0, .ref 96), (1, .int x1), (2, .int x2), (3, .int x3)] [.int r4, .int x2] (q_mm I L)
      refine g_iconst K1 1 dX12_sorts_44 rfl ?_
      refine g_iload_n K1 3 dX12_sorts_45 rfl ?_
      refine g_ishl K1 dX12_sorts_46 ?_
      refine g_iconst K1 1 dX12_sorts_47 rfl ?_
      refine g_isub K1 dX12_sorts_48 ?_
      refine g_iand K1 dX12_sorts_49 ?_
      refine g_if_ne K1 57 dX12_sorts_50 rfl (fun hc => ?_) (fun hc => ?_)
      · replace h := h.2 hc
        refine g_iconst K1 0 dX12_sorts_57 rfl ?_
        refine g_iadd K1 dX12_sorts_58 ?_
        refine g_istore_n K1 dX12_sorts_59 rfl (by decide) rfl ?_
        refine g_iinc K1 (x3 + 1) 3 dX12_sorts_60 rfl rfl (by decide) rfl ?_
        refine g_goto K1 15 dX12_sorts_63 rfl ?_
        exact g_perm [2, 3, 1, 0] rfl (h w g K)
      · replace h := h.1 hc
        refine g_iconst K1 1 dX12_sorts_53 rfl ?_
        refine g_goto K1 58 dX12_sorts_54 rfl ?_
        refine g_iadd K1 dX12_sorts_58 ?_
        refine g_istore_n K1 dX12_sorts_59 rfl (by decide) rfl ?_
        refine g_iinc K1 (x3 + 1) 3 dX12_sorts_60 rfl rfl (by decide) rfl ?_
        refine g_goto K1 15 dX12_sorts_63 rfl ?_
        exact g_perm [2, 3, 1, 0] rfl (h w g K)
theorem c0_X12_sorts {r : Option Value} {I I' : Nat → Nat → Int32} {L L' : Nat → Nat → Int64} {x1 : Int32} (h : v_X12_sorts_0 r I' L' I L x1) : q_C kX12_sorts [.ref 96, .int x1] I L r I' L' := fun w l => q_ct (by decide) (Nat.le_of_ble_eq_true rfl) (Nat.le_refl _) (fun g _ K => h w g K)
abbrev v_X12_spoken_0 (r : Option Value) (I' : Nat → Nat → Int32) (L' : Nat → Nat → Int64) (I : Nat → Nat → Int32) (L : Nat → Nat → Int64) (x1 : Int32) (x2 : Int32) : Prop := q_W kX12_spoken 0 [(0, .ref 96), (1, .int x1), (2, .int x2)] [] I L r I' L'
abbrev v_X12_spoken_28 (r : Option Value) (I' : Nat → Nat → Int32) (L' : Nat → Nat → Int64) (I : Nat → Nat → Int32) (L : Nat → Nat → Int64) (x1 : Int32) (x2 : Int32) (x3 : Int32) (x4 : Int32) : Prop := q_W kX12_spoken 28 [(0, .ref 96), (1, .int x1), (2, .int x2), (3, .int x3), (4, .int x4)] [] I L r I' L'
abbrev v_X12_spoken_46 (r : Option Value) (I' : Nat → Nat → Int32) (L' : Nat → Nat → Int64) (I : Nat → Nat → Int32) (L : Nat → Nat → Int64) (x1 : Int32) (x2 : Int32) (x3 : Int32) (x4 : Int32) (x5 : Int32) : Prop := q_W kX12_spoken 46 [(0, .ref 96), (1, .int x1), (2, .int x2), (3, .int x3), (4, .int x4), (5, .int x5)] [] I L r I' L'
set_option maxRecDepth 20000 in
set_option maxHeartbeats 2000000 in
theorem vc_X12_spoken_0 {r : Option Value} {I' : Nat → Nat → Int32} {L' : Nat → Nat → Int64} {I : Nat → Nat → Int32} {L : Nat → Nat → Int64} {x1 : Int32} {x2 : Int32} (h : (∃ r1 I2, q_C kX12_asksHour [.ref 96, .int x2] I L (some (.int r1)) I2 L ∧ ((r1 = 0 → (r = some (.int (-2)) ∧ I' = I2 ∧ L' = L)) ∧ (¬ r1 = 0 → (∃ r3, q_C kX12_in [.long x1.toInt64, .long 1, .long 4] I2 L (some (.int r3)) I2 L ∧ ((r3 = 0 → (r = some (.int (-2)) ∧ I' = I2 ∧ L' = L)) ∧ (¬ r3 = 0 → (v_X12_spoken_28 r I' L' I2 L x1 x2 0 0)))))))) : v_X12_spoken_0 r I' L' I L x1 x2 := by
  intro w g K
  have K1 := K.1
  refine g_aload_n K1 0 dX12_spoken_0 rfl ?_
  refine g_iload_n K1 2 dX12_spoken_1 rfl ?_
  obtain ⟨r1, I2, hct, h⟩ := h
  refine h_callV K1 (st := []) [.int x2] (hct w (gl g)) q_clX12 lyp_96 rfl ok_X12_asksHour ml_X12_318 ⟨Nat.le_of_ble_eq_true rfl, Nat.le_of_ble_eq_true rfl⟩ (Nat.le_of_ble_eq_true rfl) dX12_spoken_2 ?_
  show q_Gs w g 5 [(0, .ref 96), (1, .int x1), (2, .int x2)] [.int r1] (q_mm I2 L)
  refine g_if_eq K1 20 dX12_spoken_5 rfl (fun hc => ?_) (fun hc => ?_)
  · replace h := h.1 hc
    refine g_bipush K1 (-2) dX12_spoken_20 rfl ?_
    obtain ⟨hr, hI, hL⟩ := h
    subst hr hI hL
    exact g_ireturn K rfl dX12_spoken_22
  · replace h := h.2 hc
    refine g_iload_n K1 1 dX12_spoken_8 rfl ?_
    refine g_i2l K1 dX12_spoken_9 ?_
    refine g_lconst K1 1 dX12_spoken_10 rfl ?_
    refine g_ldc2_w K1 4 dX12_spoken_11 cn_X12_183 ?_
    obtain ⟨r3, hct, h⟩ := h
    refine h_callS K1 (st := []) [.long x1.toInt64, .long 1, .long 4] (hct w (gl g)) ok_X12_in ml_X12_70 ⟨Nat.le_of_ble_eq_true rfl, Nat.le_of_ble_eq_true rfl⟩ (Nat.le_of_ble_eq_true rfl) dX12_spoken_14 ?_
    show q_Gs w g 17 [(0, .ref 96), (1, .int x1), (2, .int x2)] [.int r3] (q_mm I2 L)
    refine g_if_ne K1 23 dX12_spoken_17 rfl (fun hc => ?_) (fun hc => ?_)
    · replace h := h.2 hc
      refine g_iconst K1 0 dX12_spoken_23 rfl ?_
      refine g_istore_n K1 dX12_spoken_24 rfl (by decide) rfl ?_
      refine g_iconst K1 0 dX12_spoken_25 rfl ?_
      refine g_istore K1 dX12_spoken_26 (by decide) rfl ?_
      exact g_perm [2, 3, 4, 1, 0] rfl (h w g K)
    · replace h := h.1 hc
      refine g_bipush K1 (-2) dX12_spoken_20 rfl ?_
      obtain ⟨hr, hI, hL⟩ := h
      subst hr hI hL
      exact g_ireturn K rfl dX12_spoken_22
set_option maxRecDepth 20000 in
set_option maxHeartbeats 2000000 in
theorem vc_X12_spoken_28 {r : Option Value} {I' : Nat → Nat → Int32} {L' : Nat → Nat → Int64} {I : Nat → Nat → Int32} {L : Nat → Nat → Int64} {x1 : Int32} {x2 : Int32} {x3 : Int32} {x4 : Int32} (h : (∃ r1, q_C kX12_pews [.ref 96] I L (some (.int r1)) I L ∧ ((r1 ≤ x4 → (r = some (.int x3) ∧ I' = I ∧ L' = L)) ∧ (¬ r1 ≤ x4 → (∃ r2, q_C kX12_saysOf [.ref 96, .int x4, .int x2] I L (some (.int r2)) I L ∧ (v_X12_spoken_46 r I' L' I L x1 x2 x3 x4 r2)))))) : v_X12_spoken_28 r I' L' I L x1 x2 x3 x4 := by
  intro w g K
  have K1 := K.1
  refine g_iload K1 4 dX12_spoken_28 rfl ?_
  refine g_aload_n K1 0 dX12_spoken_30 rfl ?_
  obtain ⟨r1, hct, h⟩ := h
  refine h_callV K1 (st := [.int x4]) [] (hct w (gl g)) q_clX12 lyp_96 rfl ok_X12_pews ml_X12_74 ⟨Nat.le_of_ble_eq_true rfl, Nat.le_of_ble_eq_true rfl⟩ (Nat.le_of_ble_eq_true rfl) dX12_spoken_31 ?_
  show q_Gs w g 34 [(0, .ref 96), (1, .int x1), (2, .int x2), (3, .int x3), (4, .int x4)] [.int r1, .int x4] (q_mm I L)
  refine g_icmp_ge K1 82 dX12_spoken_34 rfl (fun hc => ?_) (fun hc => ?_)
  · replace h := h.1 hc
    refine g_iload_n K1 3 dX12_spoken_82 rfl ?_
    obtain ⟨hr, hI, hL⟩ := h
    subst hr hI hL
    exact g_ireturn K rfl dX12_spoken_83
  · replace h := h.2 hc
    refine g_aload_n K1 0 dX12_spoken_37 rfl ?_
    refine g_iload K1 4 dX12_spoken_38 rfl ?_
    refine g_iload_n K1 2 dX12_spoken_40 rfl ?_
    obtain ⟨r2, hct, h⟩ := h
    refine h_callV K1 (st := []) [.int x4, .int x2] (hct w (gl g)) q_clX12 lyp_96 rfl ok_X12_saysOf ml_X12_275 ⟨Nat.le_of_ble_eq_true rfl, Nat.le_of_ble_eq_true rfl⟩ (Nat.le_of_ble_eq_true rfl) dX12_spoken_41 ?_
    show q_Gs w g 44 [(0, .ref 96), (1, .int x1), (2, .int x2), (3, .int x3), (4, .int x4)] [.int r2] (q_mm I L)
    refine g_istore K1 dX12_spoken_44 (by decide) rfl ?_
    exact g_perm [1, 2, 3, 4, 5, 0] rfl (h w g K)
set_option maxRecDepth 20000 in
set_option maxHeartbeats 2000000 in
theorem vc_X12_spoken_46 {r : Option Value} {I' : Nat → Nat → Int32} {L' : Nat → Nat → Int64} {I : Nat → Nat → Int32} {L : Nat → Nat → Int64} {x1 : Int32} {x2 : Int32} {x3 : Int32} {x4 : Int32} {x5 : Int32} (h : ((x5 ≤ 0 → (v_X12_spoken_28 r I' L' I L x1 x2 x3 (x4 + 1))) ∧ (¬ x5 ≤ 0 → (((x5 - x5 / 5 * 5) = x1 → (v_X12_spoken_46 r I' L' I L x1 x2 (x3 + 1) x4 (x5 / 5))) ∧ (¬ (x5 - x5 / 5 * 5) = x1 → (v_X12_spoken_46 r I' L' I L x1 x2 (x3 + 0) x4 (x5 / 5))))))) : v_X12_spoken_46 r I' L' I L x1 x2 x3 x4 x5 := by
  intro w g K
  have K1 := K.1
  refine g_iload K1 5 dX12_spoken_46 rfl ?_
  refine g_if_le K1 76 dX12_spoken_48 rfl (fun hc => ?_) (fun hc => ?_)
  · replace h := h.1 hc
    refine g_iinc K1 (x4 + 1) 4 dX12_spoken_76 rfl rfl (by decide) rfl ?_
    refine g_goto K1 28 dX12_spoken_79 rfl ?_
    exact g_perm [1, 2, 3, 4, 0] rfl (h w g K)
  · replace h := h.2 hc
    refine g_iload_n K1 3 dX12_spoken_51 rfl ?_
    refine g_iload K1 5 dX12_spoken_52 rfl ?_
    refine g_iconst K1 5 dX12_spoken_54 rfl ?_
    refine g_irem K1 dX12_spoken_55 (by decide) ?_
    refine g_iload_n K1 1 dX12_spoken_56 rfl ?_
    refine g_icmp_ne K1 64 dX12_spoken_57 rfl (fun hc => ?_) (fun hc => ?_)
    · replace h := h.2 hc
      refine g_iconst K1 0 dX12_spoken_64 rfl ?_
      refine g_iadd K1 dX12_spoken_65 ?_
      refine g_istore_n K1 dX12_spoken_66 rfl (by decide) rfl ?_
      refine g_iload K1 5 dX12_spoken_67 rfl ?_
      refine g_iconst K1 5 dX12_spoken_69 rfl ?_
      refine g_idiv K1 dX12_spoken_70 (by decide) ?_
      refine g_istore K1 dX12_spoken_71 (by decide) rfl ?_
      refine g_goto K1 46 dX12_spoken_73 rfl ?_
      exact g_perm [2, 3, 4, 1, 5, 0] rfl (h w g K)
    · replace h := h.1 hc
      refine g_iconst K1 1 dX12_spoken_60 rfl ?_
      refine g_goto K1 65 dX12_spoken_61 rfl ?_
      refine g_iadd K1 dX12_spoken_65 ?_
      refine g_istore_n K1 dX12_spoken_66 rfl (by decide) rfl ?_
      refine g_iload K1 5 dX12_spoken_67 rfl ?_
      refine g_iconst K1 5 dX12_spoken_69 rfl ?_
      refine g_idiv K1 dX12_spoken_70 (by decide) ?_
      refine g_istore K1 dX12_spoken_71 (by decide) rfl ?_
      refine g_goto K1 46 dX12_spoken_73 rfl ?_
      exact g_perm [2, 3, 4, 1, 5, 0] rfl (h w g K)
theorem c0_X12_spoken {r : Option Value} {I I' : Nat → Nat → Int32} {L L' : Nat → Nat → Int64} {x1 : Int32} {x2 : Int32} (h : v_X12_spoken_0 r I' L' I L x1 x2) : q_C kX12_spoken [.ref 96, .int x1, .int x2] I L r I' L' := fun w l => q_ct (by decide) (Nat.le_of_ble_eq_true rfl) (Nat.le_refl _) (fun g _ K => h w g K)
abbrev v_X12_still_0 (r : Option Value) (I' : Nat → Nat → Int32) (L' : Nat → Nat → Int64) (I : Nat → Nat → Int32) (L : Nat → Nat → Int64)  : Prop := q_W kX12_still 0 [(0, .ref 96)] [] I L r I' L'
abbrev v_X12_still_15 (r : Option Value) (I' : Nat → Nat → Int32) (L' : Nat → Nat → Int64) (I : Nat → Nat → Int32) (L : Nat → Nat → Int64) (x1 : Int32) : Prop := q_W kX12_still 15 [(0, .ref 96), (1, .int x1)] [] I L r I' L'
set_option maxRecDepth 20000 in
set_option maxHeartbeats 2000000 in
theorem vc_X12_still_0 {r : Option Value} {I' : Nat → Nat → Int32} {L' : Nat → Nat → Int64} {I : Nat → Nat → Int32} {L : Nat → Nat → Int64}  (h : (∃ r1 I2, q_C kX12_asksNight [.ref 96] I L (some (.int r1)) I2 L ∧ ((r1 = 0 → (r = some (.int (-2)) ∧ I' = I2 ∧ L' = L)) ∧ (¬ r1 = 0 → (∃ r3, q_C kX12_hours [.ref 96] I2 L (some (.int r3)) I2 L ∧ (v_X12_still_15 r I' L' I2 L r3)))))) : v_X12_still_0 r I' L' I L  := by
  intro w g K
  have K1 := K.1
  refine g_aload_n K1 0 dX12_still_0 rfl ?_
  obtain ⟨r1, I2, hct, h⟩ := h
  refine h_callV K1 (st := []) [] (hct w (gl g)) q_clX12 lyp_96 rfl ok_X12_asksNight ml_X12_303 ⟨Nat.le_of_ble_eq_true rfl, Nat.le_of_ble_eq_true rfl⟩ (Nat.le_of_ble_eq_true rfl) dX12_still_1 ?_
  show q_Gs w g 4 [(0, .ref 96)] [.int r1] (q_mm I2 L)
  refine g_if_ne K1 10 dX12_still_4 rfl (fun hc => ?_) (fun hc => ?_)
  · replace h := h.2 hc
    refine g_aload_n K1 0 dX12_still_10 rfl ?_
    obtain ⟨r3, hct, h⟩ := h
    refine h_callV K1 (st := []) [] (hct w (gl g)) q_clX12 lyp_96 rfl ok_X12_hours ml_X12_82 ⟨Nat.le_of_ble_eq_true rfl, Nat.le_of_ble_eq_true rfl⟩ (Nat.le_of_ble_eq_true rfl) dX12_still_11 ?_
    show q_Gs w g 14 [(0, .ref 96)] [.int r3] (q_mm I2 L)
    refine g_istore_n K1 dX12_still_14 rfl (by decide) rfl ?_
    exact g_perm [1, 0] rfl (h w g K)
  · replace h := h.1 hc
    refine g_bipush K1 (-2) dX12_still_7 rfl ?_
    obtain ⟨hr, hI, hL⟩ := h
    subst hr hI hL
    exact g_ireturn K rfl dX12_still_9
set_option maxRecDepth 20000 in
set_option maxHeartbeats 2000000 in
theorem vc_X12_still_15 {r : Option Value} {I' : Nat → Nat → Int32} {L' : Nat → Nat → Int64} {I : Nat → Nat → Int32} {L : Nat → Nat → Int64} {x1 : Int32} (h : ((x1 ≤ 0 → (r = some (.int x1) ∧ I' = I ∧ L' = L)) ∧ (¬ x1 ≤ 0 → (∃ r1, q_C kX12_turnedAt [.ref 96, .int x1] I L (some (.int r1)) I L ∧ ((r1 = 0 → (v_X12_still_15 r I' L' I L (x1 + (-1)))) ∧ (¬ r1 = 0 → (r = some (.int x1) ∧ I' = I ∧ L' = L))))))) : v_X12_still_15 r I' L' I L x1 := by
  intro w g K
  have K1 := K.1
  refine g_iload_n K1 1 dX12_still_15 rfl ?_
  refine g_if_le K1 33 dX12_still_16 rfl (fun hc => ?_) (fun hc => ?_)
  · replace h := h.1 hc
    refine g_iload_n K1 1 dX12_still_33 rfl ?_
    obtain ⟨hr, hI, hL⟩ := h
    subst hr hI hL
    exact g_ireturn K rfl dX12_still_34
  · replace h := h.2 hc
    refine g_aload_n K1 0 dX12_still_19 rfl ?_
    refine g_iload_n K1 1 dX12_still_20 rfl ?_
    obtain ⟨r1, hct, h⟩ := h
    refine h_callV K1 (st := []) [.int x1] (hct w (gl g)) q_clX12 lyp_96 rfl ok_X12_turnedAt ml_X12_328 ⟨Nat.le_of_ble_eq_true rfl, Nat.le_of_ble_eq_true rfl⟩ (Nat.le_of_ble_eq_true rfl) dX12_still_21 ?_
    show q_Gs w g 24 [(0, .ref 96), (1, .int x1)] [.int r1] (q_mm I L)
    refine g_if_ne K1 33 dX12_still_24 rfl (fun hc => ?_) (fun hc => ?_)
    · replace h := h.2 hc
      refine g_iload_n K1 1 dX12_still_33 rfl ?_
      obtain ⟨hr, hI, hL⟩ := h
      subst hr hI hL
      exact g_ireturn K rfl dX12_still_34
    · replace h := h.1 hc
      refine g_iinc K1 (x1 + (-1)) 1 dX12_still_27 rfl rfl (by decide) rfl ?_
      refine g_goto K1 15 dX12_still_30 rfl ?_
      exact g_perm [1, 0] rfl (h w g K)
theorem c0_X12_still {r : Option Value} {I I' : Nat → Nat → Int32} {L L' : Nat → Nat → Int64}  (h : v_X12_still_0 r I' L' I L ) : q_C kX12_still [.ref 96] I L r I' L' := fun w l => q_ct (by decide) (Nat.le_of_ble_eq_true rfl) (Nat.le_refl _) (fun g _ K => h w g K)
abbrev v_X12_takes_0 (r : Option Value) (I' : Nat → Nat → Int32) (L' : Nat → Nat → Int64) (I : Nat → Nat → Int32) (L : Nat → Nat → Int64) (x1 : Nat) : Prop := q_W kX12_takes 0 [(0, .ref 96), (1, .ref x1)] [] I L r I' L'
set_option maxRecDepth 20000 in
set_option maxHeartbeats 2000000 in
theorem vc_X12_takes_0 {r : Option Value} {I' : Nat → Nat → Int32} {L' : Nat → Nat → Int64} {I : Nat → Nat → Int32} {L : Nat → Nat → Int64} {x1 : Nat} (h : (∃ r1, q_C kX12_is [.ref 96, .ref x1] I L (some (.int r1)) I L ∧ ((r1 = 0 → ((r1 = 0 ∨ r1 = 1) ∧ (r = some (.int r1) ∧ I' = I ∧ L' = L))) ∧ (¬ r1 = 0 → (∃ I2, q_C kX12_advance [.ref 96] I L none I2 L ∧ ((r1 = 0 ∨ r1 = 1) ∧ (r = some (.int r1) ∧ I' = I2 ∧ L' = L))))))) : v_X12_takes_0 r I' L' I L x1 := by
  intro w g K
  have K1 := K.1
  refine g_aload_n K1 0 dX12_takes_0 rfl ?_
  refine g_aload_n K1 1 dX12_takes_1 rfl ?_
  obtain ⟨r1, hct, h⟩ := h
  refine h_callV K1 (st := []) [.ref x1] (hct w (gl g)) q_clX12 lyp_96 rfl ok_X12_is ml_X12_137 ⟨Nat.le_of_ble_eq_true rfl, Nat.le_of_ble_eq_true rfl⟩ (Nat.le_of_ble_eq_true rfl) dX12_takes_2 ?_
  show q_Gs w g 5 [(0, .ref 96), (1, .ref x1)] [.int r1] (q_mm I L)
  refine g_istore_n K1 dX12_takes_5 rfl (by decide) rfl ?_
  refine g_iload_n K1 0 dX12_takes_6 rfl ?_
  refine g_if_eq K1 14 dX12_takes_7 rfl (fun hc => ?_) (fun hc => ?_)
  · replace h := h.1 hc
    refine g_iload_n K1 0 dX12_takes_14 rfl ?_
    obtain ⟨hz, h⟩ := h
    obtain ⟨hr, hI, hL⟩ := h
    subst hr hI hL
    exact g_zreturn K rfl (narZ hz) dX12_takes_15
  · replace h := h.2 hc
    refine g_aload_n K1 1 dX12_takes_10 rfl ?_
    obtain ⟨I2, hct, h⟩ := h
    refine h_callV K1 (st := []) [] (hct w (gl g)) q_clX12 lyp_96 rfl ok_X12_advance ml_X12_141 ⟨Nat.le_of_ble_eq_true rfl, Nat.le_of_ble_eq_true rfl⟩ (Nat.le_of_ble_eq_true rfl) dX12_takes_11 ?_
    show q_Gs w g 14 [(2, .int r1), (0, .ref 96), (1, .ref x1)] [] (q_mm I2 L)
    refine g_iload_n K1 0 dX12_takes_14 rfl ?_
    obtain ⟨hz, h⟩ := h
    obtain ⟨hr, hI, hL⟩ := h
    subst hr hI hL
    exact g_zreturn K rfl (narZ hz) dX12_takes_15
theorem c0_X12_takes {r : Option Value} {I I' : Nat → Nat → Int32} {L L' : Nat → Nat → Int64} {x1 : Nat} (h : v_X12_takes_0 r I' L' I L x1) : q_C kX12_takes [.ref 96, .ref x1] I L r I' L' := fun w l => q_ct (by decide) (Nat.le_of_ble_eq_true rfl) (Nat.le_refl _) (fun g _ K => h w g K)
abbrev v_X12_taught_0 (r : Option Value) (I' : Nat → Nat → Int32) (L' : Nat → Nat → Int64) (I : Nat → Nat → Int32) (L : Nat → Nat → Int64) (x1 : Int32) : Prop := q_W kX12_taught 0 [(0, .ref 96), (1, .int x1)] [] I L r I' L'
abbrev v_X12_taught_15 (r : Option Value) (I' : Nat → Nat → Int32) (L' : Nat → Nat → Int64) (I : Nat → Nat → Int32) (L : Nat → Nat → Int64) (x1 : Int32) (x2 : Int32) (x3 : Int32) : Prop := q_W kX12_taught 15 [(0, .ref 96), (1, .int x1), (2, .int x2), (3, .int x3)] [] I L r I' L'
abbrev v_X12_taught_26 (r : Option Value) (I' : Nat → Nat → Int32) (L' : Nat → Nat → Int64) (I : Nat → Nat → Int32) (L : Nat → Nat → Int64) (x1 : Int32) (x2 : Int32) (x3 : Int32) (x4 : Int32) : Prop := q_W kX12_taught 26 [(0, .ref 96), (1, .int x1), (2, .int x2), (3, .int x3), (4, .int x4)] [] I L r I' L'
set_option maxRecDepth 20000 in
set_option maxHeartbeats 2000000 in
theorem vc_X12_taught_0 {r : Option Value} {I' : Nat → Nat → Int32} {L' : Nat → Nat → Int64} {I : Nat → Nat → Int32} {L : Nat → Nat → Int64} {x1 : Int32} (h : (∃ r1 I2, q_C kX12_asksPew [.ref 96, .int x1] I L (some (.int r1)) I2 L ∧ ((r1 = 0 → (r = some (.int (-2)) ∧ I' = I2 ∧ L' = L)) ∧ (¬ r1 = 0 → (v_X12_taught_15 r I' L' I2 L x1 0 0))))) : v_X12_taught_0 r I' L' I L x1 := by
  intro w g K
  have K1 := K.1
  refine g_aload_n K1 0 dX12_taught_0 rfl ?_
  refine g_iload_n K1 1 dX12_taught_1 rfl ?_
  obtain ⟨r1, I2, hct, h⟩ := h
  refine h_callV K1 (st := []) [.int x1] (hct w (gl g)) q_clX12 lyp_96 rfl ok_X12_asksPew ml_X12_322 ⟨Nat.le_of_ble_eq_true rfl, Nat.le_of_ble_eq_true rfl⟩ (Nat.le_of_ble_eq_true rfl) dX12_taught_2 ?_
  show q_Gs w g 5 [(0, .ref 96), (1, .int x1)] [.int r1] (q_mm I2 L)
  refine g_if_ne K1 11 dX12_taught_5 rfl (fun hc => ?_) (fun hc => ?_)
  · replace h := h.2 hc
    refine g_iconst K1 0 dX12_taught_11 rfl ?_
    refine g_istore_n K1 dX12_taught_12 rfl (by decide) rfl ?_
    refine g_iconst K1 0 dX12_taught_13 rfl ?_
    refine g_istore_n K1 dX12_taught_14 rfl (by decide) rfl ?_
    exact g_perm [2, 3, 1, 0] rfl (h w g K)
  · replace h := h.1 hc
    refine g_bipush K1 (-2) dX12_taught_8 rfl ?_
    obtain ⟨hr, hI, hL⟩ := h
    subst hr hI hL
    exact g_ireturn K rfl dX12_taught_10
set_option maxRecDepth 20000 in
set_option maxHeartbeats 2000000 in
theorem vc_X12_taught_15 {r : Option Value} {I' : Nat → Nat → Int32} {L' : Nat → Nat → Int64} {I : Nat → Nat → Int32} {L : Nat → Nat → Int64} {x1 : Int32} {x2 : Int32} {x3 : Int32} (h : (∃ r1, q_C kX12_hours [.ref 96] I L (some (.int r1)) I L ∧ ((r1 < x3 → (r = some (.int x2) ∧ I' = I ∧ L' = L)) ∧ (¬ r1 < x3 → (v_X12_taught_26 r I' L' I L x1 x2 x3 0))))) : v_X12_taught_15 r I' L' I L x1 x2 x3 := by
  intro w g K
  have K1 := K.1
  refine g_iload_n K1 3 dX12_taught_15 rfl ?_
  refine g_aload_n K1 0 dX12_taught_16 rfl ?_
  obtain ⟨r1, hct, h⟩ := h
  refine h_callV K1 (st := [.int x3]) [] (hct w (gl g)) q_clX12 lyp_96 rfl ok_X12_hours ml_X12_82 ⟨Nat.le_of_ble_eq_true rfl, Nat.le_of_ble_eq_true rfl⟩ (Nat.le_of_ble_eq_true rfl) dX12_taught_17 ?_
  show q_Gs w g 20 [(0, .ref 96), (1, .int x1), (2, .int x2), (3, .int x3)] [.int r1, .int x3] (q_mm I L)
  refine g_icmp_gt K1 74 dX12_taught_20 rfl (fun hc => ?_) (fun hc => ?_)
  · replace h := h.1 hc
    refine g_iload_n K1 2 dX12_taught_74 rfl ?_
    obtain ⟨hr, hI, hL⟩ := h
    subst hr hI hL
    exact g_ireturn K rfl dX12_taught_75
  · replace h := h.2 hc
    refine g_iconst K1 0 dX12_taught_23 rfl ?_
    refine g_istore K1 dX12_taught_24 (by decide) rfl ?_
    exact g_perm [1, 2, 3, 4, 0] rfl (h w g K)
set_option maxRecDepth 20000 in
set_option maxHeartbeats 2000000 in
theorem vc_X12_taught_26 {r : Option Value} {I' : Nat → Nat → Int32} {L' : Nat → Nat → Int64} {I : Nat → Nat → Int32} {L : Nat → Nat → Int64} {x1 : Int32} {x2 : Int32} {x3 : Int32} {x4 : Int32} (h : (∃ r1, q_C kX12_pews [.ref 96] I L (some (.int r1)) I L ∧ ((r1 ≤ x4 → (v_X12_taught_15 r I' L' I L x1 x2 (x3 + 1))) ∧ (¬ r1 ≤ x4 → (vp_in ((7 * x3) + x4) 91 ∧ (((I 104 (((7 * x3) + x4) : Int32).toNatClampNeg) = x1 → (v_X12_taught_26 r I' L' I L x1 (x2 ||| ((1 : Int32) <<< (x4 &&& 31))) x3 (x4 + 1))) ∧ (¬ (I 104 (((7 * x3) + x4) : Int32).toNatClampNeg) = x1 → (v_X12_taught_26 r I' L' I L x1 (x2 ||| 0) x3 (x4 + 1))))))))) : v_X12_taught_26 r I' L' I L x1 x2 x3 x4 := by
  intro w g K
  have K1 := K.1
  refine g_iload K1 4 dX12_taught_26 rfl ?_
  refine g_aload_n K1 0 dX12_taught_28 rfl ?_
  obtain ⟨r1, hct, h⟩ := h
  refine h_callV K1 (st := [.int x4]) [] (hct w (gl g)) q_clX12 lyp_96 rfl ok_X12_pews ml_X12_74 ⟨Nat.le_of_ble_eq_true rfl, Nat.le_of_ble_eq_true rfl⟩ (Nat.le_of_ble_eq_true rfl) dX12_taught_29 ?_
  show q_Gs w g 32 [(0, .ref 96), (1, .int x1), (2, .int x2), (3, .int x3), (4, .int x4)] [.int r1, .int x4] (q_mm I L)
  refine g_icmp_ge K1 68 dX12_taught_32 rfl (fun hc => ?_) (fun hc => ?_)
  · replace h := h.1 hc
    refine g_iinc K1 (x3 + 1) 3 dX12_taught_68 rfl rfl (by decide) rfl ?_
    refine g_goto K1 15 dX12_taught_71 rfl ?_
    exact g_perm [1, 2, 3, 0] rfl (h w g K)
  · replace h := h.2 hc
    refine g_iload_n K1 2 dX12_taught_35 rfl ?_
    refine g_aload_n K1 0 dX12_taught_36 rfl ?_
    refine h_getO K1 q_clX12 25 104 lyp_96 fkX12_25 rfl fl_X12_37 dX12_taught_37 ?_
    refine g_bipush K1 7 dX12_taught_40 rfl ?_
    refine g_iload_n K1 3 dX12_taught_42 rfl ?_
    refine g_imul K1 dX12_taught_43 ?_
    refine g_iload K1 4 dX12_taught_44 rfl ?_
    refine g_iadd K1 dX12_taught_46 ?_
    obtain ⟨hg, h⟩ := h
    refine h_iaload K1 lyp_104 hg dX12_taught_47 ?_
    refine g_iload_n K1 1 dX12_taught_48 rfl ?_
    refine g_icmp_ne K1 59 dX12_taught_49 rfl (fun hc => ?_) (fun hc => ?_)
    · replace h := h.2 hc
      refine g_iconst K1 0 dX12_taught_59 rfl ?_
      refine g_ior K1 dX12_taught_60 ?_
      refine g_istore_n K1 dX12_taught_61 rfl (by decide) rfl ?_
      refine g_iinc K1 (x4 + 1) 4 dX12_taught_62 rfl rfl (by decide) rfl ?_
      refine g_goto K1 26 dX12_taught_65 rfl ?_
      exact g_perm [2, 3, 1, 4, 0] rfl (h w g K)
    · replace h := h.1 hc
      refine g_iconst K1 1 dX12_taught_52 rfl ?_
      refine g_iload K1 4 dX12_taught_53 rfl ?_
      refine g_ishl K1 dX12_taught_55 ?_
      refine g_goto K1 60 dX12_taught_56 rfl ?_
      refine g_ior K1 dX12_taught_60 ?_
      refine g_istore_n K1 dX12_taught_61 rfl (by decide) rfl ?_
      refine g_iinc K1 (x4 + 1) 4 dX12_taught_62 rfl rfl (by decide) rfl ?_
      refine g_goto K1 26 dX12_taught_65 rfl ?_
      exact g_perm [2, 3, 1, 4, 0] rfl (h w g K)
theorem c0_X12_taught {r : Option Value} {I I' : Nat → Nat → Int32} {L L' : Nat → Nat → Int64} {x1 : Int32} (h : v_X12_taught_0 r I' L' I L x1) : q_C kX12_taught [.ref 96, .int x1] I L r I' L' := fun w l => q_ct (by decide) (Nat.le_of_ble_eq_true rfl) (Nat.le_refl _) (fun g _ K => h w g K)
abbrev v_X12_told_0 (r : Option Value) (I' : Nat → Nat → Int32) (L' : Nat → Nat → Int64) (I : Nat → Nat → Int32) (L : Nat → Nat → Int64) (x1 : Int32) (x2 : Int32) : Prop := q_W kX12_told 0 [(0, .ref 96), (1, .int x1), (2, .int x2)] [] I L r I' L'
set_option maxRecDepth 20000 in
set_option maxHeartbeats 2000000 in
theorem vc_X12_told_0 {r : Option Value} {I' : Nat → Nat → Int32} {L' : Nat → Nat → Int64} {I : Nat → Nat → Int32} {L : Nat → Nat → Int64} {x1 : Int32} {x2 : Int32} (h : (vp_in 5 104 ∧ (∃ r1, q_C kX12_in [.long x1.toInt64, .long 0, .long (((I 97 (5 : Int32).toNatClampNeg) - 1) : Int32).toInt64] I L (some (.int r1)) I L ∧ ((r1 = 0 → (r = some (.int (-2)) ∧ I' = I ∧ L' = L)) ∧ (¬ r1 = 0 → ((0 ≤ x2 → (vp_in ((54 + (2 * x1)) + 1) 104 ∧ (∃ r2, q_C kX12_letterOrNone [.int (I 97 (((54 + (2 * x1)) + 1) : Int32).toNatClampNeg), .int x2] I L (some (.int r2)) I L ∧ (r = some (.int r2) ∧ I' = I ∧ L' = L)))) ∧ (¬ 0 ≤ x2 → (r = some (.int (-1)) ∧ I' = I ∧ L' = L)))))))) : v_X12_told_0 r I' L' I L x1 x2 := by
  intro w g K
  have K1 := K.1
  refine g_iload_n K1 1 dX12_told_0 rfl ?_
  refine g_i2l K1 dX12_told_1 ?_
  refine g_lconst K1 0 dX12_told_2 rfl ?_
  refine g_aload_n K1 0 dX12_told_3 rfl ?_
  refine h_getO K1 q_clX12 1 97 lyp_96 fkX12_1 rfl fl_X12_9 dX12_told_4 ?_
  refine g_iconst K1 5 dX12_told_7 rfl ?_
  obtain ⟨hg, h⟩ := h
  refine h_iaload K1 lyp_97 hg dX12_told_8 ?_
  refine g_iconst K1 1 dX12_told_9 rfl ?_
  refine g_isub K1 dX12_told_10 ?_
  refine g_i2l K1 dX12_told_11 ?_
  obtain ⟨r1, hct, h⟩ := h
  refine h_callS K1 (st := []) [.long x1.toInt64, .long 0, .long (((I 97 (5 : Int32).toNatClampNeg) - 1) : Int32).toInt64] (hct w (gl g)) ok_X12_in ml_X12_70 ⟨Nat.le_of_ble_eq_true rfl, Nat.le_of_ble_eq_true rfl⟩ (Nat.le_of_ble_eq_true rfl) dX12_told_12 ?_
  show q_Gs w g 15 [(0, .ref 96), (1, .int x1), (2, .int x2)] [.int r1] (q_mm I L)
  refine g_if_ne K1 21 dX12_told_15 rfl (fun hc => ?_) (fun hc => ?_)
  · replace h := h.2 hc
    refine g_iload_n K1 2 dX12_told_21 rfl ?_
    refine g_if_ge K1 29 dX12_told_22 rfl (fun hc => ?_) (fun hc => ?_)
    · replace h := h.1 hc
      refine g_aload_n K1 0 dX12_told_29 rfl ?_
      refine h_getO K1 q_clX12 1 97 lyp_96 fkX12_1 rfl fl_X12_9 dX12_told_30 ?_
      refine g_bipush K1 54 dX12_told_33 rfl ?_
      refine g_iconst K1 2 dX12_told_35 rfl ?_
      refine g_iload_n K1 1 dX12_told_36 rfl ?_
      refine g_imul K1 dX12_told_37 ?_
      refine g_iadd K1 dX12_told_38 ?_
      refine g_iconst K1 1 dX12_told_39 rfl ?_
      refine g_iadd K1 dX12_told_40 ?_
      obtain ⟨hg, h⟩ := h
      refine h_iaload K1 lyp_97 hg dX12_told_41 ?_
      refine g_iload_n K1 2 dX12_told_42 rfl ?_
      obtain ⟨r2, hct, h⟩ := h
      refine h_callS K1 (st := []) [.int (I 97 (((54 + (2 * x1)) + 1) : Int32).toNatClampNeg), .int x2] (hct w (gl g)) ok_X12_letterOrNone ml_X12_231 ⟨Nat.le_of_ble_eq_true rfl, Nat.le_of_ble_eq_true rfl⟩ (Nat.le_of_ble_eq_true rfl) dX12_told_43 ?_
      show q_Gs w g 46 [(0, .ref 96), (1, .int x1), (2, .int x2)] [.int r2] (q_mm I L)
      obtain ⟨hr, hI, hL⟩ := h
      subst hr hI hL
      exact g_ireturn K rfl dX12_told_46
    · replace h := h.2 hc
      refine g_iconst K1 (-1) dX12_told_25 rfl ?_
      refine g_goto K1 46 dX12_told_26 rfl ?_
      obtain ⟨hr, hI, hL⟩ := h
      subst hr hI hL
      exact g_ireturn K rfl dX12_told_46
  · replace h := h.1 hc
    refine g_bipush K1 (-2) dX12_told_18 rfl ?_
    obtain ⟨hr, hI, hL⟩ := h
    subst hr hI hL
    exact g_ireturn K rfl dX12_told_20
theorem c0_X12_told {r : Option Value} {I I' : Nat → Nat → Int32} {L L' : Nat → Nat → Int64} {x1 : Int32} {x2 : Int32} (h : v_X12_told_0 r I' L' I L x1 x2) : q_C kX12_told [.ref 96, .int x1, .int x2] I L r I' L' := fun w l => q_ct (by decide) (Nat.le_of_ble_eq_true rfl) (Nat.le_refl _) (fun g _ K => h w g K)
abbrev v_X12_toldBy_0 (r : Option Value) (I' : Nat → Nat → Int32) (L' : Nat → Nat → Int64) (I : Nat → Nat → Int32) (L : Nat → Nat → Int64) (x1 : Nat) (x2 : Int32) (x3 : Int32) : Prop := q_W kX12_toldBy 0 [(0, .ref 96), (1, .ref x1), (2, .int x2), (3, .int x3)] [] I L r I' L'
set_option maxRecDepth 20000 in
set_option maxHeartbeats 2000000 in
theorem vc_X12_toldBy_0 {r : Option Value} {I' : Nat → Nat → Int32} {L' : Nat → Nat → Int64} {I : Nat → Nat → Int32} {L : Nat → Nat → Int64} {x1 : Nat} {x2 : Int32} {x3 : Int32} (h : (∃ I1, q_C kX12_expects [.ref 96, .ref x1] I L none I1 L ∧ (∃ r2 I3, q_C kX12_number [.ref 96, .int x2, .int x3] I1 L (some (.int r2)) I3 L ∧ (r = some (.int r2) ∧ I' = I3 ∧ L' = L)))) : v_X12_toldBy_0 r I' L' I L x1 x2 x3 := by
  intro w g K
  have K1 := K.1
  refine g_aload_n K1 0 dX12_toldBy_0 rfl ?_
  refine g_aload_n K1 1 dX12_toldBy_1 rfl ?_
  obtain ⟨I1, hct, h⟩ := h
  refine h_callV K1 (st := []) [.ref x1] (hct w (gl g)) q_clX12 lyp_96 rfl ok_X12_expects ml_X12_151 ⟨Nat.le_of_ble_eq_true rfl, Nat.le_of_ble_eq_true rfl⟩ (Nat.le_of_ble_eq_true rfl) dX12_toldBy_2 ?_
  show q_Gs w g 5 [(0, .ref 96), (1, .ref x1), (2, .int x2), (3, .int x3)] [] (q_mm I1 L)
  refine g_aload_n K1 0 dX12_toldBy_5 rfl ?_
  refine g_iload_n K1 2 dX12_toldBy_6 rfl ?_
  refine g_iload_n K1 3 dX12_toldBy_7 rfl ?_
  obtain ⟨r2, I3, hct, h⟩ := h
  refine h_callV K1 (st := []) [.int x2, .int x3] (hct w (gl g)) q_clX12 lyp_96 rfl ok_X12_number ml_X12_155 ⟨Nat.le_of_ble_eq_true rfl, Nat.le_of_ble_eq_true rfl⟩ (Nat.le_of_ble_eq_true rfl) dX12_toldBy_8 ?_
  show q_Gs w g 11 [(0, .ref 96), (1, .ref x1), (2, .int x2), (3, .int x3)] [.int r2] (q_mm I3 L)
  obtain ⟨hr, hI, hL⟩ := h
  subst hr hI hL
  exact g_ireturn K rfl dX12_toldBy_11
theorem c0_X12_toldBy {r : Option Value} {I I' : Nat → Nat → Int32} {L L' : Nat → Nat → Int64} {x1 : Nat} {x2 : Int32} {x3 : Int32} (h : v_X12_toldBy_0 r I' L' I L x1 x2 x3) : q_C kX12_toldBy [.ref 96, .ref x1, .int x2, .int x3] I L r I' L' := fun w l => q_ct (by decide) (Nat.le_of_ble_eq_true rfl) (Nat.le_refl _) (fun g _ K => h w g K)
abbrev v_X12_turned_0 (r : Option Value) (I' : Nat → Nat → Int32) (L' : Nat → Nat → Int64) (I : Nat → Nat → Int32) (L : Nat → Nat → Int64) (x1 : Int32) : Prop := q_W kX12_turned 0 [(0, .ref 96), (1, .int x1)] [] I L r I' L'
set_option maxRecDepth 20000 in
set_option maxHeartbeats 2000000 in
theorem vc_X12_turned_0 {r : Option Value} {I' : Nat → Nat → Int32} {L' : Nat → Nat → Int64} {I : Nat → Nat → Int32} {L : Nat → Nat → Int64} {x1 : Int32} (h : (∃ r1 I2, q_C kX12_asksHour [.ref 96, .int x1] I L (some (.int r1)) I2 L ∧ ((r1 = 0 → (r = some (.int (-2)) ∧ I' = I2 ∧ L' = L)) ∧ (¬ r1 = 0 → (∃ r3, q_C kX12_turnedAt [.ref 96, .int x1] I2 L (some (.int r3)) I2 L ∧ (r = some (.int r3) ∧ I' = I2 ∧ L' = L)))))) : v_X12_turned_0 r I' L' I L x1 := by
  intro w g K
  have K1 := K.1
  refine g_aload_n K1 0 dX12_turned_0 rfl ?_
  refine g_iload_n K1 1 dX12_turned_1 rfl ?_
  obtain ⟨r1, I2, hct, h⟩ := h
  refine h_callV K1 (st := []) [.int x1] (hct w (gl g)) q_clX12 lyp_96 rfl ok_X12_asksHour ml_X12_318 ⟨Nat.le_of_ble_eq_true rfl, Nat.le_of_ble_eq_true rfl⟩ (Nat.le_of_ble_eq_true rfl) dX12_turned_2 ?_
  show q_Gs w g 5 [(0, .ref 96), (1, .int x1)] [.int r1] (q_mm I2 L)
  refine g_if_eq K1 16 dX12_turned_5 rfl (fun hc => ?_) (fun hc => ?_)
  · replace h := h.1 hc
    refine g_bipush K1 (-2) dX12_turned_16 rfl ?_
    obtain ⟨hr, hI, hL⟩ := h
    subst hr hI hL
    exact g_ireturn K rfl dX12_turned_18
  · replace h := h.2 hc
    refine g_aload_n K1 0 dX12_turned_8 rfl ?_
    refine g_iload_n K1 1 dX12_turned_9 rfl ?_
    obtain ⟨r3, hct, h⟩ := h
    refine h_callV K1 (st := []) [.int x1] (hct w (gl g)) q_clX12 lyp_96 rfl ok_X12_turnedAt ml_X12_328 ⟨Nat.le_of_ble_eq_true rfl, Nat.le_of_ble_eq_true rfl⟩ (Nat.le_of_ble_eq_true rfl) dX12_turned_10 ?_
    show q_Gs w g 13 [(0, .ref 96), (1, .int x1)] [.int r3] (q_mm I2 L)
    refine g_goto K1 18 dX12_turned_13 rfl ?_
    obtain ⟨hr, hI, hL⟩ := h
    subst hr hI hL
    exact g_ireturn K rfl dX12_turned_18
theorem c0_X12_turned {r : Option Value} {I I' : Nat → Nat → Int32} {L L' : Nat → Nat → Int64} {x1 : Int32} (h : v_X12_turned_0 r I' L' I L x1) : q_C kX12_turned [.ref 96, .int x1] I L r I' L' := fun w l => q_ct (by decide) (Nat.le_of_ble_eq_true rfl) (Nat.le_refl _) (fun g _ K => h w g K)
abbrev v_X12_turnedAt_0 (r : Option Value) (I' : Nat → Nat → Int32) (L' : Nat → Nat → Int64) (I : Nat → Nat → Int32) (L : Nat → Nat → Int64) (x1 : Int32) : Prop := q_W kX12_turnedAt 0 [(0, .ref 96), (1, .int x1)] [] I L r I' L'
abbrev v_X12_turnedAt_14 (r : Option Value) (I' : Nat → Nat → Int32) (L' : Nat → Nat → Int64) (I : Nat → Nat → Int32) (L : Nat → Nat → Int64) (x1 : Int32) (x2 : Int32) (x3 : Int32) : Prop := q_W kX12_turnedAt 14 [(0, .ref 96), (1, .int x1), (2, .int x2), (3, .int x3)] [] I L r I' L'
set_option maxRecDepth 20000 in
set_option maxHeartbeats 2000000 in
theorem vc_X12_turnedAt_0 {r : Option Value} {I' : Nat → Nat → Int32} {L' : Nat → Nat → Int64} {I : Nat → Nat → Int32} {L : Nat → Nat → Int64} {x1 : Int32} (h : ((x1 = 0 → (∃ r1, q_C kX12_litAt [.ref 96, .int 0] I L (some (.int r1)) I L ∧ (r = some (.int r1) ∧ I' = I ∧ L' = L))) ∧ (¬ x1 = 0 → (v_X12_turnedAt_14 r I' L' I L x1 0 0)))) : v_X12_turnedAt_0 r I' L' I L x1 := by
  intro w g K
  have K1 := K.1
  refine g_iload_n K1 1 dX12_turnedAt_0 rfl ?_
  refine g_if_ne K1 10 dX12_turnedAt_1 rfl (fun hc => ?_) (fun hc => ?_)
  · replace h := h.2 hc
    refine g_iconst K1 0 dX12_turnedAt_10 rfl ?_
    refine g_istore_n K1 dX12_turnedAt_11 rfl (by decide) rfl ?_
    refine g_iconst K1 0 dX12_turnedAt_12 rfl ?_
    refine g_istore_n K1 dX12_turnedAt_13 rfl (by decide) rfl ?_
    exact g_perm [2, 3, 1, 0] rfl (h w g K)
  · replace h := h.1 hc
    refine g_aload_n K1 0 dX12_turnedAt_4 rfl ?_
    refine g_iconst K1 0 dX12_turnedAt_5 rfl ?_
    obtain ⟨r1, hct, h⟩ := h
    refine h_callV K1 (st := []) [.int 0] (hct w (gl g)) q_clX12 lyp_96 rfl ok_X12_litAt ml_X12_309 ⟨Nat.le_of_ble_eq_true rfl, Nat.le_of_ble_eq_true rfl⟩ (Nat.le_of_ble_eq_true rfl) dX12_turnedAt_6 ?_
    show q_Gs w g 9 [(0, .ref 96), (1, .int x1)] [.int r1] (q_mm I L)
    obtain ⟨hr, hI, hL⟩ := h
    subst hr hI hL
    exact g_ireturn K rfl dX12_turnedAt_9
set_option maxRecDepth 20000 in
set_option maxHeartbeats 2000000 in
theorem vc_X12_turnedAt_14 {r : Option Value} {I' : Nat → Nat → Int32} {L' : Nat → Nat → Int64} {I : Nat → Nat → Int32} {L : Nat → Nat → Int64} {x1 : Int32} {x2 : Int32} {x3 : Int32} (h : (∃ r1, q_C kX12_pews [.ref 96] I L (some (.int r1)) I L ∧ ((r1 ≤ x3 → (r = some (.int x2) ∧ I' = I ∧ L' = L)) ∧ (¬ r1 ≤ x3 → (∃ r2, q_C kX12_saysOf [.ref 96, .int x3, .int x1] I L (some (.int r2)) I L ∧ (∃ r3, q_C kX12_saysOf [.ref 96, .int x3, .int (x1 - 1)] I L (some (.int r3)) I L ∧ ((r2 = r3 → (v_X12_turnedAt_14 r I' L' I L x1 (x2 ||| 0) (x3 + 1))) ∧ (¬ r2 = r3 → (v_X12_turnedAt_14 r I' L' I L x1 (x2 ||| ((1 : Int32) <<< (x3 &&& 31))) (x3 + 1)))))))))) : v_X12_turnedAt_14 r I' L' I L x1 x2 x3 := by
  intro w g K
  have K1 := K.1
  refine g_iload_n K1 3 dX12_turnedAt_14 rfl ?_
  refine g_aload_n K1 0 dX12_turnedAt_15 rfl ?_
  obtain ⟨r1, hct, h⟩ := h
  refine h_callV K1 (st := [.int x3]) [] (hct w (gl g)) q_clX12 lyp_96 rfl ok_X12_pews ml_X12_74 ⟨Nat.le_of_ble_eq_true rfl, Nat.le_of_ble_eq_true rfl⟩ (Nat.le_of_ble_eq_true rfl) dX12_turnedAt_16 ?_
  show q_Gs w g 19 [(0, .ref 96), (1, .int x1), (2, .int x2), (3, .int x3)] [.int r1, .int x3] (q_mm I L)
  refine g_icmp_ge K1 55 dX12_turnedAt_19 rfl (fun hc => ?_) (fun hc => ?_)
  · replace h := h.1 hc
    refine g_iload_n K1 2 dX12_turnedAt_55 rfl ?_
    obtain ⟨hr, hI, hL⟩ := h
    subst hr hI hL
    exact g_ireturn K rfl dX12_turnedAt_56
  · replace h := h.2 hc
    refine g_iload_n K1 2 dX12_turnedAt_22 rfl ?_
    refine g_aload_n K1 0 dX12_turnedAt_23 rfl ?_
    refine g_iload_n K1 3 dX12_turnedAt_24 rfl ?_
    refine g_iload_n K1 1 dX12_turnedAt_25 rfl ?_
    obtain ⟨r2, hct, h⟩ := h
    refine h_callV K1 (st := [.int x2]) [.int x3, .int x1] (hct w (gl g)) q_clX12 lyp_96 rfl ok_X12_saysOf ml_X12_275 ⟨Nat.le_of_ble_eq_true rfl, Nat.le_of_ble_eq_true rfl⟩ (Nat.le_of_ble_eq_true rfl) dX12_turnedAt_26 ?_
    show q_Gs w g 29 [(0, .ref 96), (1, .int x1), (2, .int x2), (3, .int x3)] [.int r2, .int x2] (q_mm I L)
    refine g_aload_n K1 0 dX12_turnedAt_29 rfl ?_
    refine g_iload_n K1 3 dX12_turnedAt_30 rfl ?_
    refine g_iload_n K1 1 dX12_turnedAt_31 rfl ?_
    refine g_iconst K1 1 dX12_turnedAt_32 rfl ?_
    refine g_isub K1 dX12_turnedAt_33 ?_
    obtain ⟨r3, hct, h⟩ := h
    refine h_callV K1 (st := [.int r2, .int x2]) [.int x3, .int (x1 - 1)] (hct w (gl g)) q_clX12 lyp_96 rfl ok_X12_saysOf ml_X12_275 ⟨Nat.le_of_ble_eq_true rfl, Nat.le_of_ble_eq_true rfl⟩ (Nat.le_of_ble_eq_true rfl) dX12_turnedAt_34 ?_
    show q_Gs w g 37 [(0, .ref 96), (1, .int x1), (2, .int x2), (3, .int x3)] [.int r3, .int r2, .int x2] (q_mm I L)
    refine g_icmp_eq K1 46 dX12_turnedAt_37 rfl (fun hc => ?_) (fun hc => ?_)
    · replace h := h.1 hc
      refine g_iconst K1 0 dX12_turnedAt_46 rfl ?_
      refine g_ior K1 dX12_turnedAt_47 ?_
      refine g_istore_n K1 dX12_turnedAt_48 rfl (by decide) rfl ?_
      refine g_iinc K1 (x3 + 1) 3 dX12_turnedAt_49 rfl rfl (by decide) rfl ?_
      refine g_goto K1 14 dX12_turnedAt_52 rfl ?_
      exact g_perm [2, 3, 1, 0] rfl (h w g K)
    · replace h := h.2 hc
      refine g_iconst K1 1 dX12_turnedAt_40 rfl ?_
      refine g_iload_n K1 3 dX12_turnedAt_41 rfl ?_
      refine g_ishl K1 dX12_turnedAt_42 ?_
      refine g_goto K1 47 dX12_turnedAt_43 rfl ?_
      refine g_ior K1 dX12_turnedAt_47 ?_
      refine g_istore_n K1 dX12_turnedAt_48 rfl (by decide) rfl ?_
      refine g_iinc K1 (x3 + 1) 3 dX12_turnedAt_49 rfl rfl (by decide) rfl ?_
      refine g_goto K1 14 dX12_turnedAt_52 rfl ?_
      exact g_perm [2, 3, 1, 0] rfl (h w g K)
theorem c0_X12_turnedAt {r : Option Value} {I I' : Nat → Nat → Int32} {L L' : Nat → Nat → Int64} {x1 : Int32} (h : v_X12_turnedAt_0 r I' L' I L x1) : q_C kX12_turnedAt [.ref 96, .int x1] I L r I' L' := fun w l => q_ct (by decide) (Nat.le_of_ble_eq_true rfl) (Nat.le_refl _) (fun g _ K => h w g K)
abbrev v_X12_undo_0 (r : Option Value) (I' : Nat → Nat → Int32) (L' : Nat → Nat → Int64) (I : Nat → Nat → Int32) (L : Nat → Nat → Int64)  : Prop := q_W kX12_undo 0 [(0, .ref 96)] [] I L r I' L'
set_option maxRecDepth 20000 in
set_option maxHeartbeats 2000000 in
theorem vc_X12_undo_0 {r : Option Value} {I' : Nat → Nat → Int32} {L' : Nat → Nat → Int64} {I : Nat → Nat → Int32} {L : Nat → Nat → Int64}  (h : (∃ r1, q_C kX12_isNight [.ref 96] I L (some (.int r1)) I L ∧ ((r1 = 0 → (r = some (.int (-2)) ∧ I' = I ∧ L' = L)) ∧ (¬ r1 = 0 → (vp_in 7 104 ∧ (((I 97 (7 : Int32).toNatClampNeg) = 0 → (r = some (.int (-5)) ∧ I' = I ∧ L' = L)) ∧ (¬ (I 97 (7 : Int32).toNatClampNeg) = 0 → (vp_in 7 104 ∧ (vp_in 7 104 ∧ ∀ I2, I2 = (up2 I 97 (7 : Int32).toNatClampNeg ((I 97 (7 : Int32).toNatClampNeg) - 1)) → (vp_in 7 104 ∧ (r = some (.int (I2 97 (7 : Int32).toNatClampNeg)) ∧ I' = I2 ∧ L' = L))))))))))) : v_X12_undo_0 r I' L' I L  := by
  intro w g K
  have K1 := K.1
  refine g_aload_n K1 0 dX12_undo_0 rfl ?_
  obtain ⟨r1, hct, h⟩ := h
  refine h_callV K1 (st := []) [] (hct w (gl g)) q_clX12 lyp_96 rfl ok_X12_isNight ml_X12_78 ⟨Nat.le_of_ble_eq_true rfl, Nat.le_of_ble_eq_true rfl⟩ (Nat.le_of_ble_eq_true rfl) dX12_undo_1 ?_
  show q_Gs w g 4 [(0, .ref 96)] [.int r1] (q_mm I L)
  refine g_if_ne K1 10 dX12_undo_4 rfl (fun hc => ?_) (fun hc => ?_)
  · replace h := h.2 hc
    refine g_aload_n K1 0 dX12_undo_10 rfl ?_
    refine h_getO K1 q_clX12 1 97 lyp_96 fkX12_1 rfl fl_X12_9 dX12_undo_11 ?_
    refine g_bipush K1 7 dX12_undo_14 rfl ?_
    obtain ⟨hg, h⟩ := h
    refine h_iaload K1 lyp_97 hg dX12_undo_16 ?_
    refine g_if_ne K1 23 dX12_undo_17 rfl (fun hc => ?_) (fun hc => ?_)
    · replace h := h.2 hc
      refine g_aload_n K1 0 dX12_undo_23 rfl ?_
      refine h_getO K1 q_clX12 1 97 lyp_96 fkX12_1 rfl fl_X12_9 dX12_undo_24 ?_
      refine g_bipush K1 7 dX12_undo_27 rfl ?_
      refine g_dup2 K1 dX12_undo_29 rfl rfl ?_
      obtain ⟨hg, h⟩ := h
      refine h_iaload K1 lyp_97 hg dX12_undo_30 ?_
      refine g_iconst K1 1 dX12_undo_31 rfl ?_
      refine g_isub K1 dX12_undo_32 ?_
      obtain ⟨hg, h⟩ := h
      refine h_iastore K1 lyp_97 hg dX12_undo_33 ?_
      refine g_nameMI (fun I2 hI2 => ?_)
      replace h := h I2 hI2
      refine g_aload_n K1 0 dX12_undo_34 rfl ?_
      refine h_getO K1 q_clX12 1 97 lyp_96 fkX12_1 rfl fl_X12_9 dX12_undo_35 ?_
      refine g_bipush K1 7 dX12_undo_38 rfl ?_
      obtain ⟨hg, h⟩ := h
      refine h_iaload K1 lyp_97 hg dX12_undo_40 ?_
      obtain ⟨hr, hI, hL⟩ := h
      subst hr hI hL
      exact g_ireturn K rfl dX12_undo_41
    · replace h := h.1 hc
      refine g_bipush K1 (-5) dX12_undo_20 rfl ?_
      obtain ⟨hr, hI, hL⟩ := h
      subst hr hI hL
      exact g_ireturn K rfl dX12_undo_22
  · replace h := h.1 hc
    refine g_bipush K1 (-2) dX12_undo_7 rfl ?_
    obtain ⟨hr, hI, hL⟩ := h
    subst hr hI hL
    exact g_ireturn K rfl dX12_undo_9
theorem c0_X12_undo {r : Option Value} {I I' : Nat → Nat → Int32} {L L' : Nat → Nat → Int64}  (h : v_X12_undo_0 r I' L' I L ) : q_C kX12_undo [.ref 96] I L r I' L' := fun w l => q_ct (by decide) (Nat.le_of_ble_eq_true rfl) (Nat.le_refl _) (fun g _ K => h w g K)
abbrev v_X12_ways_0 (r : Option Value) (I' : Nat → Nat → Int32) (L' : Nat → Nat → Int64) (I : Nat → Nat → Int32) (L : Nat → Nat → Int64) (x1 : Int32) (x2 : Int32) (x3 : Int32) : Prop := q_W kX12_ways 0 [(0, .ref 96), (1, .int x1), (2, .int x2), (3, .int x3)] [] I L r I' L'
set_option maxRecDepth 20000 in
set_option maxHeartbeats 2000000 in
theorem vc_X12_ways_0 {r : Option Value} {I' : Nat → Nat → Int32} {L' : Nat → Nat → Int64} {I : Nat → Nat → Int32} {L : Nat → Nat → Int64} {x1 : Int32} {x2 : Int32} {x3 : Int32} (h : (∃ r1 I2, q_C kX12_askFirst [.ref 96, .int x1, .int x2, .int x3] I L (some (.int r1)) I2 L ∧ ((0 ≤ r1 → (r = some (.int (I2 96 30)) ∧ I' = I2 ∧ L' = L)) ∧ (¬ 0 ≤ r1 → (r = some (.int r1) ∧ I' = I2 ∧ L' = L))))) : v_X12_ways_0 r I' L' I L x1 x2 x3 := by
  intro w g K
  have K1 := K.1
  refine g_aload_n K1 0 dX12_ways_0 rfl ?_
  refine g_iload_n K1 1 dX12_ways_1 rfl ?_
  refine g_iload_n K1 2 dX12_ways_2 rfl ?_
  refine g_iload_n K1 3 dX12_ways_3 rfl ?_
  obtain ⟨r1, I2, hct, h⟩ := h
  refine h_callV K1 (st := []) [.int x1, .int x2, .int x3] (hct w (gl g)) q_clX12 lyp_96 rfl ok_X12_askFirst ml_X12_374 ⟨Nat.le_of_ble_eq_true rfl, Nat.le_of_ble_eq_true rfl⟩ (Nat.le_of_ble_eq_true rfl) dX12_ways_4 ?_
  show q_Gs w g 7 [(0, .ref 96), (1, .int x1), (2, .int x2), (3, .int x3)] [.int r1] (q_mm I2 L)
  refine g_istore K1 dX12_ways_7 (by decide) rfl ?_
  refine g_iload K1 0 dX12_ways_9 rfl ?_
  refine g_if_ge K1 19 dX12_ways_11 rfl (fun hc => ?_) (fun hc => ?_)
  · replace h := h.1 hc
    refine g_aload_n K1 1 dX12_ways_19 rfl ?_
    refine h_getI K1 q_clX12 30 lyp_96 fkX12_30 fl_X12_365 dX12_ways_20 ?_
    obtain ⟨hr, hI, hL⟩ := h
    subst hr hI hL
    exact g_ireturn K rfl dX12_ways_23
  · replace h := h.2 hc
    refine g_iload K1 0 dX12_ways_14 rfl ?_
    refine g_goto K1 23 dX12_ways_16 rfl ?_
    obtain ⟨hr, hI, hL⟩ := h
    subst hr hI hL
    exact g_ireturn K rfl dX12_ways_23
theorem c0_X12_ways {r : Option Value} {I I' : Nat → Nat → Int32} {L L' : Nat → Nat → Int64} {x1 : Int32} {x2 : Int32} {x3 : Int32} (h : v_X12_ways_0 r I' L' I L x1 x2 x3) : q_C kX12_ways [.ref 96, .int x1, .int x2, .int x3] I L r I' L' := fun w l => q_ct (by decide) (Nat.le_of_ble_eq_true rfl) (Nat.le_refl _) (fun g _ K => h w g K)
abbrev v_X12_when_0 (r : Option Value) (I' : Nat → Nat → Int32) (L' : Nat → Nat → Int64) (I : Nat → Nat → Int32) (L : Nat → Nat → Int64) (x1 : Int32) : Prop := q_W kX12_when 0 [(0, .ref 96), (1, .int x1)] [] I L r I' L'
abbrev v_X12_when_13 (r : Option Value) (I' : Nat → Nat → Int32) (L' : Nat → Nat → Int64) (I : Nat → Nat → Int32) (L : Nat → Nat → Int64) (x1 : Int32) (x2 : Int32) : Prop := q_W kX12_when 13 [(0, .ref 96), (1, .int x1), (2, .int x2)] [] I L r I' L'
set_option maxRecDepth 20000 in
set_option maxHeartbeats 2000000 in
theorem vc_X12_when_0 {r : Option Value} {I' : Nat → Nat → Int32} {L' : Nat → Nat → Int64} {I : Nat → Nat → Int32} {L : Nat → Nat → Int64} {x1 : Int32} (h : (∃ r1 I2, q_C kX12_asksPew [.ref 96, .int x1] I L (some (.int r1)) I2 L ∧ ((r1 = 0 → (r = some (.int (-2)) ∧ I' = I2 ∧ L' = L)) ∧ (¬ r1 = 0 → (v_X12_when_13 r I' L' I2 L x1 0))))) : v_X12_when_0 r I' L' I L x1 := by
  intro w g K
  have K1 := K.1
  refine g_aload_n K1 0 dX12_when_0 rfl ?_
  refine g_iload_n K1 1 dX12_when_1 rfl ?_
  obtain ⟨r1, I2, hct, h⟩ := h
  refine h_callV K1 (st := []) [.int x1] (hct w (gl g)) q_clX12 lyp_96 rfl ok_X12_asksPew ml_X12_322 ⟨Nat.le_of_ble_eq_true rfl, Nat.le_of_ble_eq_true rfl⟩ (Nat.le_of_ble_eq_true rfl) dX12_when_2 ?_
  show q_Gs w g 5 [(0, .ref 96), (1, .int x1)] [.int r1] (q_mm I2 L)
  refine g_if_ne K1 11 dX12_when_5 rfl (fun hc => ?_) (fun hc => ?_)
  · replace h := h.2 hc
    refine g_iconst K1 0 dX12_when_11 rfl ?_
    refine g_istore_n K1 dX12_when_12 rfl (by decide) rfl ?_
    exact g_perm [1, 2, 0] rfl (h w g K)
  · replace h := h.1 hc
    refine g_bipush K1 (-2) dX12_when_8 rfl ?_
    obtain ⟨hr, hI, hL⟩ := h
    subst hr hI hL
    exact g_ireturn K rfl dX12_when_10
set_option maxRecDepth 20000 in
set_option maxHeartbeats 2000000 in
theorem vc_X12_when_13 {r : Option Value} {I' : Nat → Nat → Int32} {L' : Nat → Nat → Int64} {I : Nat → Nat → Int32} {L : Nat → Nat → Int64} {x1 : Int32} {x2 : Int32} (h : (∃ r1, q_C kX12_hours [.ref 96] I L (some (.int r1)) I L ∧ ((r1 < x2 → (r = some (.int (-1)) ∧ I' = I ∧ L' = L)) ∧ (¬ r1 < x2 → (∃ r2, q_C kX12_saysOf [.ref 96, .int x1, .int x2] I L (some (.int r2)) I L ∧ ((r2 ≤ 0 → (v_X12_when_13 r I' L' I L x1 (x2 + 1))) ∧ (¬ r2 ≤ 0 → (r = some (.int x2) ∧ I' = I ∧ L' = L)))))))) : v_X12_when_13 r I' L' I L x1 x2 := by
  intro w g K
  have K1 := K.1
  refine g_iload_n K1 2 dX12_when_13 rfl ?_
  refine g_aload_n K1 0 dX12_when_14 rfl ?_
  obtain ⟨r1, hct, h⟩ := h
  refine h_callV K1 (st := [.int x2]) [] (hct w (gl g)) q_clX12 lyp_96 rfl ok_X12_hours ml_X12_82 ⟨Nat.le_of_ble_eq_true rfl, Nat.le_of_ble_eq_true rfl⟩ (Nat.le_of_ble_eq_true rfl) dX12_when_15 ?_
  show q_Gs w g 18 [(0, .ref 96), (1, .int x1), (2, .int x2)] [.int r1, .int x2] (q_mm I L)
  refine g_icmp_gt K1 38 dX12_when_18 rfl (fun hc => ?_) (fun hc => ?_)
  · replace h := h.1 hc
    refine g_iconst K1 (-1) dX12_when_38 rfl ?_
    obtain ⟨hr, hI, hL⟩ := h
    subst hr hI hL
    exact g_ireturn K rfl dX12_when_39
  · replace h := h.2 hc
    refine g_aload_n K1 0 dX12_when_21 rfl ?_
    refine g_iload_n K1 1 dX12_when_22 rfl ?_
    refine g_iload_n K1 2 dX12_when_23 rfl ?_
    obtain ⟨r2, hct, h⟩ := h
    refine h_callV K1 (st := []) [.int x1, .int x2] (hct w (gl g)) q_clX12 lyp_96 rfl ok_X12_saysOf ml_X12_275 ⟨Nat.le_of_ble_eq_true rfl, Nat.le_of_ble_eq_true rfl⟩ (Nat.le_of_ble_eq_true rfl) dX12_when_24 ?_
    show q_Gs w g 27 [(0, .ref 96), (1, .int x1), (2, .int x2)] [.int r2] (q_mm I L)
    refine g_if_le K1 32 dX12_when_27 rfl (fun hc => ?_) (fun hc => ?_)
    · replace h := h.1 hc
      refine g_iinc K1 (x2 + 1) 2 dX12_when_32 rfl rfl (by decide) rfl ?_
      refine g_goto K1 13 dX12_when_35 rfl ?_
      exact g_perm [1, 2, 0] rfl (h w g K)
    · replace h := h.2 hc
      refine g_iload_n K1 2 dX12_when_30 rfl ?_
      obtain ⟨hr, hI, hL⟩ := h
      subst hr hI hL
      exact g_ireturn K rfl dX12_when_31
theorem c0_X12_when {r : Option Value} {I I' : Nat → Nat → Int32} {L L' : Nat → Nat → Int64} {x1 : Int32} (h : v_X12_when_0 r I' L' I L x1) : q_C kX12_when [.ref 96, .int x1] I L r I' L' := fun w l => q_ct (by decide) (Nat.le_of_ble_eq_true rfl) (Nat.le_refl _) (fun g _ K => h w g K)
abbrev v_X12_whom_0 (r : Option Value) (I' : Nat → Nat → Int32) (L' : Nat → Nat → Int64) (I : Nat → Nat → Int32) (L : Nat → Nat → Int64) (x1 : Int32) : Prop := q_W kX12_whom 0 [(0, .ref 96), (1, .int x1)] [] I L r I' L'
set_option maxRecDepth 20000 in
set_option maxHeartbeats 2000000 in
theorem vc_X12_whom_0 {r : Option Value} {I' : Nat → Nat → Int32} {L' : Nat → Nat → Int64} {I : Nat → Nat → Int32} {L : Nat → Nat → Int64} {x1 : Int32} (h : (∃ r1 I2, q_C kX12_askWhom [.ref 96, .int x1] I L (some (.int r1)) I2 L ∧ ((0 ≤ r1 → (∃ r3 I4, q_C kX12_whomOf [.ref 96, .int x1] I2 L (some (.int r3)) I4 L ∧ (r = some (.int r3) ∧ I' = I4 ∧ L' = L))) ∧ (¬ 0 ≤ r1 → (r = some (.int r1) ∧ I' = I2 ∧ L' = L))))) : v_X12_whom_0 r I' L' I L x1 := by
  intro w g K
  have K1 := K.1
  refine g_aload_n K1 0 dX12_whom_0 rfl ?_
  refine g_iload_n K1 1 dX12_whom_1 rfl ?_
  obtain ⟨r1, I2, hct, h⟩ := h
  refine h_callV K1 (st := []) [.int x1] (hct w (gl g)) q_clX12 lyp_96 rfl ok_X12_askWhom ml_X12_407 ⟨Nat.le_of_ble_eq_true rfl, Nat.le_of_ble_eq_true rfl⟩ (Nat.le_of_ble_eq_true rfl) dX12_whom_2 ?_
  show q_Gs w g 5 [(0, .ref 96), (1, .int x1)] [.int r1] (q_mm I2 L)
  refine g_istore_n K1 dX12_whom_5 rfl (by decide) rfl ?_
  refine g_iload_n K1 0 dX12_whom_6 rfl ?_
  refine g_if_ge K1 14 dX12_whom_7 rfl (fun hc => ?_) (fun hc => ?_)
  · replace h := h.1 hc
    refine g_aload_n K1 1 dX12_whom_14 rfl ?_
    refine g_iload_n K1 2 dX12_whom_15 rfl ?_
    obtain ⟨r3, I4, hct, h⟩ := h
    refine h_callV K1 (st := []) [.int x1] (hct w (gl g)) q_clX12 lyp_96 rfl ok_X12_whomOf ml_X12_410 ⟨Nat.le_of_ble_eq_true rfl, Nat.le_of_ble_eq_true rfl⟩ (Nat.le_of_ble_eq_true rfl) dX12_whom_16 ?_
    show q_Gs w g 19 [(2, .int r1), (0, .ref 96), (1, .int x1)] [.int r3] (q_mm I4 L)
    obtain ⟨hr, hI, hL⟩ := h
    subst hr hI hL
    exact g_ireturn K rfl dX12_whom_19
  · replace h := h.2 hc
    refine g_iload_n K1 0 dX12_whom_10 rfl ?_
    refine g_goto K1 19 dX12_whom_11 rfl ?_
    obtain ⟨hr, hI, hL⟩ := h
    subst hr hI hL
    exact g_ireturn K rfl dX12_whom_19
theorem c0_X12_whom {r : Option Value} {I I' : Nat → Nat → Int32} {L L' : Nat → Nat → Int64} {x1 : Int32} (h : v_X12_whom_0 r I' L' I L x1) : q_C kX12_whom [.ref 96, .int x1] I L r I' L' := fun w l => q_ct (by decide) (Nat.le_of_ble_eq_true rfl) (Nat.le_refl _) (fun g _ K => h w g K)
abbrev v_X12_whomOf_0 (r : Option Value) (I' : Nat → Nat → Int32) (L' : Nat → Nat → Int64) (I : Nat → Nat → Int32) (L : Nat → Nat → Int64) (x1 : Int32) : Prop := q_W kX12_whomOf 0 [(0, .ref 96), (1, .int x1)] [] I L r I' L'
abbrev v_X12_whomOf_15 (r : Option Value) (I' : Nat → Nat → Int32) (L' : Nat → Nat → Int64) (I : Nat → Nat → Int32) (L : Nat → Nat → Int64) (x1 : Int32) (x2 : Int32) (x3 : Int32) : Prop := q_W kX12_whomOf 15 [(0, .ref 96), (1, .int x1), (2, .int x2), (3, .int x3)] [] I L r I' L'
abbrev v_X12_whomOf_51 (r : Option Value) (I' : Nat → Nat → Int32) (L' : Nat → Nat → Int64) (I : Nat → Nat → Int32) (L : Nat → Nat → Int64) (x1 : Int32) (x2 : Int32) (x3 : Int32) (x4 : Int32) : Prop := q_W kX12_whomOf 51 [(0, .ref 96), (1, .int x1), (2, .int x2), (3, .int x3), (4, .int x4)] [] I L r I' L'
abbrev v_X12_whomOf_63 (r : Option Value) (I' : Nat → Nat → Int32) (L' : Nat → Nat → Int64) (I : Nat → Nat → Int32) (L : Nat → Nat → Int64) (x1 : Int32) (x2 : Int32) (x3 : Int32) (x4 : Int32) (x5 : Int32) : Prop := q_W kX12_whomOf 63 [(0, .ref 96), (1, .int x1), (2, .int x2), (3, .int x3), (4, .int x4), (5, .int x5)] [] I L r I' L'
set_option maxRecDepth 20000 in
set_option maxHeartbeats 2000000 in
theorem vc_X12_whomOf_0 {r : Option Value} {I' : Nat → Nat → Int32} {L' : Nat → Nat → Int64} {I : Nat → Nat → Int32} {L : Nat → Nat → Int64} {x1 : Int32} (h : (vp_in 55 104 ∧ (v_X12_whomOf_15 r I' L' (up2 I 96 19 (I 97 (55 : Int32).toNatClampNeg)) L x1 0 0))) : v_X12_whomOf_0 r I' L' I L x1 := by
  intro w g K
  have K1 := K.1
  refine g_iconst K1 0 dX12_whomOf_0 rfl ?_
  refine g_istore_n K1 dX12_whomOf_1 rfl (by decide) rfl ?_
  refine g_aload_n K1 1 dX12_whomOf_2 rfl ?_
  refine g_aload_n K1 1 dX12_whomOf_3 rfl ?_
  refine h_getO K1 q_clX12 1 97 lyp_96 fkX12_1 rfl fl_X12_9 dX12_whomOf_4 ?_
  refine g_bipush K1 55 dX12_whomOf_7 rfl ?_
  obtain ⟨hg, h⟩ := h
  refine h_iaload K1 lyp_97 hg dX12_whomOf_9 ?_
  refine h_putI K1 q_clX12 19 lyp_96 fkX12_19 fl_X12_252 rfl rfl rfl dX12_whomOf_10 ?_
  refine g_iconst K1 0 dX12_whomOf_13 rfl ?_
  refine g_istore_n K1 dX12_whomOf_14 rfl (by decide) rfl ?_
  exact g_perm [2, 3, 1, 0] rfl (h w g K)
set_option maxRecDepth 20000 in
set_option maxHeartbeats 2000000 in
theorem vc_X12_whomOf_15 {r : Option Value} {I' : Nat → Nat → Int32} {L' : Nat → Nat → Int64} {I : Nat → Nat → Int32} {L : Nat → Nat → Int64} {x1 : Int32} {x2 : Int32} {x3 : Int32} (h : (∃ r1, q_C kX12_pews [.ref 96] I L (some (.int r1)) I L ∧ ((r1 ≤ x3 → (r = some (.int x2) ∧ I' = I ∧ L' = L)) ∧ (¬ r1 ≤ x3 → (∃ r2 I3, q_C kX12_isHeard [.ref 96, .int x1] (up2 I 96 18 ((1 : Int32) <<< (x3 &&& 31))) L (some (.int r2)) I3 L ∧ ((r2 = 0 → (v_X12_whomOf_51 r I' L' I3 L x1 (x2 ||| 0) x3 0)) ∧ (¬ r2 = 0 → (v_X12_whomOf_51 r I' L' I3 L x1 (x2 ||| ((1 : Int32) <<< (x3 &&& 31))) x3 0)))))))) : v_X12_whomOf_15 r I' L' I L x1 x2 x3 := by
  intro w g K
  have K1 := K.1
  refine g_iload_n K1 3 dX12_whomOf_15 rfl ?_
  refine g_aload_n K1 0 dX12_whomOf_16 rfl ?_
  obtain ⟨r1, hct, h⟩ := h
  refine h_callV K1 (st := [.int x3]) [] (hct w (gl g)) q_clX12 lyp_96 rfl ok_X12_pews ml_X12_74 ⟨Nat.le_of_ble_eq_true rfl, Nat.le_of_ble_eq_true rfl⟩ (Nat.le_of_ble_eq_true rfl) dX12_whomOf_17 ?_
  show q_Gs w g 20 [(0, .ref 96), (1, .int x1), (2, .int x2), (3, .int x3)] [.int r1, .int x3] (q_mm I L)
  refine g_icmp_ge K1 119 dX12_whomOf_20 rfl (fun hc => ?_) (fun hc => ?_)
  · replace h := h.1 hc
    refine g_iload_n K1 2 dX12_whomOf_119 rfl ?_
    obtain ⟨hr, hI, hL⟩ := h
    subst hr hI hL
    exact g_ireturn K rfl dX12_whomOf_120
  · replace h := h.2 hc
    refine g_aload_n K1 0 dX12_whomOf_23 rfl ?_
    refine g_iconst K1 1 dX12_whomOf_24 rfl ?_
    refine g_iload_n K1 3 dX12_whomOf_25 rfl ?_
    refine g_ishl K1 dX12_whomOf_26 ?_
    refine h_putI K1 q_clX12 18 lyp_96 fkX12_18 fl_X12_249 rfl rfl rfl dX12_whomOf_27 ?_
    refine g_iload_n K1 2 dX12_whomOf_30 rfl ?_
    refine g_aload_n K1 0 dX12_whomOf_31 rfl ?_
    refine g_iload_n K1 1 dX12_whomOf_32 rfl ?_
    obtain ⟨r2, I3, hct, h⟩ := h
    refine h_callV K1 (st := [.int x2]) [.int x1] (hct w (gl g)) q_clX12 lyp_96 rfl ok_X12_isHeard ml_X12_404 ⟨Nat.le_of_ble_eq_true rfl, Nat.le_of_ble_eq_true rfl⟩ (Nat.le_of_ble_eq_true rfl) dX12_whomOf_33 ?_
    show q_Gs w g 36 [(0, .ref 96), (1, .int x1), (2, .int x2), (3, .int x3)] [.int r2, .int x2] (q_mm I3 L)
    refine g_if_eq K1 45 dX12_whomOf_36 rfl (fun hc => ?_) (fun hc => ?_)
    · replace h := h.1 hc
      refine g_iconst K1 0 dX12_whomOf_45 rfl ?_
      refine g_ior K1 dX12_whomOf_46 ?_
      refine g_istore_n K1 dX12_whomOf_47 rfl (by decide) rfl ?_
      refine g_iconst K1 0 dX12_whomOf_48 rfl ?_
      refine g_istore K1 dX12_whomOf_49 (by decide) rfl ?_
      exact g_perm [2, 3, 1, 4, 0] rfl (h w g K)
    · replace h := h.2 hc
      refine g_iconst K1 1 dX12_whomOf_39 rfl ?_
      refine g_iload_n K1 3 dX12_whomOf_40 rfl ?_
      refine g_ishl K1 dX12_whomOf_41 ?_
      refine g_goto K1 46 dX12_whomOf_42 rfl ?_
      refine g_ior K1 dX12_whomOf_46 ?_
      refine g_istore_n K1 dX12_whomOf_47 rfl (by decide) rfl ?_
      refine g_iconst K1 0 dX12_whomOf_48 rfl ?_
      refine g_istore K1 dX12_whomOf_49 (by decide) rfl ?_
      exact g_perm [2, 3, 1, 4, 0] rfl (h w g K)
set_option maxRecDepth 20000 in
set_option maxHeartbeats 2000000 in
theorem vc_X12_whomOf_51 {r : Option Value} {I' : Nat → Nat → Int32} {L' : Nat → Nat → Int64} {I : Nat → Nat → Int32} {L : Nat → Nat → Int64} {x1 : Int32} {x2 : Int32} {x3 : Int32} {x4 : Int32} (h : (∃ r1, q_C kX12_hours [.ref 96] I L (some (.int r1)) I L ∧ ((r1 < x4 → (v_X12_whomOf_15 r I' L' I L x1 x2 (x3 + 1))) ∧ (¬ r1 < x4 → (v_X12_whomOf_63 r I' L' I L x1 x2 x3 x4 0))))) : v_X12_whomOf_51 r I' L' I L x1 x2 x3 x4 := by
  intro w g K
  have K1 := K.1
  refine g_iload K1 4 dX12_whomOf_51 rfl ?_
  refine g_aload_n K1 0 dX12_whomOf_53 rfl ?_
  obtain ⟨r1, hct, h⟩ := h
  refine h_callV K1 (st := [.int x4]) [] (hct w (gl g)) q_clX12 lyp_96 rfl ok_X12_hours ml_X12_82 ⟨Nat.le_of_ble_eq_true rfl, Nat.le_of_ble_eq_true rfl⟩ (Nat.le_of_ble_eq_true rfl) dX12_whomOf_54 ?_
  show q_Gs w g 57 [(0, .ref 96), (1, .int x1), (2, .int x2), (3, .int x3), (4, .int x4)] [.int r1, .int x4] (q_mm I L)
  refine g_icmp_gt K1 113 dX12_whomOf_57 rfl (fun hc => ?_) (fun hc => ?_)
  · replace h := h.1 hc
    refine g_iinc K1 (x3 + 1) 3 dX12_whomOf_113 rfl rfl (by decide) rfl ?_
    refine g_goto K1 15 dX12_whomOf_116 rfl ?_
    exact g_perm [1, 2, 3, 0] rfl (h w g K)
  · replace h := h.2 hc
    refine g_iconst K1 0 dX12_whomOf_60 rfl ?_
    refine g_istore K1 dX12_whomOf_61 (by decide) rfl ?_
    exact g_perm [1, 2, 3, 4, 5, 0] rfl (h w g K)
set_option maxRecDepth 20000 in
set_option maxHeartbeats 2000000 in
theorem vc_X12_whomOf_63 {r : Option Value} {I' : Nat → Nat → Int32} {L' : Nat → Nat → Int64} {I : Nat → Nat → Int32} {L : Nat → Nat → Int64} {x1 : Int32} {x2 : Int32} {x3 : Int32} {x4 : Int32} {x5 : Int32} (h : (∃ r1, q_C kX12_pews [.ref 96] I L (some (.int r1)) I L ∧ ((r1 ≤ x5 → (v_X12_whomOf_51 r I' L' I L x1 x2 x3 (x4 + 1))) ∧ (¬ r1 ≤ x5 → (∃ r2, q_C kX12_saysOf [.ref 96, .int x5, .int x4] I L (some (.int r2)) I L ∧ (∃ r3, q_C kX12_longOf [.int r2] I L (some (.int r3)) I L ∧ (vp_in (((91 * x3) + (7 * x4)) + x5) 637 ∧ (v_X12_whomOf_63 r I' L' (up2 I 108 ((((91 * x3) + (7 * x4)) + x5) : Int32).toNatClampNeg r3) L x1 x2 x3 x4 (x5 + 1))))))))) : v_X12_whomOf_63 r I' L' I L x1 x2 x3 x4 x5 := by
  intro w g K
  have K1 := K.1
  refine g_iload K1 5 dX12_whomOf_63 rfl ?_
  refine g_aload_n K1 0 dX12_whomOf_65 rfl ?_
  obtain ⟨r1, hct, h⟩ := h
  refine h_callV K1 (st := [.int x5]) [] (hct w (gl g)) q_clX12 lyp_96 rfl ok_X12_pews ml_X12_74 ⟨Nat.le_of_ble_eq_true rfl, Nat.le_of_ble_eq_true rfl⟩ (Nat.le_of_ble_eq_true rfl) dX12_whomOf_66 ?_
  show q_Gs w g 69 [(0, .ref 96), (1, .int x1), (2, .int x2), (3, .int x3), (4, .int x4), (5, .int x5)] [.int r1, .int x5] (q_mm I L)
  refine g_icmp_ge K1 107 dX12_whomOf_69 rfl (fun hc => ?_) (fun hc => ?_)
  · replace h := h.1 hc
    refine g_iinc K1 (x4 + 1) 4 dX12_whomOf_107 rfl rfl (by decide) rfl ?_
    refine g_goto K1 51 dX12_whomOf_110 rfl ?_
    exact g_perm [1, 2, 3, 4, 0] rfl (h w g K)
  · replace h := h.2 hc
    refine g_aload_n K1 0 dX12_whomOf_72 rfl ?_
    refine h_getO K1 q_clX12 32 108 lyp_96 fkX12_32 rfl fl_X12_49 dX12_whomOf_73 ?_
    refine g_bipush K1 91 dX12_whomOf_76 rfl ?_
    refine g_iload_n K1 3 dX12_whomOf_78 rfl ?_
    refine g_imul K1 dX12_whomOf_79 ?_
    refine g_bipush K1 7 dX12_whomOf_80 rfl ?_
    refine g_iload K1 4 dX12_whomOf_82 rfl ?_
    refine g_imul K1 dX12_whomOf_84 ?_
    refine g_iadd K1 dX12_whomOf_85 ?_
    refine g_iload K1 5 dX12_whomOf_86 rfl ?_
    refine g_iadd K1 dX12_whomOf_88 ?_
    refine g_aload_n K1 0 dX12_whomOf_89 rfl ?_
    refine g_iload K1 5 dX12_whomOf_90 rfl ?_
    refine g_iload K1 4 dX12_whomOf_92 rfl ?_
    obtain ⟨r2, hct, h⟩ := h
    refine h_callV K1 (st := [.int (((91 * x3) + (7 * x4)) + x5), .ref 108]) [.int x5, .int x4] (hct w (gl g)) q_clX12 lyp_96 rfl ok_X12_saysOf ml_X12_275 ⟨Nat.le_of_ble_eq_true rfl, Nat.le_of_ble_eq_true rfl⟩ (Nat.le_of_ble_eq_true rfl) dX12_whomOf_94 ?_
    show q_Gs w g 97 [(0, .ref 96), (1, .int x1), (2, .int x2), (3, .int x3), (4, .int x4), (5, .int x5)] [.int r2, .int (((91 * x3) + (7 * x4)) + x5), .ref 108] (q_mm I L)
    obtain ⟨r3, hct, h⟩ := h
    refine h_callS K1 (st := [.int (((91 * x3) + (7 * x4)) + x5), .ref 108]) [.int r2] (hct w (gl g)) ok_X12_longOf ml_X12_225 ⟨Nat.le_of_ble_eq_true rfl, Nat.le_of_ble_eq_true rfl⟩ (Nat.le_of_ble_eq_true rfl) dX12_whomOf_97 ?_
    show q_Gs w g 100 [(0, .ref 96), (1, .int x1), (2, .int x2), (3, .int x3), (4, .int x4), (5, .int x5)] [.int r3, .int (((91 * x3) + (7 * x4)) + x5), .ref 108] (q_mm I L)
    obtain ⟨hg, h⟩ := h
    refine h_iastore K1 lyp_108 hg dX12_whomOf_100 ?_
    refine g_iinc K1 (x5 + 1) 5 dX12_whomOf_101 rfl rfl (by decide) rfl ?_
    refine g_goto K1 63 dX12_whomOf_104 rfl ?_
    exact g_perm [1, 2, 3, 4, 5, 0] rfl (h w g K)
theorem c0_X12_whomOf {r : Option Value} {I I' : Nat → Nat → Int32} {L L' : Nat → Nat → Int64} {x1 : Int32} (h : v_X12_whomOf_0 r I' L' I L x1) : q_C kX12_whomOf [.ref 96, .int x1] I L r I' L' := fun w l => q_ct (by decide) (Nat.le_of_ble_eq_true rfl) (Nat.le_refl _) (fun g _ K => h w g K)
abbrev v_X12_words_0 (r : Option Value) (I' : Nat → Nat → Int32) (L' : Nat → Nat → Int64) (I : Nat → Nat → Int32) (L : Nat → Nat → Int64) (x1 : Int32) : Prop := q_W kX12_words 0 [(0, .ref 96), (1, .int x1)] [] I L r I' L'
set_option maxRecDepth 20000 in
set_option maxHeartbeats 2000000 in
theorem vc_X12_words_0 {r : Option Value} {I' : Nat → Nat → Int32} {L' : Nat → Nat → Int64} {I : Nat → Nat → Int32} {L : Nat → Nat → Int64} {x1 : Int32} (h : (∃ r1 I2, q_C kX12_asksHour [.ref 96, .int x1] I L (some (.int r1)) I2 L ∧ ((r1 = 0 → (r = some (.int (-2)) ∧ I' = I2 ∧ L' = L)) ∧ (¬ r1 = 0 → (∃ r3, q_C kX12_wordsAt [.ref 96, .int x1] I2 L (some (.int r3)) I2 L ∧ (r = some (.int r3) ∧ I' = I2 ∧ L' = L)))))) : v_X12_words_0 r I' L' I L x1 := by
  intro w g K
  have K1 := K.1
  refine g_aload_n K1 0 dX12_words_0 rfl ?_
  refine g_iload_n K1 1 dX12_words_1 rfl ?_
  obtain ⟨r1, I2, hct, h⟩ := h
  refine h_callV K1 (st := []) [.int x1] (hct w (gl g)) q_clX12 lyp_96 rfl ok_X12_asksHour ml_X12_318 ⟨Nat.le_of_ble_eq_true rfl, Nat.le_of_ble_eq_true rfl⟩ (Nat.le_of_ble_eq_true rfl) dX12_words_2 ?_
  show q_Gs w g 5 [(0, .ref 96), (1, .int x1)] [.int r1] (q_mm I2 L)
  refine g_if_eq K1 16 dX12_words_5 rfl (fun hc => ?_) (fun hc => ?_)
  · replace h := h.1 hc
    refine g_bipush K1 (-2) dX12_words_16 rfl ?_
    obtain ⟨hr, hI, hL⟩ := h
    subst hr hI hL
    exact g_ireturn K rfl dX12_words_18
  · replace h := h.2 hc
    refine g_aload_n K1 0 dX12_words_8 rfl ?_
    refine g_iload_n K1 1 dX12_words_9 rfl ?_
    obtain ⟨r3, hct, h⟩ := h
    refine h_callV K1 (st := []) [.int x1] (hct w (gl g)) q_clX12 lyp_96 rfl ok_X12_wordsAt ml_X12_337 ⟨Nat.le_of_ble_eq_true rfl, Nat.le_of_ble_eq_true rfl⟩ (Nat.le_of_ble_eq_true rfl) dX12_words_10 ?_
    show q_Gs w g 13 [(0, .ref 96), (1, .int x1)] [.int r3] (q_mm I2 L)
    refine g_goto K1 18 dX12_words_13 rfl ?_
    obtain ⟨hr, hI, hL⟩ := h
    subst hr hI hL
    exact g_ireturn K rfl dX12_words_18
theorem c0_X12_words {r : Option Value} {I I' : Nat → Nat → Int32} {L L' : Nat → Nat → Int64} {x1 : Int32} (h : v_X12_words_0 r I' L' I L x1) : q_C kX12_words [.ref 96, .int x1] I L r I' L' := fun w l => q_ct (by decide) (Nat.le_of_ble_eq_true rfl) (Nat.le_refl _) (fun g _ K => h w g K)
abbrev v_X12_wordsAt_0 (r : Option Value) (I' : Nat → Nat → Int32) (L' : Nat → Nat → Int64) (I : Nat → Nat → Int32) (L : Nat → Nat → Int64) (x1 : Int32) : Prop := q_W kX12_wordsAt 0 [(0, .ref 96), (1, .int x1)] [] I L r I' L'
abbrev v_X12_wordsAt_4 (r : Option Value) (I' : Nat → Nat → Int32) (L' : Nat → Nat → Int64) (I : Nat → Nat → Int32) (L : Nat → Nat → Int64) (x1 : Int32) (x2 : Int32) (x3 : Int32) : Prop := q_W kX12_wordsAt 4 [(0, .ref 96), (1, .int x1), (2, .int x2), (3, .int x3)] [] I L r I' L'
set_option maxRecDepth 20000 in
set_option maxHeartbeats 2000000 in
theorem vc_X12_wordsAt_0 {r : Option Value} {I' : Nat → Nat → Int32} {L' : Nat → Nat → Int64} {I : Nat → Nat → Int32} {L : Nat → Nat → Int64} {x1 : Int32} (h : (v_X12_wordsAt_4 r I' L' I L x1 0 0)) : v_X12_wordsAt_0 r I' L' I L x1 := by
  intro w g K
  have K1 := K.1
  refine g_iconst K1 0 dX12_wordsAt_0 rfl ?_
  refine g_istore_n K1 dX12_wordsAt_1 rfl (by decide) rfl ?_
  refine g_iconst K1 0 dX12_wordsAt_2 rfl ?_
  refine g_istore_n K1 dX12_wordsAt_3 rfl (by decide) rfl ?_
  exact g_perm [2, 3, 1, 0] rfl (h w g K)
set_option maxRecDepth 20000 in
set_option maxHeartbeats 2000000 in
theorem vc_X12_wordsAt_4 {r : Option Value} {I' : Nat → Nat → Int32} {L' : Nat → Nat → Int64} {I : Nat → Nat → Int32} {L : Nat → Nat → Int64} {x1 : Int32} {x2 : Int32} {x3 : Int32} (h : (∃ r1, q_C kX12_pews [.ref 96] I L (some (.int r1)) I L ∧ ((r1 ≤ x3 → (r = some (.int x2) ∧ I' = I ∧ L' = L)) ∧ (¬ r1 ≤ x3 → (∃ r2, q_C kX12_saysOf [.ref 96, .int x3, .int x1] I L (some (.int r2)) I L ∧ (∃ r3, q_C kX12_longOf [.int r2] I L (some (.int r3)) I L ∧ (v_X12_wordsAt_4 r I' L' I L x1 (x2 + r3) (x3 + 1)))))))) : v_X12_wordsAt_4 r I' L' I L x1 x2 x3 := by
  intro w g K
  have K1 := K.1
  refine g_iload_n K1 3 dX12_wordsAt_4 rfl ?_
  refine g_aload_n K1 0 dX12_wordsAt_5 rfl ?_
  obtain ⟨r1, hct, h⟩ := h
  refine h_callV K1 (st := [.int x3]) [] (hct w (gl g)) q_clX12 lyp_96 rfl ok_X12_pews ml_X12_74 ⟨Nat.le_of_ble_eq_true rfl, Nat.le_of_ble_eq_true rfl⟩ (Nat.le_of_ble_eq_true rfl) dX12_wordsAt_6 ?_
  show q_Gs w g 9 [(0, .ref 96), (1, .int x1), (2, .int x2), (3, .int x3)] [.int r1, .int x3] (q_mm I L)
  refine g_icmp_ge K1 30 dX12_wordsAt_9 rfl (fun hc => ?_) (fun hc => ?_)
  · replace h := h.1 hc
    refine g_iload_n K1 2 dX12_wordsAt_30 rfl ?_
    obtain ⟨hr, hI, hL⟩ := h
    subst hr hI hL
    exact g_ireturn K rfl dX12_wordsAt_31
  · replace h := h.2 hc
    refine g_iload_n K1 2 dX12_wordsAt_12 rfl ?_
    refine g_aload_n K1 0 dX12_wordsAt_13 rfl ?_
    refine g_iload_n K1 3 dX12_wordsAt_14 rfl ?_
    refine g_iload_n K1 1 dX12_wordsAt_15 rfl ?_
    obtain ⟨r2, hct, h⟩ := h
    refine h_callV K1 (st := [.int x2]) [.int x3, .int x1] (hct w (gl g)) q_clX12 lyp_96 rfl ok_X12_saysOf ml_X12_275 ⟨Nat.le_of_ble_eq_true rfl, Nat.le_of_ble_eq_true rfl⟩ (Nat.le_of_ble_eq_true rfl) dX12_wordsAt_16 ?_
    show q_Gs w g 19 [(0, .ref 96), (1, .int x1), (2, .int x2), (3, .int x3)] [.int r2, .int x2] (q_mm I L)
    obtain ⟨r3, hct, h⟩ := h
    refine h_callS K1 (st := [.int x2]) [.int r2] (hct w (gl g)) ok_X12_longOf ml_X12_225 ⟨Nat.le_of_ble_eq_true rfl, Nat.le_of_ble_eq_true rfl⟩ (Nat.le_of_ble_eq_true rfl) dX12_wordsAt_19 ?_
    show q_Gs w g 22 [(0, .ref 96), (1, .int x1), (2, .int x2), (3, .int x3)] [.int r3, .int x2] (q_mm I L)
    refine g_iadd K1 dX12_wordsAt_22 ?_
    refine g_istore_n K1 dX12_wordsAt_23 rfl (by decide) rfl ?_
    refine g_iinc K1 (x3 + 1) 3 dX12_wordsAt_24 rfl rfl (by decide) rfl ?_
    refine g_goto K1 4 dX12_wordsAt_27 rfl ?_
    exact g_perm [2, 3, 1, 0] rfl (h w g K)
theorem c0_X12_wordsAt {r : Option Value} {I I' : Nat → Nat → Int32} {L L' : Nat → Nat → Int64} {x1 : Int32} (h : v_X12_wordsAt_0 r I' L' I L x1) : q_C kX12_wordsAt [.ref 96, .int x1] I L r I' L' := fun w l => q_ct (by decide) (Nat.le_of_ble_eq_true rfl) (Nat.le_refl _) (fun g _ K => h w g K)
abbrev v_X12_worstOf_0 (r : Option Value) (I' : Nat → Nat → Int32) (L' : Nat → Nat → Int64) (I : Nat → Nat → Int32) (L : Nat → Nat → Int64) (x1 : Int32) (x2 : Int32) : Prop := q_W kX12_worstOf 0 [(0, .ref 96), (1, .int x1), (2, .int x2)] [] I L r I' L'
abbrev v_X12_worstOf_5 (r : Option Value) (I' : Nat → Nat → Int32) (L' : Nat → Nat → Int64) (I : Nat → Nat → Int32) (L : Nat → Nat → Int64) (x1 : Int32) (x2 : Int32) (x3 : Int32) (x4 : Int32) : Prop := q_W kX12_worstOf 5 [(0, .ref 96), (1, .int x1), (2, .int x2), (3, .int x3), (4, .int x4)] [] I L r I' L'
abbrev v_X12_worstOf_18 (r : Option Value) (I' : Nat → Nat → Int32) (L' : Nat → Nat → Int64) (I : Nat → Nat → Int32) (L : Nat → Nat → Int64) (x1 : Int32) (x2 : Int32) (x3 : Int32) (x4 : Int32) (x5 : Int32) (x6 : Int32) : Prop := q_W kX12_worstOf 18 [(0, .ref 96), (1, .int x1), (2, .int x2), (3, .int x3), (4, .int x4), (5, .int x5), (6, .int x6)] [] I L r I' L'
set_option maxRecDepth 20000 in
set_option maxHeartbeats 2000000 in
theorem vc_X12_worstOf_0 {r : Option Value} {I' : Nat → Nat → Int32} {L' : Nat → Nat → Int64} {I : Nat → Nat → Int32} {L : Nat → Nat → Int64} {x1 : Int32} {x2 : Int32} (h : (v_X12_worstOf_5 r I' L' I L x1 x2 0 0)) : v_X12_worstOf_0 r I' L' I L x1 x2 := by
  intro w g K
  have K1 := K.1
  refine g_iconst K1 0 dX12_worstOf_0 rfl ?_
  refine g_istore_n K1 dX12_worstOf_1 rfl (by decide) rfl ?_
  refine g_iconst K1 0 dX12_worstOf_2 rfl ?_
  refine g_istore K1 dX12_worstOf_3 (by decide) rfl ?_
  exact g_perm [2, 3, 4, 1, 0] rfl (h w g K)
set_option maxRecDepth 20000 in
set_option maxHeartbeats 2000000 in
theorem vc_X12_worstOf_5 {r : Option Value} {I' : Nat → Nat → Int32} {L' : Nat → Nat → Int64} {I : Nat → Nat → Int32} {L : Nat → Nat → Int64} {x1 : Int32} {x2 : Int32} {x3 : Int32} {x4 : Int32} (h : ((6 < x4 → (r = some (.int x3) ∧ I' = I ∧ L' = L)) ∧ (¬ 6 < x4 → (v_X12_worstOf_18 r I' L' I L x1 x2 x3 x4 0 0)))) : v_X12_worstOf_5 r I' L' I L x1 x2 x3 x4 := by
  intro w g K
  have K1 := K.1
  refine g_iload K1 4 dX12_worstOf_5 rfl ?_
  refine g_bipush K1 6 dX12_worstOf_7 rfl ?_
  refine g_icmp_gt K1 83 dX12_worstOf_9 rfl (fun hc => ?_) (fun hc => ?_)
  · replace h := h.1 hc
    refine g_iload_n K1 3 dX12_worstOf_83 rfl ?_
    obtain ⟨hr, hI, hL⟩ := h
    subst hr hI hL
    exact g_ireturn K rfl dX12_worstOf_84
  · replace h := h.2 hc
    refine g_iconst K1 0 dX12_worstOf_12 rfl ?_
    refine g_istore K1 dX12_worstOf_13 (by decide) rfl ?_
    refine g_iconst K1 0 dX12_worstOf_15 rfl ?_
    refine g_istore K1 dX12_worstOf_16 (by decide) rfl ?_
    exact g_perm [2, 3, 4, 5, 6, 1, 0] rfl (h w g K)
set_option maxRecDepth 20000 in
set_option maxHeartbeats 2000000 in
theorem vc_X12_worstOf_18 {r : Option Value} {I' : Nat → Nat → Int32} {L' : Nat → Nat → Int64} {I : Nat → Nat → Int32} {L : Nat → Nat → Int64} {x1 : Int32} {x2 : Int32} {x3 : Int32} {x4 : Int32} {x5 : Int32} {x6 : Int32} (h : (∃ r1, q_C kX12_pews [.ref 96] I L (some (.int r1)) I L ∧ ((r1 ≤ x6 → (v_X12_worstOf_5 r I' L' I L x1 x2 (if x3 < x5 then x5 else x3) (x4 + 1))) ∧ (¬ r1 ≤ x6 → (∃ r2, q_C kX12_bit [.int x1, .int x6] I L (some (.int r2)) I L ∧ ((r2 = 1 → (vp_in ((91 * x6) + x2) 637 ∧ (((I 108 (((91 * x6) + x2) : Int32).toNatClampNeg) = x4 → (v_X12_worstOf_18 r I' L' I L x1 x2 x3 x4 (x5 + 1) (x6 + 1))) ∧ (¬ (I 108 (((91 * x6) + x2) : Int32).toNatClampNeg) = x4 → (v_X12_worstOf_18 r I' L' I L x1 x2 x3 x4 (x5 + 0) (x6 + 1)))))) ∧ (¬ r2 = 1 → (v_X12_worstOf_18 r I' L' I L x1 x2 x3 x4 (x5 + 0) (x6 + 1))))))))) : v_X12_worstOf_18 r I' L' I L x1 x2 x3 x4 x5 x6 := by
  intro w g K
  have K1 := K.1
  refine g_iload K1 6 dX12_worstOf_18 rfl ?_
  refine g_aload_n K1 0 dX12_worstOf_20 rfl ?_
  obtain ⟨r1, hct, h⟩ := h
  refine h_callV K1 (st := [.int x6]) [] (hct w (gl g)) q_clX12 lyp_96 rfl ok_X12_pews ml_X12_74 ⟨Nat.le_of_ble_eq_true rfl, Nat.le_of_ble_eq_true rfl⟩ (Nat.le_of_ble_eq_true rfl) dX12_worstOf_21 ?_
  show q_Gs w g 24 [(0, .ref 96), (1, .int x1), (2, .int x2), (3, .int x3), (4, .int x4), (5, .int x5), (6, .int x6)] [.int r1, .int x6] (q_mm I L)
  refine g_icmp_ge K1 70 dX12_worstOf_24 rfl (fun hc => ?_) (fun hc => ?_)
  · replace h := h.1 hc
    refine g_iload_n K1 3 dX12_worstOf_70 rfl ?_
    refine g_iload K1 5 dX12_worstOf_71 rfl ?_
    refine h_mmax K1 (by exact Nat.le_of_ble_eq_true rfl) ⟨Nat.le_of_ble_eq_true rfl, Nat.le_of_ble_eq_true rfl⟩ ml_X12_340 dX12_worstOf_73 ?_
    refine g_istore_n K1 dX12_worstOf_76 rfl (by decide) rfl ?_
    refine g_iinc K1 (x4 + 1) 4 dX12_worstOf_77 rfl rfl (by decide) rfl ?_
    refine g_goto K1 5 dX12_worstOf_80 rfl ?_
    exact g_perm [2, 3, 4, 1, 0] rfl (h w g K)
  · replace h := h.2 hc
    refine g_iload K1 5 dX12_worstOf_27 rfl ?_
    refine g_iload_n K1 1 dX12_worstOf_29 rfl ?_
    refine g_iload K1 6 dX12_worstOf_30 rfl ?_
    obtain ⟨r2, hct, h⟩ := h
    refine h_callS K1 (st := [.int x5]) [.int x1, .int x6] (hct w (gl g)) ok_X12_bit ml_X12_237 ⟨Nat.le_of_ble_eq_true rfl, Nat.le_of_ble_eq_true rfl⟩ (Nat.le_of_ble_eq_true rfl) dX12_worstOf_32 ?_
    show q_Gs w g 35 [(0, .ref 96), (1, .int x1), (2, .int x2), (3, .int x3), (4, .int x4), (5, .int x5), (6, .int x6)] [.int r2, .int x5] (q_mm I L)
    refine g_iconst K1 1 dX12_worstOf_35 rfl ?_
    refine g_icmp_ne K1 60 dX12_worstOf_36 rfl (fun hc => ?_) (fun hc => ?_)
    · replace h := h.2 hc
      refine g_iconst K1 0 dX12_worstOf_60 rfl ?_
      refine g_iadd K1 dX12_worstOf_61 ?_
      refine g_istore K1 dX12_worstOf_62 (by decide) rfl ?_
      refine g_iinc K1 (x6 + 1) 6 dX12_worstOf_64 rfl rfl (by decide) rfl ?_
      refine g_goto K1 18 dX12_worstOf_67 rfl ?_
      exact g_perm [2, 3, 4, 5, 6, 1, 0] rfl (h w g K)
    · replace h := h.1 hc
      refine g_aload_n K1 0 dX12_worstOf_39 rfl ?_
      refine h_getO K1 q_clX12 32 108 lyp_96 fkX12_32 rfl fl_X12_49 dX12_worstOf_40 ?_
      refine g_bipush K1 91 dX12_worstOf_43 rfl ?_
      refine g_iload K1 6 dX12_worstOf_45 rfl ?_
      refine g_imul K1 dX12_worstOf_47 ?_
      refine g_iload_n K1 2 dX12_worstOf_48 rfl ?_
      refine g_iadd K1 dX12_worstOf_49 ?_
      obtain ⟨hg, h⟩ := h
      refine h_iaload K1 lyp_108 hg dX12_worstOf_50 ?_
      refine g_iload K1 4 dX12_worstOf_51 rfl ?_
      refine g_icmp_ne K1 60 dX12_worstOf_53 rfl (fun hc => ?_) (fun hc => ?_)
      · replace h := h.2 hc
        refine g_iconst K1 0 dX12_worstOf_60 rfl ?_
        refine g_iadd K1 dX12_worstOf_61 ?_
        refine g_istore K1 dX12_worstOf_62 (by decide) rfl ?_
        refine g_iinc K1 (x6 + 1) 6 dX12_worstOf_64 rfl rfl (by decide) rfl ?_
        refine g_goto K1 18 dX12_worstOf_67 rfl ?_
        exact g_perm [2, 3, 4, 5, 6, 1, 0] rfl (h w g K)
      · replace h := h.1 hc
        refine g_iconst K1 1 dX12_worstOf_56 rfl ?_
        refine g_goto K1 61 dX12_worstOf_57 rfl ?_
        refine g_iadd K1 dX12_worstOf_61 ?_
        refine g_istore K1 dX12_worstOf_62 (by decide) rfl ?_
        refine g_iinc K1 (x6 + 1) 6 dX12_worstOf_64 rfl rfl (by decide) rfl ?_
        refine g_goto K1 18 dX12_worstOf_67 rfl ?_
        exact g_perm [2, 3, 4, 5, 6, 1, 0] rfl (h w g K)
theorem c0_X12_worstOf {r : Option Value} {I I' : Nat → Nat → Int32} {L L' : Nat → Nat → Int64} {x1 : Int32} {x2 : Int32} (h : v_X12_worstOf_0 r I' L' I L x1 x2) : q_C kX12_worstOf [.ref 96, .int x1, .int x2] I L r I' L' := fun w l => q_ct (by decide) (Nat.le_of_ble_eq_true rfl) (Nat.le_refl _) (fun g _ K => h w g K)
abbrev v_X12_worth_0 (r : Option Value) (I' : Nat → Nat → Int32) (L' : Nat → Nat → Int64) (I : Nat → Nat → Int32) (L : Nat → Nat → Int64) (x1 : Int32) : Prop := q_W kX12_worth 0 [(0, .ref 96), (1, .int x1)] [] I L r I' L'
set_option maxRecDepth 20000 in
set_option maxHeartbeats 2000000 in
theorem vc_X12_worth_0 {r : Option Value} {I' : Nat → Nat → Int32} {L' : Nat → Nat → Int64} {I : Nat → Nat → Int32} {L : Nat → Nat → Int64} {x1 : Int32} (h : (∃ I1, q_C kX12_asItIs [.ref 96] I L none I1 L ∧ (∃ r2, q_C kX12_isNight [.ref 96] I1 L (some (.int r2)) I1 L ∧ ((r2 = 0 → (r = some (.int (-2)) ∧ I' = I1 ∧ L' = L)) ∧ (¬ r2 = 0 → (∃ r3, q_C kX12_allPews [.ref 96] I1 L (some (.int r3)) I1 L ∧ (∃ r4, q_C kX12_in [.long x1.toInt64, .long 0, .long r3.toInt64] I1 L (some (.int r4)) I1 L ∧ ((r4 = 0 → (r = some (.int (-2)) ∧ I' = I1 ∧ L' = L)) ∧ (¬ r4 = 0 → (∃ r5 I6, q_C kX12_worthOf [.ref 96, .int x1] I1 L (some (.int r5)) I6 L ∧ (r = some (.int r5) ∧ I' = I6 ∧ L' = L))))))))))) : v_X12_worth_0 r I' L' I L x1 := by
  intro w g K
  have K1 := K.1
  refine g_aload_n K1 0 dX12_worth_0 rfl ?_
  obtain ⟨I1, hct, h⟩ := h
  refine h_callV K1 (st := []) [] (hct w (gl g)) q_clX12 lyp_96 rfl ok_X12_asItIs ml_X12_297 ⟨Nat.le_of_ble_eq_true rfl, Nat.le_of_ble_eq_true rfl⟩ (Nat.le_of_ble_eq_true rfl) dX12_worth_1 ?_
  show q_Gs w g 4 [(0, .ref 96), (1, .int x1)] [] (q_mm I1 L)
  refine g_aload_n K1 0 dX12_worth_4 rfl ?_
  obtain ⟨r2, hct, h⟩ := h
  refine h_callV K1 (st := []) [] (hct w (gl g)) q_clX12 lyp_96 rfl ok_X12_isNight ml_X12_78 ⟨Nat.le_of_ble_eq_true rfl, Nat.le_of_ble_eq_true rfl⟩ (Nat.le_of_ble_eq_true rfl) dX12_worth_5 ?_
  show q_Gs w g 8 [(0, .ref 96), (1, .int x1)] [.int r2] (q_mm I1 L)
  refine g_if_eq K1 33 dX12_worth_8 rfl (fun hc => ?_) (fun hc => ?_)
  · replace h := h.1 hc
    refine g_bipush K1 (-2) dX12_worth_33 rfl ?_
    obtain ⟨hr, hI, hL⟩ := h
    subst hr hI hL
    exact g_ireturn K rfl dX12_worth_35
  · replace h := h.2 hc
    refine g_iload_n K1 1 dX12_worth_11 rfl ?_
    refine g_i2l K1 dX12_worth_12 ?_
    refine g_lconst K1 0 dX12_worth_13 rfl ?_
    refine g_aload_n K1 0 dX12_worth_14 rfl ?_
    obtain ⟨r3, hct, h⟩ := h
    refine h_callV K1 (st := [.long 0, .long x1.toInt64]) [] (hct w (gl g)) q_clX12 lyp_96 rfl ok_X12_allPews ml_X12_325 ⟨Nat.le_of_ble_eq_true rfl, Nat.le_of_ble_eq_true rfl⟩ (Nat.le_of_ble_eq_true rfl) dX12_worth_15 ?_
    show q_Gs w g 18 [(0, .ref 96), (1, .int x1)] [.int r3, .long 0, .long x1.toInt64] (q_mm I1 L)
    refine g_i2l K1 dX12_worth_18 ?_
    obtain ⟨r4, hct, h⟩ := h
    refine h_callS K1 (st := []) [.long x1.toInt64, .long 0, .long r3.toInt64] (hct w (gl g)) ok_X12_in ml_X12_70 ⟨Nat.le_of_ble_eq_true rfl, Nat.le_of_ble_eq_true rfl⟩ (Nat.le_of_ble_eq_true rfl) dX12_worth_19 ?_
    show q_Gs w g 22 [(0, .ref 96), (1, .int x1)] [.int r4] (q_mm I1 L)
    refine g_if_eq K1 33 dX12_worth_22 rfl (fun hc => ?_) (fun hc => ?_)
    · replace h := h.1 hc
      refine g_bipush K1 (-2) dX12_worth_33 rfl ?_
      obtain ⟨hr, hI, hL⟩ := h
      subst hr hI hL
      exact g_ireturn K rfl dX12_worth_35
    · replace h := h.2 hc
      refine g_aload_n K1 0 dX12_worth_25 rfl ?_
      refine g_iload_n K1 1 dX12_worth_26 rfl ?_
      obtain ⟨r5, I6, hct, h⟩ := h
      refine h_callV K1 (st := []) [.int x1] (hct w (gl g)) q_clX12 lyp_96 rfl ok_X12_worthOf ml_X12_380 ⟨Nat.le_of_ble_eq_true rfl, Nat.le_of_ble_eq_true rfl⟩ (Nat.le_of_ble_eq_true rfl) dX12_worth_27 ?_
      show q_Gs w g 30 [(0, .ref 96), (1, .int x1)] [.int r5] (q_mm I6 L)
      refine g_goto K1 35 dX12_worth_30 rfl ?_
      obtain ⟨hr, hI, hL⟩ := h
      subst hr hI hL
      exact g_ireturn K rfl dX12_worth_35
theorem c0_X12_worth {r : Option Value} {I I' : Nat → Nat → Int32} {L L' : Nat → Nat → Int64} {x1 : Int32} (h : v_X12_worth_0 r I' L' I L x1) : q_C kX12_worth [.ref 96, .int x1] I L r I' L' := fun w l => q_ct (by decide) (Nat.le_of_ble_eq_true rfl) (Nat.le_refl _) (fun g _ K => h w g K)
abbrev v_X12_worthOf_0 (r : Option Value) (I' : Nat → Nat → Int32) (L' : Nat → Nat → Int64) (I : Nat → Nat → Int32) (L : Nat → Nat → Int64) (x1 : Int32) : Prop := q_W kX12_worthOf 0 [(0, .ref 96), (1, .int x1)] [] I L r I' L'
set_option maxRecDepth 20000 in
set_option maxHeartbeats 2000000 in
theorem vc_X12_worthOf_0 {r : Option Value} {I' : Nat → Nat → Int32} {L' : Nat → Nat → Int64} {I : Nat → Nat → Int32} {L : Nat → Nat → Int64} {x1 : Int32} (h : (∃ I1, q_C kX12_goAll [.ref 96] (up2 I 96 18 x1) L none I1 L ∧ (∃ r2, q_C kX12_lastMany [.ref 96] I1 L (some (.int r2)) I1 L ∧ (r = some (.int r2) ∧ I' = I1 ∧ L' = L)))) : v_X12_worthOf_0 r I' L' I L x1 := by
  intro w g K
  have K1 := K.1
  refine g_aload_n K1 0 dX12_worthOf_0 rfl ?_
  refine g_iload_n K1 1 dX12_worthOf_1 rfl ?_
  refine h_putI K1 q_clX12 18 lyp_96 fkX12_18 fl_X12_249 rfl rfl rfl dX12_worthOf_2 ?_
  refine g_aload_n K1 0 dX12_worthOf_5 rfl ?_
  obtain ⟨I1, hct, h⟩ := h
  refine h_callV K1 (st := []) [] (hct w (gl g)) q_clX12 lyp_96 rfl ok_X12_goAll ml_X12_300 ⟨Nat.le_of_ble_eq_true rfl, Nat.le_of_ble_eq_true rfl⟩ (Nat.le_of_ble_eq_true rfl) dX12_worthOf_6 ?_
  show q_Gs w g 9 [(0, .ref 96), (1, .int x1)] [] (q_mm I1 L)
  refine g_aload_n K1 0 dX12_worthOf_9 rfl ?_
  obtain ⟨r2, hct, h⟩ := h
  refine h_callV K1 (st := []) [] (hct w (gl g)) q_clX12 lyp_96 rfl ok_X12_lastMany ml_X12_377 ⟨Nat.le_of_ble_eq_true rfl, Nat.le_of_ble_eq_true rfl⟩ (Nat.le_of_ble_eq_true rfl) dX12_worthOf_10 ?_
  show q_Gs w g 13 [(0, .ref 96), (1, .int x1)] [.int r2] (q_mm I1 L)
  obtain ⟨hr, hI, hL⟩ := h
  subst hr hI hL
  exact g_ireturn K rfl dX12_worthOf_13
theorem c0_X12_worthOf {r : Option Value} {I I' : Nat → Nat → Int32} {L L' : Nat → Nat → Int64} {x1 : Int32} (h : v_X12_worthOf_0 r I' L' I L x1) : q_C kX12_worthOf [.ref 96, .int x1] I L r I' L' := fun w l => q_ct (by decide) (Nat.le_of_ble_eq_true rfl) (Nat.le_refl _) (fun g _ K => h w g K)
abbrev v_X12_write_0 (r : Option Value) (I' : Nat → Nat → Int32) (L' : Nat → Nat → Int64) (I : Nat → Nat → Int32) (L : Nat → Nat → Int64) (x1 : Int32) (x2 : Int32) (x3 : Int64) : Prop := q_W kX12_write 0 [(0, .ref 96), (1, .int x1), (2, .int x2), (3, .long x3)] [] I L r I' L'
set_option maxRecDepth 20000 in
set_option maxHeartbeats 2000000 in
theorem vc_X12_write_0 {r : Option Value} {I' : Nat → Nat → Int32} {L' : Nat → Nat → Int64} {I : Nat → Nat → Int32} {L : Nat → Nat → Int64} {x1 : Int32} {x2 : Int32} {x3 : Int64} (h : (∃ r1, q_C kX12_isSlot [.int x1] I L (some (.int r1)) I L ∧ ((r1 = 0 → (r = some (.int (-2)) ∧ I' = I ∧ L' = L)) ∧ (¬ r1 = 0 → (vp_in x1 4 ∧ (((I 109 x1.toNatClampNeg) = (-1) → (r = some (.int (-6)) ∧ I' = I ∧ L' = L)) ∧ (¬ (I 109 x1.toNatClampNeg) = (-1) → (vp_in x1 4 ∧ (∃ r2, q_C kX12_in [.long x2.toInt64, .long 0, .long (((I 109 x1.toNatClampNeg) - 1) : Int32).toInt64] I L (some (.int r2)) I L ∧ ((r2 = 0 → (r = some (.int (-7)) ∧ I' = I ∧ L' = L)) ∧ (¬ r2 = 0 → (vp_in x1 4 ∧ (∃ r3, q_C kX12_clipped [.long x3, .int (I 110 x1.toNatClampNeg)] I L (some (.long r3)) I L ∧ (vp_in ((60 * x1) + x2) 240 ∧ (r = some (.int 0) ∧ I' = I ∧ L' = (up2 L 111 (((60 * x1) + x2) : Int32).toNatClampNeg r3)))))))))))))))) : v_X12_write_0 r I' L' I L x1 x2 x3 := by
  intro w g K
  have K1 := K.1
  refine g_iload_n K1 1 dX12_write_0 rfl ?_
  obtain ⟨r1, hct, h⟩ := h
  refine h_callS K1 (st := []) [.int x1] (hct w (gl g)) ok_X12_isSlot ml_X12_343 ⟨Nat.le_of_ble_eq_true rfl, Nat.le_of_ble_eq_true rfl⟩ (Nat.le_of_ble_eq_true rfl) dX12_write_1 ?_
  show q_Gs w g 4 [(0, .ref 96), (1, .int x1), (2, .int x2), (3, .long x3)] [.int r1] (q_mm I L)
  refine g_if_ne K1 10 dX12_write_4 rfl (fun hc => ?_) (fun hc => ?_)
  · replace h := h.2 hc
    refine g_aload_n K1 0 dX12_write_10 rfl ?_
    refine h_getO K1 q_clX12 37 109 lyp_96 fkX12_37 rfl fl_X12_52 dX12_write_11 ?_
    refine g_iload_n K1 1 dX12_write_14 rfl ?_
    obtain ⟨hg, h⟩ := h
    refine h_iaload K1 lyp_109 hg dX12_write_15 ?_
    refine g_iconst K1 (-1) dX12_write_16 rfl ?_
    refine g_icmp_ne K1 23 dX12_write_17 rfl (fun hc => ?_) (fun hc => ?_)
    · replace h := h.2 hc
      refine g_iload_n K1 2 dX12_write_23 rfl ?_
      refine g_i2l K1 dX12_write_24 ?_
      refine g_lconst K1 0 dX12_write_25 rfl ?_
      refine g_aload_n K1 0 dX12_write_26 rfl ?_
      refine h_getO K1 q_clX12 37 109 lyp_96 fkX12_37 rfl fl_X12_52 dX12_write_27 ?_
      refine g_iload_n K1 1 dX12_write_30 rfl ?_
      obtain ⟨hg, h⟩ := h
      refine h_iaload K1 lyp_109 hg dX12_write_31 ?_
      refine g_iconst K1 1 dX12_write_32 rfl ?_
      refine g_isub K1 dX12_write_33 ?_
      refine g_i2l K1 dX12_write_34 ?_
      obtain ⟨r2, hct, h⟩ := h
      refine h_callS K1 (st := []) [.long x2.toInt64, .long 0, .long (((I 109 x1.toNatClampNeg) - 1) : Int32).toInt64] (hct w (gl g)) ok_X12_in ml_X12_70 ⟨Nat.le_of_ble_eq_true rfl, Nat.le_of_ble_eq_true rfl⟩ (Nat.le_of_ble_eq_true rfl) dX12_write_35 ?_
      show q_Gs w g 38 [(0, .ref 96), (1, .int x1), (2, .int x2), (3, .long x3)] [.int r2] (q_mm I L)
      refine g_if_ne K1 44 dX12_write_38 rfl (fun hc => ?_) (fun hc => ?_)
      · replace h := h.2 hc
        refine g_aload_n K1 0 dX12_write_44 rfl ?_
        refine h_getO K1 q_clX12 39 111 lyp_96 fkX12_39 rfl fl_X12_58 dX12_write_45 ?_
        refine g_bipush K1 60 dX12_write_48 rfl ?_
        refine g_iload_n K1 1 dX12_write_50 rfl ?_
        refine g_imul K1 dX12_write_51 ?_
        refine g_iload_n K1 2 dX12_write_52 rfl ?_
        refine g_iadd K1 dX12_write_53 ?_
        refine g_lload_n K1 3 dX12_write_54 rfl ?_
        refine g_aload_n K1 0 dX12_write_55 rfl ?_
        refine h_getO K1 q_clX12 38 110 lyp_96 fkX12_38 rfl fl_X12_55 dX12_write_56 ?_
        refine g_iload_n K1 1 dX12_write_59 rfl ?_
        obtain ⟨hg, h⟩ := h
        refine h_iaload K1 lyp_110 hg dX12_write_60 ?_
        obtain ⟨r3, hct, h⟩ := h
        refine h_callS K1 (st := [.int ((60 * x1) + x2), .ref 111]) [.long x3, .int (I 110 x1.toNatClampNeg)] (hct w (gl g)) ok_X12_clipped ml_X12_489 ⟨Nat.le_of_ble_eq_true rfl, Nat.le_of_ble_eq_true rfl⟩ (Nat.le_of_ble_eq_true rfl) dX12_write_61 ?_
        show q_Gs w g 64 [(0, .ref 96), (1, .int x1), (2, .int x2), (3, .long x3)] [.long r3, .int ((60 * x1) + x2), .ref 111] (q_mm I L)
        obtain ⟨hg, h⟩ := h
        refine h_lastore K1 lyp_111 hg dX12_write_64 ?_
        refine g_iconst K1 0 dX12_write_65 rfl ?_
        obtain ⟨hr, hI, hL⟩ := h
        subst hr hI hL
        exact g_ireturn K rfl dX12_write_66
      · replace h := h.1 hc
        refine g_bipush K1 (-7) dX12_write_41 rfl ?_
        obtain ⟨hr, hI, hL⟩ := h
        subst hr hI hL
        exact g_ireturn K rfl dX12_write_43
    · replace h := h.1 hc
      refine g_bipush K1 (-6) dX12_write_20 rfl ?_
      obtain ⟨hr, hI, hL⟩ := h
      subst hr hI hL
      exact g_ireturn K rfl dX12_write_22
  · replace h := h.1 hc
    refine g_bipush K1 (-2) dX12_write_7 rfl ?_
    obtain ⟨hr, hI, hL⟩ := h
    subst hr hI hL
    exact g_ireturn K rfl dX12_write_9
theorem c0_X12_write {r : Option Value} {I I' : Nat → Nat → Int32} {L L' : Nat → Nat → Int64} {x1 : Int32} {x2 : Int32} {x3 : Int64} (h : v_X12_write_0 r I' L' I L x1 x2 x3) : q_C kX12_write [.ref 96, .int x1, .int x2, .long x3] I L r I' L' := fun w l => q_ct (by decide) (Nat.le_of_ble_eq_true rfl) (Nat.le_refl _) (fun g _ K => h w g K)
