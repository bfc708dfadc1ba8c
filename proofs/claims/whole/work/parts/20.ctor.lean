/-- the loop that forgets what sets are worth, while all is made -/
def ci_X8_forget_88 (I : Nat → Nat → Int32) : Nat → Nat → Int32 := fun p k => if p = 89 ∧ k < 128 then -1 else I p k
def cl_X8_forget_88 (L : Nat → Nat → Int64) : Nat → Nat → Int64 := L
def cr_X8_forget_88 (R : Nat → Nat → Option Nat) : Nat → Nat → Option Nat := R
set_option maxRecDepth 20000 in
set_option maxHeartbeats 4000000 in
theorem cc_X8_forget_88 (w : q_Wc) (l : Launch) (I : Nat → Nat → Int32) (L : Nat → Nat → Int64) (R : Nat → Nat → Option Nat) (hR : R 88 0 = some 89) : q_Ct w l kX8_forget [.ref 88] (90, I, L, R) none (90, ci_X8_forget_88 I, cl_X8_forget_88 L, cr_X8_forget_88 R) := by
  refine q_ct (by decide) (Nat.le_of_ble_eq_true rfl) (Nat.le_of_ble_eq_true rfl) (fun g hg0 K => ?_)
  have K1 := K.1
  have loop : ∀ (m c : Nat) (I0 : Nat → Nat → Int32), c + m = 128 → I0 = (fun p k => if p = 89 ∧ k < c then -1 else I p k) → q_Gs w g 2 [(1, .int (nI c)), (0, .ref 88)] [] (90, I0, L, R) := by
    intro m
    induction m with
    | zero =>
      intro c I0 hc hI
      have hc : c = 128 := by omega
      subst hc
      subst hI
      refine g_iload_n K1 0 dX8_forget_2 rfl ?_
      refine g_sipush K1 128 dX8_forget_3 rfl ?_
      refine g_icmp_ge K1 22 dX8_forget_6 rfl (fun _ => ?_) (fun hc2 => absurd (by decide) hc2)
      exact g_vreturn K rfl dX8_forget_22
    | succ m ih =>
      intro c I0 hc hI
      refine g_iload_n K1 0 dX8_forget_2 rfl ?_
      refine g_sipush K1 128 dX8_forget_3 rfl ?_
      refine g_icmp_ge K1 22 dX8_forget_6 rfl (fun hc2 => absurd hc2 (nI_ge (a := c) (b := 128) (by omega) (by decide))) (fun _ => ?_)
      refine g_aload_n K1 1 dX8_forget_9 rfl ?_
      refine g_getO K1 q_clX8 0 89 (Nat.le_of_ble_eq_true rfl) lyp_88.1 fkX8_0.1 fkX8_0.2 hR fl_X8_9 dX8_forget_10 ?_
      refine g_iload_n K1 0 dX8_forget_13 rfl ?_
      refine g_iconst K1 (-1) dX8_forget_14 rfl ?_
      refine g_iastore K1 (Nat.le_of_ble_eq_true rfl) lyp_89.1 (vp_in_nI (by omega) (by decide)) dX8_forget_15 ?_
      refine g_iinc K1 (nI (c + 1)) 0 dX8_forget_16 rfl (by rw [← nI_1 c]; rfl) (by decide) rfl ?_
      refine g_goto K1 2 dX8_forget_19 rfl ?_
      refine ih (c + 1) _ (by omega) ?_
      rw [nI_clamp (by omega)]
      subst hI
      funext p k
      show (if p = 89 ∧ k = c then (-1 : Int32) else (if p = 89 ∧ k < c then -1 else I p k)) = (if p = 89 ∧ k < c + 1 then -1 else I p k)
      by_cases h1 : p = 89 ∧ k < c + 1
      · rw [if_pos h1]
        by_cases h2 : p = 89 ∧ k = c
        · rw [if_pos h2]
        · rw [if_neg h2, if_pos ⟨h1.1, by omega⟩]
      · rw [if_neg h1, if_neg (by omega), if_neg (by omega)]
  show q_Gs w g 0 [(0, .ref 88)] [] (90, I, L, R)
  refine g_iconst K1 0 dX8_forget_0 rfl ?_
  refine g_istore_n K1 dX8_forget_1 rfl (by decide) rfl ?_
  exact loop 128 0 I (by omega) (funext fun p => funext fun k => by rw [if_neg (by omega)])
def ci_X5_init_3 (I : Nat → Nat → Int32) : Nat → Nat → Int32 := (zr 0 (zr 0 (zr 0 (zr 0 (zr 0 (zr 0 (zr 0 (zr 0 I 4) 5) 6) 7) 8) 9) 10) 11)
def cl_X5_init_3 (L : Nat → Nat → Int64) : Nat → Nat → Int64 := (zr 0 (zr 0 (zr 0 (zr 0 (zr 0 (zr 0 (zr 0 (zr 0 L 4) 5) 6) 7) 8) 9) 10) 11)
def cr_X5_init_3 (R : Nat → Nat → Option Nat) : Nat → Nat → Option Nat := (up2 (zr none (up2 (zr none (up2 (zr none (up2 (zr none (up2 (zr none (up2 (zr none (up2 (zr none (up2 (zr none R 4) 3 8 (some 4)) 5) 3 9 (some 5)) 6) 3 10 (some 6)) 7) 3 11 (some 7)) 8) 3 12 (some 8)) 9) 3 13 (some 9)) 10) 3 14 (some 10)) 11) 3 15 (some 11))
set_option maxRecDepth 20000 in
set_option maxHeartbeats 4000000 in
theorem cc_X5_init_3 (w : q_Wc) (l : Launch) (I : Nat → Nat → Int32) (L : Nat → Nat → Int64) (R : Nat → Nat → Option Nat) : q_Ct w l kX5_init [.ref 3] (4, I, L, R) none (12, ci_X5_init_3 I, cl_X5_init_3 L, cr_X5_init_3 R) := by
  refine q_ct (by decide) (Nat.le_of_ble_eq_true rfl) (Nat.le_of_ble_eq_true rfl) (fun g hg0 K => ?_)
  have K1 := K.1
  show q_Gs w g 0 [(0, .ref 3)] [] (4, I, L, R)
  refine g_aload_n K1 0 dX5_init_0 rfl ?_
  refine g_objInit K1 ml_X5_3 oi_inst oi_code ⟨Nat.le_of_ble_eq_true rfl, Nat.le_of_ble_eq_true rfl⟩ (Nat.le_of_ble_eq_true rfl) dX5_init_1 ?_
  refine g_aload_n K1 0 dX5_init_4 rfl ?_
  refine g_bipush K1 7 dX5_init_5 rfl ?_
  refine g_newarr_int K1 (N := 7) (by decide) (by decide) (by decide) lyp_4.1 szp_4 (Nat.le_of_ble_eq_true rfl) (Nat.le_of_ble_eq_true rfl) ar_int dX5_init_7 ?_
  show q_Gs w g 9 [(0, .ref 3)] [.ref 4, .ref 3] (5, (zr 0 I 4), (zr 0 L 4), (zr none R 4))
  refine g_putF K1 q_clX5 8 (Nat.le_of_ble_eq_true rfl) lyp_3.1 fkX5_8.1 fkX5_8.2 fl_X5_9 rfl rfl rfl (fun _ => rfl) (fun _ => rfl) dX5_init_9 ?_
  show q_Gs w g 12 [(0, .ref 3)] [] (5, (zr 0 I 4), (zr 0 L 4), (up2 (zr none R 4) 3 8 (some 4)))
  refine g_aload_n K1 0 dX5_init_12 rfl ?_
  refine g_bipush K1 7 dX5_init_13 rfl ?_
  refine g_newarr_int K1 (N := 7) (by decide) (by decide) (by decide) lyp_5.1 szp_5 (Nat.le_of_ble_eq_true rfl) (Nat.le_of_ble_eq_true rfl) ar_int dX5_init_15 ?_
  show q_Gs w g 17 [(0, .ref 3)] [.ref 5, .ref 3] (6, (zr 0 (zr 0 I 4) 5), (zr 0 (zr 0 L 4) 5), (zr none (up2 (zr none R 4) 3 8 (some 4)) 5))
  refine g_putF K1 q_clX5 9 (Nat.le_of_ble_eq_true rfl) lyp_3.1 fkX5_9.1 fkX5_9.2 fl_X5_15 rfl rfl rfl (fun _ => rfl) (fun _ => rfl) dX5_init_17 ?_
  show q_Gs w g 20 [(0, .ref 3)] [] (6, (zr 0 (zr 0 I 4) 5), (zr 0 (zr 0 L 4) 5), (up2 (zr none (up2 (zr none R 4) 3 8 (some 4)) 5) 3 9 (some 5)))
  refine g_aload_n K1 0 dX5_init_20 rfl ?_
  refine g_bipush K1 7 dX5_init_21 rfl ?_
  refine g_newarr_int K1 (N := 7) (by decide) (by decide) (by decide) lyp_6.1 szp_6 (Nat.le_of_ble_eq_true rfl) (Nat.le_of_ble_eq_true rfl) ar_int dX5_init_23 ?_
  show q_Gs w g 25 [(0, .ref 3)] [.ref 6, .ref 3] (7, (zr 0 (zr 0 (zr 0 I 4) 5) 6), (zr 0 (zr 0 (zr 0 L 4) 5) 6), (zr none (up2 (zr none (up2 (zr none R 4) 3 8 (some 4)) 5) 3 9 (some 5)) 6))
  refine g_putF K1 q_clX5 10 (Nat.le_of_ble_eq_true rfl) lyp_3.1 fkX5_10.1 fkX5_10.2 fl_X5_18 rfl rfl rfl (fun _ => rfl) (fun _ => rfl) dX5_init_25 ?_
  show q_Gs w g 28 [(0, .ref 3)] [] (7, (zr 0 (zr 0 (zr 0 I 4) 5) 6), (zr 0 (zr 0 (zr 0 L 4) 5) 6), (up2 (zr none (up2 (zr none (up2 (zr none R 4) 3 8 (some 4)) 5) 3 9 (some 5)) 6) 3 10 (some 6)))
  refine g_aload_n K1 0 dX5_init_28 rfl ?_
  refine g_bipush K1 7 dX5_init_29 rfl ?_
  refine g_newarr_int K1 (N := 7) (by decide) (by decide) (by decide) lyp_7.1 szp_7 (Nat.le_of_ble_eq_true rfl) (Nat.le_of_ble_eq_true rfl) ar_int dX5_init_31 ?_
  show q_Gs w g 33 [(0, .ref 3)] [.ref 7, .ref 3] (8, (zr 0 (zr 0 (zr 0 (zr 0 I 4) 5) 6) 7), (zr 0 (zr 0 (zr 0 (zr 0 L 4) 5) 6) 7), (zr none (up2 (zr none (up2 (zr none (up2 (zr none R 4) 3 8 (some 4)) 5) 3 9 (some 5)) 6) 3 10 (some 6)) 7))
  refine g_putF K1 q_clX5 11 (Nat.le_of_ble_eq_true rfl) lyp_3.1 fkX5_11.1 fkX5_11.2 fl_X5_21 rfl rfl rfl (fun _ => rfl) (fun _ => rfl) dX5_init_33 ?_
  show q_Gs w g 36 [(0, .ref 3)] [] (8, (zr 0 (zr 0 (zr 0 (zr 0 I 4) 5) 6) 7), (zr 0 (zr 0 (zr 0 (zr 0 L 4) 5) 6) 7), (up2 (zr none (up2 (zr none (up2 (zr none (up2 (zr none R 4) 3 8 (some 4)) 5) 3 9 (some 5)) 6) 3 10 (some 6)) 7) 3 11 (some 7)))
  refine g_aload_n K1 0 dX5_init_36 rfl ?_
  refine g_iconst K1 4 dX5_init_37 rfl ?_
  refine g_newarr_int K1 (N := 4) (by decide) (by decide) (by decide) lyp_8.1 szp_8 (Nat.le_of_ble_eq_true rfl) (Nat.le_of_ble_eq_true rfl) ar_int dX5_init_38 ?_
  show q_Gs w g 40 [(0, .ref 3)] [.ref 8, .ref 3] (9, (zr 0 (zr 0 (zr 0 (zr 0 (zr 0 I 4) 5) 6) 7) 8), (zr 0 (zr 0 (zr 0 (zr 0 (zr 0 L 4) 5) 6) 7) 8), (zr none (up2 (zr none (up2 (zr none (up2 (zr none (up2 (zr none R 4) 3 8 (some 4)) 5) 3 9 (some 5)) 6) 3 10 (some 6)) 7) 3 11 (some 7)) 8))
  refine g_putF K1 q_clX5 12 (Nat.le_of_ble_eq_true rfl) lyp_3.1 fkX5_12.1 fkX5_12.2 fl_X5_24 rfl rfl rfl (fun _ => rfl) (fun _ => rfl) dX5_init_40 ?_
  show q_Gs w g 43 [(0, .ref 3)] [] (9, (zr 0 (zr 0 (zr 0 (zr 0 (zr 0 I 4) 5) 6) 7) 8), (zr 0 (zr 0 (zr 0 (zr 0 (zr 0 L 4) 5) 6) 7) 8), (up2 (zr none (up2 (zr none (up2 (zr none (up2 (zr none (up2 (zr none R 4) 3 8 (some 4)) 5) 3 9 (some 5)) 6) 3 10 (some 6)) 7) 3 11 (some 7)) 8) 3 12 (some 8)))
  refine g_aload_n K1 0 dX5_init_43 rfl ?_
  refine g_iconst K1 4 dX5_init_44 rfl ?_
  refine g_newarr_int K1 (N := 4) (by decide) (by decide) (by decide) lyp_9.1 szp_9 (Nat.le_of_ble_eq_true rfl) (Nat.le_of_ble_eq_true rfl) ar_int dX5_init_45 ?_
  show q_Gs w g 47 [(0, .ref 3)] [.ref 9, .ref 3] (10, (zr 0 (zr 0 (zr 0 (zr 0 (zr 0 (zr 0 I 4) 5) 6) 7) 8) 9), (zr 0 (zr 0 (zr 0 (zr 0 (zr 0 (zr 0 L 4) 5) 6) 7) 8) 9), (zr none (up2 (zr none (up2 (zr none (up2 (zr none (up2 (zr none (up2 (zr none R 4) 3 8 (some 4)) 5) 3 9 (some 5)) 6) 3 10 (some 6)) 7) 3 11 (some 7)) 8) 3 12 (some 8)) 9))
  refine g_putF K1 q_clX5 13 (Nat.le_of_ble_eq_true rfl) lyp_3.1 fkX5_13.1 fkX5_13.2 fl_X5_27 rfl rfl rfl (fun _ => rfl) (fun _ => rfl) dX5_init_47 ?_
  show q_Gs w g 50 [(0, .ref 3)] [] (10, (zr 0 (zr 0 (zr 0 (zr 0 (zr 0 (zr 0 I 4) 5) 6) 7) 8) 9), (zr 0 (zr 0 (zr 0 (zr 0 (zr 0 (zr 0 L 4) 5) 6) 7) 8) 9), (up2 (zr none (up2 (zr none (up2 (zr none (up2 (zr none (up2 (zr none (up2 (zr none R 4) 3 8 (some 4)) 5) 3 9 (some 5)) 6) 3 10 (some 6)) 7) 3 11 (some 7)) 8) 3 12 (some 8)) 9) 3 13 (some 9)))
  refine g_aload_n K1 0 dX5_init_50 rfl ?_
  refine g_bipush K1 6 dX5_init_51 rfl ?_
  refine g_newarr_int K1 (N := 6) (by decide) (by decide) (by decide) lyp_10.1 szp_10 (Nat.le_of_ble_eq_true rfl) (Nat.le_of_ble_eq_true rfl) ar_int dX5_init_53 ?_
  show q_Gs w g 55 [(0, .ref 3)] [.ref 10, .ref 3] (11, (zr 0 (zr 0 (zr 0 (zr 0 (zr 0 (zr 0 (zr 0 I 4) 5) 6) 7) 8) 9) 10), (zr 0 (zr 0 (zr 0 (zr 0 (zr 0 (zr 0 (zr 0 L 4) 5) 6) 7) 8) 9) 10), (zr none (up2 (zr none (up2 (zr none (up2 (zr none (up2 (zr none (up2 (zr none (up2 (zr none R 4) 3 8 (some 4)) 5) 3 9 (some 5)) 6) 3 10 (some 6)) 7) 3 11 (some 7)) 8) 3 12 (some 8)) 9) 3 13 (some 9)) 10))
  refine g_putF K1 q_clX5 14 (Nat.le_of_ble_eq_true rfl) lyp_3.1 fkX5_14.1 fkX5_14.2 fl_X5_30 rfl rfl rfl (fun _ => rfl) (fun _ => rfl) dX5_init_55 ?_
  show q_Gs w g 58 [(0, .ref 3)] [] (11, (zr 0 (zr 0 (zr 0 (zr 0 (zr 0 (zr 0 (zr 0 I 4) 5) 6) 7) 8) 9) 10), (zr 0 (zr 0 (zr 0 (zr 0 (zr 0 (zr 0 (zr 0 L 4) 5) 6) 7) 8) 9) 10), (up2 (zr none (up2 (zr none (up2 (zr none (up2 (zr none (up2 (zr none (up2 (zr none (up2 (zr none R 4) 3 8 (some 4)) 5) 3 9 (some 5)) 6) 3 10 (some 6)) 7) 3 11 (some 7)) 8) 3 12 (some 8)) 9) 3 13 (some 9)) 10) 3 14 (some 10)))
  refine g_aload_n K1 0 dX5_init_58 rfl ?_
  refine g_bipush K1 6 dX5_init_59 rfl ?_
  refine g_newarr_int K1 (N := 6) (by decide) (by decide) (by decide) lyp_11.1 szp_11 (Nat.le_of_ble_eq_true rfl) (Nat.le_of_ble_eq_true rfl) ar_int dX5_init_61 ?_
  show q_Gs w g 63 [(0, .ref 3)] [.ref 11, .ref 3] (12, (zr 0 (zr 0 (zr 0 (zr 0 (zr 0 (zr 0 (zr 0 (zr 0 I 4) 5) 6) 7) 8) 9) 10) 11), (zr 0 (zr 0 (zr 0 (zr 0 (zr 0 (zr 0 (zr 0 (zr 0 L 4) 5) 6) 7) 8) 9) 10) 11), (zr none (up2 (zr none (up2 (zr none (up2 (zr none (up2 (zr none (up2 (zr none (up2 (zr none (up2 (zr none R 4) 3 8 (some 4)) 5) 3 9 (some 5)) 6) 3 10 (some 6)) 7) 3 11 (some 7)) 8) 3 12 (some 8)) 9) 3 13 (some 9)) 10) 3 14 (some 10)) 11))
  refine g_putF K1 q_clX5 15 (Nat.le_of_ble_eq_true rfl) lyp_3.1 fkX5_15.1 fkX5_15.2 fl_X5_33 rfl rfl rfl (fun _ => rfl) (fun _ => rfl) dX5_init_63 ?_
  show q_Gs w g 66 [(0, .ref 3)] [] (12, (zr 0 (zr 0 (zr 0 (zr 0 (zr 0 (zr 0 (zr 0 (zr 0 I 4) 5) 6) 7) 8) 9) 10) 11), (zr 0 (zr 0 (zr 0 (zr 0 (zr 0 (zr 0 (zr 0 (zr 0 L 4) 5) 6) 7) 8) 9) 10) 11), (up2 (zr none (up2 (zr none (up2 (zr none (up2 (zr none (up2 (zr none (up2 (zr none (up2 (zr none (up2 (zr none R 4) 3 8 (some 4)) 5) 3 9 (some 5)) 6) 3 10 (some 6)) 7) 3 11 (some 7)) 8) 3 12 (some 8)) 9) 3 13 (some 9)) 10) 3 14 (some 10)) 11) 3 15 (some 11)))
  exact g_vreturn K rfl dX5_init_66
def ci_X6_init_2 (I : Nat → Nat → Int32) : Nat → Nat → Int32 := (ci_X5_init_3 (zr 0 I 3))
def cl_X6_init_2 (L : Nat → Nat → Int64) : Nat → Nat → Int64 := (cl_X5_init_3 (zr 0 L 3))
def cr_X6_init_2 (R : Nat → Nat → Option Nat) : Nat → Nat → Option Nat := (up2 (up2 (cr_X5_init_3 (zr none R 3)) 2 2 (some 3)) 2 3 (some 1))
set_option maxRecDepth 20000 in
set_option maxHeartbeats 4000000 in
theorem cc_X6_init_2 (w : q_Wc) (l : Launch) (I : Nat → Nat → Int32) (L : Nat → Nat → Int64) (R : Nat → Nat → Option Nat) : q_Ct w l kX6_init [.ref 2, .ref 1] (3, I, L, R) none (12, ci_X6_init_2 I, cl_X6_init_2 L, cr_X6_init_2 R) := by
  refine q_ct (by decide) (Nat.le_of_ble_eq_true rfl) (Nat.le_of_ble_eq_true rfl) (fun g hg0 K => ?_)
  have K1 := K.1
  show q_Gs w g 0 [(0, .ref 2), (1, .ref 1)] [] (3, I, L, R)
  refine g_aload_n K1 0 dX6_init_0 rfl ?_
  refine g_objInit K1 ml_X6_3 oi_inst oi_code ⟨Nat.le_of_ble_eq_true rfl, Nat.le_of_ble_eq_true rfl⟩ (Nat.le_of_ble_eq_true rfl) dX6_init_1 ?_
  refine g_aload_n K1 0 dX6_init_4 rfl ?_
  refine g_new K1 q_clX5 df_X5 lyp_3.1 szp_3 (Nat.le_of_ble_eq_true rfl) (Nat.le_of_ble_eq_true rfl) kl_X6_9 in_X5 it_X5 dX6_init_5 ?_
  show q_Gs w g 8 [(0, .ref 2), (1, .ref 1)] [.ref 3, .ref 2] (4, (zr 0 I 3), (zr 0 L 3), (zr none R 3))
  refine g_dup K1 dX6_init_8 rfl ?_
  refine g_callIN K1 (st := [.ref 3, .ref 2]) [] (cc_X5_init_3 w (gl g) (zr 0 I 3) (zr 0 L 3) (zr none R 3)) (Nat.le_of_ble_eq_true rfl) ok_X5_init (K1.2.2.2.2.2.1.2.2.2.2.2.2.2) (Nat.le_of_ble_eq_true rfl) (Nat.le_of_ble_eq_true rfl) (Nat.le_of_ble_eq_true rfl) dX6_init_9 ?_
  show q_Gs w g 12 [(0, .ref 2), (1, .ref 1)] [.ref 3, .ref 2] (12, (ci_X5_init_3 (zr 0 I 3)), (cl_X5_init_3 (zr 0 L 3)), (cr_X5_init_3 (zr none R 3)))
  refine g_putF K1 q_clX6 2 (Nat.le_of_ble_eq_true rfl) lyp_2.1 fkX6_2.1 fkX6_2.2 fl_X6_12 rfl rfl rfl (fun _ => rfl) (fun _ => rfl) dX6_init_12 ?_
  show q_Gs w g 15 [(0, .ref 2), (1, .ref 1)] [] (12, (ci_X5_init_3 (zr 0 I 3)), (cl_X5_init_3 (zr 0 L 3)), (up2 (cr_X5_init_3 (zr none R 3)) 2 2 (some 3)))
  refine g_aload_n K1 0 dX6_init_15 rfl ?_
  refine g_aload_n K1 1 dX6_init_16 rfl ?_
  refine g_putF K1 q_clX6 3 (Nat.le_of_ble_eq_true rfl) lyp_2.1 fkX6_3.1 fkX6_3.2 fl_X6_18 rfl rfl rfl (fun _ => rfl) (fun _ => rfl) dX6_init_17 ?_
  show q_Gs w g 20 [(0, .ref 2), (1, .ref 1)] [] (12, (ci_X5_init_3 (zr 0 I 3)), (cl_X5_init_3 (zr 0 L 3)), (up2 (up2 (cr_X5_init_3 (zr none R 3)) 2 2 (some 3)) 2 3 (some 1)))
  exact g_vreturn K rfl dX6_init_20
def ci_X5_init_12 (I : Nat → Nat → Int32) : Nat → Nat → Int32 := (zr 0 (zr 0 (zr 0 (zr 0 (zr 0 (zr 0 (zr 0 (zr 0 I 13) 14) 15) 16) 17) 18) 19) 20)
def cl_X5_init_12 (L : Nat → Nat → Int64) : Nat → Nat → Int64 := (zr 0 (zr 0 (zr 0 (zr 0 (zr 0 (zr 0 (zr 0 (zr 0 L 13) 14) 15) 16) 17) 18) 19) 20)
def cr_X5_init_12 (R : Nat → Nat → Option Nat) : Nat → Nat → Option Nat := (up2 (zr none (up2 (zr none (up2 (zr none (up2 (zr none (up2 (zr none (up2 (zr none (up2 (zr none (up2 (zr none R 13) 12 8 (some 13)) 14) 12 9 (some 14)) 15) 12 10 (some 15)) 16) 12 11 (some 16)) 17) 12 12 (some 17)) 18) 12 13 (some 18)) 19) 12 14 (some 19)) 20) 12 15 (some 20))
set_option maxRecDepth 20000 in
set_option maxHeartbeats 4000000 in
theorem cc_X5_init_12 (w : q_Wc) (l : Launch) (I : Nat → Nat → Int32) (L : Nat → Nat → Int64) (R : Nat → Nat → Option Nat) : q_Ct w l kX5_init [.ref 12] (13, I, L, R) none (21, ci_X5_init_12 I, cl_X5_init_12 L, cr_X5_init_12 R) := by
  refine q_ct (by decide) (Nat.le_of_ble_eq_true rfl) (Nat.le_of_ble_eq_true rfl) (fun g hg0 K => ?_)
  have K1 := K.1
  show q_Gs w g 0 [(0, .ref 12)] [] (13, I, L, R)
  refine g_aload_n K1 0 dX5_init_0 rfl ?_
  refine g_objInit K1 ml_X5_3 oi_inst oi_code ⟨Nat.le_of_ble_eq_true rfl, Nat.le_of_ble_eq_true rfl⟩ (Nat.le_of_ble_eq_true rfl) dX5_init_1 ?_
  refine g_aload_n K1 0 dX5_init_4 rfl ?_
  refine g_bipush K1 7 dX5_init_5 rfl ?_
  refine g_newarr_int K1 (N := 7) (by decide) (by decide) (by decide) lyp_13.1 szp_13 (Nat.le_of_ble_eq_true rfl) (Nat.le_of_ble_eq_true rfl) ar_int dX5_init_7 ?_
  show q_Gs w g 9 [(0, .ref 12)] [.ref 13, .ref 12] (14, (zr 0 I 13), (zr 0 L 13), (zr none R 13))
  refine g_putF K1 q_clX5 8 (Nat.le_of_ble_eq_true rfl) lyp_12.1 fkX5_8.1 fkX5_8.2 fl_X5_9 rfl rfl rfl (fun _ => rfl) (fun _ => rfl) dX5_init_9 ?_
  show q_Gs w g 12 [(0, .ref 12)] [] (14, (zr 0 I 13), (zr 0 L 13), (up2 (zr none R 13) 12 8 (some 13)))
  refine g_aload_n K1 0 dX5_init_12 rfl ?_
  refine g_bipush K1 7 dX5_init_13 rfl ?_
  refine g_newarr_int K1 (N := 7) (by decide) (by decide) (by decide) lyp_14.1 szp_14 (Nat.le_of_ble_eq_true rfl) (Nat.le_of_ble_eq_true rfl) ar_int dX5_init_15 ?_
  show q_Gs w g 17 [(0, .ref 12)] [.ref 14, .ref 12] (15, (zr 0 (zr 0 I 13) 14), (zr 0 (zr 0 L 13) 14), (zr none (up2 (zr none R 13) 12 8 (some 13)) 14))
  refine g_putF K1 q_clX5 9 (Nat.le_of_ble_eq_true rfl) lyp_12.1 fkX5_9.1 fkX5_9.2 fl_X5_15 rfl rfl rfl (fun _ => rfl) (fun _ => rfl) dX5_init_17 ?_
  show q_Gs w g 20 [(0, .ref 12)] [] (15, (zr 0 (zr 0 I 13) 14), (zr 0 (zr 0 L 13) 14), (up2 (zr none (up2 (zr none R 13) 12 8 (some 13)) 14) 12 9 (some 14)))
  refine g_aload_n K1 0 dX5_init_20 rfl ?_
  refine g_bipush K1 7 dX5_init_21 rfl ?_
  refine g_newarr_int K1 (N := 7) (by decide) (by decide) (by decide) lyp_15.1 szp_15 (Nat.le_of_ble_eq_true rfl) (Nat.le_of_ble_eq_true rfl) ar_int dX5_init_23 ?_
  show q_Gs w g 25 [(0, .ref 12)] [.ref 15, .ref 12] (16, (zr 0 (zr 0 (zr 0 I 13) 14) 15), (zr 0 (zr 0 (zr 0 L 13) 14) 15), (zr none (up2 (zr none (up2 (zr none R 13) 12 8 (some 13)) 14) 12 9 (some 14)) 15))
  refine g_putF K1 q_clX5 10 (Nat.le_of_ble_eq_true rfl) lyp_12.1 fkX5_10.1 fkX5_10.2 fl_X5_18 rfl rfl rfl (fun _ => rfl) (fun _ => rfl) dX5_init_25 ?_
  show q_Gs w g 28 [(0, .ref 12)] [] (16, (zr 0 (zr 0 (zr 0 I 13) 14) 15), (zr 0 (zr 0 (zr 0 L 13) 14) 15), (up2 (zr none (up2 (zr none (up2 (zr none R 13) 12 8 (some 13)) 14) 12 9 (some 14)) 15) 12 10 (some 15)))
  refine g_aload_n K1 0 dX5_init_28 rfl ?_
  refine g_bipush K1 7 dX5_init_29 rfl ?_
  refine g_newarr_int K1 (N := 7) (by decide) (by decide) (by decide) lyp_16.1 szp_16 (Nat.le_of_ble_eq_true rfl) (Nat.le_of_ble_eq_true rfl) ar_int dX5_init_31 ?_
  show q_Gs w g 33 [(0, .ref 12)] [.ref 16, .ref 12] (17, (zr 0 (zr 0 (zr 0 (zr 0 I 13) 14) 15) 16), (zr 0 (zr 0 (zr 0 (zr 0 L 13) 14) 15) 16), (zr none (up2 (zr none (up2 (zr none (up2 (zr none R 13) 12 8 (some 13)) 14) 12 9 (some 14)) 15) 12 10 (some 15)) 16))
  refine g_putF K1 q_clX5 11 (Nat.le_of_ble_eq_true rfl) lyp_12.1 fkX5_11.1 fkX5_11.2 fl_X5_21 rfl rfl rfl (fun _ => rfl) (fun _ => rfl) dX5_init_33 ?_
  show q_Gs w g 36 [(0, .ref 12)] [] (17, (zr 0 (zr 0 (zr 0 (zr 0 I 13) 14) 15) 16), (zr 0 (zr 0 (zr 0 (zr 0 L 13) 14) 15) 16), (up2 (zr none (up2 (zr none (up2 (zr none (up2 (zr none R 13) 12 8 (some 13)) 14) 12 9 (some 14)) 15) 12 10 (some 15)) 16) 12 11 (some 16)))
  refine g_aload_n K1 0 dX5_init_36 rfl ?_
  refine g_iconst K1 4 dX5_init_37 rfl ?_
  refine g_newarr_int K1 (N := 4) (by decide) (by decide) (by decide) lyp_17.1 szp_17 (Nat.le_of_ble_eq_true rfl) (Nat.le_of_ble_eq_true rfl) ar_int dX5_init_38 ?_
  show q_Gs w g 40 [(0, .ref 12)] [.ref 17, .ref 12] (18, (zr 0 (zr 0 (zr 0 (zr 0 (zr 0 I 13) 14) 15) 16) 17), (zr 0 (zr 0 (zr 0 (zr 0 (zr 0 L 13) 14) 15) 16) 17), (zr none (up2 (zr none (up2 (zr none (up2 (zr none (up2 (zr none R 13) 12 8 (some 13)) 14) 12 9 (some 14)) 15) 12 10 (some 15)) 16) 12 11 (some 16)) 17))
  refine g_putF K1 q_clX5 12 (Nat.le_of_ble_eq_true rfl) lyp_12.1 fkX5_12.1 fkX5_12.2 fl_X5_24 rfl rfl rfl (fun _ => rfl) (fun _ => rfl) dX5_init_40 ?_
  show q_Gs w g 43 [(0, .ref 12)] [] (18, (zr 0 (zr 0 (zr 0 (zr 0 (zr 0 I 13) 14) 15) 16) 17), (zr 0 (zr 0 (zr 0 (zr 0 (zr 0 L 13) 14) 15) 16) 17), (up2 (zr none (up2 (zr none (up2 (zr none (up2 (zr none (up2 (zr none R 13) 12 8 (some 13)) 14) 12 9 (some 14)) 15) 12 10 (some 15)) 16) 12 11 (some 16)) 17) 12 12 (some 17)))
  refine g_aload_n K1 0 dX5_init_43 rfl ?_
  refine g_iconst K1 4 dX5_init_44 rfl ?_
  refine g_newarr_int K1 (N := 4) (by decide) (by decide) (by decide) lyp_18.1 szp_18 (Nat.le_of_ble_eq_true rfl) (Nat.le_of_ble_eq_true rfl) ar_int dX5_init_45 ?_
  show q_Gs w g 47 [(0, .ref 12)] [.ref 18, .ref 12] (19, (zr 0 (zr 0 (zr 0 (zr 0 (zr 0 (zr 0 I 13) 14) 15) 16) 17) 18), (zr 0 (zr 0 (zr 0 (zr 0 (zr 0 (zr 0 L 13) 14) 15) 16) 17) 18), (zr none (up2 (zr none (up2 (zr none (up2 (zr none (up2 (zr none (up2 (zr none R 13) 12 8 (some 13)) 14) 12 9 (some 14)) 15) 12 10 (some 15)) 16) 12 11 (some 16)) 17) 12 12 (some 17)) 18))
  refine g_putF K1 q_clX5 13 (Nat.le_of_ble_eq_true rfl) lyp_12.1 fkX5_13.1 fkX5_13.2 fl_X5_27 rfl rfl rfl (fun _ => rfl) (fun _ => rfl) dX5_init_47 ?_
  show q_Gs w g 50 [(0, .ref 12)] [] (19, (zr 0 (zr 0 (zr 0 (zr 0 (zr 0 (zr 0 I 13) 14) 15) 16) 17) 18), (zr 0 (zr 0 (zr 0 (zr 0 (zr 0 (zr 0 L 13) 14) 15) 16) 17) 18), (up2 (zr none (up2 (zr none (up2 (zr none (up2 (zr none (up2 (zr none (up2 (zr none R 13) 12 8 (some 13)) 14) 12 9 (some 14)) 15) 12 10 (some 15)) 16) 12 11 (some 16)) 17) 12 12 (some 17)) 18) 12 13 (some 18)))
  refine g_aload_n K1 0 dX5_init_50 rfl ?_
  refine g_bipush K1 6 dX5_init_51 rfl ?_
  refine g_newarr_int K1 (N := 6) (by decide) (by decide) (by decide) lyp_19.1 szp_19 (Nat.le_of_ble_eq_true rfl) (Nat.le_of_ble_eq_true rfl) ar_int dX5_init_53 ?_
  show q_Gs w g 55 [(0, .ref 12)] [.ref 19, .ref 12] (20, (zr 0 (zr 0 (zr 0 (zr 0 (zr 0 (zr 0 (zr 0 I 13) 14) 15) 16) 17) 18) 19), (zr 0 (zr 0 (zr 0 (zr 0 (zr 0 (zr 0 (zr 0 L 13) 14) 15) 16) 17) 18) 19), (zr none (up2 (zr none (up2 (zr none (up2 (zr none (up2 (zr none (up2 (zr none (up2 (zr none R 13) 12 8 (some 13)) 14) 12 9 (some 14)) 15) 12 10 (some 15)) 16) 12 11 (some 16)) 17) 12 12 (some 17)) 18) 12 13 (some 18)) 19))
  refine g_putF K1 q_clX5 14 (Nat.le_of_ble_eq_true rfl) lyp_12.1 fkX5_14.1 fkX5_14.2 fl_X5_30 rfl rfl rfl (fun _ => rfl) (fun _ => rfl) dX5_init_55 ?_
  show q_Gs w g 58 [(0, .ref 12)] [] (20, (zr 0 (zr 0 (zr 0 (zr 0 (zr 0 (zr 0 (zr 0 I 13) 14) 15) 16) 17) 18) 19), (zr 0 (zr 0 (zr 0 (zr 0 (zr 0 (zr 0 (zr 0 L 13) 14) 15) 16) 17) 18) 19), (up2 (zr none (up2 (zr none (up2 (zr none (up2 (zr none (up2 (zr none (up2 (zr none (up2 (zr none R 13) 12 8 (some 13)) 14) 12 9 (some 14)) 15) 12 10 (some 15)) 16) 12 11 (some 16)) 17) 12 12 (some 17)) 18) 12 13 (some 18)) 19) 12 14 (some 19)))
  refine g_aload_n K1 0 dX5_init_58 rfl ?_
  refine g_bipush K1 6 dX5_init_59 rfl ?_
  refine g_newarr_int K1 (N := 6) (by decide) (by decide) (by decide) lyp_20.1 szp_20 (Nat.le_of_ble_eq_true rfl) (Nat.le_of_ble_eq_true rfl) ar_int dX5_init_61 ?_
  show q_Gs w g 63 [(0, .ref 12)] [.ref 20, .ref 12] (21, (zr 0 (zr 0 (zr 0 (zr 0 (zr 0 (zr 0 (zr 0 (zr 0 I 13) 14) 15) 16) 17) 18) 19) 20), (zr 0 (zr 0 (zr 0 (zr 0 (zr 0 (zr 0 (zr 0 (zr 0 L 13) 14) 15) 16) 17) 18) 19) 20), (zr none (up2 (zr none (up2 (zr none (up2 (zr none (up2 (zr none (up2 (zr none (up2 (zr none (up2 (zr none R 13) 12 8 (some 13)) 14) 12 9 (some 14)) 15) 12 10 (some 15)) 16) 12 11 (some 16)) 17) 12 12 (some 17)) 18) 12 13 (some 18)) 19) 12 14 (some 19)) 20))
  refine g_putF K1 q_clX5 15 (Nat.le_of_ble_eq_true rfl) lyp_12.1 fkX5_15.1 fkX5_15.2 fl_X5_33 rfl rfl rfl (fun _ => rfl) (fun _ => rfl) dX5_init_63 ?_
  show q_Gs w g 66 [(0, .ref 12)] [] (21, (zr 0 (zr 0 (zr 0 (zr 0 (zr 0 (zr 0 (zr 0 (zr 0 I 13) 14) 15) 16) 17) 18) 19) 20), (zr 0 (zr 0 (zr 0 (zr 0 (zr 0 (zr 0 (zr 0 (zr 0 L 13) 14) 15) 16) 17) 18) 19) 20), (up2 (zr none (up2 (zr none (up2 (zr none (up2 (zr none (up2 (zr none (up2 (zr none (up2 (zr none (up2 (zr none R 13) 12 8 (some 13)) 14) 12 9 (some 14)) 15) 12 10 (some 15)) 16) 12 11 (some 16)) 17) 12 12 (some 17)) 18) 12 13 (some 18)) 19) 12 14 (some 19)) 20) 12 15 (some 20)))
  exact g_vreturn K rfl dX5_init_66
def ci_X0_init_21 (I : Nat → Nat → Int32) : Nat → Nat → Int32 := (zr 0 (zr 0 (zr 0 I 22) 23) 24)
def cl_X0_init_21 (L : Nat → Nat → Int64) : Nat → Nat → Int64 := (zr 0 (zr 0 (zr 0 L 22) 23) 24)
def cr_X0_init_21 (R : Nat → Nat → Option Nat) : Nat → Nat → Option Nat := (up2 (zr none (up2 (zr none (up2 (zr none R 22) 21 1 (some 22)) 23) 21 2 (some 23)) 24) 21 3 (some 24))
set_option maxRecDepth 20000 in
set_option maxHeartbeats 4000000 in
theorem cc_X0_init_21 (w : q_Wc) (l : Launch) (I : Nat → Nat → Int32) (L : Nat → Nat → Int64) (R : Nat → Nat → Option Nat) : q_Ct w l kX0_init [.ref 21] (22, I, L, R) none (25, ci_X0_init_21 I, cl_X0_init_21 L, cr_X0_init_21 R) := by
  refine q_ct (by decide) (Nat.le_of_ble_eq_true rfl) (Nat.le_of_ble_eq_true rfl) (fun g hg0 K => ?_)
  have K1 := K.1
  show q_Gs w g 0 [(0, .ref 21)] [] (22, I, L, R)
  refine g_aload_n K1 0 dX0_init_0 rfl ?_
  refine g_objInit K1 ml_X0_1 oi_inst oi_code ⟨Nat.le_of_ble_eq_true rfl, Nat.le_of_ble_eq_true rfl⟩ (Nat.le_of_ble_eq_true rfl) dX0_init_1 ?_
  refine g_aload_n K1 0 dX0_init_4 rfl ?_
  refine g_bipush K1 30 dX0_init_5 rfl ?_
  refine g_newarr_int K1 (N := 30) (by decide) (by decide) (by decide) lyp_22.1 szp_22 (Nat.le_of_ble_eq_true rfl) (Nat.le_of_ble_eq_true rfl) ar_int dX0_init_7 ?_
  show q_Gs w g 9 [(0, .ref 21)] [.ref 22, .ref 21] (23, (zr 0 I 22), (zr 0 L 22), (zr none R 22))
  refine g_putF K1 q_clX0 1 (Nat.le_of_ble_eq_true rfl) lyp_21.1 fkX0_1.1 fkX0_1.2 fl_X0_9 rfl rfl rfl (fun _ => rfl) (fun _ => rfl) dX0_init_9 ?_
  show q_Gs w g 12 [(0, .ref 21)] [] (23, (zr 0 I 22), (zr 0 L 22), (up2 (zr none R 22) 21 1 (some 22)))
  refine g_aload_n K1 0 dX0_init_12 rfl ?_
  refine g_bipush K1 30 dX0_init_13 rfl ?_
  refine g_newarr_int K1 (N := 30) (by decide) (by decide) (by decide) lyp_23.1 szp_23 (Nat.le_of_ble_eq_true rfl) (Nat.le_of_ble_eq_true rfl) ar_int dX0_init_15 ?_
  show q_Gs w g 17 [(0, .ref 21)] [.ref 23, .ref 21] (24, (zr 0 (zr 0 I 22) 23), (zr 0 (zr 0 L 22) 23), (zr none (up2 (zr none R 22) 21 1 (some 22)) 23))
  refine g_putF K1 q_clX0 2 (Nat.le_of_ble_eq_true rfl) lyp_21.1 fkX0_2.1 fkX0_2.2 fl_X0_13 rfl rfl rfl (fun _ => rfl) (fun _ => rfl) dX0_init_17 ?_
  show q_Gs w g 20 [(0, .ref 21)] [] (24, (zr 0 (zr 0 I 22) 23), (zr 0 (zr 0 L 22) 23), (up2 (zr none (up2 (zr none R 22) 21 1 (some 22)) 23) 21 2 (some 23)))
  refine g_aload_n K1 0 dX0_init_20 rfl ?_
  refine g_bipush K1 30 dX0_init_21 rfl ?_
  refine g_newarr_int K1 (N := 30) (by decide) (by decide) (by decide) lyp_24.1 szp_24 (Nat.le_of_ble_eq_true rfl) (Nat.le_of_ble_eq_true rfl) ar_int dX0_init_23 ?_
  show q_Gs w g 25 [(0, .ref 21)] [.ref 24, .ref 21] (25, (zr 0 (zr 0 (zr 0 I 22) 23) 24), (zr 0 (zr 0 (zr 0 L 22) 23) 24), (zr none (up2 (zr none (up2 (zr none R 22) 21 1 (some 22)) 23) 21 2 (some 23)) 24))
  refine g_putF K1 q_clX0 3 (Nat.le_of_ble_eq_true rfl) lyp_21.1 fkX0_3.1 fkX0_3.2 fl_X0_16 rfl rfl rfl (fun _ => rfl) (fun _ => rfl) dX0_init_25 ?_
  show q_Gs w g 28 [(0, .ref 21)] [] (25, (zr 0 (zr 0 (zr 0 I 22) 23) 24), (zr 0 (zr 0 (zr 0 L 22) 23) 24), (up2 (zr none (up2 (zr none (up2 (zr none R 22) 21 1 (some 22)) 23) 21 2 (some 23)) 24) 21 3 (some 24)))
  exact g_vreturn K rfl dX0_init_28
def ci_X9_init_25 (I : Nat → Nat → Int32) : Nat → Nat → Int32 := (up2 (up2 (up2 (up2 (fun p k => if 28 ≤ p ∧ p < 28 + 5 then 0 else (zr 0 (zr 0 I 26) 27) p k) 26 0 (-1)) 26 1 (-1)) 26 2 (-1)) 26 3 (-1))
def cl_X9_init_25 (L : Nat → Nat → Int64) : Nat → Nat → Int64 := (fun p k => if 28 ≤ p ∧ p < 28 + 5 then 0 else (zr 0 (zr 0 L 26) 27) p k)
def cr_X9_init_25 (R : Nat → Nat → Option Nat) : Nat → Nat → Option Nat := (up2 (fun p k => if p = 28 then (if k < 4 then some (28 + 1 + k) else none) else if 28 ≤ p ∧ p < 28 + 5 then none else (up2 (zr none (up2 (zr none R 26) 25 0 (some 26)) 27) 25 1 (some 27)) p k) 25 2 (some 28))
set_option maxRecDepth 20000 in
set_option maxHeartbeats 4000000 in
theorem cc_X9_init_25 (w : q_Wc) (l : Launch) (I : Nat → Nat → Int32) (L : Nat → Nat → Int64) (R : Nat → Nat → Option Nat) : q_Ct w l kX9_init [.ref 25] (26, I, L, R) none (33, ci_X9_init_25 I, cl_X9_init_25 L, cr_X9_init_25 R) := by
  refine q_ct (by decide) (Nat.le_of_ble_eq_true rfl) (Nat.le_of_ble_eq_true rfl) (fun g hg0 K => ?_)
  have K1 := K.1
  show q_Gs w g 0 [(0, .ref 25)] [] (26, I, L, R)
  refine g_aload_n K1 0 dX9_init_0 rfl ?_
  refine g_objInit K1 ml_X9_3 oi_inst oi_code ⟨Nat.le_of_ble_eq_true rfl, Nat.le_of_ble_eq_true rfl⟩ (Nat.le_of_ble_eq_true rfl) dX9_init_1 ?_
  refine g_aload_n K1 0 dX9_init_4 rfl ?_
  refine g_iconst K1 4 dX9_init_5 rfl ?_
  refine g_newarr_int K1 (N := 4) (by decide) (by decide) (by decide) lyp_26.1 szp_26 (Nat.le_of_ble_eq_true rfl) (Nat.le_of_ble_eq_true rfl) ar_int dX9_init_6 ?_
  show q_Gs w g 8 [(0, .ref 25)] [.ref 26, .ref 25] (27, (zr 0 I 26), (zr 0 L 26), (zr none R 26))
  refine g_putF K1 q_clX9 0 (Nat.le_of_ble_eq_true rfl) lyp_25.1 fkX9_0.1 fkX9_0.2 fl_X9_11 rfl rfl rfl (fun _ => rfl) (fun _ => rfl) dX9_init_8 ?_
  show q_Gs w g 11 [(0, .ref 25)] [] (27, (zr 0 I 26), (zr 0 L 26), (up2 (zr none R 26) 25 0 (some 26)))
  refine g_aload_n K1 0 dX9_init_11 rfl ?_
  refine g_iconst K1 4 dX9_init_12 rfl ?_
  refine g_newarr_int K1 (N := 4) (by decide) (by decide) (by decide) lyp_27.1 szp_27 (Nat.le_of_ble_eq_true rfl) (Nat.le_of_ble_eq_true rfl) ar_int dX9_init_13 ?_
  show q_Gs w g 15 [(0, .ref 25)] [.ref 27, .ref 25] (28, (zr 0 (zr 0 I 26) 27), (zr 0 (zr 0 L 26) 27), (zr none (up2 (zr none R 26) 25 0 (some 26)) 27))
  refine g_putF K1 q_clX9 1 (Nat.le_of_ble_eq_true rfl) lyp_25.1 fkX9_1.1 fkX9_1.2 fl_X9_15 rfl rfl rfl (fun _ => rfl) (fun _ => rfl) dX9_init_15 ?_
  show q_Gs w g 18 [(0, .ref 25)] [] (28, (zr 0 (zr 0 I 26) 27), (zr 0 (zr 0 L 26) 27), (up2 (zr none (up2 (zr none R 26) 25 0 (some 26)) 27) 25 1 (some 27)))
  refine g_aload_n K1 0 dX9_init_18 rfl ?_
  refine g_iconst K1 4 dX9_init_19 rfl ?_
  refine g_bipush K1 60 dX9_init_20 rfl ?_
  refine g_mna K1 lyp_28.1 (fun j hj => by rcases (show j = 0 ∨ j = 1 ∨ j = 2 ∨ j = 3 by omega) with rfl | rfl | rfl | rfl <;> rfl) (show q_sz (28 + 5) = q_sz 28 + 244 by decide +kernel) (Nat.le_of_ble_eq_true rfl) (Nat.le_of_ble_eq_true rfl) kl_X9_18 ar_long dX9_init_22 ?_
  show q_Gs w g 26 [(0, .ref 25)] [.ref 28, .ref 25] (33, (fun p k => if 28 ≤ p ∧ p < 28 + 5 then 0 else (zr 0 (zr 0 I 26) 27) p k), (fun p k => if 28 ≤ p ∧ p < 28 + 5 then 0 else (zr 0 (zr 0 L 26) 27) p k), (fun p k => if p = 28 then (if k < 4 then some (28 + 1 + k) else none) else if 28 ≤ p ∧ p < 28 + 5 then none else (up2 (zr none (up2 (zr none R 26) 25 0 (some 26)) 27) 25 1 (some 27)) p k))
  refine g_putF K1 q_clX9 2 (Nat.le_of_ble_eq_true rfl) lyp_25.1 fkX9_2.1 fkX9_2.2 fl_X9_20 rfl rfl rfl (fun _ => rfl) (fun _ => rfl) dX9_init_26 ?_
  show q_Gs w g 29 [(0, .ref 25)] [] (33, (fun p k => if 28 ≤ p ∧ p < 28 + 5 then 0 else (zr 0 (zr 0 I 26) 27) p k), (fun p k => if 28 ≤ p ∧ p < 28 + 5 then 0 else (zr 0 (zr 0 L 26) 27) p k), (up2 (fun p k => if p = 28 then (if k < 4 then some (28 + 1 + k) else none) else if 28 ≤ p ∧ p < 28 + 5 then none else (up2 (zr none (up2 (zr none R 26) 25 0 (some 26)) 27) 25 1 (some 27)) p k) 25 2 (some 28)))
  refine g_iconst K1 0 dX9_init_29 rfl ?_
  refine g_istore_n K1 dX9_init_30 rfl (by decide) rfl ?_
  refine g_iload_n K1 0 dX9_init_31 rfl ?_
  refine g_iconst K1 4 dX9_init_32 rfl ?_
  refine g_icmp_ge K1 49 dX9_init_33 rfl (fun hc => absurd hc (by decide)) (fun _ => ?_)
  refine g_aload_n K1 1 dX9_init_36 rfl ?_
  refine g_getO K1 q_clX9 0 26 (Nat.le_of_ble_eq_true rfl) lyp_25.1 fkX9_0.1 fkX9_0.2 rfl fl_X9_11 dX9_init_37 ?_
  refine g_iload_n K1 0 dX9_init_40 rfl ?_
  refine g_iconst K1 (-1) dX9_init_41 rfl ?_
  refine g_iastore K1 (Nat.le_of_ble_eq_true rfl) lyp_26.1 (by unfold vp_in; decide) dX9_init_42 ?_
  show q_Gs w g 43 [(1, .int 0), (0, .ref 25)] [] (33, (up2 (fun p k => if 28 ≤ p ∧ p < 28 + 5 then 0 else (zr 0 (zr 0 I 26) 27) p k) 26 0 (-1)), (fun p k => if 28 ≤ p ∧ p < 28 + 5 then 0 else (zr 0 (zr 0 L 26) 27) p k), (up2 (fun p k => if p = 28 then (if k < 4 then some (28 + 1 + k) else none) else if 28 ≤ p ∧ p < 28 + 5 then none else (up2 (zr none (up2 (zr none R 26) 25 0 (some 26)) 27) 25 1 (some 27)) p k) 25 2 (some 28)))
  refine g_iinc K1 1 0 dX9_init_43 rfl (by decide) (by decide) rfl ?_
  refine g_goto K1 31 dX9_init_46 rfl ?_
  refine g_iload_n K1 0 dX9_init_31 rfl ?_
  refine g_iconst K1 4 dX9_init_32 rfl ?_
  refine g_icmp_ge K1 49 dX9_init_33 rfl (fun hc => absurd hc (by decide)) (fun _ => ?_)
  refine g_aload_n K1 1 dX9_init_36 rfl ?_
  refine g_getO K1 q_clX9 0 26 (Nat.le_of_ble_eq_true rfl) lyp_25.1 fkX9_0.1 fkX9_0.2 rfl fl_X9_11 dX9_init_37 ?_
  refine g_iload_n K1 0 dX9_init_40 rfl ?_
  refine g_iconst K1 (-1) dX9_init_41 rfl ?_
  refine g_iastore K1 (Nat.le_of_ble_eq_true rfl) lyp_26.1 (by unfold vp_in; decide) dX9_init_42 ?_
  show q_Gs w g 43 [(1, .int 1), (0, .ref 25)] [] (33, (up2 (up2 (fun p k => if 28 ≤ p ∧ p < 28 + 5 then 0 else (zr 0 (zr 0 I 26) 27) p k) 26 0 (-1)) 26 1 (-1)), (fun p k => if 28 ≤ p ∧ p < 28 + 5 then 0 else (zr 0 (zr 0 L 26) 27) p k), (up2 (fun p k => if p = 28 then (if k < 4 then some (28 + 1 + k) else none) else if 28 ≤ p ∧ p < 28 + 5 then none else (up2 (zr none (up2 (zr none R 26) 25 0 (some 26)) 27) 25 1 (some 27)) p k) 25 2 (some 28)))
  refine g_iinc K1 2 0 dX9_init_43 rfl (by decide) (by decide) rfl ?_
  refine g_goto K1 31 dX9_init_46 rfl ?_
  refine g_iload_n K1 0 dX9_init_31 rfl ?_
  refine g_iconst K1 4 dX9_init_32 rfl ?_
  refine g_icmp_ge K1 49 dX9_init_33 rfl (fun hc => absurd hc (by decide)) (fun _ => ?_)
  refine g_aload_n K1 1 dX9_init_36 rfl ?_
  refine g_getO K1 q_clX9 0 26 (Nat.le_of_ble_eq_true rfl) lyp_25.1 fkX9_0.1 fkX9_0.2 rfl fl_X9_11 dX9_init_37 ?_
  refine g_iload_n K1 0 dX9_init_40 rfl ?_
  refine g_iconst K1 (-1) dX9_init_41 rfl ?_
  refine g_iastore K1 (Nat.le_of_ble_eq_true rfl) lyp_26.1 (by unfold vp_in; decide) dX9_init_42 ?_
  show q_Gs w g 43 [(1, .int 2), (0, .ref 25)] [] (33, (up2 (up2 (up2 (fun p k => if 28 ≤ p ∧ p < 28 + 5 then 0 else (zr 0 (zr 0 I 26) 27) p k) 26 0 (-1)) 26 1 (-1)) 26 2 (-1)), (fun p k => if 28 ≤ p ∧ p < 28 + 5 then 0 else (zr 0 (zr 0 L 26) 27) p k), (up2 (fun p k => if p = 28 then (if k < 4 then some (28 + 1 + k) else none) else if 28 ≤ p ∧ p < 28 + 5 then none else (up2 (zr none (up2 (zr none R 26) 25 0 (some 26)) 27) 25 1 (some 27)) p k) 25 2 (some 28)))
  refine g_iinc K1 3 0 dX9_init_43 rfl (by decide) (by decide) rfl ?_
  refine g_goto K1 31 dX9_init_46 rfl ?_
  refine g_iload_n K1 0 dX9_init_31 rfl ?_
  refine g_iconst K1 4 dX9_init_32 rfl ?_
  refine g_icmp_ge K1 49 dX9_init_33 rfl (fun hc => absurd hc (by decide)) (fun _ => ?_)
  refine g_aload_n K1 1 dX9_init_36 rfl ?_
  refine g_getO K1 q_clX9 0 26 (Nat.le_of_ble_eq_true rfl) lyp_25.1 fkX9_0.1 fkX9_0.2 rfl fl_X9_11 dX9_init_37 ?_
  refine g_iload_n K1 0 dX9_init_40 rfl ?_
  refine g_iconst K1 (-1) dX9_init_41 rfl ?_
  refine g_iastore K1 (Nat.le_of_ble_eq_true rfl) lyp_26.1 (by unfold vp_in; decide) dX9_init_42 ?_
  show q_Gs w g 43 [(1, .int 3), (0, .ref 25)] [] (33, (up2 (up2 (up2 (up2 (fun p k => if 28 ≤ p ∧ p < 28 + 5 then 0 else (zr 0 (zr 0 I 26) 27) p k) 26 0 (-1)) 26 1 (-1)) 26 2 (-1)) 26 3 (-1)), (fun p k => if 28 ≤ p ∧ p < 28 + 5 then 0 else (zr 0 (zr 0 L 26) 27) p k), (up2 (fun p k => if p = 28 then (if k < 4 then some (28 + 1 + k) else none) else if 28 ≤ p ∧ p < 28 + 5 then none else (up2 (zr none (up2 (zr none R 26) 25 0 (some 26)) 27) 25 1 (some 27)) p k) 25 2 (some 28)))
  refine g_iinc K1 4 0 dX9_init_43 rfl (by decide) (by decide) rfl ?_
  refine g_goto K1 31 dX9_init_46 rfl ?_
  refine g_iload_n K1 0 dX9_init_31 rfl ?_
  refine g_iconst K1 4 dX9_init_32 rfl ?_
  refine g_icmp_ge K1 49 dX9_init_33 rfl (fun _ => ?_) (fun hc => absurd (by decide) hc)
  exact g_vreturn K rfl dX9_init_49
def ci_X5_init_36 (I : Nat → Nat → Int32) : Nat → Nat → Int32 := (zr 0 (zr 0 (zr 0 (zr 0 (zr 0 (zr 0 (zr 0 (zr 0 I 37) 38) 39) 40) 41) 42) 43) 44)
def cl_X5_init_36 (L : Nat → Nat → Int64) : Nat → Nat → Int64 := (zr 0 (zr 0 (zr 0 (zr 0 (zr 0 (zr 0 (zr 0 (zr 0 L 37) 38) 39) 40) 41) 42) 43) 44)
def cr_X5_init_36 (R : Nat → Nat → Option Nat) : Nat → Nat → Option Nat := (up2 (zr none (up2 (zr none (up2 (zr none (up2 (zr none (up2 (zr none (up2 (zr none (up2 (zr none (up2 (zr none R 37) 36 8 (some 37)) 38) 36 9 (some 38)) 39) 36 10 (some 39)) 40) 36 11 (some 40)) 41) 36 12 (some 41)) 42) 36 13 (some 42)) 43) 36 14 (some 43)) 44) 36 15 (some 44))
set_option maxRecDepth 20000 in
set_option maxHeartbeats 4000000 in
theorem cc_X5_init_36 (w : q_Wc) (l : Launch) (I : Nat → Nat → Int32) (L : Nat → Nat → Int64) (R : Nat → Nat → Option Nat) : q_Ct w l kX5_init [.ref 36] (37, I, L, R) none (45, ci_X5_init_36 I, cl_X5_init_36 L, cr_X5_init_36 R) := by
  refine q_ct (by decide) (Nat.le_of_ble_eq_true rfl) (Nat.le_of_ble_eq_true rfl) (fun g hg0 K => ?_)
  have K1 := K.1
  show q_Gs w g 0 [(0, .ref 36)] [] (37, I, L, R)
  refine g_aload_n K1 0 dX5_init_0 rfl ?_
  refine g_objInit K1 ml_X5_3 oi_inst oi_code ⟨Nat.le_of_ble_eq_true rfl, Nat.le_of_ble_eq_true rfl⟩ (Nat.le_of_ble_eq_true rfl) dX5_init_1 ?_
  refine g_aload_n K1 0 dX5_init_4 rfl ?_
  refine g_bipush K1 7 dX5_init_5 rfl ?_
  refine g_newarr_int K1 (N := 7) (by decide) (by decide) (by decide) lyp_37.1 szp_37 (Nat.le_of_ble_eq_true rfl) (Nat.le_of_ble_eq_true rfl) ar_int dX5_init_7 ?_
  show q_Gs w g 9 [(0, .ref 36)] [.ref 37, .ref 36] (38, (zr 0 I 37), (zr 0 L 37), (zr none R 37))
  refine g_putF K1 q_clX5 8 (Nat.le_of_ble_eq_true rfl) lyp_36.1 fkX5_8.1 fkX5_8.2 fl_X5_9 rfl rfl rfl (fun _ => rfl) (fun _ => rfl) dX5_init_9 ?_
  show q_Gs w g 12 [(0, .ref 36)] [] (38, (zr 0 I 37), (zr 0 L 37), (up2 (zr none R 37) 36 8 (some 37)))
  refine g_aload_n K1 0 dX5_init_12 rfl ?_
  refine g_bipush K1 7 dX5_init_13 rfl ?_
  refine g_newarr_int K1 (N := 7) (by decide) (by decide) (by decide) lyp_38.1 szp_38 (Nat.le_of_ble_eq_true rfl) (Nat.le_of_ble_eq_true rfl) ar_int dX5_init_15 ?_
  show q_Gs w g 17 [(0, .ref 36)] [.ref 38, .ref 36] (39, (zr 0 (zr 0 I 37) 38), (zr 0 (zr 0 L 37) 38), (zr none (up2 (zr none R 37) 36 8 (some 37)) 38))
  refine g_putF K1 q_clX5 9 (Nat.le_of_ble_eq_true rfl) lyp_36.1 fkX5_9.1 fkX5_9.2 fl_X5_15 rfl rfl rfl (fun _ => rfl) (fun _ => rfl) dX5_init_17 ?_
  show q_Gs w g 20 [(0, .ref 36)] [] (39, (zr 0 (zr 0 I 37) 38), (zr 0 (zr 0 L 37) 38), (up2 (zr none (up2 (zr none R 37) 36 8 (some 37)) 38) 36 9 (some 38)))
  refine g_aload_n K1 0 dX5_init_20 rfl ?_
  refine g_bipush K1 7 dX5_init_21 rfl ?_
  refine g_newarr_int K1 (N := 7) (by decide) (by decide) (by decide) lyp_39.1 szp_39 (Nat.le_of_ble_eq_true rfl) (Nat.le_of_ble_eq_true rfl) ar_int dX5_init_23 ?_
  show q_Gs w g 25 [(0, .ref 36)] [.ref 39, .ref 36] (40, (zr 0 (zr 0 (zr 0 I 37) 38) 39), (zr 0 (zr 0 (zr 0 L 37) 38) 39), (zr none (up2 (zr none (up2 (zr none R 37) 36 8 (some 37)) 38) 36 9 (some 38)) 39))
  refine g_putF K1 q_clX5 10 (Nat.le_of_ble_eq_true rfl) lyp_36.1 fkX5_10.1 fkX5_10.2 fl_X5_18 rfl rfl rfl (fun _ => rfl) (fun _ => rfl) dX5_init_25 ?_
  show q_Gs w g 28 [(0, .ref 36)] [] (40, (zr 0 (zr 0 (zr 0 I 37) 38) 39), (zr 0 (zr 0 (zr 0 L 37) 38) 39), (up2 (zr none (up2 (zr none (up2 (zr none R 37) 36 8 (some 37)) 38) 36 9 (some 38)) 39) 36 10 (some 39)))
  refine g_aload_n K1 0 dX5_init_28 rfl ?_
  refine g_bipush K1 7 dX5_init_29 rfl ?_
  refine g_newarr_int K1 (N := 7) (by decide) (by decide) (by decide) lyp_40.1 szp_40 (Nat.le_of_ble_eq_true rfl) (Nat.le_of_ble_eq_true rfl) ar_int dX5_init_31 ?_
  show q_Gs w g 33 [(0, .ref 36)] [.ref 40, .ref 36] (41, (zr 0 (zr 0 (zr 0 (zr 0 I 37) 38) 39) 40), (zr 0 (zr 0 (zr 0 (zr 0 L 37) 38) 39) 40), (zr none (up2 (zr none (up2 (zr none (up2 (zr none R 37) 36 8 (some 37)) 38) 36 9 (some 38)) 39) 36 10 (some 39)) 40))
  refine g_putF K1 q_clX5 11 (Nat.le_of_ble_eq_true rfl) lyp_36.1 fkX5_11.1 fkX5_11.2 fl_X5_21 rfl rfl rfl (fun _ => rfl) (fun _ => rfl) dX5_init_33 ?_
  show q_Gs w g 36 [(0, .ref 36)] [] (41, (zr 0 (zr 0 (zr 0 (zr 0 I 37) 38) 39) 40), (zr 0 (zr 0 (zr 0 (zr 0 L 37) 38) 39) 40), (up2 (zr none (up2 (zr none (up2 (zr none (up2 (zr none R 37) 36 8 (some 37)) 38) 36 9 (some 38)) 39) 36 10 (some 39)) 40) 36 11 (some 40)))
  refine g_aload_n K1 0 dX5_init_36 rfl ?_
  refine g_iconst K1 4 dX5_init_37 rfl ?_
  refine g_newarr_int K1 (N := 4) (by decide) (by decide) (by decide) lyp_41.1 szp_41 (Nat.le_of_ble_eq_true rfl) (Nat.le_of_ble_eq_true rfl) ar_int dX5_init_38 ?_
  show q_Gs w g 40 [(0, .ref 36)] [.ref 41, .ref 36] (42, (zr 0 (zr 0 (zr 0 (zr 0 (zr 0 I 37) 38) 39) 40) 41), (zr 0 (zr 0 (zr 0 (zr 0 (zr 0 L 37) 38) 39) 40) 41), (zr none (up2 (zr none (up2 (zr none (up2 (zr none (up2 (zr none R 37) 36 8 (some 37)) 38) 36 9 (some 38)) 39) 36 10 (some 39)) 40) 36 11 (some 40)) 41))
  refine g_putF K1 q_clX5 12 (Nat.le_of_ble_eq_true rfl) lyp_36.1 fkX5_12.1 fkX5_12.2 fl_X5_24 rfl rfl rfl (fun _ => rfl) (fun _ => rfl) dX5_init_40 ?_
  show q_Gs w g 43 [(0, .ref 36)] [] (42, (zr 0 (zr 0 (zr 0 (zr 0 (zr 0 I 37) 38) 39) 40) 41), (zr 0 (zr 0 (zr 0 (zr 0 (zr 0 L 37) 38) 39) 40) 41), (up2 (zr none (up2 (zr none (up2 (zr none (up2 (zr none (up2 (zr none R 37) 36 8 (some 37)) 38) 36 9 (some 38)) 39) 36 10 (some 39)) 40) 36 11 (some 40)) 41) 36 12 (some 41)))
  refine g_aload_n K1 0 dX5_init_43 rfl ?_
  refine g_iconst K1 4 dX5_init_44 rfl ?_
  refine g_newarr_int K1 (N := 4) (by decide) (by decide) (by decide) lyp_42.1 szp_42 (Nat.le_of_ble_eq_true rfl) (Nat.le_of_ble_eq_true rfl) ar_int dX5_init_45 ?_
  show q_Gs w g 47 [(0, .ref 36)] [.ref 42, .ref 36] (43, (zr 0 (zr 0 (zr 0 (zr 0 (zr 0 (zr 0 I 37) 38) 39) 40) 41) 42), (zr 0 (zr 0 (zr 0 (zr 0 (zr 0 (zr 0 L 37) 38) 39) 40) 41) 42), (zr none (up2 (zr none (up2 (zr none (up2 (zr none (up2 (zr none (up2 (zr none R 37) 36 8 (some 37)) 38) 36 9 (some 38)) 39) 36 10 (some 39)) 40) 36 11 (some 40)) 41) 36 12 (some 41)) 42))
  refine g_putF K1 q_clX5 13 (Nat.le_of_ble_eq_true rfl) lyp_36.1 fkX5_13.1 fkX5_13.2 fl_X5_27 rfl rfl rfl (fun _ => rfl) (fun _ => rfl) dX5_init_47 ?_
  show q_Gs w g 50 [(0, .ref 36)] [] (43, (zr 0 (zr 0 (zr 0 (zr 0 (zr 0 (zr 0 I 37) 38) 39) 40) 41) 42), (zr 0 (zr 0 (zr 0 (zr 0 (zr 0 (zr 0 L 37) 38) 39) 40) 41) 42), (up2 (zr none (up2 (zr none (up2 (zr none (up2 (zr none (up2 (zr none (up2 (zr none R 37) 36 8 (some 37)) 38) 36 9 (some 38)) 39) 36 10 (some 39)) 40) 36 11 (some 40)) 41) 36 12 (some 41)) 42) 36 13 (some 42)))
  refine g_aload_n K1 0 dX5_init_50 rfl ?_
  refine g_bipush K1 6 dX5_init_51 rfl ?_
  refine g_newarr_int K1 (N := 6) (by decide) (by decide) (by decide) lyp_43.1 szp_43 (Nat.le_of_ble_eq_true rfl) (Nat.le_of_ble_eq_true rfl) ar_int dX5_init_53 ?_
  show q_Gs w g 55 [(0, .ref 36)] [.ref 43, .ref 36] (44, (zr 0 (zr 0 (zr 0 (zr 0 (zr 0 (zr 0 (zr 0 I 37) 38) 39) 40) 41) 42) 43), (zr 0 (zr 0 (zr 0 (zr 0 (zr 0 (zr 0 (zr 0 L 37) 38) 39) 40) 41) 42) 43), (zr none (up2 (zr none (up2 (zr none (up2 (zr none (up2 (zr none (up2 (zr none (up2 (zr none R 37) 36 8 (some 37)) 38) 36 9 (some 38)) 39) 36 10 (some 39)) 40) 36 11 (some 40)) 41) 36 12 (some 41)) 42) 36 13 (some 42)) 43))
  refine g_putF K1 q_clX5 14 (Nat.le_of_ble_eq_true rfl) lyp_36.1 fkX5_14.1 fkX5_14.2 fl_X5_30 rfl rfl rfl (fun _ => rfl) (fun _ => rfl) dX5_init_55 ?_
  show q_Gs w g 58 [(0, .ref 36)] [] (44, (zr 0 (zr 0 (zr 0 (zr 0 (zr 0 (zr 0 (zr 0 I 37) 38) 39) 40) 41) 42) 43), (zr 0 (zr 0 (zr 0 (zr 0 (zr 0 (zr 0 (zr 0 L 37) 38) 39) 40) 41) 42) 43), (up2 (zr none (up2 (zr none (up2 (zr none (up2 (zr none (up2 (zr none (up2 (zr none (up2 (zr none R 37) 36 8 (some 37)) 38) 36 9 (some 38)) 39) 36 10 (some 39)) 40) 36 11 (some 40)) 41) 36 12 (some 41)) 42) 36 13 (some 42)) 43) 36 14 (some 43)))
  refine g_aload_n K1 0 dX5_init_58 rfl ?_
  refine g_bipush K1 6 dX5_init_59 rfl ?_
  refine g_newarr_int K1 (N := 6) (by decide) (by decide) (by decide) lyp_44.1 szp_44 (Nat.le_of_ble_eq_true rfl) (Nat.le_of_ble_eq_true rfl) ar_int dX5_init_61 ?_
  show q_Gs w g 63 [(0, .ref 36)] [.ref 44, .ref 36] (45, (zr 0 (zr 0 (zr 0 (zr 0 (zr 0 (zr 0 (zr 0 (zr 0 I 37) 38) 39) 40) 41) 42) 43) 44), (zr 0 (zr 0 (zr 0 (zr 0 (zr 0 (zr 0 (zr 0 (zr 0 L 37) 38) 39) 40) 41) 42) 43) 44), (zr none (up2 (zr none (up2 (zr none (up2 (zr none (up2 (zr none (up2 (zr none (up2 (zr none (up2 (zr none R 37) 36 8 (some 37)) 38) 36 9 (some 38)) 39) 36 10 (some 39)) 40) 36 11 (some 40)) 41) 36 12 (some 41)) 42) 36 13 (some 42)) 43) 36 14 (some 43)) 44))
  refine g_putF K1 q_clX5 15 (Nat.le_of_ble_eq_true rfl) lyp_36.1 fkX5_15.1 fkX5_15.2 fl_X5_33 rfl rfl rfl (fun _ => rfl) (fun _ => rfl) dX5_init_63 ?_
  show q_Gs w g 66 [(0, .ref 36)] [] (45, (zr 0 (zr 0 (zr 0 (zr 0 (zr 0 (zr 0 (zr 0 (zr 0 I 37) 38) 39) 40) 41) 42) 43) 44), (zr 0 (zr 0 (zr 0 (zr 0 (zr 0 (zr 0 (zr 0 (zr 0 L 37) 38) 39) 40) 41) 42) 43) 44), (up2 (zr none (up2 (zr none (up2 (zr none (up2 (zr none (up2 (zr none (up2 (zr none (up2 (zr none (up2 (zr none R 37) 36 8 (some 37)) 38) 36 9 (some 38)) 39) 36 10 (some 39)) 40) 36 11 (some 40)) 41) 36 12 (some 41)) 42) 36 13 (some 42)) 43) 36 14 (some 43)) 44) 36 15 (some 44)))
  exact g_vreturn K rfl dX5_init_66
def ci_X0_init_45 (I : Nat → Nat → Int32) : Nat → Nat → Int32 := (zr 0 (zr 0 (zr 0 I 46) 47) 48)
def cl_X0_init_45 (L : Nat → Nat → Int64) : Nat → Nat → Int64 := (zr 0 (zr 0 (zr 0 L 46) 47) 48)
def cr_X0_init_45 (R : Nat → Nat → Option Nat) : Nat → Nat → Option Nat := (up2 (zr none (up2 (zr none (up2 (zr none R 46) 45 1 (some 46)) 47) 45 2 (some 47)) 48) 45 3 (some 48))
set_option maxRecDepth 20000 in
set_option maxHeartbeats 4000000 in
theorem cc_X0_init_45 (w : q_Wc) (l : Launch) (I : Nat → Nat → Int32) (L : Nat → Nat → Int64) (R : Nat → Nat → Option Nat) : q_Ct w l kX0_init [.ref 45] (46, I, L, R) none (49, ci_X0_init_45 I, cl_X0_init_45 L, cr_X0_init_45 R) := by
  refine q_ct (by decide) (Nat.le_of_ble_eq_true rfl) (Nat.le_of_ble_eq_true rfl) (fun g hg0 K => ?_)
  have K1 := K.1
  show q_Gs w g 0 [(0, .ref 45)] [] (46, I, L, R)
  refine g_aload_n K1 0 dX0_init_0 rfl ?_
  refine g_objInit K1 ml_X0_1 oi_inst oi_code ⟨Nat.le_of_ble_eq_true rfl, Nat.le_of_ble_eq_true rfl⟩ (Nat.le_of_ble_eq_true rfl) dX0_init_1 ?_
  refine g_aload_n K1 0 dX0_init_4 rfl ?_
  refine g_bipush K1 30 dX0_init_5 rfl ?_
  refine g_newarr_int K1 (N := 30) (by decide) (by decide) (by decide) lyp_46.1 szp_46 (Nat.le_of_ble_eq_true rfl) (Nat.le_of_ble_eq_true rfl) ar_int dX0_init_7 ?_
  show q_Gs w g 9 [(0, .ref 45)] [.ref 46, .ref 45] (47, (zr 0 I 46), (zr 0 L 46), (zr none R 46))
  refine g_putF K1 q_clX0 1 (Nat.le_of_ble_eq_true rfl) lyp_45.1 fkX0_1.1 fkX0_1.2 fl_X0_9 rfl rfl rfl (fun _ => rfl) (fun _ => rfl) dX0_init_9 ?_
  show q_Gs w g 12 [(0, .ref 45)] [] (47, (zr 0 I 46), (zr 0 L 46), (up2 (zr none R 46) 45 1 (some 46)))
  refine g_aload_n K1 0 dX0_init_12 rfl ?_
  refine g_bipush K1 30 dX0_init_13 rfl ?_
  refine g_newarr_int K1 (N := 30) (by decide) (by decide) (by decide) lyp_47.1 szp_47 (Nat.le_of_ble_eq_true rfl) (Nat.le_of_ble_eq_true rfl) ar_int dX0_init_15 ?_
  show q_Gs w g 17 [(0, .ref 45)] [.ref 47, .ref 45] (48, (zr 0 (zr 0 I 46) 47), (zr 0 (zr 0 L 46) 47), (zr none (up2 (zr none R 46) 45 1 (some 46)) 47))
  refine g_putF K1 q_clX0 2 (Nat.le_of_ble_eq_true rfl) lyp_45.1 fkX0_2.1 fkX0_2.2 fl_X0_13 rfl rfl rfl (fun _ => rfl) (fun _ => rfl) dX0_init_17 ?_
  show q_Gs w g 20 [(0, .ref 45)] [] (48, (zr 0 (zr 0 I 46) 47), (zr 0 (zr 0 L 46) 47), (up2 (zr none (up2 (zr none R 46) 45 1 (some 46)) 47) 45 2 (some 47)))
  refine g_aload_n K1 0 dX0_init_20 rfl ?_
  refine g_bipush K1 30 dX0_init_21 rfl ?_
  refine g_newarr_int K1 (N := 30) (by decide) (by decide) (by decide) lyp_48.1 szp_48 (Nat.le_of_ble_eq_true rfl) (Nat.le_of_ble_eq_true rfl) ar_int dX0_init_23 ?_
  show q_Gs w g 25 [(0, .ref 45)] [.ref 48, .ref 45] (49, (zr 0 (zr 0 (zr 0 I 46) 47) 48), (zr 0 (zr 0 (zr 0 L 46) 47) 48), (zr none (up2 (zr none (up2 (zr none R 46) 45 1 (some 46)) 47) 45 2 (some 47)) 48))
  refine g_putF K1 q_clX0 3 (Nat.le_of_ble_eq_true rfl) lyp_45.1 fkX0_3.1 fkX0_3.2 fl_X0_16 rfl rfl rfl (fun _ => rfl) (fun _ => rfl) dX0_init_25 ?_
  show q_Gs w g 28 [(0, .ref 45)] [] (49, (zr 0 (zr 0 (zr 0 I 46) 47) 48), (zr 0 (zr 0 (zr 0 L 46) 47) 48), (up2 (zr none (up2 (zr none (up2 (zr none R 46) 45 1 (some 46)) 47) 45 2 (some 47)) 48) 45 3 (some 48)))
  exact g_vreturn K rfl dX0_init_28
def ci_X5_init_49 (I : Nat → Nat → Int32) : Nat → Nat → Int32 := (zr 0 (zr 0 (zr 0 (zr 0 (zr 0 (zr 0 (zr 0 (zr 0 I 50) 51) 52) 53) 54) 55) 56) 57)
def cl_X5_init_49 (L : Nat → Nat → Int64) : Nat → Nat → Int64 := (zr 0 (zr 0 (zr 0 (zr 0 (zr 0 (zr 0 (zr 0 (zr 0 L 50) 51) 52) 53) 54) 55) 56) 57)
def cr_X5_init_49 (R : Nat → Nat → Option Nat) : Nat → Nat → Option Nat := (up2 (zr none (up2 (zr none (up2 (zr none (up2 (zr none (up2 (zr none (up2 (zr none (up2 (zr none (up2 (zr none R 50) 49 8 (some 50)) 51) 49 9 (some 51)) 52) 49 10 (some 52)) 53) 49 11 (some 53)) 54) 49 12 (some 54)) 55) 49 13 (some 55)) 56) 49 14 (some 56)) 57) 49 15 (some 57))
set_option maxRecDepth 20000 in
set_option maxHeartbeats 4000000 in
theorem cc_X5_init_49 (w : q_Wc) (l : Launch) (I : Nat → Nat → Int32) (L : Nat → Nat → Int64) (R : Nat → Nat → Option Nat) : q_Ct w l kX5_init [.ref 49] (50, I, L, R) none (58, ci_X5_init_49 I, cl_X5_init_49 L, cr_X5_init_49 R) := by
  refine q_ct (by decide) (Nat.le_of_ble_eq_true rfl) (Nat.le_of_ble_eq_true rfl) (fun g hg0 K => ?_)
  have K1 := K.1
  show q_Gs w g 0 [(0, .ref 49)] [] (50, I, L, R)
  refine g_aload_n K1 0 dX5_init_0 rfl ?_
  refine g_objInit K1 ml_X5_3 oi_inst oi_code ⟨Nat.le_of_ble_eq_true rfl, Nat.le_of_ble_eq_true rfl⟩ (Nat.le_of_ble_eq_true rfl) dX5_init_1 ?_
  refine g_aload_n K1 0 dX5_init_4 rfl ?_
  refine g_bipush K1 7 dX5_init_5 rfl ?_
  refine g_newarr_int K1 (N := 7) (by decide) (by decide) (by decide) lyp_50.1 szp_50 (Nat.le_of_ble_eq_true rfl) (Nat.le_of_ble_eq_true rfl) ar_int dX5_init_7 ?_
  show q_Gs w g 9 [(0, .ref 49)] [.ref 50, .ref 49] (51, (zr 0 I 50), (zr 0 L 50), (zr none R 50))
  refine g_putF K1 q_clX5 8 (Nat.le_of_ble_eq_true rfl) lyp_49.1 fkX5_8.1 fkX5_8.2 fl_X5_9 rfl rfl rfl (fun _ => rfl) (fun _ => rfl) dX5_init_9 ?_
  show q_Gs w g 12 [(0, .ref 49)] [] (51, (zr 0 I 50), (zr 0 L 50), (up2 (zr none R 50) 49 8 (some 50)))
  refine g_aload_n K1 0 dX5_init_12 rfl ?_
  refine g_bipush K1 7 dX5_init_13 rfl ?_
  refine g_newarr_int K1 (N := 7) (by decide) (by decide) (by decide) lyp_51.1 szp_51 (Nat.le_of_ble_eq_true rfl) (Nat.le_of_ble_eq_true rfl) ar_int dX5_init_15 ?_
  show q_Gs w g 17 [(0, .ref 49)] [.ref 51, .ref 49] (52, (zr 0 (zr 0 I 50) 51), (zr 0 (zr 0 L 50) 51), (zr none (up2 (zr none R 50) 49 8 (some 50)) 51))
  refine g_putF K1 q_clX5 9 (Nat.le_of_ble_eq_true rfl) lyp_49.1 fkX5_9.1 fkX5_9.2 fl_X5_15 rfl rfl rfl (fun _ => rfl) (fun _ => rfl) dX5_init_17 ?_
  show q_Gs w g 20 [(0, .ref 49)] [] (52, (zr 0 (zr 0 I 50) 51), (zr 0 (zr 0 L 50) 51), (up2 (zr none (up2 (zr none R 50) 49 8 (some 50)) 51) 49 9 (some 51)))
  refine g_aload_n K1 0 dX5_init_20 rfl ?_
  refine g_bipush K1 7 dX5_init_21 rfl ?_
  refine g_newarr_int K1 (N := 7) (by decide) (by decide) (by decide) lyp_52.1 szp_52 (Nat.le_of_ble_eq_true rfl) (Nat.le_of_ble_eq_true rfl) ar_int dX5_init_23 ?_
  show q_Gs w g 25 [(0, .ref 49)] [.ref 52, .ref 49] (53, (zr 0 (zr 0 (zr 0 I 50) 51) 52), (zr 0 (zr 0 (zr 0 L 50) 51) 52), (zr none (up2 (zr none (up2 (zr none R 50) 49 8 (some 50)) 51) 49 9 (some 51)) 52))
  refine g_putF K1 q_clX5 10 (Nat.le_of_ble_eq_true rfl) lyp_49.1 fkX5_10.1 fkX5_10.2 fl_X5_18 rfl rfl rfl (fun _ => rfl) (fun _ => rfl) dX5_init_25 ?_
  show q_Gs w g 28 [(0, .ref 49)] [] (53, (zr 0 (zr 0 (zr 0 I 50) 51) 52), (zr 0 (zr 0 (zr 0 L 50) 51) 52), (up2 (zr none (up2 (zr none (up2 (zr none R 50) 49 8 (some 50)) 51) 49 9 (some 51)) 52) 49 10 (some 52)))
  refine g_aload_n K1 0 dX5_init_28 rfl ?_
  refine g_bipush K1 7 dX5_init_29 rfl ?_
  refine g_newarr_int K1 (N := 7) (by decide) (by decide) (by decide) lyp_53.1 szp_53 (Nat.le_of_ble_eq_true rfl) (Nat.le_of_ble_eq_true rfl) ar_int dX5_init_31 ?_
  show q_Gs w g 33 [(0, .ref 49)] [.ref 53, .ref 49] (54, (zr 0 (zr 0 (zr 0 (zr 0 I 50) 51) 52) 53), (zr 0 (zr 0 (zr 0 (zr 0 L 50) 51) 52) 53), (zr none (up2 (zr none (up2 (zr none (up2 (zr none R 50) 49 8 (some 50)) 51) 49 9 (some 51)) 52) 49 10 (some 52)) 53))
  refine g_putF K1 q_clX5 11 (Nat.le_of_ble_eq_true rfl) lyp_49.1 fkX5_11.1 fkX5_11.2 fl_X5_21 rfl rfl rfl (fun _ => rfl) (fun _ => rfl) dX5_init_33 ?_
  show q_Gs w g 36 [(0, .ref 49)] [] (54, (zr 0 (zr 0 (zr 0 (zr 0 I 50) 51) 52) 53), (zr 0 (zr 0 (zr 0 (zr 0 L 50) 51) 52) 53), (up2 (zr none (up2 (zr none (up2 (zr none (up2 (zr none R 50) 49 8 (some 50)) 51) 49 9 (some 51)) 52) 49 10 (some 52)) 53) 49 11 (some 53)))
  refine g_aload_n K1 0 dX5_init_36 rfl ?_
  refine g_iconst K1 4 dX5_init_37 rfl ?_
  refine g_newarr_int K1 (N := 4) (by decide) (by decide) (by decide) lyp_54.1 szp_54 (Nat.le_of_ble_eq_true rfl) (Nat.le_of_ble_eq_true rfl) ar_int dX5_init_38 ?_
  show q_Gs w g 40 [(0, .ref 49)] [.ref 54, .ref 49] (55, (zr 0 (zr 0 (zr 0 (zr 0 (zr 0 I 50) 51) 52) 53) 54), (zr 0 (zr 0 (zr 0 (zr 0 (zr 0 L 50) 51) 52) 53) 54), (zr none (up2 (zr none (up2 (zr none (up2 (zr none (up2 (zr none R 50) 49 8 (some 50)) 51) 49 9 (some 51)) 52) 49 10 (some 52)) 53) 49 11 (some 53)) 54))
  refine g_putF K1 q_clX5 12 (Nat.le_of_ble_eq_true rfl) lyp_49.1 fkX5_12.1 fkX5_12.2 fl_X5_24 rfl rfl rfl (fun _ => rfl) (fun _ => rfl) dX5_init_40 ?_
  show q_Gs w g 43 [(0, .ref 49)] [] (55, (zr 0 (zr 0 (zr 0 (zr 0 (zr 0 I 50) 51) 52) 53) 54), (zr 0 (zr 0 (zr 0 (zr 0 (zr 0 L 50) 51) 52) 53) 54), (up2 (zr none (up2 (zr none (up2 (zr none (up2 (zr none (up2 (zr none R 50) 49 8 (some 50)) 51) 49 9 (some 51)) 52) 49 10 (some 52)) 53) 49 11 (some 53)) 54) 49 12 (some 54)))
  refine g_aload_n K1 0 dX5_init_43 rfl ?_
  refine g_iconst K1 4 dX5_init_44 rfl ?_
  refine g_newarr_int K1 (N := 4) (by decide) (by decide) (by decide) lyp_55.1 szp_55 (Nat.le_of_ble_eq_true rfl) (Nat.le_of_ble_eq_true rfl) ar_int dX5_init_45 ?_
  show q_Gs w g 47 [(0, .ref 49)] [.ref 55, .ref 49] (56, (zr 0 (zr 0 (zr 0 (zr 0 (zr 0 (zr 0 I 50) 51) 52) 53) 54) 55), (zr 0 (zr 0 (zr 0 (zr 0 (zr 0 (zr 0 L 50) 51) 52) 53) 54) 55), (zr none (up2 (zr none (up2 (zr none (up2 (zr none (up2 (zr none (up2 (zr none R 50) 49 8 (some 50)) 51) 49 9 (some 51)) 52) 49 10 (some 52)) 53) 49 11 (some 53)) 54) 49 12 (some 54)) 55))
  refine g_putF K1 q_clX5 13 (Nat.le_of_ble_eq_true rfl) lyp_49.1 fkX5_13.1 fkX5_13.2 fl_X5_27 rfl rfl rfl (fun _ => rfl) (fun _ => rfl) dX5_init_47 ?_
  show q_Gs w g 50 [(0, .ref 49)] [] (56, (zr 0 (zr 0 (zr 0 (zr 0 (zr 0 (zr 0 I 50) 51) 52) 53) 54) 55), (zr 0 (zr 0 (zr 0 (zr 0 (zr 0 (zr 0 L 50) 51) 52) 53) 54) 55), (up2 (zr none (up2 (zr none (up2 (zr none (up2 (zr none (up2 (zr none (up2 (zr none R 50) 49 8 (some 50)) 51) 49 9 (some 51)) 52) 49 10 (some 52)) 53) 49 11 (some 53)) 54) 49 12 (some 54)) 55) 49 13 (some 55)))
  refine g_aload_n K1 0 dX5_init_50 rfl ?_
  refine g_bipush K1 6 dX5_init_51 rfl ?_
  refine g_newarr_int K1 (N := 6) (by decide) (by decide) (by decide) lyp_56.1 szp_56 (Nat.le_of_ble_eq_true rfl) (Nat.le_of_ble_eq_true rfl) ar_int dX5_init_53 ?_
  show q_Gs w g 55 [(0, .ref 49)] [.ref 56, .ref 49] (57, (zr 0 (zr 0 (zr 0 (zr 0 (zr 0 (zr 0 (zr 0 I 50) 51) 52) 53) 54) 55) 56), (zr 0 (zr 0 (zr 0 (zr 0 (zr 0 (zr 0 (zr 0 L 50) 51) 52) 53) 54) 55) 56), (zr none (up2 (zr none (up2 (zr none (up2 (zr none (up2 (zr none (up2 (zr none (up2 (zr none R 50) 49 8 (some 50)) 51) 49 9 (some 51)) 52) 49 10 (some 52)) 53) 49 11 (some 53)) 54) 49 12 (some 54)) 55) 49 13 (some 55)) 56))
  refine g_putF K1 q_clX5 14 (Nat.le_of_ble_eq_true rfl) lyp_49.1 fkX5_14.1 fkX5_14.2 fl_X5_30 rfl rfl rfl (fun _ => rfl) (fun _ => rfl) dX5_init_55 ?_
  show q_Gs w g 58 [(0, .ref 49)] [] (57, (zr 0 (zr 0 (zr 0 (zr 0 (zr 0 (zr 0 (zr 0 I 50) 51) 52) 53) 54) 55) 56), (zr 0 (zr 0 (zr 0 (zr 0 (zr 0 (zr 0 (zr 0 L 50) 51) 52) 53) 54) 55) 56), (up2 (zr none (up2 (zr none (up2 (zr none (up2 (zr none (up2 (zr none (up2 (zr none (up2 (zr none R 50) 49 8 (some 50)) 51) 49 9 (some 51)) 52) 49 10 (some 52)) 53) 49 11 (some 53)) 54) 49 12 (some 54)) 55) 49 13 (some 55)) 56) 49 14 (some 56)))
  refine g_aload_n K1 0 dX5_init_58 rfl ?_
  refine g_bipush K1 6 dX5_init_59 rfl ?_
  refine g_newarr_int K1 (N := 6) (by decide) (by decide) (by decide) lyp_57.1 szp_57 (Nat.le_of_ble_eq_true rfl) (Nat.le_of_ble_eq_true rfl) ar_int dX5_init_61 ?_
  show q_Gs w g 63 [(0, .ref 49)] [.ref 57, .ref 49] (58, (zr 0 (zr 0 (zr 0 (zr 0 (zr 0 (zr 0 (zr 0 (zr 0 I 50) 51) 52) 53) 54) 55) 56) 57), (zr 0 (zr 0 (zr 0 (zr 0 (zr 0 (zr 0 (zr 0 (zr 0 L 50) 51) 52) 53) 54) 55) 56) 57), (zr none (up2 (zr none (up2 (zr none (up2 (zr none (up2 (zr none (up2 (zr none (up2 (zr none (up2 (zr none R 50) 49 8 (some 50)) 51) 49 9 (some 51)) 52) 49 10 (some 52)) 53) 49 11 (some 53)) 54) 49 12 (some 54)) 55) 49 13 (some 55)) 56) 49 14 (some 56)) 57))
  refine g_putF K1 q_clX5 15 (Nat.le_of_ble_eq_true rfl) lyp_49.1 fkX5_15.1 fkX5_15.2 fl_X5_33 rfl rfl rfl (fun _ => rfl) (fun _ => rfl) dX5_init_63 ?_
  show q_Gs w g 66 [(0, .ref 49)] [] (58, (zr 0 (zr 0 (zr 0 (zr 0 (zr 0 (zr 0 (zr 0 (zr 0 I 50) 51) 52) 53) 54) 55) 56) 57), (zr 0 (zr 0 (zr 0 (zr 0 (zr 0 (zr 0 (zr 0 (zr 0 L 50) 51) 52) 53) 54) 55) 56) 57), (up2 (zr none (up2 (zr none (up2 (zr none (up2 (zr none (up2 (zr none (up2 (zr none (up2 (zr none (up2 (zr none R 50) 49 8 (some 50)) 51) 49 9 (some 51)) 52) 49 10 (some 52)) 53) 49 11 (some 53)) 54) 49 12 (some 54)) 55) 49 13 (some 55)) 56) 49 14 (some 56)) 57) 49 15 (some 57)))
  exact g_vreturn K rfl dX5_init_66
def ci_X0_init_58 (I : Nat → Nat → Int32) : Nat → Nat → Int32 := (zr 0 (zr 0 (zr 0 I 59) 60) 61)
def cl_X0_init_58 (L : Nat → Nat → Int64) : Nat → Nat → Int64 := (zr 0 (zr 0 (zr 0 L 59) 60) 61)
def cr_X0_init_58 (R : Nat → Nat → Option Nat) : Nat → Nat → Option Nat := (up2 (zr none (up2 (zr none (up2 (zr none R 59) 58 1 (some 59)) 60) 58 2 (some 60)) 61) 58 3 (some 61))
set_option maxRecDepth 20000 in
set_option maxHeartbeats 4000000 in
theorem cc_X0_init_58 (w : q_Wc) (l : Launch) (I : Nat → Nat → Int32) (L : Nat → Nat → Int64) (R : Nat → Nat → Option Nat) : q_Ct w l kX0_init [.ref 58] (59, I, L, R) none (62, ci_X0_init_58 I, cl_X0_init_58 L, cr_X0_init_58 R) := by
  refine q_ct (by decide) (Nat.le_of_ble_eq_true rfl) (Nat.le_of_ble_eq_true rfl) (fun g hg0 K => ?_)
  have K1 := K.1
  show q_Gs w g 0 [(0, .ref 58)] [] (59, I, L, R)
  refine g_aload_n K1 0 dX0_init_0 rfl ?_
  refine g_objInit K1 ml_X0_1 oi_inst oi_code ⟨Nat.le_of_ble_eq_true rfl, Nat.le_of_ble_eq_true rfl⟩ (Nat.le_of_ble_eq_true rfl) dX0_init_1 ?_
  refine g_aload_n K1 0 dX0_init_4 rfl ?_
  refine g_bipush K1 30 dX0_init_5 rfl ?_
  refine g_newarr_int K1 (N := 30) (by decide) (by decide) (by decide) lyp_59.1 szp_59 (Nat.le_of_ble_eq_true rfl) (Nat.le_of_ble_eq_true rfl) ar_int dX0_init_7 ?_
  show q_Gs w g 9 [(0, .ref 58)] [.ref 59, .ref 58] (60, (zr 0 I 59), (zr 0 L 59), (zr none R 59))
  refine g_putF K1 q_clX0 1 (Nat.le_of_ble_eq_true rfl) lyp_58.1 fkX0_1.1 fkX0_1.2 fl_X0_9 rfl rfl rfl (fun _ => rfl) (fun _ => rfl) dX0_init_9 ?_
  show q_Gs w g 12 [(0, .ref 58)] [] (60, (zr 0 I 59), (zr 0 L 59), (up2 (zr none R 59) 58 1 (some 59)))
  refine g_aload_n K1 0 dX0_init_12 rfl ?_
  refine g_bipush K1 30 dX0_init_13 rfl ?_
  refine g_newarr_int K1 (N := 30) (by decide) (by decide) (by decide) lyp_60.1 szp_60 (Nat.le_of_ble_eq_true rfl) (Nat.le_of_ble_eq_true rfl) ar_int dX0_init_15 ?_
  show q_Gs w g 17 [(0, .ref 58)] [.ref 60, .ref 58] (61, (zr 0 (zr 0 I 59) 60), (zr 0 (zr 0 L 59) 60), (zr none (up2 (zr none R 59) 58 1 (some 59)) 60))
  refine g_putF K1 q_clX0 2 (Nat.le_of_ble_eq_true rfl) lyp_58.1 fkX0_2.1 fkX0_2.2 fl_X0_13 rfl rfl rfl (fun _ => rfl) (fun _ => rfl) dX0_init_17 ?_
  show q_Gs w g 20 [(0, .ref 58)] [] (61, (zr 0 (zr 0 I 59) 60), (zr 0 (zr 0 L 59) 60), (up2 (zr none (up2 (zr none R 59) 58 1 (some 59)) 60) 58 2 (some 60)))
  refine g_aload_n K1 0 dX0_init_20 rfl ?_
  refine g_bipush K1 30 dX0_init_21 rfl ?_
  refine g_newarr_int K1 (N := 30) (by decide) (by decide) (by decide) lyp_61.1 szp_61 (Nat.le_of_ble_eq_true rfl) (Nat.le_of_ble_eq_true rfl) ar_int dX0_init_23 ?_
  show q_Gs w g 25 [(0, .ref 58)] [.ref 61, .ref 58] (62, (zr 0 (zr 0 (zr 0 I 59) 60) 61), (zr 0 (zr 0 (zr 0 L 59) 60) 61), (zr none (up2 (zr none (up2 (zr none R 59) 58 1 (some 59)) 60) 58 2 (some 60)) 61))
  refine g_putF K1 q_clX0 3 (Nat.le_of_ble_eq_true rfl) lyp_58.1 fkX0_3.1 fkX0_3.2 fl_X0_16 rfl rfl rfl (fun _ => rfl) (fun _ => rfl) dX0_init_25 ?_
  show q_Gs w g 28 [(0, .ref 58)] [] (62, (zr 0 (zr 0 (zr 0 I 59) 60) 61), (zr 0 (zr 0 (zr 0 L 59) 60) 61), (up2 (zr none (up2 (zr none (up2 (zr none R 59) 58 1 (some 59)) 60) 58 2 (some 60)) 61) 58 3 (some 61)))
  exact g_vreturn K rfl dX0_init_28
def ci_X5_init_62 (I : Nat → Nat → Int32) : Nat → Nat → Int32 := (zr 0 (zr 0 (zr 0 (zr 0 (zr 0 (zr 0 (zr 0 (zr 0 I 63) 64) 65) 66) 67) 68) 69) 70)
def cl_X5_init_62 (L : Nat → Nat → Int64) : Nat → Nat → Int64 := (zr 0 (zr 0 (zr 0 (zr 0 (zr 0 (zr 0 (zr 0 (zr 0 L 63) 64) 65) 66) 67) 68) 69) 70)
def cr_X5_init_62 (R : Nat → Nat → Option Nat) : Nat → Nat → Option Nat := (up2 (zr none (up2 (zr none (up2 (zr none (up2 (zr none (up2 (zr none (up2 (zr none (up2 (zr none (up2 (zr none R 63) 62 8 (some 63)) 64) 62 9 (some 64)) 65) 62 10 (some 65)) 66) 62 11 (some 66)) 67) 62 12 (some 67)) 68) 62 13 (some 68)) 69) 62 14 (some 69)) 70) 62 15 (some 70))
set_option maxRecDepth 20000 in
set_option maxHeartbeats 4000000 in
theorem cc_X5_init_62 (w : q_Wc) (l : Launch) (I : Nat → Nat → Int32) (L : Nat → Nat → Int64) (R : Nat → Nat → Option Nat) : q_Ct w l kX5_init [.ref 62] (63, I, L, R) none (71, ci_X5_init_62 I, cl_X5_init_62 L, cr_X5_init_62 R) := by
  refine q_ct (by decide) (Nat.le_of_ble_eq_true rfl) (Nat.le_of_ble_eq_true rfl) (fun g hg0 K => ?_)
  have K1 := K.1
  show q_Gs w g 0 [(0, .ref 62)] [] (63, I, L, R)
  refine g_aload_n K1 0 dX5_init_0 rfl ?_
  refine g_objInit K1 ml_X5_3 oi_inst oi_code ⟨Nat.le_of_ble_eq_true rfl, Nat.le_of_ble_eq_true rfl⟩ (Nat.le_of_ble_eq_true rfl) dX5_init_1 ?_
  refine g_aload_n K1 0 dX5_init_4 rfl ?_
  refine g_bipush K1 7 dX5_init_5 rfl ?_
  refine g_newarr_int K1 (N := 7) (by decide) (by decide) (by decide) lyp_63.1 szp_63 (Nat.le_of_ble_eq_true rfl) (Nat.le_of_ble_eq_true rfl) ar_int dX5_init_7 ?_
  show q_Gs w g 9 [(0, .ref 62)] [.ref 63, .ref 62] (64, (zr 0 I 63), (zr 0 L 63), (zr none R 63))
  refine g_putF K1 q_clX5 8 (Nat.le_of_ble_eq_true rfl) lyp_62.1 fkX5_8.1 fkX5_8.2 fl_X5_9 rfl rfl rfl (fun _ => rfl) (fun _ => rfl) dX5_init_9 ?_
  show q_Gs w g 12 [(0, .ref 62)] [] (64, (zr 0 I 63), (zr 0 L 63), (up2 (zr none R 63) 62 8 (some 63)))
  refine g_aload_n K1 0 dX5_init_12 rfl ?_
  refine g_bipush K1 7 dX5_init_13 rfl ?_
  refine g_newarr_int K1 (N := 7) (by decide) (by decide) (by decide) lyp_64.1 szp_64 (Nat.le_of_ble_eq_true rfl) (Nat.le_of_ble_eq_true rfl) ar_int dX5_init_15 ?_
  show q_Gs w g 17 [(0, .ref 62)] [.ref 64, .ref 62] (65, (zr 0 (zr 0 I 63) 64), (zr 0 (zr 0 L 63) 64), (zr none (up2 (zr none R 63) 62 8 (some 63)) 64))
  refine g_putF K1 q_clX5 9 (Nat.le_of_ble_eq_true rfl) lyp_62.1 fkX5_9.1 fkX5_9.2 fl_X5_15 rfl rfl rfl (fun _ => rfl) (fun _ => rfl) dX5_init_17 ?_
  show q_Gs w g 20 [(0, .ref 62)] [] (65, (zr 0 (zr 0 I 63) 64), (zr 0 (zr 0 L 63) 64), (up2 (zr none (up2 (zr none R 63) 62 8 (some 63)) 64) 62 9 (some 64)))
  refine g_aload_n K1 0 dX5_init_20 rfl ?_
  refine g_bipush K1 7 dX5_init_21 rfl ?_
  refine g_newarr_int K1 (N := 7) (by decide) (by decide) (by decide) lyp_65.1 szp_65 (Nat.le_of_ble_eq_true rfl) (Nat.le_of_ble_eq_true rfl) ar_int dX5_init_23 ?_
  show q_Gs w g 25 [(0, .ref 62)] [.ref 65, .ref 62] (66, (zr 0 (zr 0 (zr 0 I 63) 64) 65), (zr 0 (zr 0 (zr 0 L 63) 64) 65), (zr none (up2 (zr none (up2 (zr none R 63) 62 8 (some 63)) 64) 62 9 (some 64)) 65))
  refine g_putF K1 q_clX5 10 (Nat.le_of_ble_eq_true rfl) lyp_62.1 fkX5_10.1 fkX5_10.2 fl_X5_18 rfl rfl rfl (fun _ => rfl) (fun _ => rfl) dX5_init_25 ?_
  show q_Gs w g 28 [(0, .ref 62)] [] (66, (zr 0 (zr 0 (zr 0 I 63) 64) 65), (zr 0 (zr 0 (zr 0 L 63) 64) 65), (up2 (zr none (up2 (zr none (up2 (zr none R 63) 62 8 (some 63)) 64) 62 9 (some 64)) 65) 62 10 (some 65)))
  refine g_aload_n K1 0 dX5_init_28 rfl ?_
  refine g_bipush K1 7 dX5_init_29 rfl ?_
  refine g_newarr_int K1 (N := 7) (by decide) (by decide) (by decide) lyp_66.1 szp_66 (Nat.le_of_ble_eq_true rfl) (Nat.le_of_ble_eq_true rfl) ar_int dX5_init_31 ?_
  show q_Gs w g 33 [(0, .ref 62)] [.ref 66, .ref 62] (67, (zr 0 (zr 0 (zr 0 (zr 0 I 63) 64) 65) 66), (zr 0 (zr 0 (zr 0 (zr 0 L 63) 64) 65) 66), (zr none (up2 (zr none (up2 (zr none (up2 (zr none R 63) 62 8 (some 63)) 64) 62 9 (some 64)) 65) 62 10 (some 65)) 66))
  refine g_putF K1 q_clX5 11 (Nat.le_of_ble_eq_true rfl) lyp_62.1 fkX5_11.1 fkX5_11.2 fl_X5_21 rfl rfl rfl (fun _ => rfl) (fun _ => rfl) dX5_init_33 ?_
  show q_Gs w g 36 [(0, .ref 62)] [] (67, (zr 0 (zr 0 (zr 0 (zr 0 I 63) 64) 65) 66), (zr 0 (zr 0 (zr 0 (zr 0 L 63) 64) 65) 66), (up2 (zr none (up2 (zr none (up2 (zr none (up2 (zr none R 63) 62 8 (some 63)) 64) 62 9 (some 64)) 65) 62 10 (some 65)) 66) 62 11 (some 66)))
  refine g_aload_n K1 0 dX5_init_36 rfl ?_
  refine g_iconst K1 4 dX5_init_37 rfl ?_
  refine g_newarr_int K1 (N := 4) (by decide) (by decide) (by decide) lyp_67.1 szp_67 (Nat.le_of_ble_eq_true rfl) (Nat.le_of_ble_eq_true rfl) ar_int dX5_init_38 ?_
  show q_Gs w g 40 [(0, .ref 62)] [.ref 67, .ref 62] (68, (zr 0 (zr 0 (zr 0 (zr 0 (zr 0 I 63) 64) 65) 66) 67), (zr 0 (zr 0 (zr 0 (zr 0 (zr 0 L 63) 64) 65) 66) 67), (zr none (up2 (zr none (up2 (zr none (up2 (zr none (up2 (zr none R 63) 62 8 (some 63)) 64) 62 9 (some 64)) 65) 62 10 (some 65)) 66) 62 11 (some 66)) 67))
  refine g_putF K1 q_clX5 12 (Nat.le_of_ble_eq_true rfl) lyp_62.1 fkX5_12.1 fkX5_12.2 fl_X5_24 rfl rfl rfl (fun _ => rfl) (fun _ => rfl) dX5_init_40 ?_
  show q_Gs w g 43 [(0, .ref 62)] [] (68, (zr 0 (zr 0 (zr 0 (zr 0 (zr 0 I 63) 64) 65) 66) 67), (zr 0 (zr 0 (zr 0 (zr 0 (zr 0 L 63) 64) 65) 66) 67), (up2 (zr none (up2 (zr none (up2 (zr none (up2 (zr none (up2 (zr none R 63) 62 8 (some 63)) 64) 62 9 (some 64)) 65) 62 10 (some 65)) 66) 62 11 (some 66)) 67) 62 12 (some 67)))
  refine g_aload_n K1 0 dX5_init_43 rfl ?_
  refine g_iconst K1 4 dX5_init_44 rfl ?_
  refine g_newarr_int K1 (N := 4) (by decide) (by decide) (by decide) lyp_68.1 szp_68 (Nat.le_of_ble_eq_true rfl) (Nat.le_of_ble_eq_true rfl) ar_int dX5_init_45 ?_
  show q_Gs w g 47 [(0, .ref 62)] [.ref 68, .ref 62] (69, (zr 0 (zr 0 (zr 0 (zr 0 (zr 0 (zr 0 I 63) 64) 65) 66) 67) 68), (zr 0 (zr 0 (zr 0 (zr 0 (zr 0 (zr 0 L 63) 64) 65) 66) 67) 68), (zr none (up2 (zr none (up2 (zr none (up2 (zr none (up2 (zr none (up2 (zr none R 63) 62 8 (some 63)) 64) 62 9 (some 64)) 65) 62 10 (some 65)) 66) 62 11 (some 66)) 67) 62 12 (some 67)) 68))
  refine g_putF K1 q_clX5 13 (Nat.le_of_ble_eq_true rfl) lyp_62.1 fkX5_13.1 fkX5_13.2 fl_X5_27 rfl rfl rfl (fun _ => rfl) (fun _ => rfl) dX5_init_47 ?_
  show q_Gs w g 50 [(0, .ref 62)] [] (69, (zr 0 (zr 0 (zr 0 (zr 0 (zr 0 (zr 0 I 63) 64) 65) 66) 67) 68), (zr 0 (zr 0 (zr 0 (zr 0 (zr 0 (zr 0 L 63) 64) 65) 66) 67) 68), (up2 (zr none (up2 (zr none (up2 (zr none (up2 (zr none (up2 (zr none (up2 (zr none R 63) 62 8 (some 63)) 64) 62 9 (some 64)) 65) 62 10 (some 65)) 66) 62 11 (some 66)) 67) 62 12 (some 67)) 68) 62 13 (some 68)))
  refine g_aload_n K1 0 dX5_init_50 rfl ?_
  refine g_bipush K1 6 dX5_init_51 rfl ?_
  refine g_newarr_int K1 (N := 6) (by decide) (by decide) (by decide) lyp_69.1 szp_69 (Nat.le_of_ble_eq_true rfl) (Nat.le_of_ble_eq_true rfl) ar_int dX5_init_53 ?_
  show q_Gs w g 55 [(0, .ref 62)] [.ref 69, .ref 62] (70, (zr 0 (zr 0 (zr 0 (zr 0 (zr 0 (zr 0 (zr 0 I 63) 64) 65) 66) 67) 68) 69), (zr 0 (zr 0 (zr 0 (zr 0 (zr 0 (zr 0 (zr 0 L 63) 64) 65) 66) 67) 68) 69), (zr none (up2 (zr none (up2 (zr none (up2 (zr none (up2 (zr none (up2 (zr none (up2 (zr none R 63) 62 8 (some 63)) 64) 62 9 (some 64)) 65) 62 10 (some 65)) 66) 62 11 (some 66)) 67) 62 12 (some 67)) 68) 62 13 (some 68)) 69))
  refine g_putF K1 q_clX5 14 (Nat.le_of_ble_eq_true rfl) lyp_62.1 fkX5_14.1 fkX5_14.2 fl_X5_30 rfl rfl rfl (fun _ => rfl) (fun _ => rfl) dX5_init_55 ?_
  show q_Gs w g 58 [(0, .ref 62)] [] (70, (zr 0 (zr 0 (zr 0 (zr 0 (zr 0 (zr 0 (zr 0 I 63) 64) 65) 66) 67) 68) 69), (zr 0 (zr 0 (zr 0 (zr 0 (zr 0 (zr 0 (zr 0 L 63) 64) 65) 66) 67) 68) 69), (up2 (zr none (up2 (zr none (up2 (zr none (up2 (zr none (up2 (zr none (up2 (zr none (up2 (zr none R 63) 62 8 (some 63)) 64) 62 9 (some 64)) 65) 62 10 (some 65)) 66) 62 11 (some 66)) 67) 62 12 (some 67)) 68) 62 13 (some 68)) 69) 62 14 (some 69)))
  refine g_aload_n K1 0 dX5_init_58 rfl ?_
  refine g_bipush K1 6 dX5_init_59 rfl ?_
  refine g_newarr_int K1 (N := 6) (by decide) (by decide) (by decide) lyp_70.1 szp_70 (Nat.le_of_ble_eq_true rfl) (Nat.le_of_ble_eq_true rfl) ar_int dX5_init_61 ?_
  show q_Gs w g 63 [(0, .ref 62)] [.ref 70, .ref 62] (71, (zr 0 (zr 0 (zr 0 (zr 0 (zr 0 (zr 0 (zr 0 (zr 0 I 63) 64) 65) 66) 67) 68) 69) 70), (zr 0 (zr 0 (zr 0 (zr 0 (zr 0 (zr 0 (zr 0 (zr 0 L 63) 64) 65) 66) 67) 68) 69) 70), (zr none (up2 (zr none (up2 (zr none (up2 (zr none (up2 (zr none (up2 (zr none (up2 (zr none (up2 (zr none R 63) 62 8 (some 63)) 64) 62 9 (some 64)) 65) 62 10 (some 65)) 66) 62 11 (some 66)) 67) 62 12 (some 67)) 68) 62 13 (some 68)) 69) 62 14 (some 69)) 70))
  refine g_putF K1 q_clX5 15 (Nat.le_of_ble_eq_true rfl) lyp_62.1 fkX5_15.1 fkX5_15.2 fl_X5_33 rfl rfl rfl (fun _ => rfl) (fun _ => rfl) dX5_init_63 ?_
  show q_Gs w g 66 [(0, .ref 62)] [] (71, (zr 0 (zr 0 (zr 0 (zr 0 (zr 0 (zr 0 (zr 0 (zr 0 I 63) 64) 65) 66) 67) 68) 69) 70), (zr 0 (zr 0 (zr 0 (zr 0 (zr 0 (zr 0 (zr 0 (zr 0 L 63) 64) 65) 66) 67) 68) 69) 70), (up2 (zr none (up2 (zr none (up2 (zr none (up2 (zr none (up2 (zr none (up2 (zr none (up2 (zr none (up2 (zr none R 63) 62 8 (some 63)) 64) 62 9 (some 64)) 65) 62 10 (some 65)) 66) 62 11 (some 66)) 67) 62 12 (some 67)) 68) 62 13 (some 68)) 69) 62 14 (some 69)) 70) 62 15 (some 70)))
  exact g_vreturn K rfl dX5_init_66
def ci_X0_init_71 (I : Nat → Nat → Int32) : Nat → Nat → Int32 := (zr 0 (zr 0 (zr 0 I 72) 73) 74)
def cl_X0_init_71 (L : Nat → Nat → Int64) : Nat → Nat → Int64 := (zr 0 (zr 0 (zr 0 L 72) 73) 74)
def cr_X0_init_71 (R : Nat → Nat → Option Nat) : Nat → Nat → Option Nat := (up2 (zr none (up2 (zr none (up2 (zr none R 72) 71 1 (some 72)) 73) 71 2 (some 73)) 74) 71 3 (some 74))
set_option maxRecDepth 20000 in
set_option maxHeartbeats 4000000 in
theorem cc_X0_init_71 (w : q_Wc) (l : Launch) (I : Nat → Nat → Int32) (L : Nat → Nat → Int64) (R : Nat → Nat → Option Nat) : q_Ct w l kX0_init [.ref 71] (72, I, L, R) none (75, ci_X0_init_71 I, cl_X0_init_71 L, cr_X0_init_71 R) := by
  refine q_ct (by decide) (Nat.le_of_ble_eq_true rfl) (Nat.le_of_ble_eq_true rfl) (fun g hg0 K => ?_)
  have K1 := K.1
  show q_Gs w g 0 [(0, .ref 71)] [] (72, I, L, R)
  refine g_aload_n K1 0 dX0_init_0 rfl ?_
  refine g_objInit K1 ml_X0_1 oi_inst oi_code ⟨Nat.le_of_ble_eq_true rfl, Nat.le_of_ble_eq_true rfl⟩ (Nat.le_of_ble_eq_true rfl) dX0_init_1 ?_
  refine g_aload_n K1 0 dX0_init_4 rfl ?_
  refine g_bipush K1 30 dX0_init_5 rfl ?_
  refine g_newarr_int K1 (N := 30) (by decide) (by decide) (by decide) lyp_72.1 szp_72 (Nat.le_of_ble_eq_true rfl) (Nat.le_of_ble_eq_true rfl) ar_int dX0_init_7 ?_
  show q_Gs w g 9 [(0, .ref 71)] [.ref 72, .ref 71] (73, (zr 0 I 72), (zr 0 L 72), (zr none R 72))
  refine g_putF K1 q_clX0 1 (Nat.le_of_ble_eq_true rfl) lyp_71.1 fkX0_1.1 fkX0_1.2 fl_X0_9 rfl rfl rfl (fun _ => rfl) (fun _ => rfl) dX0_init_9 ?_
  show q_Gs w g 12 [(0, .ref 71)] [] (73, (zr 0 I 72), (zr 0 L 72), (up2 (zr none R 72) 71 1 (some 72)))
  refine g_aload_n K1 0 dX0_init_12 rfl ?_
  refine g_bipush K1 30 dX0_init_13 rfl ?_
  refine g_newarr_int K1 (N := 30) (by decide) (by decide) (by decide) lyp_73.1 szp_73 (Nat.le_of_ble_eq_true rfl) (Nat.le_of_ble_eq_true rfl) ar_int dX0_init_15 ?_
  show q_Gs w g 17 [(0, .ref 71)] [.ref 73, .ref 71] (74, (zr 0 (zr 0 I 72) 73), (zr 0 (zr 0 L 72) 73), (zr none (up2 (zr none R 72) 71 1 (some 72)) 73))
  refine g_putF K1 q_clX0 2 (Nat.le_of_ble_eq_true rfl) lyp_71.1 fkX0_2.1 fkX0_2.2 fl_X0_13 rfl rfl rfl (fun _ => rfl) (fun _ => rfl) dX0_init_17 ?_
  show q_Gs w g 20 [(0, .ref 71)] [] (74, (zr 0 (zr 0 I 72) 73), (zr 0 (zr 0 L 72) 73), (up2 (zr none (up2 (zr none R 72) 71 1 (some 72)) 73) 71 2 (some 73)))
  refine g_aload_n K1 0 dX0_init_20 rfl ?_
  refine g_bipush K1 30 dX0_init_21 rfl ?_
  refine g_newarr_int K1 (N := 30) (by decide) (by decide) (by decide) lyp_74.1 szp_74 (Nat.le_of_ble_eq_true rfl) (Nat.le_of_ble_eq_true rfl) ar_int dX0_init_23 ?_
  show q_Gs w g 25 [(0, .ref 71)] [.ref 74, .ref 71] (75, (zr 0 (zr 0 (zr 0 I 72) 73) 74), (zr 0 (zr 0 (zr 0 L 72) 73) 74), (zr none (up2 (zr none (up2 (zr none R 72) 71 1 (some 72)) 73) 71 2 (some 73)) 74))
  refine g_putF K1 q_clX0 3 (Nat.le_of_ble_eq_true rfl) lyp_71.1 fkX0_3.1 fkX0_3.2 fl_X0_16 rfl rfl rfl (fun _ => rfl) (fun _ => rfl) dX0_init_25 ?_
  show q_Gs w g 28 [(0, .ref 71)] [] (75, (zr 0 (zr 0 (zr 0 I 72) 73) 74), (zr 0 (zr 0 (zr 0 L 72) 73) 74), (up2 (zr none (up2 (zr none (up2 (zr none R 72) 71 1 (some 72)) 73) 71 2 (some 73)) 74) 71 3 (some 74)))
  exact g_vreturn K rfl dX0_init_28
def ci_X3_init_75 (I : Nat → Nat → Int32) : Nat → Nat → Int32 := (zr 0 (zr 0 (zr 0 (zr 0 (zr 0 I 76) 77) 78) 79) 80)
def cl_X3_init_75 (L : Nat → Nat → Int64) : Nat → Nat → Int64 := (zr 0 (zr 0 (zr 0 (zr 0 (zr 0 L 76) 77) 78) 79) 80)
def cr_X3_init_75 (R : Nat → Nat → Option Nat) : Nat → Nat → Option Nat := (up2 (up2 (up2 (zr none (up2 (zr none (up2 (zr none (up2 (zr none (up2 (zr none R 76) 75 0 (some 76)) 77) 75 1 (some 77)) 78) 75 2 (some 78)) 79) 75 3 (some 79)) 80) 75 4 (some 80)) 75 5 (some 12)) 75 6 (some 21))
set_option maxRecDepth 20000 in
set_option maxHeartbeats 4000000 in
theorem cc_X3_init_75 (w : q_Wc) (l : Launch) (I : Nat → Nat → Int32) (L : Nat → Nat → Int64) (R : Nat → Nat → Option Nat) : q_Ct w l kX3_init [.ref 75, .ref 12, .ref 21] (76, I, L, R) none (81, ci_X3_init_75 I, cl_X3_init_75 L, cr_X3_init_75 R) := by
  refine q_ct (by decide) (Nat.le_of_ble_eq_true rfl) (Nat.le_of_ble_eq_true rfl) (fun g hg0 K => ?_)
  have K1 := K.1
  show q_Gs w g 0 [(0, .ref 75), (1, .ref 12), (2, .ref 21)] [] (76, I, L, R)
  refine g_aload_n K1 0 dX3_init_0 rfl ?_
  refine g_objInit K1 ml_X3_3 oi_inst oi_code ⟨Nat.le_of_ble_eq_true rfl, Nat.le_of_ble_eq_true rfl⟩ (Nat.le_of_ble_eq_true rfl) dX3_init_1 ?_
  refine g_aload_n K1 0 dX3_init_4 rfl ?_
  refine g_bipush K1 13 dX3_init_5 rfl ?_
  refine g_newarr_int K1 (N := 13) (by decide) (by decide) (by decide) lyp_76.1 szp_76 (Nat.le_of_ble_eq_true rfl) (Nat.le_of_ble_eq_true rfl) ar_int dX3_init_7 ?_
  show q_Gs w g 9 [(0, .ref 75), (1, .ref 12), (2, .ref 21)] [.ref 76, .ref 75] (77, (zr 0 I 76), (zr 0 L 76), (zr none R 76))
  refine g_putF K1 q_clX3 0 (Nat.le_of_ble_eq_true rfl) lyp_75.1 fkX3_0.1 fkX3_0.2 fl_X3_9 rfl rfl rfl (fun _ => rfl) (fun _ => rfl) dX3_init_9 ?_
  show q_Gs w g 12 [(0, .ref 75), (1, .ref 12), (2, .ref 21)] [] (77, (zr 0 I 76), (zr 0 L 76), (up2 (zr none R 76) 75 0 (some 76)))
  refine g_aload_n K1 0 dX3_init_12 rfl ?_
  refine g_bipush K1 91 dX3_init_13 rfl ?_
  refine g_newarr_int K1 (N := 91) (by decide) (by decide) (by decide) lyp_77.1 szp_77 (Nat.le_of_ble_eq_true rfl) (Nat.le_of_ble_eq_true rfl) ar_int dX3_init_15 ?_
  show q_Gs w g 17 [(0, .ref 75), (1, .ref 12), (2, .ref 21)] [.ref 77, .ref 75] (78, (zr 0 (zr 0 I 76) 77), (zr 0 (zr 0 L 76) 77), (zr none (up2 (zr none R 76) 75 0 (some 76)) 77))
  refine g_putF K1 q_clX3 1 (Nat.le_of_ble_eq_true rfl) lyp_75.1 fkX3_1.1 fkX3_1.2 fl_X3_15 rfl rfl rfl (fun _ => rfl) (fun _ => rfl) dX3_init_17 ?_
  show q_Gs w g 20 [(0, .ref 75), (1, .ref 12), (2, .ref 21)] [] (78, (zr 0 (zr 0 I 76) 77), (zr 0 (zr 0 L 76) 77), (up2 (zr none (up2 (zr none R 76) 75 0 (some 76)) 77) 75 1 (some 77)))
  refine g_aload_n K1 0 dX3_init_20 rfl ?_
  refine g_bipush K1 91 dX3_init_21 rfl ?_
  refine g_newarr_int K1 (N := 91) (by decide) (by decide) (by decide) lyp_78.1 szp_78 (Nat.le_of_ble_eq_true rfl) (Nat.le_of_ble_eq_true rfl) ar_int dX3_init_23 ?_
  show q_Gs w g 25 [(0, .ref 75), (1, .ref 12), (2, .ref 21)] [.ref 78, .ref 75] (79, (zr 0 (zr 0 (zr 0 I 76) 77) 78), (zr 0 (zr 0 (zr 0 L 76) 77) 78), (zr none (up2 (zr none (up2 (zr none R 76) 75 0 (some 76)) 77) 75 1 (some 77)) 78))
  refine g_putF K1 q_clX3 2 (Nat.le_of_ble_eq_true rfl) lyp_75.1 fkX3_2.1 fkX3_2.2 fl_X3_18 rfl rfl rfl (fun _ => rfl) (fun _ => rfl) dX3_init_25 ?_
  show q_Gs w g 28 [(0, .ref 75), (1, .ref 12), (2, .ref 21)] [] (79, (zr 0 (zr 0 (zr 0 I 76) 77) 78), (zr 0 (zr 0 (zr 0 L 76) 77) 78), (up2 (zr none (up2 (zr none (up2 (zr none R 76) 75 0 (some 76)) 77) 75 1 (some 77)) 78) 75 2 (some 78)))
  refine g_aload_n K1 0 dX3_init_28 rfl ?_
  refine g_bipush K1 91 dX3_init_29 rfl ?_
  refine g_newarr_int K1 (N := 91) (by decide) (by decide) (by decide) lyp_79.1 szp_79 (Nat.le_of_ble_eq_true rfl) (Nat.le_of_ble_eq_true rfl) ar_int dX3_init_31 ?_
  show q_Gs w g 33 [(0, .ref 75), (1, .ref 12), (2, .ref 21)] [.ref 79, .ref 75] (80, (zr 0 (zr 0 (zr 0 (zr 0 I 76) 77) 78) 79), (zr 0 (zr 0 (zr 0 (zr 0 L 76) 77) 78) 79), (zr none (up2 (zr none (up2 (zr none (up2 (zr none R 76) 75 0 (some 76)) 77) 75 1 (some 77)) 78) 75 2 (some 78)) 79))
  refine g_putF K1 q_clX3 3 (Nat.le_of_ble_eq_true rfl) lyp_75.1 fkX3_3.1 fkX3_3.2 fl_X3_21 rfl rfl rfl (fun _ => rfl) (fun _ => rfl) dX3_init_33 ?_
  show q_Gs w g 36 [(0, .ref 75), (1, .ref 12), (2, .ref 21)] [] (80, (zr 0 (zr 0 (zr 0 (zr 0 I 76) 77) 78) 79), (zr 0 (zr 0 (zr 0 (zr 0 L 76) 77) 78) 79), (up2 (zr none (up2 (zr none (up2 (zr none (up2 (zr none R 76) 75 0 (some 76)) 77) 75 1 (some 77)) 78) 75 2 (some 78)) 79) 75 3 (some 79)))
  refine g_aload_n K1 0 dX3_init_36 rfl ?_
  refine g_bipush K1 91 dX3_init_37 rfl ?_
  refine g_newarr_int K1 (N := 91) (by decide) (by decide) (by decide) lyp_80.1 szp_80 (Nat.le_of_ble_eq_true rfl) (Nat.le_of_ble_eq_true rfl) ar_int dX3_init_39 ?_
  show q_Gs w g 41 [(0, .ref 75), (1, .ref 12), (2, .ref 21)] [.ref 80, .ref 75] (81, (zr 0 (zr 0 (zr 0 (zr 0 (zr 0 I 76) 77) 78) 79) 80), (zr 0 (zr 0 (zr 0 (zr 0 (zr 0 L 76) 77) 78) 79) 80), (zr none (up2 (zr none (up2 (zr none (up2 (zr none (up2 (zr none R 76) 75 0 (some 76)) 77) 75 1 (some 77)) 78) 75 2 (some 78)) 79) 75 3 (some 79)) 80))
  refine g_putF K1 q_clX3 4 (Nat.le_of_ble_eq_true rfl) lyp_75.1 fkX3_4.1 fkX3_4.2 fl_X3_24 rfl rfl rfl (fun _ => rfl) (fun _ => rfl) dX3_init_41 ?_
  show q_Gs w g 44 [(0, .ref 75), (1, .ref 12), (2, .ref 21)] [] (81, (zr 0 (zr 0 (zr 0 (zr 0 (zr 0 I 76) 77) 78) 79) 80), (zr 0 (zr 0 (zr 0 (zr 0 (zr 0 L 76) 77) 78) 79) 80), (up2 (zr none (up2 (zr none (up2 (zr none (up2 (zr none (up2 (zr none R 76) 75 0 (some 76)) 77) 75 1 (some 77)) 78) 75 2 (some 78)) 79) 75 3 (some 79)) 80) 75 4 (some 80)))
  refine g_aload_n K1 0 dX3_init_44 rfl ?_
  refine g_aload_n K1 1 dX3_init_45 rfl ?_
  refine g_putF K1 q_clX3 5 (Nat.le_of_ble_eq_true rfl) lyp_75.1 fkX3_5.1 fkX3_5.2 fl_X3_27 rfl rfl rfl (fun _ => rfl) (fun _ => rfl) dX3_init_46 ?_
  show q_Gs w g 49 [(0, .ref 75), (1, .ref 12), (2, .ref 21)] [] (81, (zr 0 (zr 0 (zr 0 (zr 0 (zr 0 I 76) 77) 78) 79) 80), (zr 0 (zr 0 (zr 0 (zr 0 (zr 0 L 76) 77) 78) 79) 80), (up2 (up2 (zr none (up2 (zr none (up2 (zr none (up2 (zr none (up2 (zr none R 76) 75 0 (some 76)) 77) 75 1 (some 77)) 78) 75 2 (some 78)) 79) 75 3 (some 79)) 80) 75 4 (some 80)) 75 5 (some 12)))
  refine g_aload_n K1 0 dX3_init_49 rfl ?_
  refine g_aload_n K1 2 dX3_init_50 rfl ?_
  refine g_putF K1 q_clX3 6 (Nat.le_of_ble_eq_true rfl) lyp_75.1 fkX3_6.1 fkX3_6.2 fl_X3_31 rfl rfl rfl (fun _ => rfl) (fun _ => rfl) dX3_init_51 ?_
  show q_Gs w g 54 [(0, .ref 75), (1, .ref 12), (2, .ref 21)] [] (81, (zr 0 (zr 0 (zr 0 (zr 0 (zr 0 I 76) 77) 78) 79) 80), (zr 0 (zr 0 (zr 0 (zr 0 (zr 0 L 76) 77) 78) 79) 80), (up2 (up2 (up2 (zr none (up2 (zr none (up2 (zr none (up2 (zr none (up2 (zr none R 76) 75 0 (some 76)) 77) 75 1 (some 77)) 78) 75 2 (some 78)) 79) 75 3 (some 79)) 80) 75 4 (some 80)) 75 5 (some 12)) 75 6 (some 21)))
  exact g_vreturn K rfl dX3_init_54
def ci_X3_init_81 (I : Nat → Nat → Int32) : Nat → Nat → Int32 := (zr 0 (zr 0 (zr 0 (zr 0 (zr 0 I 82) 83) 84) 85) 86)
def cl_X3_init_81 (L : Nat → Nat → Int64) : Nat → Nat → Int64 := (zr 0 (zr 0 (zr 0 (zr 0 (zr 0 L 82) 83) 84) 85) 86)
def cr_X3_init_81 (R : Nat → Nat → Option Nat) : Nat → Nat → Option Nat := (up2 (up2 (up2 (zr none (up2 (zr none (up2 (zr none (up2 (zr none (up2 (zr none R 82) 81 0 (some 82)) 83) 81 1 (some 83)) 84) 81 2 (some 84)) 85) 81 3 (some 85)) 86) 81 4 (some 86)) 81 5 (some 12)) 81 6 (some 21))
set_option maxRecDepth 20000 in
set_option maxHeartbeats 4000000 in
theorem cc_X3_init_81 (w : q_Wc) (l : Launch) (I : Nat → Nat → Int32) (L : Nat → Nat → Int64) (R : Nat → Nat → Option Nat) : q_Ct w l kX3_init [.ref 81, .ref 12, .ref 21] (82, I, L, R) none (87, ci_X3_init_81 I, cl_X3_init_81 L, cr_X3_init_81 R) := by
  refine q_ct (by decide) (Nat.le_of_ble_eq_true rfl) (Nat.le_of_ble_eq_true rfl) (fun g hg0 K => ?_)
  have K1 := K.1
  show q_Gs w g 0 [(0, .ref 81), (1, .ref 12), (2, .ref 21)] [] (82, I, L, R)
  refine g_aload_n K1 0 dX3_init_0 rfl ?_
  refine g_objInit K1 ml_X3_3 oi_inst oi_code ⟨Nat.le_of_ble_eq_true rfl, Nat.le_of_ble_eq_true rfl⟩ (Nat.le_of_ble_eq_true rfl) dX3_init_1 ?_
  refine g_aload_n K1 0 dX3_init_4 rfl ?_
  refine g_bipush K1 13 dX3_init_5 rfl ?_
  refine g_newarr_int K1 (N := 13) (by decide) (by decide) (by decide) lyp_82.1 szp_82 (Nat.le_of_ble_eq_true rfl) (Nat.le_of_ble_eq_true rfl) ar_int dX3_init_7 ?_
  show q_Gs w g 9 [(0, .ref 81), (1, .ref 12), (2, .ref 21)] [.ref 82, .ref 81] (83, (zr 0 I 82), (zr 0 L 82), (zr none R 82))
  refine g_putF K1 q_clX3 0 (Nat.le_of_ble_eq_true rfl) lyp_81.1 fkX3_0.1 fkX3_0.2 fl_X3_9 rfl rfl rfl (fun _ => rfl) (fun _ => rfl) dX3_init_9 ?_
  show q_Gs w g 12 [(0, .ref 81), (1, .ref 12), (2, .ref 21)] [] (83, (zr 0 I 82), (zr 0 L 82), (up2 (zr none R 82) 81 0 (some 82)))
  refine g_aload_n K1 0 dX3_init_12 rfl ?_
  refine g_bipush K1 91 dX3_init_13 rfl ?_
  refine g_newarr_int K1 (N := 91) (by decide) (by decide) (by decide) lyp_83.1 szp_83 (Nat.le_of_ble_eq_true rfl) (Nat.le_of_ble_eq_true rfl) ar_int dX3_init_15 ?_
  show q_Gs w g 17 [(0, .ref 81), (1, .ref 12), (2, .ref 21)] [.ref 83, .ref 81] (84, (zr 0 (zr 0 I 82) 83), (zr 0 (zr 0 L 82) 83), (zr none (up2 (zr none R 82) 81 0 (some 82)) 83))
  refine g_putF K1 q_clX3 1 (Nat.le_of_ble_eq_true rfl) lyp_81.1 fkX3_1.1 fkX3_1.2 fl_X3_15 rfl rfl rfl (fun _ => rfl) (fun _ => rfl) dX3_init_17 ?_
  show q_Gs w g 20 [(0, .ref 81), (1, .ref 12), (2, .ref 21)] [] (84, (zr 0 (zr 0 I 82) 83), (zr 0 (zr 0 L 82) 83), (up2 (zr none (up2 (zr none R 82) 81 0 (some 82)) 83) 81 1 (some 83)))
  refine g_aload_n K1 0 dX3_init_20 rfl ?_
  refine g_bipush K1 91 dX3_init_21 rfl ?_
  refine g_newarr_int K1 (N := 91) (by decide) (by decide) (by decide) lyp_84.1 szp_84 (Nat.le_of_ble_eq_true rfl) (Nat.le_of_ble_eq_true rfl) ar_int dX3_init_23 ?_
  show q_Gs w g 25 [(0, .ref 81), (1, .ref 12), (2, .ref 21)] [.ref 84, .ref 81] (85, (zr 0 (zr 0 (zr 0 I 82) 83) 84), (zr 0 (zr 0 (zr 0 L 82) 83) 84), (zr none (up2 (zr none (up2 (zr none R 82) 81 0 (some 82)) 83) 81 1 (some 83)) 84))
  refine g_putF K1 q_clX3 2 (Nat.le_of_ble_eq_true rfl) lyp_81.1 fkX3_2.1 fkX3_2.2 fl_X3_18 rfl rfl rfl (fun _ => rfl) (fun _ => rfl) dX3_init_25 ?_
  show q_Gs w g 28 [(0, .ref 81), (1, .ref 12), (2, .ref 21)] [] (85, (zr 0 (zr 0 (zr 0 I 82) 83) 84), (zr 0 (zr 0 (zr 0 L 82) 83) 84), (up2 (zr none (up2 (zr none (up2 (zr none R 82) 81 0 (some 82)) 83) 81 1 (some 83)) 84) 81 2 (some 84)))
  refine g_aload_n K1 0 dX3_init_28 rfl ?_
  refine g_bipush K1 91 dX3_init_29 rfl ?_
  refine g_newarr_int K1 (N := 91) (by decide) (by decide) (by decide) lyp_85.1 szp_85 (Nat.le_of_ble_eq_true rfl) (Nat.le_of_ble_eq_true rfl) ar_int dX3_init_31 ?_
  show q_Gs w g 33 [(0, .ref 81), (1, .ref 12), (2, .ref 21)] [.ref 85, .ref 81] (86, (zr 0 (zr 0 (zr 0 (zr 0 I 82) 83) 84) 85), (zr 0 (zr 0 (zr 0 (zr 0 L 82) 83) 84) 85), (zr none (up2 (zr none (up2 (zr none (up2 (zr none R 82) 81 0 (some 82)) 83) 81 1 (some 83)) 84) 81 2 (some 84)) 85))
  refine g_putF K1 q_clX3 3 (Nat.le_of_ble_eq_true rfl) lyp_81.1 fkX3_3.1 fkX3_3.2 fl_X3_21 rfl rfl rfl (fun _ => rfl) (fun _ => rfl) dX3_init_33 ?_
  show q_Gs w g 36 [(0, .ref 81), (1, .ref 12), (2, .ref 21)] [] (86, (zr 0 (zr 0 (zr 0 (zr 0 I 82) 83) 84) 85), (zr 0 (zr 0 (zr 0 (zr 0 L 82) 83) 84) 85), (up2 (zr none (up2 (zr none (up2 (zr none (up2 (zr none R 82) 81 0 (some 82)) 83) 81 1 (some 83)) 84) 81 2 (some 84)) 85) 81 3 (some 85)))
  refine g_aload_n K1 0 dX3_init_36 rfl ?_
  refine g_bipush K1 91 dX3_init_37 rfl ?_
  refine g_newarr_int K1 (N := 91) (by decide) (by decide) (by decide) lyp_86.1 szp_86 (Nat.le_of_ble_eq_true rfl) (Nat.le_of_ble_eq_true rfl) ar_int dX3_init_39 ?_
  show q_Gs w g 41 [(0, .ref 81), (1, .ref 12), (2, .ref 21)] [.ref 86, .ref 81] (87, (zr 0 (zr 0 (zr 0 (zr 0 (zr 0 I 82) 83) 84) 85) 86), (zr 0 (zr 0 (zr 0 (zr 0 (zr 0 L 82) 83) 84) 85) 86), (zr none (up2 (zr none (up2 (zr none (up2 (zr none (up2 (zr none R 82) 81 0 (some 82)) 83) 81 1 (some 83)) 84) 81 2 (some 84)) 85) 81 3 (some 85)) 86))
  refine g_putF K1 q_clX3 4 (Nat.le_of_ble_eq_true rfl) lyp_81.1 fkX3_4.1 fkX3_4.2 fl_X3_24 rfl rfl rfl (fun _ => rfl) (fun _ => rfl) dX3_init_41 ?_
  show q_Gs w g 44 [(0, .ref 81), (1, .ref 12), (2, .ref 21)] [] (87, (zr 0 (zr 0 (zr 0 (zr 0 (zr 0 I 82) 83) 84) 85) 86), (zr 0 (zr 0 (zr 0 (zr 0 (zr 0 L 82) 83) 84) 85) 86), (up2 (zr none (up2 (zr none (up2 (zr none (up2 (zr none (up2 (zr none R 82) 81 0 (some 82)) 83) 81 1 (some 83)) 84) 81 2 (some 84)) 85) 81 3 (some 85)) 86) 81 4 (some 86)))
  refine g_aload_n K1 0 dX3_init_44 rfl ?_
  refine g_aload_n K1 1 dX3_init_45 rfl ?_
  refine g_putF K1 q_clX3 5 (Nat.le_of_ble_eq_true rfl) lyp_81.1 fkX3_5.1 fkX3_5.2 fl_X3_27 rfl rfl rfl (fun _ => rfl) (fun _ => rfl) dX3_init_46 ?_
  show q_Gs w g 49 [(0, .ref 81), (1, .ref 12), (2, .ref 21)] [] (87, (zr 0 (zr 0 (zr 0 (zr 0 (zr 0 I 82) 83) 84) 85) 86), (zr 0 (zr 0 (zr 0 (zr 0 (zr 0 L 82) 83) 84) 85) 86), (up2 (up2 (zr none (up2 (zr none (up2 (zr none (up2 (zr none (up2 (zr none R 82) 81 0 (some 82)) 83) 81 1 (some 83)) 84) 81 2 (some 84)) 85) 81 3 (some 85)) 86) 81 4 (some 86)) 81 5 (some 12)))
  refine g_aload_n K1 0 dX3_init_49 rfl ?_
  refine g_aload_n K1 2 dX3_init_50 rfl ?_
  refine g_putF K1 q_clX3 6 (Nat.le_of_ble_eq_true rfl) lyp_81.1 fkX3_6.1 fkX3_6.2 fl_X3_31 rfl rfl rfl (fun _ => rfl) (fun _ => rfl) dX3_init_51 ?_
  show q_Gs w g 54 [(0, .ref 81), (1, .ref 12), (2, .ref 21)] [] (87, (zr 0 (zr 0 (zr 0 (zr 0 (zr 0 I 82) 83) 84) 85) 86), (zr 0 (zr 0 (zr 0 (zr 0 (zr 0 L 82) 83) 84) 85) 86), (up2 (up2 (up2 (zr none (up2 (zr none (up2 (zr none (up2 (zr none (up2 (zr none R 82) 81 0 (some 82)) 83) 81 1 (some 83)) 84) 81 2 (some 84)) 85) 81 3 (some 85)) 86) 81 4 (some 86)) 81 5 (some 12)) 81 6 (some 21)))
  exact g_vreturn K rfl dX3_init_54
def ci_X10_init_87 (I : Nat → Nat → Int32) : Nat → Nat → Int32 := I
def cl_X10_init_87 (L : Nat → Nat → Int64) : Nat → Nat → Int64 := L
def cr_X10_init_87 (R : Nat → Nat → Option Nat) : Nat → Nat → Option Nat := (up2 (up2 R 87 3 (some 12)) 87 4 (some 81))
set_option maxRecDepth 20000 in
set_option maxHeartbeats 4000000 in
theorem cc_X10_init_87 (w : q_Wc) (l : Launch) (I : Nat → Nat → Int32) (L : Nat → Nat → Int64) (R : Nat → Nat → Option Nat) : q_Ct w l kX10_init [.ref 87, .ref 12, .ref 81] (88, I, L, R) none (88, ci_X10_init_87 I, cl_X10_init_87 L, cr_X10_init_87 R) := by
  refine q_ct (by decide) (Nat.le_of_ble_eq_true rfl) (Nat.le_of_ble_eq_true rfl) (fun g hg0 K => ?_)
  have K1 := K.1
  show q_Gs w g 0 [(0, .ref 87), (1, .ref 12), (2, .ref 81)] [] (88, I, L, R)
  refine g_aload_n K1 0 dX10_init_0 rfl ?_
  refine g_objInit K1 ml_X10_3 oi_inst oi_code ⟨Nat.le_of_ble_eq_true rfl, Nat.le_of_ble_eq_true rfl⟩ (Nat.le_of_ble_eq_true rfl) dX10_init_1 ?_
  refine g_aload_n K1 0 dX10_init_4 rfl ?_
  refine g_aload_n K1 1 dX10_init_5 rfl ?_
  refine g_putF K1 q_clX10 3 (Nat.le_of_ble_eq_true rfl) lyp_87.1 fkX10_3.1 fkX10_3.2 fl_X10_9 rfl rfl rfl (fun _ => rfl) (fun _ => rfl) dX10_init_6 ?_
  show q_Gs w g 9 [(0, .ref 87), (1, .ref 12), (2, .ref 81)] [] (88, I, L, (up2 R 87 3 (some 12)))
  refine g_aload_n K1 0 dX10_init_9 rfl ?_
  refine g_aload_n K1 2 dX10_init_10 rfl ?_
  refine g_putF K1 q_clX10 4 (Nat.le_of_ble_eq_true rfl) lyp_87.1 fkX10_4.1 fkX10_4.2 fl_X10_15 rfl rfl rfl (fun _ => rfl) (fun _ => rfl) dX10_init_11 ?_
  show q_Gs w g 14 [(0, .ref 87), (1, .ref 12), (2, .ref 81)] [] (88, I, L, (up2 (up2 R 87 3 (some 12)) 87 4 (some 81)))
  exact g_vreturn K rfl dX10_init_14
def ci_X8_init_88 (I : Nat → Nat → Int32) : Nat → Nat → Int32 := (ci_X8_forget_88 (zr 0 I 89))
def cl_X8_init_88 (L : Nat → Nat → Int64) : Nat → Nat → Int64 := (cl_X8_forget_88 (zr 0 L 89))
def cr_X8_init_88 (R : Nat → Nat → Option Nat) : Nat → Nat → Option Nat := (cr_X8_forget_88 (up2 (up2 (up2 (zr none R 89) 88 0 (some 89)) 88 1 (some 12)) 88 2 (some 81)))
set_option maxRecDepth 20000 in
set_option maxHeartbeats 4000000 in
theorem cc_X8_init_88 (w : q_Wc) (l : Launch) (I : Nat → Nat → Int32) (L : Nat → Nat → Int64) (R : Nat → Nat → Option Nat) : q_Ct w l kX8_init [.ref 88, .ref 12, .ref 81] (89, I, L, R) none (90, ci_X8_init_88 I, cl_X8_init_88 L, cr_X8_init_88 R) := by
  refine q_ct (by decide) (Nat.le_of_ble_eq_true rfl) (Nat.le_of_ble_eq_true rfl) (fun g hg0 K => ?_)
  have K1 := K.1
  show q_Gs w g 0 [(0, .ref 88), (1, .ref 12), (2, .ref 81)] [] (89, I, L, R)
  refine g_aload_n K1 0 dX8_init_0 rfl ?_
  refine g_objInit K1 ml_X8_3 oi_inst oi_code ⟨Nat.le_of_ble_eq_true rfl, Nat.le_of_ble_eq_true rfl⟩ (Nat.le_of_ble_eq_true rfl) dX8_init_1 ?_
  refine g_aload_n K1 0 dX8_init_4 rfl ?_
  refine g_sipush K1 128 dX8_init_5 rfl ?_
  refine g_newarr_int K1 (N := 128) (by decide) (by decide) (by decide) lyp_89.1 szp_89 (Nat.le_of_ble_eq_true rfl) (Nat.le_of_ble_eq_true rfl) ar_int dX8_init_8 ?_
  show q_Gs w g 10 [(0, .ref 88), (1, .ref 12), (2, .ref 81)] [.ref 89, .ref 88] (90, (zr 0 I 89), (zr 0 L 89), (zr none R 89))
  refine g_putF K1 q_clX8 0 (Nat.le_of_ble_eq_true rfl) lyp_88.1 fkX8_0.1 fkX8_0.2 fl_X8_9 rfl rfl rfl (fun _ => rfl) (fun _ => rfl) dX8_init_10 ?_
  show q_Gs w g 13 [(0, .ref 88), (1, .ref 12), (2, .ref 81)] [] (90, (zr 0 I 89), (zr 0 L 89), (up2 (zr none R 89) 88 0 (some 89)))
  refine g_aload_n K1 0 dX8_init_13 rfl ?_
  refine g_aload_n K1 1 dX8_init_14 rfl ?_
  refine g_putF K1 q_clX8 1 (Nat.le_of_ble_eq_true rfl) lyp_88.1 fkX8_1.1 fkX8_1.2 fl_X8_15 rfl rfl rfl (fun _ => rfl) (fun _ => rfl) dX8_init_15 ?_
  show q_Gs w g 18 [(0, .ref 88), (1, .ref 12), (2, .ref 81)] [] (90, (zr 0 I 89), (zr 0 L 89), (up2 (up2 (zr none R 89) 88 0 (some 89)) 88 1 (some 12)))
  refine g_aload_n K1 0 dX8_init_18 rfl ?_
  refine g_aload_n K1 2 dX8_init_19 rfl ?_
  refine g_putF K1 q_clX8 2 (Nat.le_of_ble_eq_true rfl) lyp_88.1 fkX8_2.1 fkX8_2.2 fl_X8_19 rfl rfl rfl (fun _ => rfl) (fun _ => rfl) dX8_init_20 ?_
  show q_Gs w g 23 [(0, .ref 88), (1, .ref 12), (2, .ref 81)] [] (90, (zr 0 I 89), (zr 0 L 89), (up2 (up2 (up2 (zr none R 89) 88 0 (some 89)) 88 1 (some 12)) 88 2 (some 81)))
  refine g_aload_n K1 0 dX8_init_23 rfl ?_
  refine g_callV K1 (st := []) [] (cc_X8_forget_88 w (gl g) (zr 0 I 89) (zr 0 L 89) (up2 (up2 (up2 (zr none R 89) 88 0 (some 89)) 88 1 (some 12)) 88 2 (some 81)) rfl) (Nat.le_of_ble_eq_true rfl) q_clX8 (Nat.le_of_ble_eq_true rfl) lyp_88.1 rfl ok_X8_forget ml_X8_23 (Nat.le_of_ble_eq_true rfl) (Nat.le_of_ble_eq_true rfl) (Nat.le_of_ble_eq_true rfl) dX8_init_24 ?_
  show q_Gs w g 27 [(0, .ref 88), (1, .ref 12), (2, .ref 81)] [] (90, (ci_X8_forget_88 (zr 0 I 89)), (cl_X8_forget_88 (zr 0 L 89)), (cr_X8_forget_88 (up2 (up2 (up2 (zr none R 89) 88 0 (some 89)) 88 1 (some 12)) 88 2 (some 81))))
  exact g_vreturn K rfl dX8_init_27
def ci_X4_init_90 (I : Nat → Nat → Int32) : Nat → Nat → Int32 := (zr 0 I 91)
def cl_X4_init_90 (L : Nat → Nat → Int64) : Nat → Nat → Int64 := (zr 0 L 91)
def cr_X4_init_90 (R : Nat → Nat → Option Nat) : Nat → Nat → Option Nat := (up2 (up2 (up2 (zr none R 91) 90 2 (some 91)) 90 4 (some 12)) 90 5 (some 81))
set_option maxRecDepth 20000 in
set_option maxHeartbeats 4000000 in
theorem cc_X4_init_90 (w : q_Wc) (l : Launch) (I : Nat → Nat → Int32) (L : Nat → Nat → Int64) (R : Nat → Nat → Option Nat) : q_Ct w l kX4_init [.ref 90, .ref 12, .ref 81] (91, I, L, R) none (92, ci_X4_init_90 I, cl_X4_init_90 L, cr_X4_init_90 R) := by
  refine q_ct (by decide) (Nat.le_of_ble_eq_true rfl) (Nat.le_of_ble_eq_true rfl) (fun g hg0 K => ?_)
  have K1 := K.1
  show q_Gs w g 0 [(0, .ref 90), (1, .ref 12), (2, .ref 81)] [] (91, I, L, R)
  refine g_aload_n K1 0 dX4_init_0 rfl ?_
  refine g_objInit K1 ml_X4_3 oi_inst oi_code ⟨Nat.le_of_ble_eq_true rfl, Nat.le_of_ble_eq_true rfl⟩ (Nat.le_of_ble_eq_true rfl) dX4_init_1 ?_
  refine g_aload_n K1 0 dX4_init_4 rfl ?_
  refine g_bipush K1 13 dX4_init_5 rfl ?_
  refine g_newarr_int K1 (N := 13) (by decide) (by decide) (by decide) lyp_91.1 szp_91 (Nat.le_of_ble_eq_true rfl) (Nat.le_of_ble_eq_true rfl) ar_int dX4_init_7 ?_
  show q_Gs w g 9 [(0, .ref 90), (1, .ref 12), (2, .ref 81)] [.ref 91, .ref 90] (92, (zr 0 I 91), (zr 0 L 91), (zr none R 91))
  refine g_putF K1 q_clX4 2 (Nat.le_of_ble_eq_true rfl) lyp_90.1 fkX4_2.1 fkX4_2.2 fl_X4_9 rfl rfl rfl (fun _ => rfl) (fun _ => rfl) dX4_init_9 ?_
  show q_Gs w g 12 [(0, .ref 90), (1, .ref 12), (2, .ref 81)] [] (92, (zr 0 I 91), (zr 0 L 91), (up2 (zr none R 91) 90 2 (some 91)))
  refine g_aload_n K1 0 dX4_init_12 rfl ?_
  refine g_aload_n K1 1 dX4_init_13 rfl ?_
  refine g_putF K1 q_clX4 4 (Nat.le_of_ble_eq_true rfl) lyp_90.1 fkX4_4.1 fkX4_4.2 fl_X4_15 rfl rfl rfl (fun _ => rfl) (fun _ => rfl) dX4_init_14 ?_
  show q_Gs w g 17 [(0, .ref 90), (1, .ref 12), (2, .ref 81)] [] (92, (zr 0 I 91), (zr 0 L 91), (up2 (up2 (zr none R 91) 90 2 (some 91)) 90 4 (some 12)))
  refine g_aload_n K1 0 dX4_init_17 rfl ?_
  refine g_aload_n K1 2 dX4_init_18 rfl ?_
  refine g_putF K1 q_clX4 5 (Nat.le_of_ble_eq_true rfl) lyp_90.1 fkX4_5.1 fkX4_5.2 fl_X4_19 rfl rfl rfl (fun _ => rfl) (fun _ => rfl) dX4_init_19 ?_
  show q_Gs w g 22 [(0, .ref 90), (1, .ref 12), (2, .ref 81)] [] (92, (zr 0 I 91), (zr 0 L 91), (up2 (up2 (up2 (zr none R 91) 90 2 (some 91)) 90 4 (some 12)) 90 5 (some 81)))
  exact g_vreturn K rfl dX4_init_22
def ci_X2_init_92 (I : Nat → Nat → Int32) : Nat → Nat → Int32 := (zr 0 (zr 0 I 93) 94)
def cl_X2_init_92 (L : Nat → Nat → Int64) : Nat → Nat → Int64 := (zr 0 (zr 0 L 93) 94)
def cr_X2_init_92 (R : Nat → Nat → Option Nat) : Nat → Nat → Option Nat := (up2 (up2 (up2 (up2 (zr none (up2 (zr none R 93) 92 2 (some 93)) 94) 92 3 (some 94)) 92 4 (some 12)) 92 5 (some 81)) 92 6 (some 25))
set_option maxRecDepth 20000 in
set_option maxHeartbeats 4000000 in
theorem cc_X2_init_92 (w : q_Wc) (l : Launch) (I : Nat → Nat → Int32) (L : Nat → Nat → Int64) (R : Nat → Nat → Option Nat) : q_Ct w l kX2_init [.ref 92, .ref 12, .ref 81, .ref 25] (93, I, L, R) none (95, ci_X2_init_92 I, cl_X2_init_92 L, cr_X2_init_92 R) := by
  refine q_ct (by decide) (Nat.le_of_ble_eq_true rfl) (Nat.le_of_ble_eq_true rfl) (fun g hg0 K => ?_)
  have K1 := K.1
  show q_Gs w g 0 [(0, .ref 92), (1, .ref 12), (2, .ref 81), (3, .ref 25)] [] (93, I, L, R)
  refine g_aload_n K1 0 dX2_init_0 rfl ?_
  refine g_objInit K1 ml_X2_3 oi_inst oi_code ⟨Nat.le_of_ble_eq_true rfl, Nat.le_of_ble_eq_true rfl⟩ (Nat.le_of_ble_eq_true rfl) dX2_init_1 ?_
  refine g_aload_n K1 0 dX2_init_4 rfl ?_
  refine g_sipush K1 637 dX2_init_5 rfl ?_
  refine g_newarr_int K1 (N := 637) (by decide) (by decide) (by decide) lyp_93.1 szp_93 (Nat.le_of_ble_eq_true rfl) (Nat.le_of_ble_eq_true rfl) ar_int dX2_init_8 ?_
  show q_Gs w g 10 [(0, .ref 92), (1, .ref 12), (2, .ref 81), (3, .ref 25)] [.ref 93, .ref 92] (94, (zr 0 I 93), (zr 0 L 93), (zr none R 93))
  refine g_putF K1 q_clX2 2 (Nat.le_of_ble_eq_true rfl) lyp_92.1 fkX2_2.1 fkX2_2.2 fl_X2_9 rfl rfl rfl (fun _ => rfl) (fun _ => rfl) dX2_init_10 ?_
  show q_Gs w g 13 [(0, .ref 92), (1, .ref 12), (2, .ref 81), (3, .ref 25)] [] (94, (zr 0 I 93), (zr 0 L 93), (up2 (zr none R 93) 92 2 (some 93)))
  refine g_aload_n K1 0 dX2_init_13 rfl ?_
  refine g_bipush K1 7 dX2_init_14 rfl ?_
  refine g_newarr_int K1 (N := 7) (by decide) (by decide) (by decide) lyp_94.1 szp_94 (Nat.le_of_ble_eq_true rfl) (Nat.le_of_ble_eq_true rfl) ar_int dX2_init_16 ?_
  show q_Gs w g 18 [(0, .ref 92), (1, .ref 12), (2, .ref 81), (3, .ref 25)] [.ref 94, .ref 92] (95, (zr 0 (zr 0 I 93) 94), (zr 0 (zr 0 L 93) 94), (zr none (up2 (zr none R 93) 92 2 (some 93)) 94))
  refine g_putF K1 q_clX2 3 (Nat.le_of_ble_eq_true rfl) lyp_92.1 fkX2_3.1 fkX2_3.2 fl_X2_15 rfl rfl rfl (fun _ => rfl) (fun _ => rfl) dX2_init_18 ?_
  show q_Gs w g 21 [(0, .ref 92), (1, .ref 12), (2, .ref 81), (3, .ref 25)] [] (95, (zr 0 (zr 0 I 93) 94), (zr 0 (zr 0 L 93) 94), (up2 (zr none (up2 (zr none R 93) 92 2 (some 93)) 94) 92 3 (some 94)))
  refine g_aload_n K1 0 dX2_init_21 rfl ?_
  refine g_aload_n K1 1 dX2_init_22 rfl ?_
  refine g_putF K1 q_clX2 4 (Nat.le_of_ble_eq_true rfl) lyp_92.1 fkX2_4.1 fkX2_4.2 fl_X2_18 rfl rfl rfl (fun _ => rfl) (fun _ => rfl) dX2_init_23 ?_
  show q_Gs w g 26 [(0, .ref 92), (1, .ref 12), (2, .ref 81), (3, .ref 25)] [] (95, (zr 0 (zr 0 I 93) 94), (zr 0 (zr 0 L 93) 94), (up2 (up2 (zr none (up2 (zr none R 93) 92 2 (some 93)) 94) 92 3 (some 94)) 92 4 (some 12)))
  refine g_aload_n K1 0 dX2_init_26 rfl ?_
  refine g_aload_n K1 2 dX2_init_27 rfl ?_
  refine g_putF K1 q_clX2 5 (Nat.le_of_ble_eq_true rfl) lyp_92.1 fkX2_5.1 fkX2_5.2 fl_X2_22 rfl rfl rfl (fun _ => rfl) (fun _ => rfl) dX2_init_28 ?_
  show q_Gs w g 31 [(0, .ref 92), (1, .ref 12), (2, .ref 81), (3, .ref 25)] [] (95, (zr 0 (zr 0 I 93) 94), (zr 0 (zr 0 L 93) 94), (up2 (up2 (up2 (zr none (up2 (zr none R 93) 92 2 (some 93)) 94) 92 3 (some 94)) 92 4 (some 12)) 92 5 (some 81)))
  refine g_aload_n K1 0 dX2_init_31 rfl ?_
  refine g_aload_n K1 3 dX2_init_32 rfl ?_
  refine g_putF K1 q_clX2 6 (Nat.le_of_ble_eq_true rfl) lyp_92.1 fkX2_6.1 fkX2_6.2 fl_X2_26 rfl rfl rfl (fun _ => rfl) (fun _ => rfl) dX2_init_33 ?_
  show q_Gs w g 36 [(0, .ref 92), (1, .ref 12), (2, .ref 81), (3, .ref 25)] [] (95, (zr 0 (zr 0 I 93) 94), (zr 0 (zr 0 L 93) 94), (up2 (up2 (up2 (up2 (zr none (up2 (zr none R 93) 92 2 (some 93)) 94) 92 3 (some 94)) 92 4 (some 12)) 92 5 (some 81)) 92 6 (some 25)))
  exact g_vreturn K rfl dX2_init_36
def ci_X1_init_95 (I : Nat → Nat → Int32) : Nat → Nat → Int32 := I
def cl_X1_init_95 (L : Nat → Nat → Int64) : Nat → Nat → Int64 := L
def cr_X1_init_95 (R : Nat → Nat → Option Nat) : Nat → Nat → Option Nat := (up2 (up2 R 95 0 (some 12)) 95 1 (some 81))
set_option maxRecDepth 20000 in
set_option maxHeartbeats 4000000 in
theorem cc_X1_init_95 (w : q_Wc) (l : Launch) (I : Nat → Nat → Int32) (L : Nat → Nat → Int64) (R : Nat → Nat → Option Nat) : q_Ct w l kX1_init [.ref 95, .ref 12, .ref 81] (96, I, L, R) none (96, ci_X1_init_95 I, cl_X1_init_95 L, cr_X1_init_95 R) := by
  refine q_ct (by decide) (Nat.le_of_ble_eq_true rfl) (Nat.le_of_ble_eq_true rfl) (fun g hg0 K => ?_)
  have K1 := K.1
  show q_Gs w g 0 [(0, .ref 95), (1, .ref 12), (2, .ref 81)] [] (96, I, L, R)
  refine g_aload_n K1 0 dX1_init_0 rfl ?_
  refine g_objInit K1 ml_X1_3 oi_inst oi_code ⟨Nat.le_of_ble_eq_true rfl, Nat.le_of_ble_eq_true rfl⟩ (Nat.le_of_ble_eq_true rfl) dX1_init_1 ?_
  refine g_aload_n K1 0 dX1_init_4 rfl ?_
  refine g_aload_n K1 1 dX1_init_5 rfl ?_
  refine g_putF K1 q_clX1 0 (Nat.le_of_ble_eq_true rfl) lyp_95.1 fkX1_0.1 fkX1_0.2 fl_X1_9 rfl rfl rfl (fun _ => rfl) (fun _ => rfl) dX1_init_6 ?_
  show q_Gs w g 9 [(0, .ref 95), (1, .ref 12), (2, .ref 81)] [] (96, I, L, (up2 R 95 0 (some 12)))
  refine g_aload_n K1 0 dX1_init_9 rfl ?_
  refine g_aload_n K1 2 dX1_init_10 rfl ?_
  refine g_putF K1 q_clX1 1 (Nat.le_of_ble_eq_true rfl) lyp_95.1 fkX1_1.1 fkX1_1.2 fl_X1_15 rfl rfl rfl (fun _ => rfl) (fun _ => rfl) dX1_init_11 ?_
  show q_Gs w g 14 [(0, .ref 95), (1, .ref 12), (2, .ref 81)] [] (96, I, L, (up2 (up2 R 95 0 (some 12)) 95 1 (some 81)))
  exact g_vreturn K rfl dX1_init_14
def ci_X11_init_0 (I : Nat → Nat → Int32) : Nat → Nat → Int32 := (up2 (ci_X1_init_95 (zr 0 (ci_X2_init_92 (zr 0 (ci_X4_init_90 (zr 0 (ci_X8_init_88 (zr 0 (ci_X10_init_87 (zr 0 (ci_X3_init_81 (zr 0 (ci_X3_init_75 (zr 0 (ci_X0_init_71 (zr 0 (ci_X5_init_62 (zr 0 (ci_X0_init_58 (zr 0 (ci_X5_init_49 (zr 0 (ci_X0_init_45 (zr 0 (ci_X5_init_36 (zr 0 (zr 0 (zr 0 (zr 0 (ci_X9_init_25 (zr 0 (ci_X0_init_21 (zr 0 (ci_X5_init_12 (zr 0 (ci_X6_init_2 (zr 0 (up2 (up2 (up2 (zr 0 I 1) 0 1 0) 0 2 0) 0 3 (-1)) 2)) 12)) 21)) 25)) 33) 34) 35) 36)) 45)) 49)) 58)) 62)) 71)) 75)) 81)) 87)) 88)) 90)) 92)) 95)) 0 18 0)
def cl_X11_init_0 (L : Nat → Nat → Int64) : Nat → Nat → Int64 := (cl_X1_init_95 (zr 0 (cl_X2_init_92 (zr 0 (cl_X4_init_90 (zr 0 (cl_X8_init_88 (zr 0 (cl_X10_init_87 (zr 0 (cl_X3_init_81 (zr 0 (cl_X3_init_75 (zr 0 (cl_X0_init_71 (zr 0 (cl_X5_init_62 (zr 0 (cl_X0_init_58 (zr 0 (cl_X5_init_49 (zr 0 (cl_X0_init_45 (zr 0 (cl_X5_init_36 (zr 0 (zr 0 (zr 0 (zr 0 (cl_X9_init_25 (zr 0 (cl_X0_init_21 (zr 0 (cl_X5_init_12 (zr 0 (cl_X6_init_2 (zr 0 (zr 0 L 1) 2)) 12)) 21)) 25)) 33) 34) 35) 36)) 45)) 49)) 58)) 62)) 71)) 75)) 81)) 87)) 88)) 90)) 92)) 95))
def cr_X11_init_0 (R : Nat → Nat → Option Nat) : Nat → Nat → Option Nat := (up2 (cr_X1_init_95 (zr none (up2 (cr_X2_init_92 (zr none (up2 (cr_X4_init_90 (zr none (up2 (cr_X8_init_88 (zr none (up2 (cr_X10_init_87 (zr none (up2 (cr_X3_init_81 (zr none (up2 (cr_X3_init_75 (zr none (up2 (cr_X0_init_71 (zr none (up2 (cr_X5_init_62 (zr none (up2 (cr_X0_init_58 (zr none (up2 (cr_X5_init_49 (zr none (up2 (cr_X0_init_45 (zr none (up2 (cr_X5_init_36 (zr none (up2 (zr none (up2 (zr none (up2 (zr none (up2 (cr_X9_init_25 (zr none (up2 (cr_X0_init_21 (zr none (up2 (cr_X5_init_12 (zr none (up2 (cr_X6_init_2 (zr none (up2 (zr none R 1) 0 0 (some 1)) 2)) 0 4 (some 2)) 12)) 0 5 (some 12)) 21)) 0 6 (some 21)) 25)) 0 7 (some 25)) 33) 0 8 (some 33)) 34) 0 9 (some 34)) 35) 0 10 (some 35)) 36)) 33 0 (some 36)) 45)) 34 0 (some 45)) 49)) 33 1 (some 49)) 58)) 34 1 (some 58)) 62)) 33 2 (some 62)) 71)) 34 2 (some 71)) 75)) 0 11 (some 75)) 81)) 0 12 (some 81)) 87)) 0 13 (some 87)) 88)) 0 14 (some 88)) 90)) 0 15 (some 90)) 92)) 0 16 (some 92)) 95)) 0 17 (some 95))
set_option maxRecDepth 20000 in
set_option maxHeartbeats 4000000 in
theorem cc_X11_init_0 (w : q_Wc) (l : Launch) (I : Nat → Nat → Int32) (L : Nat → Nat → Int64) (R : Nat → Nat → Option Nat) : q_Ct w l kX11_init [.ref 0] (1, I, L, R) none (96, ci_X11_init_0 I, cl_X11_init_0 L, cr_X11_init_0 R) := by
  refine q_ct (by decide) (Nat.le_of_ble_eq_true rfl) (Nat.le_of_ble_eq_true rfl) (fun g hg0 K => ?_)
  have K1 := K.1
  show q_Gs w g 0 [(0, .ref 0)] [] (1, I, L, R)
  refine g_aload_n K1 0 dX11_init_0 rfl ?_
  refine g_objInit K1 ml_X11_3 oi_inst oi_code ⟨Nat.le_of_ble_eq_true rfl, Nat.le_of_ble_eq_true rfl⟩ (Nat.le_of_ble_eq_true rfl) dX11_init_1 ?_
  refine g_aload_n K1 0 dX11_init_4 rfl ?_
  refine g_sipush K1 600 dX11_init_5 rfl ?_
  refine g_newarr_byte K1 (N := 600) (by decide) (by decide) (by decide) lyp_1.1 szp_1 (Nat.le_of_ble_eq_true rfl) (Nat.le_of_ble_eq_true rfl) ar_byte dX11_init_8 ?_
  show q_Gs w g 10 [(0, .ref 0)] [.ref 1, .ref 0] (2, (zr 0 I 1), (zr 0 L 1), (zr none R 1))
  refine g_putF K1 q_clX11 0 (Nat.le_of_ble_eq_true rfl) lyp_0.1 fkX11_0.1 fkX11_0.2 fl_X11_9 rfl rfl rfl (fun _ => rfl) (fun _ => rfl) dX11_init_10 ?_
  show q_Gs w g 13 [(0, .ref 0)] [] (2, (zr 0 I 1), (zr 0 L 1), (up2 (zr none R 1) 0 0 (some 1)))
  refine g_aload_n K1 0 dX11_init_13 rfl ?_
  refine g_iconst K1 0 dX11_init_14 rfl ?_
  refine g_putI K1 q_clX11 1 (Nat.le_of_ble_eq_true rfl) lyp_0.1 fkX11_1.1 fkX11_1.2 fl_X11_13 rfl rfl rfl dX11_init_15 ?_
  show q_Gs w g 18 [(0, .ref 0)] [] (2, (up2 (zr 0 I 1) 0 1 0), (zr 0 L 1), (up2 (zr none R 1) 0 0 (some 1)))
  refine g_aload_n K1 0 dX11_init_18 rfl ?_
  refine g_iconst K1 0 dX11_init_19 rfl ?_
  refine g_putI K1 q_clX11 2 (Nat.le_of_ble_eq_true rfl) lyp_0.1 fkX11_2.1 fkX11_2.2 fl_X11_17 rfl rfl rfl dX11_init_20 ?_
  show q_Gs w g 23 [(0, .ref 0)] [] (2, (up2 (up2 (zr 0 I 1) 0 1 0) 0 2 0), (zr 0 L 1), (up2 (zr none R 1) 0 0 (some 1)))
  refine g_aload_n K1 0 dX11_init_23 rfl ?_
  refine g_iconst K1 (-1) dX11_init_24 rfl ?_
  refine g_putI K1 q_clX11 3 (Nat.le_of_ble_eq_true rfl) lyp_0.1 fkX11_3.1 fkX11_3.2 fl_X11_20 rfl rfl rfl dX11_init_25 ?_
  show q_Gs w g 28 [(0, .ref 0)] [] (2, (up2 (up2 (up2 (zr 0 I 1) 0 1 0) 0 2 0) 0 3 (-1)), (zr 0 L 1), (up2 (zr none R 1) 0 0 (some 1)))
  refine g_aload_n K1 0 dX11_init_28 rfl ?_
  refine g_new K1 q_clX6 df_X6 lyp_2.1 szp_2 (Nat.le_of_ble_eq_true rfl) (Nat.le_of_ble_eq_true rfl) kl_X11_23 in_X6 it_X6 dX11_init_29 ?_
  show q_Gs w g 32 [(0, .ref 0)] [.ref 2, .ref 0] (3, (zr 0 (up2 (up2 (up2 (zr 0 I 1) 0 1 0) 0 2 0) 0 3 (-1)) 2), (zr 0 (zr 0 L 1) 2), (zr none (up2 (zr none R 1) 0 0 (some 1)) 2))
  refine g_dup K1 dX11_init_32 rfl ?_
  refine g_aload_n K1 0 dX11_init_33 rfl ?_
  refine g_getO K1 q_clX11 0 1 (Nat.le_of_ble_eq_true rfl) lyp_0.1 fkX11_0.1 fkX11_0.2 rfl fl_X11_9 dX11_init_34 ?_
  refine g_callI K1 (st := [.ref 2, .ref 0]) [.ref 1] (cc_X6_init_2 w (gl g) (zr 0 (up2 (up2 (up2 (zr 0 I 1) 0 1 0) 0 2 0) 0 3 (-1)) 2) (zr 0 (zr 0 L 1) 2) (zr none (up2 (zr none R 1) 0 0 (some 1)) 2)) (Nat.le_of_ble_eq_true rfl) ok_X6_init ml_X11_25 (Nat.le_of_ble_eq_true rfl) (Nat.le_of_ble_eq_true rfl) (Nat.le_of_ble_eq_true rfl) dX11_init_37 ?_
  show q_Gs w g 40 [(0, .ref 0)] [.ref 2, .ref 0] (12, (ci_X6_init_2 (zr 0 (up2 (up2 (up2 (zr 0 I 1) 0 1 0) 0 2 0) 0 3 (-1)) 2)), (cl_X6_init_2 (zr 0 (zr 0 L 1) 2)), (cr_X6_init_2 (zr none (up2 (zr none R 1) 0 0 (some 1)) 2)))
  refine g_putF K1 q_clX11 4 (Nat.le_of_ble_eq_true rfl) lyp_0.1 fkX11_4.1 fkX11_4.2 fl_X11_28 rfl rfl rfl (fun _ => rfl) (fun _ => rfl) dX11_init_40 ?_
  show q_Gs w g 43 [(0, .ref 0)] [] (12, (ci_X6_init_2 (zr 0 (up2 (up2 (up2 (zr 0 I 1) 0 1 0) 0 2 0) 0 3 (-1)) 2)), (cl_X6_init_2 (zr 0 (zr 0 L 1) 2)), (up2 (cr_X6_init_2 (zr none (up2 (zr none R 1) 0 0 (some 1)) 2)) 0 4 (some 2)))
  refine g_aload_n K1 0 dX11_init_43 rfl ?_
  refine g_new K1 q_clX5 df_X5 lyp_12.1 szp_12 (Nat.le_of_ble_eq_true rfl) (Nat.le_of_ble_eq_true rfl) kl_X11_32 in_X5 it_X5 dX11_init_44 ?_
  show q_Gs w g 47 [(0, .ref 0)] [.ref 12, .ref 0] (13, (zr 0 (ci_X6_init_2 (zr 0 (up2 (up2 (up2 (zr 0 I 1) 0 1 0) 0 2 0) 0 3 (-1)) 2)) 12), (zr 0 (cl_X6_init_2 (zr 0 (zr 0 L 1) 2)) 12), (zr none (up2 (cr_X6_init_2 (zr none (up2 (zr none R 1) 0 0 (some 1)) 2)) 0 4 (some 2)) 12))
  refine g_dup K1 dX11_init_47 rfl ?_
  refine g_callIN K1 (st := [.ref 12, .ref 0]) [] (cc_X5_init_12 w (gl g) (zr 0 (ci_X6_init_2 (zr 0 (up2 (up2 (up2 (zr 0 I 1) 0 1 0) 0 2 0) 0 3 (-1)) 2)) 12) (zr 0 (cl_X6_init_2 (zr 0 (zr 0 L 1) 2)) 12) (zr none (up2 (cr_X6_init_2 (zr none (up2 (zr none R 1) 0 0 (some 1)) 2)) 0 4 (some 2)) 12)) (Nat.le_of_ble_eq_true rfl) ok_X5_init (K1.2.2.2.2.2.1.2.2.2.2.2.1) (Nat.le_of_ble_eq_true rfl) (Nat.le_of_ble_eq_true rfl) (Nat.le_of_ble_eq_true rfl) dX11_init_48 ?_
  show q_Gs w g 51 [(0, .ref 0)] [.ref 12, .ref 0] (21, (ci_X5_init_12 (zr 0 (ci_X6_init_2 (zr 0 (up2 (up2 (up2 (zr 0 I 1) 0 1 0) 0 2 0) 0 3 (-1)) 2)) 12)), (cl_X5_init_12 (zr 0 (cl_X6_init_2 (zr 0 (zr 0 L 1) 2)) 12)), (cr_X5_init_12 (zr none (up2 (cr_X6_init_2 (zr none (up2 (zr none R 1) 0 0 (some 1)) 2)) 0 4 (some 2)) 12)))
  refine g_putF K1 q_clX11 5 (Nat.le_of_ble_eq_true rfl) lyp_0.1 fkX11_5.1 fkX11_5.2 fl_X11_35 rfl rfl rfl (fun _ => rfl) (fun _ => rfl) dX11_init_51 ?_
  show q_Gs w g 54 [(0, .ref 0)] [] (21, (ci_X5_init_12 (zr 0 (ci_X6_init_2 (zr 0 (up2 (up2 (up2 (zr 0 I 1) 0 1 0) 0 2 0) 0 3 (-1)) 2)) 12)), (cl_X5_init_12 (zr 0 (cl_X6_init_2 (zr 0 (zr 0 L 1) 2)) 12)), (up2 (cr_X5_init_12 (zr none (up2 (cr_X6_init_2 (zr none (up2 (zr none R 1) 0 0 (some 1)) 2)) 0 4 (some 2)) 12)) 0 5 (some 12)))
  refine g_aload_n K1 0 dX11_init_54 rfl ?_
  refine g_new K1 q_clX0 df_X0 lyp_21.1 szp_21 (Nat.le_of_ble_eq_true rfl) (Nat.le_of_ble_eq_true rfl) kl_X11_39 in_X0 it_X0 dX11_init_55 ?_
  show q_Gs w g 58 [(0, .ref 0)] [.ref 21, .ref 0] (22, (zr 0 (ci_X5_init_12 (zr 0 (ci_X6_init_2 (zr 0 (up2 (up2 (up2 (zr 0 I 1) 0 1 0) 0 2 0) 0 3 (-1)) 2)) 12)) 21), (zr 0 (cl_X5_init_12 (zr 0 (cl_X6_init_2 (zr 0 (zr 0 L 1) 2)) 12)) 21), (zr none (up2 (cr_X5_init_12 (zr none (up2 (cr_X6_init_2 (zr none (up2 (zr none R 1) 0 0 (some 1)) 2)) 0 4 (some 2)) 12)) 0 5 (some 12)) 21))
  refine g_dup K1 dX11_init_58 rfl ?_
  refine g_callIN K1 (st := [.ref 21, .ref 0]) [] (cc_X0_init_21 w (gl g) (zr 0 (ci_X5_init_12 (zr 0 (ci_X6_init_2 (zr 0 (up2 (up2 (up2 (zr 0 I 1) 0 1 0) 0 2 0) 0 3 (-1)) 2)) 12)) 21) (zr 0 (cl_X5_init_12 (zr 0 (cl_X6_init_2 (zr 0 (zr 0 L 1) 2)) 12)) 21) (zr none (up2 (cr_X5_init_12 (zr none (up2 (cr_X6_init_2 (zr none (up2 (zr none R 1) 0 0 (some 1)) 2)) 0 4 (some 2)) 12)) 0 5 (some 12)) 21)) (Nat.le_of_ble_eq_true rfl) ok_X0_init (K1.2.2.2.2.2.1.2.2.2.2.2.2.1) (Nat.le_of_ble_eq_true rfl) (Nat.le_of_ble_eq_true rfl) (Nat.le_of_ble_eq_true rfl) dX11_init_59 ?_
  show q_Gs w g 62 [(0, .ref 0)] [.ref 21, .ref 0] (25, (ci_X0_init_21 (zr 0 (ci_X5_init_12 (zr 0 (ci_X6_init_2 (zr 0 (up2 (up2 (up2 (zr 0 I 1) 0 1 0) 0 2 0) 0 3 (-1)) 2)) 12)) 21)), (cl_X0_init_21 (zr 0 (cl_X5_init_12 (zr 0 (cl_X6_init_2 (zr 0 (zr 0 L 1) 2)) 12)) 21)), (cr_X0_init_21 (zr none (up2 (cr_X5_init_12 (zr none (up2 (cr_X6_init_2 (zr none (up2 (zr none R 1) 0 0 (some 1)) 2)) 0 4 (some 2)) 12)) 0 5 (some 12)) 21)))
  refine g_putF K1 q_clX11 6 (Nat.le_of_ble_eq_true rfl) lyp_0.1 fkX11_6.1 fkX11_6.2 fl_X11_42 rfl rfl rfl (fun _ => rfl) (fun _ => rfl) dX11_init_62 ?_
  show q_Gs w g 65 [(0, .ref 0)] [] (25, (ci_X0_init_21 (zr 0 (ci_X5_init_12 (zr 0 (ci_X6_init_2 (zr 0 (up2 (up2 (up2 (zr 0 I 1) 0 1 0) 0 2 0) 0 3 (-1)) 2)) 12)) 21)), (cl_X0_init_21 (zr 0 (cl_X5_init_12 (zr 0 (cl_X6_init_2 (zr 0 (zr 0 L 1) 2)) 12)) 21)), (up2 (cr_X0_init_21 (zr none (up2 (cr_X5_init_12 (zr none (up2 (cr_X6_init_2 (zr none (up2 (zr none R 1) 0 0 (some 1)) 2)) 0 4 (some 2)) 12)) 0 5 (some 12)) 21)) 0 6 (some 21)))
  refine g_aload_n K1 0 dX11_init_65 rfl ?_
  refine g_new K1 q_clX9 df_X9 lyp_25.1 szp_25 (Nat.le_of_ble_eq_true rfl) (Nat.le_of_ble_eq_true rfl) kl_X11_46 in_X9 it_X9 dX11_init_66 ?_
  show q_Gs w g 69 [(0, .ref 0)] [.ref 25, .ref 0] (26, (zr 0 (ci_X0_init_21 (zr 0 (ci_X5_init_12 (zr 0 (ci_X6_init_2 (zr 0 (up2 (up2 (up2 (zr 0 I 1) 0 1 0) 0 2 0) 0 3 (-1)) 2)) 12)) 21)) 25), (zr 0 (cl_X0_init_21 (zr 0 (cl_X5_init_12 (zr 0 (cl_X6_init_2 (zr 0 (zr 0 L 1) 2)) 12)) 21)) 25), (zr none (up2 (cr_X0_init_21 (zr none (up2 (cr_X5_init_12 (zr none (up2 (cr_X6_init_2 (zr none (up2 (zr none R 1) 0 0 (some 1)) 2)) 0 4 (some 2)) 12)) 0 5 (some 12)) 21)) 0 6 (some 21)) 25))
  refine g_dup K1 dX11_init_69 rfl ?_
  refine g_callI K1 (st := [.ref 25, .ref 0]) [] (cc_X9_init_25 w (gl g) (zr 0 (ci_X0_init_21 (zr 0 (ci_X5_init_12 (zr 0 (ci_X6_init_2 (zr 0 (up2 (up2 (up2 (zr 0 I 1) 0 1 0) 0 2 0) 0 3 (-1)) 2)) 12)) 21)) 25) (zr 0 (cl_X0_init_21 (zr 0 (cl_X5_init_12 (zr 0 (cl_X6_init_2 (zr 0 (zr 0 L 1) 2)) 12)) 21)) 25) (zr none (up2 (cr_X0_init_21 (zr none (up2 (cr_X5_init_12 (zr none (up2 (cr_X6_init_2 (zr none (up2 (zr none R 1) 0 0 (some 1)) 2)) 0 4 (some 2)) 12)) 0 5 (some 12)) 21)) 0 6 (some 21)) 25)) (Nat.le_of_ble_eq_true rfl) ok_X9_init ml_X11_48 (Nat.le_of_ble_eq_true rfl) (Nat.le_of_ble_eq_true rfl) (Nat.le_of_ble_eq_true rfl) dX11_init_70 ?_
  show q_Gs w g 73 [(0, .ref 0)] [.ref 25, .ref 0] (33, (ci_X9_init_25 (zr 0 (ci_X0_init_21 (zr 0 (ci_X5_init_12 (zr 0 (ci_X6_init_2 (zr 0 (up2 (up2 (up2 (zr 0 I 1) 0 1 0) 0 2 0) 0 3 (-1)) 2)) 12)) 21)) 25)), (cl_X9_init_25 (zr 0 (cl_X0_init_21 (zr 0 (cl_X5_init_12 (zr 0 (cl_X6_init_2 (zr 0 (zr 0 L 1) 2)) 12)) 21)) 25)), (cr_X9_init_25 (zr none (up2 (cr_X0_init_21 (zr none (up2 (cr_X5_init_12 (zr none (up2 (cr_X6_init_2 (zr none (up2 (zr none R 1) 0 0 (some 1)) 2)) 0 4 (some 2)) 12)) 0 5 (some 12)) 21)) 0 6 (some 21)) 25)))
  refine g_putF K1 q_clX11 7 (Nat.le_of_ble_eq_true rfl) lyp_0.1 fkX11_7.1 fkX11_7.2 fl_X11_49 rfl rfl rfl (fun _ => rfl) (fun _ => rfl) dX11_init_73 ?_
  show q_Gs w g 76 [(0, .ref 0)] [] (33, (ci_X9_init_25 (zr 0 (ci_X0_init_21 (zr 0 (ci_X5_init_12 (zr 0 (ci_X6_init_2 (zr 0 (up2 (up2 (up2 (zr 0 I 1) 0 1 0) 0 2 0) 0 3 (-1)) 2)) 12)) 21)) 25)), (cl_X9_init_25 (zr 0 (cl_X0_init_21 (zr 0 (cl_X5_init_12 (zr 0 (cl_X6_init_2 (zr 0 (zr 0 L 1) 2)) 12)) 21)) 25)), (up2 (cr_X9_init_25 (zr none (up2 (cr_X0_init_21 (zr none (up2 (cr_X5_init_12 (zr none (up2 (cr_X6_init_2 (zr none (up2 (zr none R 1) 0 0 (some 1)) 2)) 0 4 (some 2)) 12)) 0 5 (some 12)) 21)) 0 6 (some 21)) 25)) 0 7 (some 25)))
  refine g_aload_n K1 0 dX11_init_76 rfl ?_
  refine g_iconst K1 3 dX11_init_77 rfl ?_
  refine g_anew_N K1 (N := 3) (by decide) (by decide) (by decide) lyp_33.1 szp_33 (Nat.le_of_ble_eq_true rfl) (Nat.le_of_ble_eq_true rfl) kl_X11_32 dX11_init_78 ?_
  show q_Gs w g 81 [(0, .ref 0)] [.ref 33, .ref 0] (34, (zr 0 (ci_X9_init_25 (zr 0 (ci_X0_init_21 (zr 0 (ci_X5_init_12 (zr 0 (ci_X6_init_2 (zr 0 (up2 (up2 (up2 (zr 0 I 1) 0 1 0) 0 2 0) 0 3 (-1)) 2)) 12)) 21)) 25)) 33), (zr 0 (cl_X9_init_25 (zr 0 (cl_X0_init_21 (zr 0 (cl_X5_init_12 (zr 0 (cl_X6_init_2 (zr 0 (zr 0 L 1) 2)) 12)) 21)) 25)) 33), (zr none (up2 (cr_X9_init_25 (zr none (up2 (cr_X0_init_21 (zr none (up2 (cr_X5_init_12 (zr none (up2 (cr_X6_init_2 (zr none (up2 (zr none R 1) 0 0 (some 1)) 2)) 0 4 (some 2)) 12)) 0 5 (some 12)) 21)) 0 6 (some 21)) 25)) 0 7 (some 25)) 33))
  refine g_putF K1 q_clX11 8 (Nat.le_of_ble_eq_true rfl) lyp_0.1 fkX11_8.1 fkX11_8.2 fl_X11_53 rfl rfl rfl (fun _ => rfl) (fun _ => rfl) dX11_init_81 ?_
  show q_Gs w g 84 [(0, .ref 0)] [] (34, (zr 0 (ci_X9_init_25 (zr 0 (ci_X0_init_21 (zr 0 (ci_X5_init_12 (zr 0 (ci_X6_init_2 (zr 0 (up2 (up2 (up2 (zr 0 I 1) 0 1 0) 0 2 0) 0 3 (-1)) 2)) 12)) 21)) 25)) 33), (zr 0 (cl_X9_init_25 (zr 0 (cl_X0_init_21 (zr 0 (cl_X5_init_12 (zr 0 (cl_X6_init_2 (zr 0 (zr 0 L 1) 2)) 12)) 21)) 25)) 33), (up2 (zr none (up2 (cr_X9_init_25 (zr none (up2 (cr_X0_init_21 (zr none (up2 (cr_X5_init_12 (zr none (up2 (cr_X6_init_2 (zr none (up2 (zr none R 1) 0 0 (some 1)) 2)) 0 4 (some 2)) 12)) 0 5 (some 12)) 21)) 0 6 (some 21)) 25)) 0 7 (some 25)) 33) 0 8 (some 33)))
  refine g_aload_n K1 0 dX11_init_84 rfl ?_
  refine g_iconst K1 3 dX11_init_85 rfl ?_
  refine g_anew_A K1 (N := 3) (by decide) (by decide) (by decide) lyp_34.1 szp_34 (Nat.le_of_ble_eq_true rfl) (Nat.le_of_ble_eq_true rfl) kl_X11_39 dX11_init_86 ?_
  show q_Gs w g 89 [(0, .ref 0)] [.ref 34, .ref 0] (35, (zr 0 (zr 0 (ci_X9_init_25 (zr 0 (ci_X0_init_21 (zr 0 (ci_X5_init_12 (zr 0 (ci_X6_init_2 (zr 0 (up2 (up2 (up2 (zr 0 I 1) 0 1 0) 0 2 0) 0 3 (-1)) 2)) 12)) 21)) 25)) 33) 34), (zr 0 (zr 0 (cl_X9_init_25 (zr 0 (cl_X0_init_21 (zr 0 (cl_X5_init_12 (zr 0 (cl_X6_init_2 (zr 0 (zr 0 L 1) 2)) 12)) 21)) 25)) 33) 34), (zr none (up2 (zr none (up2 (cr_X9_init_25 (zr none (up2 (cr_X0_init_21 (zr none (up2 (cr_X5_init_12 (zr none (up2 (cr_X6_init_2 (zr none (up2 (zr none R 1) 0 0 (some 1)) 2)) 0 4 (some 2)) 12)) 0 5 (some 12)) 21)) 0 6 (some 21)) 25)) 0 7 (some 25)) 33) 0 8 (some 33)) 34))
  refine g_putF K1 q_clX11 9 (Nat.le_of_ble_eq_true rfl) lyp_0.1 fkX11_9.1 fkX11_9.2 fl_X11_57 rfl rfl rfl (fun _ => rfl) (fun _ => rfl) dX11_init_89 ?_
  show q_Gs w g 92 [(0, .ref 0)] [] (35, (zr 0 (zr 0 (ci_X9_init_25 (zr 0 (ci_X0_init_21 (zr 0 (ci_X5_init_12 (zr 0 (ci_X6_init_2 (zr 0 (up2 (up2 (up2 (zr 0 I 1) 0 1 0) 0 2 0) 0 3 (-1)) 2)) 12)) 21)) 25)) 33) 34), (zr 0 (zr 0 (cl_X9_init_25 (zr 0 (cl_X0_init_21 (zr 0 (cl_X5_init_12 (zr 0 (cl_X6_init_2 (zr 0 (zr 0 L 1) 2)) 12)) 21)) 25)) 33) 34), (up2 (zr none (up2 (zr none (up2 (cr_X9_init_25 (zr none (up2 (cr_X0_init_21 (zr none (up2 (cr_X5_init_12 (zr none (up2 (cr_X6_init_2 (zr none (up2 (zr none R 1) 0 0 (some 1)) 2)) 0 4 (some 2)) 12)) 0 5 (some 12)) 21)) 0 6 (some 21)) 25)) 0 7 (some 25)) 33) 0 8 (some 33)) 34) 0 9 (some 34)))
  refine g_aload_n K1 0 dX11_init_92 rfl ?_
  refine g_iconst K1 3 dX11_init_93 rfl ?_
  refine g_newarr_boolean K1 (N := 3) (by decide) (by decide) (by decide) lyp_35.1 szp_35 (Nat.le_of_ble_eq_true rfl) (Nat.le_of_ble_eq_true rfl) ar_boolean dX11_init_94 ?_
  show q_Gs w g 96 [(0, .ref 0)] [.ref 35, .ref 0] (36, (zr 0 (zr 0 (zr 0 (ci_X9_init_25 (zr 0 (ci_X0_init_21 (zr 0 (ci_X5_init_12 (zr 0 (ci_X6_init_2 (zr 0 (up2 (up2 (up2 (zr 0 I 1) 0 1 0) 0 2 0) 0 3 (-1)) 2)) 12)) 21)) 25)) 33) 34) 35), (zr 0 (zr 0 (zr 0 (cl_X9_init_25 (zr 0 (cl_X0_init_21 (zr 0 (cl_X5_init_12 (zr 0 (cl_X6_init_2 (zr 0 (zr 0 L 1) 2)) 12)) 21)) 25)) 33) 34) 35), (zr none (up2 (zr none (up2 (zr none (up2 (cr_X9_init_25 (zr none (up2 (cr_X0_init_21 (zr none (up2 (cr_X5_init_12 (zr none (up2 (cr_X6_init_2 (zr none (up2 (zr none R 1) 0 0 (some 1)) 2)) 0 4 (some 2)) 12)) 0 5 (some 12)) 21)) 0 6 (some 21)) 25)) 0 7 (some 25)) 33) 0 8 (some 33)) 34) 0 9 (some 34)) 35))
  refine g_putF K1 q_clX11 10 (Nat.le_of_ble_eq_true rfl) lyp_0.1 fkX11_10.1 fkX11_10.2 fl_X11_61 rfl rfl rfl (fun _ => rfl) (fun _ => rfl) dX11_init_96 ?_
  show q_Gs w g 99 [(0, .ref 0)] [] (36, (zr 0 (zr 0 (zr 0 (ci_X9_init_25 (zr 0 (ci_X0_init_21 (zr 0 (ci_X5_init_12 (zr 0 (ci_X6_init_2 (zr 0 (up2 (up2 (up2 (zr 0 I 1) 0 1 0) 0 2 0) 0 3 (-1)) 2)) 12)) 21)) 25)) 33) 34) 35), (zr 0 (zr 0 (zr 0 (cl_X9_init_25 (zr 0 (cl_X0_init_21 (zr 0 (cl_X5_init_12 (zr 0 (cl_X6_init_2 (zr 0 (zr 0 L 1) 2)) 12)) 21)) 25)) 33) 34) 35), (up2 (zr none (up2 (zr none (up2 (zr none (up2 (cr_X9_init_25 (zr none (up2 (cr_X0_init_21 (zr none (up2 (cr_X5_init_12 (zr none (up2 (cr_X6_init_2 (zr none (up2 (zr none R 1) 0 0 (some 1)) 2)) 0 4 (some 2)) 12)) 0 5 (some 12)) 21)) 0 6 (some 21)) 25)) 0 7 (some 25)) 33) 0 8 (some 33)) 34) 0 9 (some 34)) 35) 0 10 (some 35)))
  refine g_iconst K1 0 dX11_init_99 rfl ?_
  refine g_istore_n K1 dX11_init_100 rfl (by decide) rfl ?_
  refine g_iload_n K1 0 dX11_init_101 rfl ?_
  refine g_iconst K1 3 dX11_init_102 rfl ?_
  refine g_icmp_ge K1 138 dX11_init_103 rfl (fun hc => absurd hc (by decide)) (fun _ => ?_)
  refine g_aload_n K1 1 dX11_init_106 rfl ?_
  refine g_getO K1 q_clX11 8 33 (Nat.le_of_ble_eq_true rfl) lyp_0.1 fkX11_8.1 fkX11_8.2 rfl fl_X11_53 dX11_init_107 ?_
  refine g_iload_n K1 0 dX11_init_110 rfl ?_
  refine g_new K1 q_clX5 df_X5 lyp_36.1 szp_36 (Nat.le_of_ble_eq_true rfl) (Nat.le_of_ble_eq_true rfl) kl_X11_32 in_X5 it_X5 dX11_init_111 ?_
  show q_Gs w g 114 [(1, .int 0), (0, .ref 0)] [.ref 36, .int 0, .ref 33] (37, (zr 0 (zr 0 (zr 0 (zr 0 (ci_X9_init_25 (zr 0 (ci_X0_init_21 (zr 0 (ci_X5_init_12 (zr 0 (ci_X6_init_2 (zr 0 (up2 (up2 (up2 (zr 0 I 1) 0 1 0) 0 2 0) 0 3 (-1)) 2)) 12)) 21)) 25)) 33) 34) 35) 36), (zr 0 (zr 0 (zr 0 (zr 0 (cl_X9_init_25 (zr 0 (cl_X0_init_21 (zr 0 (cl_X5_init_12 (zr 0 (cl_X6_init_2 (zr 0 (zr 0 L 1) 2)) 12)) 21)) 25)) 33) 34) 35) 36), (zr none (up2 (zr none (up2 (zr none (up2 (zr none (up2 (cr_X9_init_25 (zr none (up2 (cr_X0_init_21 (zr none (up2 (cr_X5_init_12 (zr none (up2 (cr_X6_init_2 (zr none (up2 (zr none R 1) 0 0 (some 1)) 2)) 0 4 (some 2)) 12)) 0 5 (some 12)) 21)) 0 6 (some 21)) 25)) 0 7 (some 25)) 33) 0 8 (some 33)) 34) 0 9 (some 34)) 35) 0 10 (some 35)) 36))
  refine g_dup K1 dX11_init_114 rfl ?_
  refine g_callIN K1 (st := [.ref 36, .int 0, .ref 33]) [] (cc_X5_init_36 w (gl g) (zr 0 (zr 0 (zr 0 (zr 0 (ci_X9_init_25 (zr 0 (ci_X0_init_21 (zr 0 (ci_X5_init_12 (zr 0 (ci_X6_init_2 (zr 0 (up2 (up2 (up2 (zr 0 I 1) 0 1 0) 0 2 0) 0 3 (-1)) 2)) 12)) 21)) 25)) 33) 34) 35) 36) (zr 0 (zr 0 (zr 0 (zr 0 (cl_X9_init_25 (zr 0 (cl_X0_init_21 (zr 0 (cl_X5_init_12 (zr 0 (cl_X6_init_2 (zr 0 (zr 0 L 1) 2)) 12)) 21)) 25)) 33) 34) 35) 36) (zr none (up2 (zr none (up2 (zr none (up2 (zr none (up2 (cr_X9_init_25 (zr none (up2 (cr_X0_init_21 (zr none (up2 (cr_X5_init_12 (zr none (up2 (cr_X6_init_2 (zr none (up2 (zr none R 1) 0 0 (some 1)) 2)) 0 4 (some 2)) 12)) 0 5 (some 12)) 21)) 0 6 (some 21)) 25)) 0 7 (some 25)) 33) 0 8 (some 33)) 34) 0 9 (some 34)) 35) 0 10 (some 35)) 36)) (Nat.le_of_ble_eq_true rfl) ok_X5_init (K1.2.2.2.2.2.1.2.2.2.2.2.1) (Nat.le_of_ble_eq_true rfl) (Nat.le_of_ble_eq_true rfl) (Nat.le_of_ble_eq_true rfl) dX11_init_115 ?_
  show q_Gs w g 118 [(1, .int 0), (0, .ref 0)] [.ref 36, .int 0, .ref 33] (45, (ci_X5_init_36 (zr 0 (zr 0 (zr 0 (zr 0 (ci_X9_init_25 (zr 0 (ci_X0_init_21 (zr 0 (ci_X5_init_12 (zr 0 (ci_X6_init_2 (zr 0 (up2 (up2 (up2 (zr 0 I 1) 0 1 0) 0 2 0) 0 3 (-1)) 2)) 12)) 21)) 25)) 33) 34) 35) 36)), (cl_X5_init_36 (zr 0 (zr 0 (zr 0 (zr 0 (cl_X9_init_25 (zr 0 (cl_X0_init_21 (zr 0 (cl_X5_init_12 (zr 0 (cl_X6_init_2 (zr 0 (zr 0 L 1) 2)) 12)) 21)) 25)) 33) 34) 35) 36)), (cr_X5_init_36 (zr none (up2 (zr none (up2 (zr none (up2 (zr none (up2 (cr_X9_init_25 (zr none (up2 (cr_X0_init_21 (zr none (up2 (cr_X5_init_12 (zr none (up2 (cr_X6_init_2 (zr none (up2 (zr none R 1) 0 0 (some 1)) 2)) 0 4 (some 2)) 12)) 0 5 (some 12)) 21)) 0 6 (some 21)) 25)) 0 7 (some 25)) 33) 0 8 (some 33)) 34) 0 9 (some 34)) 35) 0 10 (some 35)) 36)))
  refine g_aastore K1 q_clX5 (Nat.le_of_ble_eq_true rfl) lyp_33.1 (by decide) rfl (Nat.le_of_ble_eq_true rfl) lyp_36.1 (by unfold vp_in; decide) dX11_init_118 ?_
  show q_Gs w g 119 [(1, .int 0), (0, .ref 0)] [] (45, (ci_X5_init_36 (zr 0 (zr 0 (zr 0 (zr 0 (ci_X9_init_25 (zr 0 (ci_X0_init_21 (zr 0 (ci_X5_init_12 (zr 0 (ci_X6_init_2 (zr 0 (up2 (up2 (up2 (zr 0 I 1) 0 1 0) 0 2 0) 0 3 (-1)) 2)) 12)) 21)) 25)) 33) 34) 35) 36)), (cl_X5_init_36 (zr 0 (zr 0 (zr 0 (zr 0 (cl_X9_init_25 (zr 0 (cl_X0_init_21 (zr 0 (cl_X5_init_12 (zr 0 (cl_X6_init_2 (zr 0 (zr 0 L 1) 2)) 12)) 21)) 25)) 33) 34) 35) 36)), (up2 (cr_X5_init_36 (zr none (up2 (zr none (up2 (zr none (up2 (zr none (up2 (cr_X9_init_25 (zr none (up2 (cr_X0_init_21 (zr none (up2 (cr_X5_init_12 (zr none (up2 (cr_X6_init_2 (zr none (up2 (zr none R 1) 0 0 (some 1)) 2)) 0 4 (some 2)) 12)) 0 5 (some 12)) 21)) 0 6 (some 21)) 25)) 0 7 (some 25)) 33) 0 8 (some 33)) 34) 0 9 (some 34)) 35) 0 10 (some 35)) 36)) 33 0 (some 36)))
  refine g_aload_n K1 1 dX11_init_119 rfl ?_
  refine g_getO K1 q_clX11 9 34 (Nat.le_of_ble_eq_true rfl) lyp_0.1 fkX11_9.1 fkX11_9.2 rfl fl_X11_57 dX11_init_120 ?_
  refine g_iload_n K1 0 dX11_init_123 rfl ?_
  refine g_new K1 q_clX0 df_X0 lyp_45.1 szp_45 (Nat.le_of_ble_eq_true rfl) (Nat.le_of_ble_eq_true rfl) kl_X11_39 in_X0 it_X0 dX11_init_124 ?_
  show q_Gs w g 127 [(1, .int 0), (0, .ref 0)] [.ref 45, .int 0, .ref 34] (46, (zr 0 (ci_X5_init_36 (zr 0 (zr 0 (zr 0 (zr 0 (ci_X9_init_25 (zr 0 (ci_X0_init_21 (zr 0 (ci_X5_init_12 (zr 0 (ci_X6_init_2 (zr 0 (up2 (up2 (up2 (zr 0 I 1) 0 1 0) 0 2 0) 0 3 (-1)) 2)) 12)) 21)) 25)) 33) 34) 35) 36)) 45), (zr 0 (cl_X5_init_36 (zr 0 (zr 0 (zr 0 (zr 0 (cl_X9_init_25 (zr 0 (cl_X0_init_21 (zr 0 (cl_X5_init_12 (zr 0 (cl_X6_init_2 (zr 0 (zr 0 L 1) 2)) 12)) 21)) 25)) 33) 34) 35) 36)) 45), (zr none (up2 (cr_X5_init_36 (zr none (up2 (zr none (up2 (zr none (up2 (zr none (up2 (cr_X9_init_25 (zr none (up2 (cr_X0_init_21 (zr none (up2 (cr_X5_init_12 (zr none (up2 (cr_X6_init_2 (zr none (up2 (zr none R 1) 0 0 (some 1)) 2)) 0 4 (some 2)) 12)) 0 5 (some 12)) 21)) 0 6 (some 21)) 25)) 0 7 (some 25)) 33) 0 8 (some 33)) 34) 0 9 (some 34)) 35) 0 10 (some 35)) 36)) 33 0 (some 36)) 45))
  refine g_dup K1 dX11_init_127 rfl ?_
  refine g_callIN K1 (st := [.ref 45, .int 0, .ref 34]) [] (cc_X0_init_45 w (gl g) (zr 0 (ci_X5_init_36 (zr 0 (zr 0 (zr 0 (zr 0 (ci_X9_init_25 (zr 0 (ci_X0_init_21 (zr 0 (ci_X5_init_12 (zr 0 (ci_X6_init_2 (zr 0 (up2 (up2 (up2 (zr 0 I 1) 0 1 0) 0 2 0) 0 3 (-1)) 2)) 12)) 21)) 25)) 33) 34) 35) 36)) 45) (zr 0 (cl_X5_init_36 (zr 0 (zr 0 (zr 0 (zr 0 (cl_X9_init_25 (zr 0 (cl_X0_init_21 (zr 0 (cl_X5_init_12 (zr 0 (cl_X6_init_2 (zr 0 (zr 0 L 1) 2)) 12)) 21)) 25)) 33) 34) 35) 36)) 45) (zr none (up2 (cr_X5_init_36 (zr none (up2 (zr none (up2 (zr none (up2 (zr none (up2 (cr_X9_init_25 (zr none (up2 (cr_X0_init_21 (zr none (up2 (cr_X5_init_12 (zr none (up2 (cr_X6_init_2 (zr none (up2 (zr none R 1) 0 0 (some 1)) 2)) 0 4 (some 2)) 12)) 0 5 (some 12)) 21)) 0 6 (some 21)) 25)) 0 7 (some 25)) 33) 0 8 (some 33)) 34) 0 9 (some 34)) 35) 0 10 (some 35)) 36)) 33 0 (some 36)) 45)) (Nat.le_of_ble_eq_true rfl) ok_X0_init (K1.2.2.2.2.2.1.2.2.2.2.2.2.1) (Nat.le_of_ble_eq_true rfl) (Nat.le_of_ble_eq_true rfl) (Nat.le_of_ble_eq_true rfl) dX11_init_128 ?_
  show q_Gs w g 131 [(1, .int 0), (0, .ref 0)] [.ref 45, .int 0, .ref 34] (49, (ci_X0_init_45 (zr 0 (ci_X5_init_36 (zr 0 (zr 0 (zr 0 (zr 0 (ci_X9_init_25 (zr 0 (ci_X0_init_21 (zr 0 (ci_X5_init_12 (zr 0 (ci_X6_init_2 (zr 0 (up2 (up2 (up2 (zr 0 I 1) 0 1 0) 0 2 0) 0 3 (-1)) 2)) 12)) 21)) 25)) 33) 34) 35) 36)) 45)), (cl_X0_init_45 (zr 0 (cl_X5_init_36 (zr 0 (zr 0 (zr 0 (zr 0 (cl_X9_init_25 (zr 0 (cl_X0_init_21 (zr 0 (cl_X5_init_12 (zr 0 (cl_X6_init_2 (zr 0 (zr 0 L 1) 2)) 12)) 21)) 25)) 33) 34) 35) 36)) 45)), (cr_X0_init_45 (zr none (up2 (cr_X5_init_36 (zr none (up2 (zr none (up2 (zr none (up2 (zr none (up2 (cr_X9_init_25 (zr none (up2 (cr_X0_init_21 (zr none (up2 (cr_X5_init_12 (zr none (up2 (cr_X6_init_2 (zr none (up2 (zr none R 1) 0 0 (some 1)) 2)) 0 4 (some 2)) 12)) 0 5 (some 12)) 21)) 0 6 (some 21)) 25)) 0 7 (some 25)) 33) 0 8 (some 33)) 34) 0 9 (some 34)) 35) 0 10 (some 35)) 36)) 33 0 (some 36)) 45)))
  refine g_aastore K1 q_clX0 (Nat.le_of_ble_eq_true rfl) lyp_34.1 (by decide) rfl (Nat.le_of_ble_eq_true rfl) lyp_45.1 (by unfold vp_in; decide) dX11_init_131 ?_
  show q_Gs w g 132 [(1, .int 0), (0, .ref 0)] [] (49, (ci_X0_init_45 (zr 0 (ci_X5_init_36 (zr 0 (zr 0 (zr 0 (zr 0 (ci_X9_init_25 (zr 0 (ci_X0_init_21 (zr 0 (ci_X5_init_12 (zr 0 (ci_X6_init_2 (zr 0 (up2 (up2 (up2 (zr 0 I 1) 0 1 0) 0 2 0) 0 3 (-1)) 2)) 12)) 21)) 25)) 33) 34) 35) 36)) 45)), (cl_X0_init_45 (zr 0 (cl_X5_init_36 (zr 0 (zr 0 (zr 0 (zr 0 (cl_X9_init_25 (zr 0 (cl_X0_init_21 (zr 0 (cl_X5_init_12 (zr 0 (cl_X6_init_2 (zr 0 (zr 0 L 1) 2)) 12)) 21)) 25)) 33) 34) 35) 36)) 45)), (up2 (cr_X0_init_45 (zr none (up2 (cr_X5_init_36 (zr none (up2 (zr none (up2 (zr none (up2 (zr none (up2 (cr_X9_init_25 (zr none (up2 (cr_X0_init_21 (zr none (up2 (cr_X5_init_12 (zr none (up2 (cr_X6_init_2 (zr none (up2 (zr none R 1) 0 0 (some 1)) 2)) 0 4 (some 2)) 12)) 0 5 (some 12)) 21)) 0 6 (some 21)) 25)) 0 7 (some 25)) 33) 0 8 (some 33)) 34) 0 9 (some 34)) 35) 0 10 (some 35)) 36)) 33 0 (some 36)) 45)) 34 0 (some 45)))
  refine g_iinc K1 1 0 dX11_init_132 rfl (by decide) (by decide) rfl ?_
  refine g_goto K1 101 dX11_init_135 rfl ?_
  refine g_iload_n K1 0 dX11_init_101 rfl ?_
  refine g_iconst K1 3 dX11_init_102 rfl ?_
  refine g_icmp_ge K1 138 dX11_init_103 rfl (fun hc => absurd hc (by decide)) (fun _ => ?_)
  refine g_aload_n K1 1 dX11_init_106 rfl ?_
  refine g_getO K1 q_clX11 8 33 (Nat.le_of_ble_eq_true rfl) lyp_0.1 fkX11_8.1 fkX11_8.2 rfl fl_X11_53 dX11_init_107 ?_
  refine g_iload_n K1 0 dX11_init_110 rfl ?_
  refine g_new K1 q_clX5 df_X5 lyp_49.1 szp_49 (Nat.le_of_ble_eq_true rfl) (Nat.le_of_ble_eq_true rfl) kl_X11_32 in_X5 it_X5 dX11_init_111 ?_
  show q_Gs w g 114 [(1, .int 1), (0, .ref 0)] [.ref 49, .int 1, .ref 33] (50, (zr 0 (ci_X0_init_45 (zr 0 (ci_X5_init_36 (zr 0 (zr 0 (zr 0 (zr 0 (ci_X9_init_25 (zr 0 (ci_X0_init_21 (zr 0 (ci_X5_init_12 (zr 0 (ci_X6_init_2 (zr 0 (up2 (up2 (up2 (zr 0 I 1) 0 1 0) 0 2 0) 0 3 (-1)) 2)) 12)) 21)) 25)) 33) 34) 35) 36)) 45)) 49), (zr 0 (cl_X0_init_45 (zr 0 (cl_X5_init_36 (zr 0 (zr 0 (zr 0 (zr 0 (cl_X9_init_25 (zr 0 (cl_X0_init_21 (zr 0 (cl_X5_init_12 (zr 0 (cl_X6_init_2 (zr 0 (zr 0 L 1) 2)) 12)) 21)) 25)) 33) 34) 35) 36)) 45)) 49), (zr none (up2 (cr_X0_init_45 (zr none (up2 (cr_X5_init_36 (zr none (up2 (zr none (up2 (zr none (up2 (zr none (up2 (cr_X9_init_25 (zr none (up2 (cr_X0_init_21 (zr none (up2 (cr_X5_init_12 (zr none (up2 (cr_X6_init_2 (zr none (up2 (zr none R 1) 0 0 (some 1)) 2)) 0 4 (some 2)) 12)) 0 5 (some 12)) 21)) 0 6 (some 21)) 25)) 0 7 (some 25)) 33) 0 8 (some 33)) 34) 0 9 (some 34)) 35) 0 10 (some 35)) 36)) 33 0 (some 36)) 45)) 34 0 (some 45)) 49))
  refine g_dup K1 dX11_init_114 rfl ?_
  refine g_callIN K1 (st := [.ref 49, .int 1, .ref 33]) [] (cc_X5_init_49 w (gl g) (zr 0 (ci_X0_init_45 (zr 0 (ci_X5_init_36 (zr 0 (zr 0 (zr 0 (zr 0 (ci_X9_init_25 (zr 0 (ci_X0_init_21 (zr 0 (ci_X5_init_12 (zr 0 (ci_X6_init_2 (zr 0 (up2 (up2 (up2 (zr 0 I 1) 0 1 0) 0 2 0) 0 3 (-1)) 2)) 12)) 21)) 25)) 33) 34) 35) 36)) 45)) 49) (zr 0 (cl_X0_init_45 (zr 0 (cl_X5_init_36 (zr 0 (zr 0 (zr 0 (zr 0 (cl_X9_init_25 (zr 0 (cl_X0_init_21 (zr 0 (cl_X5_init_12 (zr 0 (cl_X6_init_2 (zr 0 (zr 0 L 1) 2)) 12)) 21)) 25)) 33) 34) 35) 36)) 45)) 49) (zr none (up2 (cr_X0_init_45 (zr none (up2 (cr_X5_init_36 (zr none (up2 (zr none (up2 (zr none (up2 (zr none (up2 (cr_X9_init_25 (zr none (up2 (cr_X0_init_21 (zr none (up2 (cr_X5_init_12 (zr none (up2 (cr_X6_init_2 (zr none (up2 (zr none R 1) 0 0 (some 1)) 2)) 0 4 (some 2)) 12)) 0 5 (some 12)) 21)) 0 6 (some 21)) 25)) 0 7 (some 25)) 33) 0 8 (some 33)) 34) 0 9 (some 34)) 35) 0 10 (some 35)) 36)) 33 0 (some 36)) 45)) 34 0 (some 45)) 49)) (Nat.le_of_ble_eq_true rfl) ok_X5_init (K1.2.2.2.2.2.1.2.2.2.2.2.1) (Nat.le_of_ble_eq_true rfl) (Nat.le_of_ble_eq_true rfl) (Nat.le_of_ble_eq_true rfl) dX11_init_115 ?_
  show q_Gs w g 118 [(1, .int 1), (0, .ref 0)] [.ref 49, .int 1, .ref 33] (58, (ci_X5_init_49 (zr 0 (ci_X0_init_45 (zr 0 (ci_X5_init_36 (zr 0 (zr 0 (zr 0 (zr 0 (ci_X9_init_25 (zr 0 (ci_X0_init_21 (zr 0 (ci_X5_init_12 (zr 0 (ci_X6_init_2 (zr 0 (up2 (up2 (up2 (zr 0 I 1) 0 1 0) 0 2 0) 0 3 (-1)) 2)) 12)) 21)) 25)) 33) 34) 35) 36)) 45)) 49)), (cl_X5_init_49 (zr 0 (cl_X0_init_45 (zr 0 (cl_X5_init_36 (zr 0 (zr 0 (zr 0 (zr 0 (cl_X9_init_25 (zr 0 (cl_X0_init_21 (zr 0 (cl_X5_init_12 (zr 0 (cl_X6_init_2 (zr 0 (zr 0 L 1) 2)) 12)) 21)) 25)) 33) 34) 35) 36)) 45)) 49)), (cr_X5_init_49 (zr none (up2 (cr_X0_init_45 (zr none (up2 (cr_X5_init_36 (zr none (up2 (zr none (up2 (zr none (up2 (zr none (up2 (cr_X9_init_25 (zr none (up2 (cr_X0_init_21 (zr none (up2 (cr_X5_init_12 (zr none (up2 (cr_X6_init_2 (zr none (up2 (zr none R 1) 0 0 (some 1)) 2)) 0 4 (some 2)) 12)) 0 5 (some 12)) 21)) 0 6 (some 21)) 25)) 0 7 (some 25)) 33) 0 8 (some 33)) 34) 0 9 (some 34)) 35) 0 10 (some 35)) 36)) 33 0 (some 36)) 45)) 34 0 (some 45)) 49)))
  refine g_aastore K1 q_clX5 (Nat.le_of_ble_eq_true rfl) lyp_33.1 (by decide) rfl (Nat.le_of_ble_eq_true rfl) lyp_49.1 (by unfold vp_in; decide) dX11_init_118 ?_
  show q_Gs w g 119 [(1, .int 1), (0, .ref 0)] [] (58, (ci_X5_init_49 (zr 0 (ci_X0_init_45 (zr 0 (ci_X5_init_36 (zr 0 (zr 0 (zr 0 (zr 0 (ci_X9_init_25 (zr 0 (ci_X0_init_21 (zr 0 (ci_X5_init_12 (zr 0 (ci_X6_init_2 (zr 0 (up2 (up2 (up2 (zr 0 I 1) 0 1 0) 0 2 0) 0 3 (-1)) 2)) 12)) 21)) 25)) 33) 34) 35) 36)) 45)) 49)), (cl_X5_init_49 (zr 0 (cl_X0_init_45 (zr 0 (cl_X5_init_36 (zr 0 (zr 0 (zr 0 (zr 0 (cl_X9_init_25 (zr 0 (cl_X0_init_21 (zr 0 (cl_X5_init_12 (zr 0 (cl_X6_init_2 (zr 0 (zr 0 L 1) 2)) 12)) 21)) 25)) 33) 34) 35) 36)) 45)) 49)), (up2 (cr_X5_init_49 (zr none (up2 (cr_X0_init_45 (zr none (up2 (cr_X5_init_36 (zr none (up2 (zr none (up2 (zr none (up2 (zr none (up2 (cr_X9_init_25 (zr none (up2 (cr_X0_init_21 (zr none (up2 (cr_X5_init_12 (zr none (up2 (cr_X6_init_2 (zr none (up2 (zr none R 1) 0 0 (some 1)) 2)) 0 4 (some 2)) 12)) 0 5 (some 12)) 21)) 0 6 (some 21)) 25)) 0 7 (some 25)) 33) 0 8 (some 33)) 34) 0 9 (some 34)) 35) 0 10 (some 35)) 36)) 33 0 (some 36)) 45)) 34 0 (some 45)) 49)) 33 1 (some 49)))
  refine g_aload_n K1 1 dX11_init_119 rfl ?_
  refine g_getO K1 q_clX11 9 34 (Nat.le_of_ble_eq_true rfl) lyp_0.1 fkX11_9.1 fkX11_9.2 rfl fl_X11_57 dX11_init_120 ?_
  refine g_iload_n K1 0 dX11_init_123 rfl ?_
  refine g_new K1 q_clX0 df_X0 lyp_58.1 szp_58 (Nat.le_of_ble_eq_true rfl) (Nat.le_of_ble_eq_true rfl) kl_X11_39 in_X0 it_X0 dX11_init_124 ?_
  show q_Gs w g 127 [(1, .int 1), (0, .ref 0)] [.ref 58, .int 1, .ref 34] (59, (zr 0 (ci_X5_init_49 (zr 0 (ci_X0_init_45 (zr 0 (ci_X5_init_36 (zr 0 (zr 0 (zr 0 (zr 0 (ci_X9_init_25 (zr 0 (ci_X0_init_21 (zr 0 (ci_X5_init_12 (zr 0 (ci_X6_init_2 (zr 0 (up2 (up2 (up2 (zr 0 I 1) 0 1 0) 0 2 0) 0 3 (-1)) 2)) 12)) 21)) 25)) 33) 34) 35) 36)) 45)) 49)) 58), (zr 0 (cl_X5_init_49 (zr 0 (cl_X0_init_45 (zr 0 (cl_X5_init_36 (zr 0 (zr 0 (zr 0 (zr 0 (cl_X9_init_25 (zr 0 (cl_X0_init_21 (zr 0 (cl_X5_init_12 (zr 0 (cl_X6_init_2 (zr 0 (zr 0 L 1) 2)) 12)) 21)) 25)) 33) 34) 35) 36)) 45)) 49)) 58), (zr none (up2 (cr_X5_init_49 (zr none (up2 (cr_X0_init_45 (zr none (up2 (cr_X5_init_36 (zr none (up2 (zr none (up2 (zr none (up2 (zr none (up2 (cr_X9_init_25 (zr none (up2 (cr_X0_init_21 (zr none (up2 (cr_X5_init_12 (zr none (up2 (cr_X6_init_2 (zr none (up2 (zr none R 1) 0 0 (some 1)) 2)) 0 4 (some 2)) 12)) 0 5 (some 12)) 21)) 0 6 (some 21)) 25)) 0 7 (some 25)) 33) 0 8 (some 33)) 34) 0 9 (some 34)) 35) 0 10 (some 35)) 36)) 33 0 (some 36)) 45)) 34 0 (some 45)) 49)) 33 1 (some 49)) 58))
  refine g_dup K1 dX11_init_127 rfl ?_
  refine g_callIN K1 (st := [.ref 58, .int 1, .ref 34]) [] (cc_X0_init_58 w (gl g) (zr 0 (ci_X5_init_49 (zr 0 (ci_X0_init_45 (zr 0 (ci_X5_init_36 (zr 0 (zr 0 (zr 0 (zr 0 (ci_X9_init_25 (zr 0 (ci_X0_init_21 (zr 0 (ci_X5_init_12 (zr 0 (ci_X6_init_2 (zr 0 (up2 (up2 (up2 (zr 0 I 1) 0 1 0) 0 2 0) 0 3 (-1)) 2)) 12)) 21)) 25)) 33) 34) 35) 36)) 45)) 49)) 58) (zr 0 (cl_X5_init_49 (zr 0 (cl_X0_init_45 (zr 0 (cl_X5_init_36 (zr 0 (zr 0 (zr 0 (zr 0 (cl_X9_init_25 (zr 0 (cl_X0_init_21 (zr 0 (cl_X5_init_12 (zr 0 (cl_X6_init_2 (zr 0 (zr 0 L 1) 2)) 12)) 21)) 25)) 33) 34) 35) 36)) 45)) 49)) 58) (zr none (up2 (cr_X5_init_49 (zr none (up2 (cr_X0_init_45 (zr none (up2 (cr_X5_init_36 (zr none (up2 (zr none (up2 (zr none (up2 (zr none (up2 (cr_X9_init_25 (zr none (up2 (cr_X0_init_21 (zr none (up2 (cr_X5_init_12 (zr none (up2 (cr_X6_init_2 (zr none (up2 (zr none R 1) 0 0 (some 1)) 2)) 0 4 (some 2)) 12)) 0 5 (some 12)) 21)) 0 6 (some 21)) 25)) 0 7 (some 25)) 33) 0 8 (some 33)) 34) 0 9 (some 34)) 35) 0 10 (some 35)) 36)) 33 0 (some 36)) 45)) 34 0 (some 45)) 49)) 33 1 (some 49)) 58)) (Nat.le_of_ble_eq_true rfl) ok_X0_init (K1.2.2.2.2.2.1.2.2.2.2.2.2.1) (Nat.le_of_ble_eq_true rfl) (Nat.le_of_ble_eq_true rfl) (Nat.le_of_ble_eq_true rfl) dX11_init_128 ?_
  show q_Gs w g 131 [(1, .int 1), (0, .ref 0)] [.ref 58, .int 1, .ref 34] (62, (ci_X0_init_58 (zr 0 (ci_X5_init_49 (zr 0 (ci_X0_init_45 (zr 0 (ci_X5_init_36 (zr 0 (zr 0 (zr 0 (zr 0 (ci_X9_init_25 (zr 0 (ci_X0_init_21 (zr 0 (ci_X5_init_12 (zr 0 (ci_X6_init_2 (zr 0 (up2 (up2 (up2 (zr 0 I 1) 0 1 0) 0 2 0) 0 3 (-1)) 2)) 12)) 21)) 25)) 33) 34) 35) 36)) 45)) 49)) 58)), (cl_X0_init_58 (zr 0 (cl_X5_init_49 (zr 0 (cl_X0_init_45 (zr 0 (cl_X5_init_36 (zr 0 (zr 0 (zr 0 (zr 0 (cl_X9_init_25 (zr 0 (cl_X0_init_21 (zr 0 (cl_X5_init_12 (zr 0 (cl_X6_init_2 (zr 0 (zr 0 L 1) 2)) 12)) 21)) 25)) 33) 34) 35) 36)) 45)) 49)) 58)), (cr_X0_init_58 (zr none (up2 (cr_X5_init_49 (zr none (up2 (cr_X0_init_45 (zr none (up2 (cr_X5_init_36 (zr none (up2 (zr none (up2 (zr none (up2 (zr none (up2 (cr_X9_init_25 (zr none (up2 (cr_X0_init_21 (zr none (up2 (cr_X5_init_12 (zr none (up2 (cr_X6_init_2 (zr none (up2 (zr none R 1) 0 0 (some 1)) 2)) 0 4 (some 2)) 12)) 0 5 (some 12)) 21)) 0 6 (some 21)) 25)) 0 7 (some 25)) 33) 0 8 (some 33)) 34) 0 9 (some 34)) 35) 0 10 (some 35)) 36)) 33 0 (some 36)) 45)) 34 0 (some 45)) 49)) 33 1 (some 49)) 58)))
  refine g_aastore K1 q_clX0 (Nat.le_of_ble_eq_true rfl) lyp_34.1 (by decide) rfl (Nat.le_of_ble_eq_true rfl) lyp_58.1 (by unfold vp_in; decide) dX11_init_131 ?_
  show q_Gs w g 132 [(1, .int 1), (0, .ref 0)] [] (62, (ci_X0_init_58 (zr 0 (ci_X5_init_49 (zr 0 (ci_X0_init_45 (zr 0 (ci_X5_init_36 (zr 0 (zr 0 (zr 0 (zr 0 (ci_X9_init_25 (zr 0 (ci_X0_init_21 (zr 0 (ci_X5_init_12 (zr 0 (ci_X6_init_2 (zr 0 (up2 (up2 (up2 (zr 0 I 1) 0 1 0) 0 2 0) 0 3 (-1)) 2)) 12)) 21)) 25)) 33) 34) 35) 36)) 45)) 49)) 58)), (cl_X0_init_58 (zr 0 (cl_X5_init_49 (zr 0 (cl_X0_init_45 (zr 0 (cl_X5_init_36 (zr 0 (zr 0 (zr 0 (zr 0 (cl_X9_init_25 (zr 0 (cl_X0_init_21 (zr 0 (cl_X5_init_12 (zr 0 (cl_X6_init_2 (zr 0 (zr 0 L 1) 2)) 12)) 21)) 25)) 33) 34) 35) 36)) 45)) 49)) 58)), (up2 (cr_X0_init_58 (zr none (up2 (cr_X5_init_49 (zr none (up2 (cr_X0_init_45 (zr none (up2 (cr_X5_init_36 (zr none (up2 (zr none (up2 (zr none (up2 (zr none (up2 (cr_X9_init_25 (zr none (up2 (cr_X0_init_21 (zr none (up2 (cr_X5_init_12 (zr none (up2 (cr_X6_init_2 (zr none (up2 (zr none R 1) 0 0 (some 1)) 2)) 0 4 (some 2)) 12)) 0 5 (some 12)) 21)) 0 6 (some 21)) 25)) 0 7 (some 25)) 33) 0 8 (some 33)) 34) 0 9 (some 34)) 35) 0 10 (some 35)) 36)) 33 0 (some 36)) 45)) 34 0 (some 45)) 49)) 33 1 (some 49)) 58)) 34 1 (some 58)))
  refine g_iinc K1 2 0 dX11_init_132 rfl (by decide) (by decide) rfl ?_
  refine g_goto K1 101 dX11_init_135 rfl ?_
  refine g_iload_n K1 0 dX11_init_101 rfl ?_
  refine g_iconst K1 3 dX11_init_102 rfl ?_
  refine g_icmp_ge K1 138 dX11_init_103 rfl (fun hc => absurd hc (by decide)) (fun _ => ?_)
  refine g_aload_n K1 1 dX11_init_106 rfl ?_
  refine g_getO K1 q_clX11 8 33 (Nat.le_of_ble_eq_true rfl) lyp_0.1 fkX11_8.1 fkX11_8.2 rfl fl_X11_53 dX11_init_107 ?_
  refine g_iload_n K1 0 dX11_init_110 rfl ?_
  refine g_new K1 q_clX5 df_X5 lyp_62.1 szp_62 (Nat.le_of_ble_eq_true rfl) (Nat.le_of_ble_eq_true rfl) kl_X11_32 in_X5 it_X5 dX11_init_111 ?_
  show q_Gs w g 114 [(1, .int 2), (0, .ref 0)] [.ref 62, .int 2, .ref 33] (63, (zr 0 (ci_X0_init_58 (zr 0 (ci_X5_init_49 (zr 0 (ci_X0_init_45 (zr 0 (ci_X5_init_36 (zr 0 (zr 0 (zr 0 (zr 0 (ci_X9_init_25 (zr 0 (ci_X0_init_21 (zr 0 (ci_X5_init_12 (zr 0 (ci_X6_init_2 (zr 0 (up2 (up2 (up2 (zr 0 I 1) 0 1 0) 0 2 0) 0 3 (-1)) 2)) 12)) 21)) 25)) 33) 34) 35) 36)) 45)) 49)) 58)) 62), (zr 0 (cl_X0_init_58 (zr 0 (cl_X5_init_49 (zr 0 (cl_X0_init_45 (zr 0 (cl_X5_init_36 (zr 0 (zr 0 (zr 0 (zr 0 (cl_X9_init_25 (zr 0 (cl_X0_init_21 (zr 0 (cl_X5_init_12 (zr 0 (cl_X6_init_2 (zr 0 (zr 0 L 1) 2)) 12)) 21)) 25)) 33) 34) 35) 36)) 45)) 49)) 58)) 62), (zr none (up2 (cr_X0_init_58 (zr none (up2 (cr_X5_init_49 (zr none (up2 (cr_X0_init_45 (zr none (up2 (cr_X5_init_36 (zr none (up2 (zr none (up2 (zr none (up2 (zr none (up2 (cr_X9_init_25 (zr none (up2 (cr_X0_init_21 (zr none (up2 (cr_X5_init_12 (zr none (up2 (cr_X6_init_2 (zr none (up2 (zr none R 1) 0 0 (some 1)) 2)) 0 4 (some 2)) 12)) 0 5 (some 12)) 21)) 0 6 (some 21)) 25)) 0 7 (some 25)) 33) 0 8 (some 33)) 34) 0 9 (some 34)) 35) 0 10 (some 35)) 36)) 33 0 (some 36)) 45)) 34 0 (some 45)) 49)) 33 1 (some 49)) 58)) 34 1 (some 58)) 62))
  refine g_dup K1 dX11_init_114 rfl ?_
  refine g_callIN K1 (st := [.ref 62, .int 2, .ref 33]) [] (cc_X5_init_62 w (gl g) (zr 0 (ci_X0_init_58 (zr 0 (ci_X5_init_49 (zr 0 (ci_X0_init_45 (zr 0 (ci_X5_init_36 (zr 0 (zr 0 (zr 0 (zr 0 (ci_X9_init_25 (zr 0 (ci_X0_init_21 (zr 0 (ci_X5_init_12 (zr 0 (ci_X6_init_2 (zr 0 (up2 (up2 (up2 (zr 0 I 1) 0 1 0) 0 2 0) 0 3 (-1)) 2)) 12)) 21)) 25)) 33) 34) 35) 36)) 45)) 49)) 58)) 62) (zr 0 (cl_X0_init_58 (zr 0 (cl_X5_init_49 (zr 0 (cl_X0_init_45 (zr 0 (cl_X5_init_36 (zr 0 (zr 0 (zr 0 (zr 0 (cl_X9_init_25 (zr 0 (cl_X0_init_21 (zr 0 (cl_X5_init_12 (zr 0 (cl_X6_init_2 (zr 0 (zr 0 L 1) 2)) 12)) 21)) 25)) 33) 34) 35) 36)) 45)) 49)) 58)) 62) (zr none (up2 (cr_X0_init_58 (zr none (up2 (cr_X5_init_49 (zr none (up2 (cr_X0_init_45 (zr none (up2 (cr_X5_init_36 (zr none (up2 (zr none (up2 (zr none (up2 (zr none (up2 (cr_X9_init_25 (zr none (up2 (cr_X0_init_21 (zr none (up2 (cr_X5_init_12 (zr none (up2 (cr_X6_init_2 (zr none (up2 (zr none R 1) 0 0 (some 1)) 2)) 0 4 (some 2)) 12)) 0 5 (some 12)) 21)) 0 6 (some 21)) 25)) 0 7 (some 25)) 33) 0 8 (some 33)) 34) 0 9 (some 34)) 35) 0 10 (some 35)) 36)) 33 0 (some 36)) 45)) 34 0 (some 45)) 49)) 33 1 (some 49)) 58)) 34 1 (some 58)) 62)) (Nat.le_of_ble_eq_true rfl) ok_X5_init (K1.2.2.2.2.2.1.2.2.2.2.2.1) (Nat.le_of_ble_eq_true rfl) (Nat.le_of_ble_eq_true rfl) (Nat.le_of_ble_eq_true rfl) dX11_init_115 ?_
  show q_Gs w g 118 [(1, .int 2), (0, .ref 0)] [.ref 62, .int 2, .ref 33] (71, (ci_X5_init_62 (zr 0 (ci_X0_init_58 (zr 0 (ci_X5_init_49 (zr 0 (ci_X0_init_45 (zr 0 (ci_X5_init_36 (zr 0 (zr 0 (zr 0 (zr 0 (ci_X9_init_25 (zr 0 (ci_X0_init_21 (zr 0 (ci_X5_init_12 (zr 0 (ci_X6_init_2 (zr 0 (up2 (up2 (up2 (zr 0 I 1) 0 1 0) 0 2 0) 0 3 (-1)) 2)) 12)) 21)) 25)) 33) 34) 35) 36)) 45)) 49)) 58)) 62)), (cl_X5_init_62 (zr 0 (cl_X0_init_58 (zr 0 (cl_X5_init_49 (zr 0 (cl_X0_init_45 (zr 0 (cl_X5_init_36 (zr 0 (zr 0 (zr 0 (zr 0 (cl_X9_init_25 (zr 0 (cl_X0_init_21 (zr 0 (cl_X5_init_12 (zr 0 (cl_X6_init_2 (zr 0 (zr 0 L 1) 2)) 12)) 21)) 25)) 33) 34) 35) 36)) 45)) 49)) 58)) 62)), (cr_X5_init_62 (zr none (up2 (cr_X0_init_58 (zr none (up2 (cr_X5_init_49 (zr none (up2 (cr_X0_init_45 (zr none (up2 (cr_X5_init_36 (zr none (up2 (zr none (up2 (zr none (up2 (zr none (up2 (cr_X9_init_25 (zr none (up2 (cr_X0_init_21 (zr none (up2 (cr_X5_init_12 (zr none (up2 (cr_X6_init_2 (zr none (up2 (zr none R 1) 0 0 (some 1)) 2)) 0 4 (some 2)) 12)) 0 5 (some 12)) 21)) 0 6 (some 21)) 25)) 0 7 (some 25)) 33) 0 8 (some 33)) 34) 0 9 (some 34)) 35) 0 10 (some 35)) 36)) 33 0 (some 36)) 45)) 34 0 (some 45)) 49)) 33 1 (some 49)) 58)) 34 1 (some 58)) 62)))
  refine g_aastore K1 q_clX5 (Nat.le_of_ble_eq_true rfl) lyp_33.1 (by decide) rfl (Nat.le_of_ble_eq_true rfl) lyp_62.1 (by unfold vp_in; decide) dX11_init_118 ?_
  show q_Gs w g 119 [(1, .int 2), (0, .ref 0)] [] (71, (ci_X5_init_62 (zr 0 (ci_X0_init_58 (zr 0 (ci_X5_init_49 (zr 0 (ci_X0_init_45 (zr 0 (ci_X5_init_36 (zr 0 (zr 0 (zr 0 (zr 0 (ci_X9_init_25 (zr 0 (ci_X0_init_21 (zr 0 (ci_X5_init_12 (zr 0 (ci_X6_init_2 (zr 0 (up2 (up2 (up2 (zr 0 I 1) 0 1 0) 0 2 0) 0 3 (-1)) 2)) 12)) 21)) 25)) 33) 34) 35) 36)) 45)) 49)) 58)) 62)), (cl_X5_init_62 (zr 0 (cl_X0_init_58 (zr 0 (cl_X5_init_49 (zr 0 (cl_X0_init_45 (zr 0 (cl_X5_init_36 (zr 0 (zr 0 (zr 0 (zr 0 (cl_X9_init_25 (zr 0 (cl_X0_init_21 (zr 0 (cl_X5_init_12 (zr 0 (cl_X6_init_2 (zr 0 (zr 0 L 1) 2)) 12)) 21)) 25)) 33) 34) 35) 36)) 45)) 49)) 58)) 62)), (up2 (cr_X5_init_62 (zr none (up2 (cr_X0_init_58 (zr none (up2 (cr_X5_init_49 (zr none (up2 (cr_X0_init_45 (zr none (up2 (cr_X5_init_36 (zr none (up2 (zr none (up2 (zr none (up2 (zr none (up2 (cr_X9_init_25 (zr none (up2 (cr_X0_init_21 (zr none (up2 (cr_X5_init_12 (zr none (up2 (cr_X6_init_2 (zr none (up2 (zr none R 1) 0 0 (some 1)) 2)) 0 4 (some 2)) 12)) 0 5 (some 12)) 21)) 0 6 (some 21)) 25)) 0 7 (some 25)) 33) 0 8 (some 33)) 34) 0 9 (some 34)) 35) 0 10 (some 35)) 36)) 33 0 (some 36)) 45)) 34 0 (some 45)) 49)) 33 1 (some 49)) 58)) 34 1 (some 58)) 62)) 33 2 (some 62)))
  refine g_aload_n K1 1 dX11_init_119 rfl ?_
  refine g_getO K1 q_clX11 9 34 (Nat.le_of_ble_eq_true rfl) lyp_0.1 fkX11_9.1 fkX11_9.2 rfl fl_X11_57 dX11_init_120 ?_
  refine g_iload_n K1 0 dX11_init_123 rfl ?_
  refine g_new K1 q_clX0 df_X0 lyp_71.1 szp_71 (Nat.le_of_ble_eq_true rfl) (Nat.le_of_ble_eq_true rfl) kl_X11_39 in_X0 it_X0 dX11_init_124 ?_
  show q_Gs w g 127 [(1, .int 2), (0, .ref 0)] [.ref 71, .int 2, .ref 34] (72, (zr 0 (ci_X5_init_62 (zr 0 (ci_X0_init_58 (zr 0 (ci_X5_init_49 (zr 0 (ci_X0_init_45 (zr 0 (ci_X5_init_36 (zr 0 (zr 0 (zr 0 (zr 0 (ci_X9_init_25 (zr 0 (ci_X0_init_21 (zr 0 (ci_X5_init_12 (zr 0 (ci_X6_init_2 (zr 0 (up2 (up2 (up2 (zr 0 I 1) 0 1 0) 0 2 0) 0 3 (-1)) 2)) 12)) 21)) 25)) 33) 34) 35) 36)) 45)) 49)) 58)) 62)) 71), (zr 0 (cl_X5_init_62 (zr 0 (cl_X0_init_58 (zr 0 (cl_X5_init_49 (zr 0 (cl_X0_init_45 (zr 0 (cl_X5_init_36 (zr 0 (zr 0 (zr 0 (zr 0 (cl_X9_init_25 (zr 0 (cl_X0_init_21 (zr 0 (cl_X5_init_12 (zr 0 (cl_X6_init_2 (zr 0 (zr 0 L 1) 2)) 12)) 21)) 25)) 33) 34) 35) 36)) 45)) 49)) 58)) 62)) 71), (zr none (up2 (cr_X5_init_62 (zr none (up2 (cr_X0_init_58 (zr none (up2 (cr_X5_init_49 (zr none (up2 (cr_X0_init_45 (zr none (up2 (cr_X5_init_36 (zr none (up2 (zr none (up2 (zr none (up2 (zr none (up2 (cr_X9_init_25 (zr none (up2 (cr_X0_init_21 (zr none (up2 (cr_X5_init_12 (zr none (up2 (cr_X6_init_2 (zr none (up2 (zr none R 1) 0 0 (some 1)) 2)) 0 4 (some 2)) 12)) 0 5 (some 12)) 21)) 0 6 (some 21)) 25)) 0 7 (some 25)) 33) 0 8 (some 33)) 34) 0 9 (some 34)) 35) 0 10 (some 35)) 36)) 33 0 (some 36)) 45)) 34 0 (some 45)) 49)) 33 1 (some 49)) 58)) 34 1 (some 58)) 62)) 33 2 (some 62)) 71))
  refine g_dup K1 dX11_init_127 rfl ?_
  refine g_callIN K1 (st := [.ref 71, .int 2, .ref 34]) [] (cc_X0_init_71 w (gl g) (zr 0 (ci_X5_init_62 (zr 0 (ci_X0_init_58 (zr 0 (ci_X5_init_49 (zr 0 (ci_X0_init_45 (zr 0 (ci_X5_init_36 (zr 0 (zr 0 (zr 0 (zr 0 (ci_X9_init_25 (zr 0 (ci_X0_init_21 (zr 0 (ci_X5_init_12 (zr 0 (ci_X6_init_2 (zr 0 (up2 (up2 (up2 (zr 0 I 1) 0 1 0) 0 2 0) 0 3 (-1)) 2)) 12)) 21)) 25)) 33) 34) 35) 36)) 45)) 49)) 58)) 62)) 71) (zr 0 (cl_X5_init_62 (zr 0 (cl_X0_init_58 (zr 0 (cl_X5_init_49 (zr 0 (cl_X0_init_45 (zr 0 (cl_X5_init_36 (zr 0 (zr 0 (zr 0 (zr 0 (cl_X9_init_25 (zr 0 (cl_X0_init_21 (zr 0 (cl_X5_init_12 (zr 0 (cl_X6_init_2 (zr 0 (zr 0 L 1) 2)) 12)) 21)) 25)) 33) 34) 35) 36)) 45)) 49)) 58)) 62)) 71) (zr none (up2 (cr_X5_init_62 (zr none (up2 (cr_X0_init_58 (zr none (up2 (cr_X5_init_49 (zr none (up2 (cr_X0_init_45 (zr none (up2 (cr_X5_init_36 (zr none (up2 (zr none (up2 (zr none (up2 (zr none (up2 (cr_X9_init_25 (zr none (up2 (cr_X0_init_21 (zr none (up2 (cr_X5_init_12 (zr none (up2 (cr_X6_init_2 (zr none (up2 (zr none R 1) 0 0 (some 1)) 2)) 0 4 (some 2)) 12)) 0 5 (some 12)) 21)) 0 6 (some 21)) 25)) 0 7 (some 25)) 33) 0 8 (some 33)) 34) 0 9 (some 34)) 35) 0 10 (some 35)) 36)) 33 0 (some 36)) 45)) 34 0 (some 45)) 49)) 33 1 (some 49)) 58)) 34 1 (some 58)) 62)) 33 2 (some 62)) 71)) (Nat.le_of_ble_eq_true rfl) ok_X0_init (K1.2.2.2.2.2.1.2.2.2.2.2.2.1) (Nat.le_of_ble_eq_true rfl) (Nat.le_of_ble_eq_true rfl) (Nat.le_of_ble_eq_true rfl) dX11_init_128 ?_
  show q_Gs w g 131 [(1, .int 2), (0, .ref 0)] [.ref 71, .int 2, .ref 34] (75, (ci_X0_init_71 (zr 0 (ci_X5_init_62 (zr 0 (ci_X0_init_58 (zr 0 (ci_X5_init_49 (zr 0 (ci_X0_init_45 (zr 0 (ci_X5_init_36 (zr 0 (zr 0 (zr 0 (zr 0 (ci_X9_init_25 (zr 0 (ci_X0_init_21 (zr 0 (ci_X5_init_12 (zr 0 (ci_X6_init_2 (zr 0 (up2 (up2 (up2 (zr 0 I 1) 0 1 0) 0 2 0) 0 3 (-1)) 2)) 12)) 21)) 25)) 33) 34) 35) 36)) 45)) 49)) 58)) 62)) 71)), (cl_X0_init_71 (zr 0 (cl_X5_init_62 (zr 0 (cl_X0_init_58 (zr 0 (cl_X5_init_49 (zr 0 (cl_X0_init_45 (zr 0 (cl_X5_init_36 (zr 0 (zr 0 (zr 0 (zr 0 (cl_X9_init_25 (zr 0 (cl_X0_init_21 (zr 0 (cl_X5_init_12 (zr 0 (cl_X6_init_2 (zr 0 (zr 0 L 1) 2)) 12)) 21)) 25)) 33) 34) 35) 36)) 45)) 49)) 58)) 62)) 71)), (cr_X0_init_71 (zr none (up2 (cr_X5_init_62 (zr none (up2 (cr_X0_init_58 (zr none (up2 (cr_X5_init_49 (zr none (up2 (cr_X0_init_45 (zr none (up2 (cr_X5_init_36 (zr none (up2 (zr none (up2 (zr none (up2 (zr none (up2 (cr_X9_init_25 (zr none (up2 (cr_X0_init_21 (zr none (up2 (cr_X5_init_12 (zr none (up2 (cr_X6_init_2 (zr none (up2 (zr none R 1) 0 0 (some 1)) 2)) 0 4 (some 2)) 12)) 0 5 (some 12)) 21)) 0 6 (some 21)) 25)) 0 7 (some 25)) 33) 0 8 (some 33)) 34) 0 9 (some 34)) 35) 0 10 (some 35)) 36)) 33 0 (some 36)) 45)) 34 0 (some 45)) 49)) 33 1 (some 49)) 58)) 34 1 (some 58)) 62)) 33 2 (some 62)) 71)))
  refine g_aastore K1 q_clX0 (Nat.le_of_ble_eq_true rfl) lyp_34.1 (by decide) rfl (Nat.le_of_ble_eq_true rfl) lyp_71.1 (by unfold vp_in; decide) dX11_init_131 ?_
  show q_Gs w g 132 [(1, .int 2), (0, .ref 0)] [] (75, (ci_X0_init_71 (zr 0 (ci_X5_init_62 (zr 0 (ci_X0_init_58 (zr 0 (ci_X5_init_49 (zr 0 (ci_X0_init_45 (zr 0 (ci_X5_init_36 (zr 0 (zr 0 (zr 0 (zr 0 (ci_X9_init_25 (zr 0 (ci_X0_init_21 (zr 0 (ci_X5_init_12 (zr 0 (ci_X6_init_2 (zr 0 (up2 (up2 (up2 (zr 0 I 1) 0 1 0) 0 2 0) 0 3 (-1)) 2)) 12)) 21)) 25)) 33) 34) 35) 36)) 45)) 49)) 58)) 62)) 71)), (cl_X0_init_71 (zr 0 (cl_X5_init_62 (zr 0 (cl_X0_init_58 (zr 0 (cl_X5_init_49 (zr 0 (cl_X0_init_45 (zr 0 (cl_X5_init_36 (zr 0 (zr 0 (zr 0 (zr 0 (cl_X9_init_25 (zr 0 (cl_X0_init_21 (zr 0 (cl_X5_init_12 (zr 0 (cl_X6_init_2 (zr 0 (zr 0 L 1) 2)) 12)) 21)) 25)) 33) 34) 35) 36)) 45)) 49)) 58)) 62)) 71)), (up2 (cr_X0_init_71 (zr none (up2 (cr_X5_init_62 (zr none (up2 (cr_X0_init_58 (zr none (up2 (cr_X5_init_49 (zr none (up2 (cr_X0_init_45 (zr none (up2 (cr_X5_init_36 (zr none (up2 (zr none (up2 (zr none (up2 (zr none (up2 (cr_X9_init_25 (zr none (up2 (cr_X0_init_21 (zr none (up2 (cr_X5_init_12 (zr none (up2 (cr_X6_init_2 (zr none (up2 (zr none R 1) 0 0 (some 1)) 2)) 0 4 (some 2)) 12)) 0 5 (some 12)) 21)) 0 6 (some 21)) 25)) 0 7 (some 25)) 33) 0 8 (some 33)) 34) 0 9 (some 34)) 35) 0 10 (some 35)) 36)) 33 0 (some 36)) 45)) 34 0 (some 45)) 49)) 33 1 (some 49)) 58)) 34 1 (some 58)) 62)) 33 2 (some 62)) 71)) 34 2 (some 71)))
  refine g_iinc K1 3 0 dX11_init_132 rfl (by decide) (by decide) rfl ?_
  refine g_goto K1 101 dX11_init_135 rfl ?_
  refine g_iload_n K1 0 dX11_init_101 rfl ?_
  refine g_iconst K1 3 dX11_init_102 rfl ?_
  refine g_icmp_ge K1 138 dX11_init_103 rfl (fun _ => ?_) (fun hc => absurd (by decide) hc)
  refine g_aload_n K1 1 dX11_init_138 rfl ?_
  refine g_new K1 q_clX3 df_X3 lyp_75.1 szp_75 (Nat.le_of_ble_eq_true rfl) (Nat.le_of_ble_eq_true rfl) kl_X11_65 in_X3 it_X3 dX11_init_139 ?_
  show q_Gs w g 142 [(1, .int 3), (0, .ref 0)] [.ref 75, .ref 0] (76, (zr 0 (ci_X0_init_71 (zr 0 (ci_X5_init_62 (zr 0 (ci_X0_init_58 (zr 0 (ci_X5_init_49 (zr 0 (ci_X0_init_45 (zr 0 (ci_X5_init_36 (zr 0 (zr 0 (zr 0 (zr 0 (ci_X9_init_25 (zr 0 (ci_X0_init_21 (zr 0 (ci_X5_init_12 (zr 0 (ci_X6_init_2 (zr 0 (up2 (up2 (up2 (zr 0 I 1) 0 1 0) 0 2 0) 0 3 (-1)) 2)) 12)) 21)) 25)) 33) 34) 35) 36)) 45)) 49)) 58)) 62)) 71)) 75), (zr 0 (cl_X0_init_71 (zr 0 (cl_X5_init_62 (zr 0 (cl_X0_init_58 (zr 0 (cl_X5_init_49 (zr 0 (cl_X0_init_45 (zr 0 (cl_X5_init_36 (zr 0 (zr 0 (zr 0 (zr 0 (cl_X9_init_25 (zr 0 (cl_X0_init_21 (zr 0 (cl_X5_init_12 (zr 0 (cl_X6_init_2 (zr 0 (zr 0 L 1) 2)) 12)) 21)) 25)) 33) 34) 35) 36)) 45)) 49)) 58)) 62)) 71)) 75), (zr none (up2 (cr_X0_init_71 (zr none (up2 (cr_X5_init_62 (zr none (up2 (cr_X0_init_58 (zr none (up2 (cr_X5_init_49 (zr none (up2 (cr_X0_init_45 (zr none (up2 (cr_X5_init_36 (zr none (up2 (zr none (up2 (zr none (up2 (zr none (up2 (cr_X9_init_25 (zr none (up2 (cr_X0_init_21 (zr none (up2 (cr_X5_init_12 (zr none (up2 (cr_X6_init_2 (zr none (up2 (zr none R 1) 0 0 (some 1)) 2)) 0 4 (some 2)) 12)) 0 5 (some 12)) 21)) 0 6 (some 21)) 25)) 0 7 (some 25)) 33) 0 8 (some 33)) 34) 0 9 (some 34)) 35) 0 10 (some 35)) 36)) 33 0 (some 36)) 45)) 34 0 (some 45)) 49)) 33 1 (some 49)) 58)) 34 1 (some 58)) 62)) 33 2 (some 62)) 71)) 34 2 (some 71)) 75))
  refine g_dup K1 dX11_init_142 rfl ?_
  refine g_aload_n K1 1 dX11_init_143 rfl ?_
  refine g_getO K1 q_clX11 5 12 (Nat.le_of_ble_eq_true rfl) lyp_0.1 fkX11_5.1 fkX11_5.2 rfl fl_X11_35 dX11_init_144 ?_
  refine g_aload_n K1 1 dX11_init_147 rfl ?_
  refine g_getO K1 q_clX11 6 21 (Nat.le_of_ble_eq_true rfl) lyp_0.1 fkX11_6.1 fkX11_6.2 rfl fl_X11_42 dX11_init_148 ?_
  refine g_callI K1 (st := [.ref 75, .ref 0]) [.ref 12, .ref 21] (cc_X3_init_75 w (gl g) (zr 0 (ci_X0_init_71 (zr 0 (ci_X5_init_62 (zr 0 (ci_X0_init_58 (zr 0 (ci_X5_init_49 (zr 0 (ci_X0_init_45 (zr 0 (ci_X5_init_36 (zr 0 (zr 0 (zr 0 (zr 0 (ci_X9_init_25 (zr 0 (ci_X0_init_21 (zr 0 (ci_X5_init_12 (zr 0 (ci_X6_init_2 (zr 0 (up2 (up2 (up2 (zr 0 I 1) 0 1 0) 0 2 0) 0 3 (-1)) 2)) 12)) 21)) 25)) 33) 34) 35) 36)) 45)) 49)) 58)) 62)) 71)) 75) (zr 0 (cl_X0_init_71 (zr 0 (cl_X5_init_62 (zr 0 (cl_X0_init_58 (zr 0 (cl_X5_init_49 (zr 0 (cl_X0_init_45 (zr 0 (cl_X5_init_36 (zr 0 (zr 0 (zr 0 (zr 0 (cl_X9_init_25 (zr 0 (cl_X0_init_21 (zr 0 (cl_X5_init_12 (zr 0 (cl_X6_init_2 (zr 0 (zr 0 L 1) 2)) 12)) 21)) 25)) 33) 34) 35) 36)) 45)) 49)) 58)) 62)) 71)) 75) (zr none (up2 (cr_X0_init_71 (zr none (up2 (cr_X5_init_62 (zr none (up2 (cr_X0_init_58 (zr none (up2 (cr_X5_init_49 (zr none (up2 (cr_X0_init_45 (zr none (up2 (cr_X5_init_36 (zr none (up2 (zr none (up2 (zr none (up2 (zr none (up2 (cr_X9_init_25 (zr none (up2 (cr_X0_init_21 (zr none (up2 (cr_X5_init_12 (zr none (up2 (cr_X6_init_2 (zr none (up2 (zr none R 1) 0 0 (some 1)) 2)) 0 4 (some 2)) 12)) 0 5 (some 12)) 21)) 0 6 (some 21)) 25)) 0 7 (some 25)) 33) 0 8 (some 33)) 34) 0 9 (some 34)) 35) 0 10 (some 35)) 36)) 33 0 (some 36)) 45)) 34 0 (some 45)) 49)) 33 1 (some 49)) 58)) 34 1 (some 58)) 62)) 33 2 (some 62)) 71)) 34 2 (some 71)) 75)) (Nat.le_of_ble_eq_true rfl) ok_X3_init ml_X11_67 (Nat.le_of_ble_eq_true rfl) (Nat.le_of_ble_eq_true rfl) (Nat.le_of_ble_eq_true rfl) dX11_init_151 ?_
  show q_Gs w g 154 [(1, .int 3), (0, .ref 0)] [.ref 75, .ref 0] (81, (ci_X3_init_75 (zr 0 (ci_X0_init_71 (zr 0 (ci_X5_init_62 (zr 0 (ci_X0_init_58 (zr 0 (ci_X5_init_49 (zr 0 (ci_X0_init_45 (zr 0 (ci_X5_init_36 (zr 0 (zr 0 (zr 0 (zr 0 (ci_X9_init_25 (zr 0 (ci_X0_init_21 (zr 0 (ci_X5_init_12 (zr 0 (ci_X6_init_2 (zr 0 (up2 (up2 (up2 (zr 0 I 1) 0 1 0) 0 2 0) 0 3 (-1)) 2)) 12)) 21)) 25)) 33) 34) 35) 36)) 45)) 49)) 58)) 62)) 71)) 75)), (cl_X3_init_75 (zr 0 (cl_X0_init_71 (zr 0 (cl_X5_init_62 (zr 0 (cl_X0_init_58 (zr 0 (cl_X5_init_49 (zr 0 (cl_X0_init_45 (zr 0 (cl_X5_init_36 (zr 0 (zr 0 (zr 0 (zr 0 (cl_X9_init_25 (zr 0 (cl_X0_init_21 (zr 0 (cl_X5_init_12 (zr 0 (cl_X6_init_2 (zr 0 (zr 0 L 1) 2)) 12)) 21)) 25)) 33) 34) 35) 36)) 45)) 49)) 58)) 62)) 71)) 75)), (cr_X3_init_75 (zr none (up2 (cr_X0_init_71 (zr none (up2 (cr_X5_init_62 (zr none (up2 (cr_X0_init_58 (zr none (up2 (cr_X5_init_49 (zr none (up2 (cr_X0_init_45 (zr none (up2 (cr_X5_init_36 (zr none (up2 (zr none (up2 (zr none (up2 (zr none (up2 (cr_X9_init_25 (zr none (up2 (cr_X0_init_21 (zr none (up2 (cr_X5_init_12 (zr none (up2 (cr_X6_init_2 (zr none (up2 (zr none R 1) 0 0 (some 1)) 2)) 0 4 (some 2)) 12)) 0 5 (some 12)) 21)) 0 6 (some 21)) 25)) 0 7 (some 25)) 33) 0 8 (some 33)) 34) 0 9 (some 34)) 35) 0 10 (some 35)) 36)) 33 0 (some 36)) 45)) 34 0 (some 45)) 49)) 33 1 (some 49)) 58)) 34 1 (some 58)) 62)) 33 2 (some 62)) 71)) 34 2 (some 71)) 75)))
  refine g_putF K1 q_clX11 11 (Nat.le_of_ble_eq_true rfl) lyp_0.1 fkX11_11.1 fkX11_11.2 fl_X11_70 rfl rfl rfl (fun _ => rfl) (fun _ => rfl) dX11_init_154 ?_
  show q_Gs w g 157 [(1, .int 3), (0, .ref 0)] [] (81, (ci_X3_init_75 (zr 0 (ci_X0_init_71 (zr 0 (ci_X5_init_62 (zr 0 (ci_X0_init_58 (zr 0 (ci_X5_init_49 (zr 0 (ci_X0_init_45 (zr 0 (ci_X5_init_36 (zr 0 (zr 0 (zr 0 (zr 0 (ci_X9_init_25 (zr 0 (ci_X0_init_21 (zr 0 (ci_X5_init_12 (zr 0 (ci_X6_init_2 (zr 0 (up2 (up2 (up2 (zr 0 I 1) 0 1 0) 0 2 0) 0 3 (-1)) 2)) 12)) 21)) 25)) 33) 34) 35) 36)) 45)) 49)) 58)) 62)) 71)) 75)), (cl_X3_init_75 (zr 0 (cl_X0_init_71 (zr 0 (cl_X5_init_62 (zr 0 (cl_X0_init_58 (zr 0 (cl_X5_init_49 (zr 0 (cl_X0_init_45 (zr 0 (cl_X5_init_36 (zr 0 (zr 0 (zr 0 (zr 0 (cl_X9_init_25 (zr 0 (cl_X0_init_21 (zr 0 (cl_X5_init_12 (zr 0 (cl_X6_init_2 (zr 0 (zr 0 L 1) 2)) 12)) 21)) 25)) 33) 34) 35) 36)) 45)) 49)) 58)) 62)) 71)) 75)), (up2 (cr_X3_init_75 (zr none (up2 (cr_X0_init_71 (zr none (up2 (cr_X5_init_62 (zr none (up2 (cr_X0_init_58 (zr none (up2 (cr_X5_init_49 (zr none (up2 (cr_X0_init_45 (zr none (up2 (cr_X5_init_36 (zr none (up2 (zr none (up2 (zr none (up2 (zr none (up2 (cr_X9_init_25 (zr none (up2 (cr_X0_init_21 (zr none (up2 (cr_X5_init_12 (zr none (up2 (cr_X6_init_2 (zr none (up2 (zr none R 1) 0 0 (some 1)) 2)) 0 4 (some 2)) 12)) 0 5 (some 12)) 21)) 0 6 (some 21)) 25)) 0 7 (some 25)) 33) 0 8 (some 33)) 34) 0 9 (some 34)) 35) 0 10 (some 35)) 36)) 33 0 (some 36)) 45)) 34 0 (some 45)) 49)) 33 1 (some 49)) 58)) 34 1 (some 58)) 62)) 33 2 (some 62)) 71)) 34 2 (some 71)) 75)) 0 11 (some 75)))
  refine g_aload_n K1 1 dX11_init_157 rfl ?_
  refine g_new K1 q_clX3 df_X3 lyp_81.1 szp_81 (Nat.le_of_ble_eq_true rfl) (Nat.le_of_ble_eq_true rfl) kl_X11_65 in_X3 it_X3 dX11_init_158 ?_
  show q_Gs w g 161 [(1, .int 3), (0, .ref 0)] [.ref 81, .ref 0] (82, (zr 0 (ci_X3_init_75 (zr 0 (ci_X0_init_71 (zr 0 (ci_X5_init_62 (zr 0 (ci_X0_init_58 (zr 0 (ci_X5_init_49 (zr 0 (ci_X0_init_45 (zr 0 (ci_X5_init_36 (zr 0 (zr 0 (zr 0 (zr 0 (ci_X9_init_25 (zr 0 (ci_X0_init_21 (zr 0 (ci_X5_init_12 (zr 0 (ci_X6_init_2 (zr 0 (up2 (up2 (up2 (zr 0 I 1) 0 1 0) 0 2 0) 0 3 (-1)) 2)) 12)) 21)) 25)) 33) 34) 35) 36)) 45)) 49)) 58)) 62)) 71)) 75)) 81), (zr 0 (cl_X3_init_75 (zr 0 (cl_X0_init_71 (zr 0 (cl_X5_init_62 (zr 0 (cl_X0_init_58 (zr 0 (cl_X5_init_49 (zr 0 (cl_X0_init_45 (zr 0 (cl_X5_init_36 (zr 0 (zr 0 (zr 0 (zr 0 (cl_X9_init_25 (zr 0 (cl_X0_init_21 (zr 0 (cl_X5_init_12 (zr 0 (cl_X6_init_2 (zr 0 (zr 0 L 1) 2)) 12)) 21)) 25)) 33) 34) 35) 36)) 45)) 49)) 58)) 62)) 71)) 75)) 81), (zr none (up2 (cr_X3_init_75 (zr none (up2 (cr_X0_init_71 (zr none (up2 (cr_X5_init_62 (zr none (up2 (cr_X0_init_58 (zr none (up2 (cr_X5_init_49 (zr none (up2 (cr_X0_init_45 (zr none (up2 (cr_X5_init_36 (zr none (up2 (zr none (up2 (zr none (up2 (zr none (up2 (cr_X9_init_25 (zr none (up2 (cr_X0_init_21 (zr none (up2 (cr_X5_init_12 (zr none (up2 (cr_X6_init_2 (zr none (up2 (zr none R 1) 0 0 (some 1)) 2)) 0 4 (some 2)) 12)) 0 5 (some 12)) 21)) 0 6 (some 21)) 25)) 0 7 (some 25)) 33) 0 8 (some 33)) 34) 0 9 (some 34)) 35) 0 10 (some 35)) 36)) 33 0 (some 36)) 45)) 34 0 (some 45)) 49)) 33 1 (some 49)) 58)) 34 1 (some 58)) 62)) 33 2 (some 62)) 71)) 34 2 (some 71)) 75)) 0 11 (some 75)) 81))
  refine g_dup K1 dX11_init_161 rfl ?_
  refine g_aload_n K1 1 dX11_init_162 rfl ?_
  refine g_getO K1 q_clX11 5 12 (Nat.le_of_ble_eq_true rfl) lyp_0.1 fkX11_5.1 fkX11_5.2 rfl fl_X11_35 dX11_init_163 ?_
  refine g_aload_n K1 1 dX11_init_166 rfl ?_
  refine g_getO K1 q_clX11 6 21 (Nat.le_of_ble_eq_true rfl) lyp_0.1 fkX11_6.1 fkX11_6.2 rfl fl_X11_42 dX11_init_167 ?_
  refine g_callI K1 (st := [.ref 81, .ref 0]) [.ref 12, .ref 21] (cc_X3_init_81 w (gl g) (zr 0 (ci_X3_init_75 (zr 0 (ci_X0_init_71 (zr 0 (ci_X5_init_62 (zr 0 (ci_X0_init_58 (zr 0 (ci_X5_init_49 (zr 0 (ci_X0_init_45 (zr 0 (ci_X5_init_36 (zr 0 (zr 0 (zr 0 (zr 0 (ci_X9_init_25 (zr 0 (ci_X0_init_21 (zr 0 (ci_X5_init_12 (zr 0 (ci_X6_init_2 (zr 0 (up2 (up2 (up2 (zr 0 I 1) 0 1 0) 0 2 0) 0 3 (-1)) 2)) 12)) 21)) 25)) 33) 34) 35) 36)) 45)) 49)) 58)) 62)) 71)) 75)) 81) (zr 0 (cl_X3_init_75 (zr 0 (cl_X0_init_71 (zr 0 (cl_X5_init_62 (zr 0 (cl_X0_init_58 (zr 0 (cl_X5_init_49 (zr 0 (cl_X0_init_45 (zr 0 (cl_X5_init_36 (zr 0 (zr 0 (zr 0 (zr 0 (cl_X9_init_25 (zr 0 (cl_X0_init_21 (zr 0 (cl_X5_init_12 (zr 0 (cl_X6_init_2 (zr 0 (zr 0 L 1) 2)) 12)) 21)) 25)) 33) 34) 35) 36)) 45)) 49)) 58)) 62)) 71)) 75)) 81) (zr none (up2 (cr_X3_init_75 (zr none (up2 (cr_X0_init_71 (zr none (up2 (cr_X5_init_62 (zr none (up2 (cr_X0_init_58 (zr none (up2 (cr_X5_init_49 (zr none (up2 (cr_X0_init_45 (zr none (up2 (cr_X5_init_36 (zr none (up2 (zr none (up2 (zr none (up2 (zr none (up2 (cr_X9_init_25 (zr none (up2 (cr_X0_init_21 (zr none (up2 (cr_X5_init_12 (zr none (up2 (cr_X6_init_2 (zr none (up2 (zr none R 1) 0 0 (some 1)) 2)) 0 4 (some 2)) 12)) 0 5 (some 12)) 21)) 0 6 (some 21)) 25)) 0 7 (some 25)) 33) 0 8 (some 33)) 34) 0 9 (some 34)) 35) 0 10 (some 35)) 36)) 33 0 (some 36)) 45)) 34 0 (some 45)) 49)) 33 1 (some 49)) 58)) 34 1 (some 58)) 62)) 33 2 (some 62)) 71)) 34 2 (some 71)) 75)) 0 11 (some 75)) 81)) (Nat.le_of_ble_eq_true rfl) ok_X3_init ml_X11_67 (Nat.le_of_ble_eq_true rfl) (Nat.le_of_ble_eq_true rfl) (Nat.le_of_ble_eq_true rfl) dX11_init_170 ?_
  show q_Gs w g 173 [(1, .int 3), (0, .ref 0)] [.ref 81, .ref 0] (87, (ci_X3_init_81 (zr 0 (ci_X3_init_75 (zr 0 (ci_X0_init_71 (zr 0 (ci_X5_init_62 (zr 0 (ci_X0_init_58 (zr 0 (ci_X5_init_49 (zr 0 (ci_X0_init_45 (zr 0 (ci_X5_init_36 (zr 0 (zr 0 (zr 0 (zr 0 (ci_X9_init_25 (zr 0 (ci_X0_init_21 (zr 0 (ci_X5_init_12 (zr 0 (ci_X6_init_2 (zr 0 (up2 (up2 (up2 (zr 0 I 1) 0 1 0) 0 2 0) 0 3 (-1)) 2)) 12)) 21)) 25)) 33) 34) 35) 36)) 45)) 49)) 58)) 62)) 71)) 75)) 81)), (cl_X3_init_81 (zr 0 (cl_X3_init_75 (zr 0 (cl_X0_init_71 (zr 0 (cl_X5_init_62 (zr 0 (cl_X0_init_58 (zr 0 (cl_X5_init_49 (zr 0 (cl_X0_init_45 (zr 0 (cl_X5_init_36 (zr 0 (zr 0 (zr 0 (zr 0 (cl_X9_init_25 (zr 0 (cl_X0_init_21 (zr 0 (cl_X5_init_12 (zr 0 (cl_X6_init_2 (zr 0 (zr 0 L 1) 2)) 12)) 21)) 25)) 33) 34) 35) 36)) 45)) 49)) 58)) 62)) 71)) 75)) 81)), (cr_X3_init_81 (zr none (up2 (cr_X3_init_75 (zr none (up2 (cr_X0_init_71 (zr none (up2 (cr_X5_init_62 (zr none (up2 (cr_X0_init_58 (zr none (up2 (cr_X5_init_49 (zr none (up2 (cr_X0_init_45 (zr none (up2 (cr_X5_init_36 (zr none (up2 (zr none (up2 (zr none (up2 (zr none (up2 (cr_X9_init_25 (zr none (up2 (cr_X0_init_21 (zr none (up2 (cr_X5_init_12 (zr none (up2 (cr_X6_init_2 (zr none (up2 (zr none R 1) 0 0 (some 1)) 2)) 0 4 (some 2)) 12)) 0 5 (some 12)) 21)) 0 6 (some 21)) 25)) 0 7 (some 25)) 33) 0 8 (some 33)) 34) 0 9 (some 34)) 35) 0 10 (some 35)) 36)) 33 0 (some 36)) 45)) 34 0 (some 45)) 49)) 33 1 (some 49)) 58)) 34 1 (some 58)) 62)) 33 2 (some 62)) 71)) 34 2 (some 71)) 75)) 0 11 (some 75)) 81)))
  refine g_putF K1 q_clX11 12 (Nat.le_of_ble_eq_true rfl) lyp_0.1 fkX11_12.1 fkX11_12.2 fl_X11_74 rfl rfl rfl (fun _ => rfl) (fun _ => rfl) dX11_init_173 ?_
  show q_Gs w g 176 [(1, .int 3), (0, .ref 0)] [] (87, (ci_X3_init_81 (zr 0 (ci_X3_init_75 (zr 0 (ci_X0_init_71 (zr 0 (ci_X5_init_62 (zr 0 (ci_X0_init_58 (zr 0 (ci_X5_init_49 (zr 0 (ci_X0_init_45 (zr 0 (ci_X5_init_36 (zr 0 (zr 0 (zr 0 (zr 0 (ci_X9_init_25 (zr 0 (ci_X0_init_21 (zr 0 (ci_X5_init_12 (zr 0 (ci_X6_init_2 (zr 0 (up2 (up2 (up2 (zr 0 I 1) 0 1 0) 0 2 0) 0 3 (-1)) 2)) 12)) 21)) 25)) 33) 34) 35) 36)) 45)) 49)) 58)) 62)) 71)) 75)) 81)), (cl_X3_init_81 (zr 0 (cl_X3_init_75 (zr 0 (cl_X0_init_71 (zr 0 (cl_X5_init_62 (zr 0 (cl_X0_init_58 (zr 0 (cl_X5_init_49 (zr 0 (cl_X0_init_45 (zr 0 (cl_X5_init_36 (zr 0 (zr 0 (zr 0 (zr 0 (cl_X9_init_25 (zr 0 (cl_X0_init_21 (zr 0 (cl_X5_init_12 (zr 0 (cl_X6_init_2 (zr 0 (zr 0 L 1) 2)) 12)) 21)) 25)) 33) 34) 35) 36)) 45)) 49)) 58)) 62)) 71)) 75)) 81)), (up2 (cr_X3_init_81 (zr none (up2 (cr_X3_init_75 (zr none (up2 (cr_X0_init_71 (zr none (up2 (cr_X5_init_62 (zr none (up2 (cr_X0_init_58 (zr none (up2 (cr_X5_init_49 (zr none (up2 (cr_X0_init_45 (zr none (up2 (cr_X5_init_36 (zr none (up2 (zr none (up2 (zr none (up2 (zr none (up2 (cr_X9_init_25 (zr none (up2 (cr_X0_init_21 (zr none (up2 (cr_X5_init_12 (zr none (up2 (cr_X6_init_2 (zr none (up2 (zr none R 1) 0 0 (some 1)) 2)) 0 4 (some 2)) 12)) 0 5 (some 12)) 21)) 0 6 (some 21)) 25)) 0 7 (some 25)) 33) 0 8 (some 33)) 34) 0 9 (some 34)) 35) 0 10 (some 35)) 36)) 33 0 (some 36)) 45)) 34 0 (some 45)) 49)) 33 1 (some 49)) 58)) 34 1 (some 58)) 62)) 33 2 (some 62)) 71)) 34 2 (some 71)) 75)) 0 11 (some 75)) 81)) 0 12 (some 81)))
  refine g_aload_n K1 1 dX11_init_176 rfl ?_
  refine g_new K1 q_clX10 df_X10 lyp_87.1 szp_87 (Nat.le_of_ble_eq_true rfl) (Nat.le_of_ble_eq_true rfl) kl_X11_77 in_X10 it_X10 dX11_init_177 ?_
  show q_Gs w g 180 [(1, .int 3), (0, .ref 0)] [.ref 87, .ref 0] (88, (zr 0 (ci_X3_init_81 (zr 0 (ci_X3_init_75 (zr 0 (ci_X0_init_71 (zr 0 (ci_X5_init_62 (zr 0 (ci_X0_init_58 (zr 0 (ci_X5_init_49 (zr 0 (ci_X0_init_45 (zr 0 (ci_X5_init_36 (zr 0 (zr 0 (zr 0 (zr 0 (ci_X9_init_25 (zr 0 (ci_X0_init_21 (zr 0 (ci_X5_init_12 (zr 0 (ci_X6_init_2 (zr 0 (up2 (up2 (up2 (zr 0 I 1) 0 1 0) 0 2 0) 0 3 (-1)) 2)) 12)) 21)) 25)) 33) 34) 35) 36)) 45)) 49)) 58)) 62)) 71)) 75)) 81)) 87), (zr 0 (cl_X3_init_81 (zr 0 (cl_X3_init_75 (zr 0 (cl_X0_init_71 (zr 0 (cl_X5_init_62 (zr 0 (cl_X0_init_58 (zr 0 (cl_X5_init_49 (zr 0 (cl_X0_init_45 (zr 0 (cl_X5_init_36 (zr 0 (zr 0 (zr 0 (zr 0 (cl_X9_init_25 (zr 0 (cl_X0_init_21 (zr 0 (cl_X5_init_12 (zr 0 (cl_X6_init_2 (zr 0 (zr 0 L 1) 2)) 12)) 21)) 25)) 33) 34) 35) 36)) 45)) 49)) 58)) 62)) 71)) 75)) 81)) 87), (zr none (up2 (cr_X3_init_81 (zr none (up2 (cr_X3_init_75 (zr none (up2 (cr_X0_init_71 (zr none (up2 (cr_X5_init_62 (zr none (up2 (cr_X0_init_58 (zr none (up2 (cr_X5_init_49 (zr none (up2 (cr_X0_init_45 (zr none (up2 (cr_X5_init_36 (zr none (up2 (zr none (up2 (zr none (up2 (zr none (up2 (cr_X9_init_25 (zr none (up2 (cr_X0_init_21 (zr none (up2 (cr_X5_init_12 (zr none (up2 (cr_X6_init_2 (zr none (up2 (zr none R 1) 0 0 (some 1)) 2)) 0 4 (some 2)) 12)) 0 5 (some 12)) 21)) 0 6 (some 21)) 25)) 0 7 (some 25)) 33) 0 8 (some 33)) 34) 0 9 (some 34)) 35) 0 10 (some 35)) 36)) 33 0 (some 36)) 45)) 34 0 (some 45)) 49)) 33 1 (some 49)) 58)) 34 1 (some 58)) 62)) 33 2 (some 62)) 71)) 34 2 (some 71)) 75)) 0 11 (some 75)) 81)) 0 12 (some 81)) 87))
  refine g_dup K1 dX11_init_180 rfl ?_
  refine g_aload_n K1 1 dX11_init_181 rfl ?_
  refine g_getO K1 q_clX11 5 12 (Nat.le_of_ble_eq_true rfl) lyp_0.1 fkX11_5.1 fkX11_5.2 rfl fl_X11_35 dX11_init_182 ?_
  refine g_aload_n K1 1 dX11_init_185 rfl ?_
  refine g_getO K1 q_clX11 12 81 (Nat.le_of_ble_eq_true rfl) lyp_0.1 fkX11_12.1 fkX11_12.2 rfl fl_X11_74 dX11_init_186 ?_
  refine g_callI K1 (st := [.ref 87, .ref 0]) [.ref 12, .ref 81] (cc_X10_init_87 w (gl g) (zr 0 (ci_X3_init_81 (zr 0 (ci_X3_init_75 (zr 0 (ci_X0_init_71 (zr 0 (ci_X5_init_62 (zr 0 (ci_X0_init_58 (zr 0 (ci_X5_init_49 (zr 0 (ci_X0_init_45 (zr 0 (ci_X5_init_36 (zr 0 (zr 0 (zr 0 (zr 0 (ci_X9_init_25 (zr 0 (ci_X0_init_21 (zr 0 (ci_X5_init_12 (zr 0 (ci_X6_init_2 (zr 0 (up2 (up2 (up2 (zr 0 I 1) 0 1 0) 0 2 0) 0 3 (-1)) 2)) 12)) 21)) 25)) 33) 34) 35) 36)) 45)) 49)) 58)) 62)) 71)) 75)) 81)) 87) (zr 0 (cl_X3_init_81 (zr 0 (cl_X3_init_75 (zr 0 (cl_X0_init_71 (zr 0 (cl_X5_init_62 (zr 0 (cl_X0_init_58 (zr 0 (cl_X5_init_49 (zr 0 (cl_X0_init_45 (zr 0 (cl_X5_init_36 (zr 0 (zr 0 (zr 0 (zr 0 (cl_X9_init_25 (zr 0 (cl_X0_init_21 (zr 0 (cl_X5_init_12 (zr 0 (cl_X6_init_2 (zr 0 (zr 0 L 1) 2)) 12)) 21)) 25)) 33) 34) 35) 36)) 45)) 49)) 58)) 62)) 71)) 75)) 81)) 87) (zr none (up2 (cr_X3_init_81 (zr none (up2 (cr_X3_init_75 (zr none (up2 (cr_X0_init_71 (zr none (up2 (cr_X5_init_62 (zr none (up2 (cr_X0_init_58 (zr none (up2 (cr_X5_init_49 (zr none (up2 (cr_X0_init_45 (zr none (up2 (cr_X5_init_36 (zr none (up2 (zr none (up2 (zr none (up2 (zr none (up2 (cr_X9_init_25 (zr none (up2 (cr_X0_init_21 (zr none (up2 (cr_X5_init_12 (zr none (up2 (cr_X6_init_2 (zr none (up2 (zr none R 1) 0 0 (some 1)) 2)) 0 4 (some 2)) 12)) 0 5 (some 12)) 21)) 0 6 (some 21)) 25)) 0 7 (some 25)) 33) 0 8 (some 33)) 34) 0 9 (some 34)) 35) 0 10 (some 35)) 36)) 33 0 (some 36)) 45)) 34 0 (some 45)) 49)) 33 1 (some 49)) 58)) 34 1 (some 58)) 62)) 33 2 (some 62)) 71)) 34 2 (some 71)) 75)) 0 11 (some 75)) 81)) 0 12 (some 81)) 87)) (Nat.le_of_ble_eq_true rfl) ok_X10_init ml_X11_79 (Nat.le_of_ble_eq_true rfl) (Nat.le_of_ble_eq_true rfl) (Nat.le_of_ble_eq_true rfl) dX11_init_189 ?_
  show q_Gs w g 192 [(1, .int 3), (0, .ref 0)] [.ref 87, .ref 0] (88, (ci_X10_init_87 (zr 0 (ci_X3_init_81 (zr 0 (ci_X3_init_75 (zr 0 (ci_X0_init_71 (zr 0 (ci_X5_init_62 (zr 0 (ci_X0_init_58 (zr 0 (ci_X5_init_49 (zr 0 (ci_X0_init_45 (zr 0 (ci_X5_init_36 (zr 0 (zr 0 (zr 0 (zr 0 (ci_X9_init_25 (zr 0 (ci_X0_init_21 (zr 0 (ci_X5_init_12 (zr 0 (ci_X6_init_2 (zr 0 (up2 (up2 (up2 (zr 0 I 1) 0 1 0) 0 2 0) 0 3 (-1)) 2)) 12)) 21)) 25)) 33) 34) 35) 36)) 45)) 49)) 58)) 62)) 71)) 75)) 81)) 87)), (cl_X10_init_87 (zr 0 (cl_X3_init_81 (zr 0 (cl_X3_init_75 (zr 0 (cl_X0_init_71 (zr 0 (cl_X5_init_62 (zr 0 (cl_X0_init_58 (zr 0 (cl_X5_init_49 (zr 0 (cl_X0_init_45 (zr 0 (cl_X5_init_36 (zr 0 (zr 0 (zr 0 (zr 0 (cl_X9_init_25 (zr 0 (cl_X0_init_21 (zr 0 (cl_X5_init_12 (zr 0 (cl_X6_init_2 (zr 0 (zr 0 L 1) 2)) 12)) 21)) 25)) 33) 34) 35) 36)) 45)) 49)) 58)) 62)) 71)) 75)) 81)) 87)), (cr_X10_init_87 (zr none (up2 (cr_X3_init_81 (zr none (up2 (cr_X3_init_75 (zr none (up2 (cr_X0_init_71 (zr none (up2 (cr_X5_init_62 (zr none (up2 (cr_X0_init_58 (zr none (up2 (cr_X5_init_49 (zr none (up2 (cr_X0_init_45 (zr none (up2 (cr_X5_init_36 (zr none (up2 (zr none (up2 (zr none (up2 (zr none (up2 (cr_X9_init_25 (zr none (up2 (cr_X0_init_21 (zr none (up2 (cr_X5_init_12 (zr none (up2 (cr_X6_init_2 (zr none (up2 (zr none R 1) 0 0 (some 1)) 2)) 0 4 (some 2)) 12)) 0 5 (some 12)) 21)) 0 6 (some 21)) 25)) 0 7 (some 25)) 33) 0 8 (some 33)) 34) 0 9 (some 34)) 35) 0 10 (some 35)) 36)) 33 0 (some 36)) 45)) 34 0 (some 45)) 49)) 33 1 (some 49)) 58)) 34 1 (some 58)) 62)) 33 2 (some 62)) 71)) 34 2 (some 71)) 75)) 0 11 (some 75)) 81)) 0 12 (some 81)) 87)))
  refine g_putF K1 q_clX11 13 (Nat.le_of_ble_eq_true rfl) lyp_0.1 fkX11_13.1 fkX11_13.2 fl_X11_82 rfl rfl rfl (fun _ => rfl) (fun _ => rfl) dX11_init_192 ?_
  show q_Gs w g 195 [(1, .int 3), (0, .ref 0)] [] (88, (ci_X10_init_87 (zr 0 (ci_X3_init_81 (zr 0 (ci_X3_init_75 (zr 0 (ci_X0_init_71 (zr 0 (ci_X5_init_62 (zr 0 (ci_X0_init_58 (zr 0 (ci_X5_init_49 (zr 0 (ci_X0_init_45 (zr 0 (ci_X5_init_36 (zr 0 (zr 0 (zr 0 (zr 0 (ci_X9_init_25 (zr 0 (ci_X0_init_21 (zr 0 (ci_X5_init_12 (zr 0 (ci_X6_init_2 (zr 0 (up2 (up2 (up2 (zr 0 I 1) 0 1 0) 0 2 0) 0 3 (-1)) 2)) 12)) 21)) 25)) 33) 34) 35) 36)) 45)) 49)) 58)) 62)) 71)) 75)) 81)) 87)), (cl_X10_init_87 (zr 0 (cl_X3_init_81 (zr 0 (cl_X3_init_75 (zr 0 (cl_X0_init_71 (zr 0 (cl_X5_init_62 (zr 0 (cl_X0_init_58 (zr 0 (cl_X5_init_49 (zr 0 (cl_X0_init_45 (zr 0 (cl_X5_init_36 (zr 0 (zr 0 (zr 0 (zr 0 (cl_X9_init_25 (zr 0 (cl_X0_init_21 (zr 0 (cl_X5_init_12 (zr 0 (cl_X6_init_2 (zr 0 (zr 0 L 1) 2)) 12)) 21)) 25)) 33) 34) 35) 36)) 45)) 49)) 58)) 62)) 71)) 75)) 81)) 87)), (up2 (cr_X10_init_87 (zr none (up2 (cr_X3_init_81 (zr none (up2 (cr_X3_init_75 (zr none (up2 (cr_X0_init_71 (zr none (up2 (cr_X5_init_62 (zr none (up2 (cr_X0_init_58 (zr none (up2 (cr_X5_init_49 (zr none (up2 (cr_X0_init_45 (zr none (up2 (cr_X5_init_36 (zr none (up2 (zr none (up2 (zr none (up2 (zr none (up2 (cr_X9_init_25 (zr none (up2 (cr_X0_init_21 (zr none (up2 (cr_X5_init_12 (zr none (up2 (cr_X6_init_2 (zr none (up2 (zr none R 1) 0 0 (some 1)) 2)) 0 4 (some 2)) 12)) 0 5 (some 12)) 21)) 0 6 (some 21)) 25)) 0 7 (some 25)) 33) 0 8 (some 33)) 34) 0 9 (some 34)) 35) 0 10 (some 35)) 36)) 33 0 (some 36)) 45)) 34 0 (some 45)) 49)) 33 1 (some 49)) 58)) 34 1 (some 58)) 62)) 33 2 (some 62)) 71)) 34 2 (some 71)) 75)) 0 11 (some 75)) 81)) 0 12 (some 81)) 87)) 0 13 (some 87)))
  refine g_aload_n K1 1 dX11_init_195 rfl ?_
  refine g_new K1 q_clX8 df_X8 lyp_88.1 szp_88 (Nat.le_of_ble_eq_true rfl) (Nat.le_of_ble_eq_true rfl) kl_X11_86 in_X8 it_X8 dX11_init_196 ?_
  show q_Gs w g 199 [(1, .int 3), (0, .ref 0)] [.ref 88, .ref 0] (89, (zr 0 (ci_X10_init_87 (zr 0 (ci_X3_init_81 (zr 0 (ci_X3_init_75 (zr 0 (ci_X0_init_71 (zr 0 (ci_X5_init_62 (zr 0 (ci_X0_init_58 (zr 0 (ci_X5_init_49 (zr 0 (ci_X0_init_45 (zr 0 (ci_X5_init_36 (zr 0 (zr 0 (zr 0 (zr 0 (ci_X9_init_25 (zr 0 (ci_X0_init_21 (zr 0 (ci_X5_init_12 (zr 0 (ci_X6_init_2 (zr 0 (up2 (up2 (up2 (zr 0 I 1) 0 1 0) 0 2 0) 0 3 (-1)) 2)) 12)) 21)) 25)) 33) 34) 35) 36)) 45)) 49)) 58)) 62)) 71)) 75)) 81)) 87)) 88), (zr 0 (cl_X10_init_87 (zr 0 (cl_X3_init_81 (zr 0 (cl_X3_init_75 (zr 0 (cl_X0_init_71 (zr 0 (cl_X5_init_62 (zr 0 (cl_X0_init_58 (zr 0 (cl_X5_init_49 (zr 0 (cl_X0_init_45 (zr 0 (cl_X5_init_36 (zr 0 (zr 0 (zr 0 (zr 0 (cl_X9_init_25 (zr 0 (cl_X0_init_21 (zr 0 (cl_X5_init_12 (zr 0 (cl_X6_init_2 (zr 0 (zr 0 L 1) 2)) 12)) 21)) 25)) 33) 34) 35) 36)) 45)) 49)) 58)) 62)) 71)) 75)) 81)) 87)) 88), (zr none (up2 (cr_X10_init_87 (zr none (up2 (cr_X3_init_81 (zr none (up2 (cr_X3_init_75 (zr none (up2 (cr_X0_init_71 (zr none (up2 (cr_X5_init_62 (zr none (up2 (cr_X0_init_58 (zr none (up2 (cr_X5_init_49 (zr none (up2 (cr_X0_init_45 (zr none (up2 (cr_X5_init_36 (zr none (up2 (zr none (up2 (zr none (up2 (zr none (up2 (cr_X9_init_25 (zr none (up2 (cr_X0_init_21 (zr none (up2 (cr_X5_init_12 (zr none (up2 (cr_X6_init_2 (zr none (up2 (zr none R 1) 0 0 (some 1)) 2)) 0 4 (some 2)) 12)) 0 5 (some 12)) 21)) 0 6 (some 21)) 25)) 0 7 (some 25)) 33) 0 8 (some 33)) 34) 0 9 (some 34)) 35) 0 10 (some 35)) 36)) 33 0 (some 36)) 45)) 34 0 (some 45)) 49)) 33 1 (some 49)) 58)) 34 1 (some 58)) 62)) 33 2 (some 62)) 71)) 34 2 (some 71)) 75)) 0 11 (some 75)) 81)) 0 12 (some 81)) 87)) 0 13 (some 87)) 88))
  refine g_dup K1 dX11_init_199 rfl ?_
  refine g_aload_n K1 1 dX11_init_200 rfl ?_
  refine g_getO K1 q_clX11 5 12 (Nat.le_of_ble_eq_true rfl) lyp_0.1 fkX11_5.1 fkX11_5.2 rfl fl_X11_35 dX11_init_201 ?_
  refine g_aload_n K1 1 dX11_init_204 rfl ?_
  refine g_getO K1 q_clX11 12 81 (Nat.le_of_ble_eq_true rfl) lyp_0.1 fkX11_12.1 fkX11_12.2 rfl fl_X11_74 dX11_init_205 ?_
  refine g_callI K1 (st := [.ref 88, .ref 0]) [.ref 12, .ref 81] (cc_X8_init_88 w (gl g) (zr 0 (ci_X10_init_87 (zr 0 (ci_X3_init_81 (zr 0 (ci_X3_init_75 (zr 0 (ci_X0_init_71 (zr 0 (ci_X5_init_62 (zr 0 (ci_X0_init_58 (zr 0 (ci_X5_init_49 (zr 0 (ci_X0_init_45 (zr 0 (ci_X5_init_36 (zr 0 (zr 0 (zr 0 (zr 0 (ci_X9_init_25 (zr 0 (ci_X0_init_21 (zr 0 (ci_X5_init_12 (zr 0 (ci_X6_init_2 (zr 0 (up2 (up2 (up2 (zr 0 I 1) 0 1 0) 0 2 0) 0 3 (-1)) 2)) 12)) 21)) 25)) 33) 34) 35) 36)) 45)) 49)) 58)) 62)) 71)) 75)) 81)) 87)) 88) (zr 0 (cl_X10_init_87 (zr 0 (cl_X3_init_81 (zr 0 (cl_X3_init_75 (zr 0 (cl_X0_init_71 (zr 0 (cl_X5_init_62 (zr 0 (cl_X0_init_58 (zr 0 (cl_X5_init_49 (zr 0 (cl_X0_init_45 (zr 0 (cl_X5_init_36 (zr 0 (zr 0 (zr 0 (zr 0 (cl_X9_init_25 (zr 0 (cl_X0_init_21 (zr 0 (cl_X5_init_12 (zr 0 (cl_X6_init_2 (zr 0 (zr 0 L 1) 2)) 12)) 21)) 25)) 33) 34) 35) 36)) 45)) 49)) 58)) 62)) 71)) 75)) 81)) 87)) 88) (zr none (up2 (cr_X10_init_87 (zr none (up2 (cr_X3_init_81 (zr none (up2 (cr_X3_init_75 (zr none (up2 (cr_X0_init_71 (zr none (up2 (cr_X5_init_62 (zr none (up2 (cr_X0_init_58 (zr none (up2 (cr_X5_init_49 (zr none (up2 (cr_X0_init_45 (zr none (up2 (cr_X5_init_36 (zr none (up2 (zr none (up2 (zr none (up2 (zr none (up2 (cr_X9_init_25 (zr none (up2 (cr_X0_init_21 (zr none (up2 (cr_X5_init_12 (zr none (up2 (cr_X6_init_2 (zr none (up2 (zr none R 1) 0 0 (some 1)) 2)) 0 4 (some 2)) 12)) 0 5 (some 12)) 21)) 0 6 (some 21)) 25)) 0 7 (some 25)) 33) 0 8 (some 33)) 34) 0 9 (some 34)) 35) 0 10 (some 35)) 36)) 33 0 (some 36)) 45)) 34 0 (some 45)) 49)) 33 1 (some 49)) 58)) 34 1 (some 58)) 62)) 33 2 (some 62)) 71)) 34 2 (some 71)) 75)) 0 11 (some 75)) 81)) 0 12 (some 81)) 87)) 0 13 (some 87)) 88)) (Nat.le_of_ble_eq_true rfl) ok_X8_init ml_X11_88 (Nat.le_of_ble_eq_true rfl) (Nat.le_of_ble_eq_true rfl) (Nat.le_of_ble_eq_true rfl) dX11_init_208 ?_
  show q_Gs w g 211 [(1, .int 3), (0, .ref 0)] [.ref 88, .ref 0] (90, (ci_X8_init_88 (zr 0 (ci_X10_init_87 (zr 0 (ci_X3_init_81 (zr 0 (ci_X3_init_75 (zr 0 (ci_X0_init_71 (zr 0 (ci_X5_init_62 (zr 0 (ci_X0_init_58 (zr 0 (ci_X5_init_49 (zr 0 (ci_X0_init_45 (zr 0 (ci_X5_init_36 (zr 0 (zr 0 (zr 0 (zr 0 (ci_X9_init_25 (zr 0 (ci_X0_init_21 (zr 0 (ci_X5_init_12 (zr 0 (ci_X6_init_2 (zr 0 (up2 (up2 (up2 (zr 0 I 1) 0 1 0) 0 2 0) 0 3 (-1)) 2)) 12)) 21)) 25)) 33) 34) 35) 36)) 45)) 49)) 58)) 62)) 71)) 75)) 81)) 87)) 88)), (cl_X8_init_88 (zr 0 (cl_X10_init_87 (zr 0 (cl_X3_init_81 (zr 0 (cl_X3_init_75 (zr 0 (cl_X0_init_71 (zr 0 (cl_X5_init_62 (zr 0 (cl_X0_init_58 (zr 0 (cl_X5_init_49 (zr 0 (cl_X0_init_45 (zr 0 (cl_X5_init_36 (zr 0 (zr 0 (zr 0 (zr 0 (cl_X9_init_25 (zr 0 (cl_X0_init_21 (zr 0 (cl_X5_init_12 (zr 0 (cl_X6_init_2 (zr 0 (zr 0 L 1) 2)) 12)) 21)) 25)) 33) 34) 35) 36)) 45)) 49)) 58)) 62)) 71)) 75)) 81)) 87)) 88)), (cr_X8_init_88 (zr none (up2 (cr_X10_init_87 (zr none (up2 (cr_X3_init_81 (zr none (up2 (cr_X3_init_75 (zr none (up2 (cr_X0_init_71 (zr none (up2 (cr_X5_init_62 (zr none (up2 (cr_X0_init_58 (zr none (up2 (cr_X5_init_49 (zr none (up2 (cr_X0_init_45 (zr none (up2 (cr_X5_init_36 (zr none (up2 (zr none (up2 (zr none (up2 (zr none (up2 (cr_X9_init_25 (zr none (up2 (cr_X0_init_21 (zr none (up2 (cr_X5_init_12 (zr none (up2 (cr_X6_init_2 (zr none (up2 (zr none R 1) 0 0 (some 1)) 2)) 0 4 (some 2)) 12)) 0 5 (some 12)) 21)) 0 6 (some 21)) 25)) 0 7 (some 25)) 33) 0 8 (some 33)) 34) 0 9 (some 34)) 35) 0 10 (some 35)) 36)) 33 0 (some 36)) 45)) 34 0 (some 45)) 49)) 33 1 (some 49)) 58)) 34 1 (some 58)) 62)) 33 2 (some 62)) 71)) 34 2 (some 71)) 75)) 0 11 (some 75)) 81)) 0 12 (some 81)) 87)) 0 13 (some 87)) 88)))
  refine g_putF K1 q_clX11 14 (Nat.le_of_ble_eq_true rfl) lyp_0.1 fkX11_14.1 fkX11_14.2 fl_X11_89 rfl rfl rfl (fun _ => rfl) (fun _ => rfl) dX11_init_211 ?_
  show q_Gs w g 214 [(1, .int 3), (0, .ref 0)] [] (90, (ci_X8_init_88 (zr 0 (ci_X10_init_87 (zr 0 (ci_X3_init_81 (zr 0 (ci_X3_init_75 (zr 0 (ci_X0_init_71 (zr 0 (ci_X5_init_62 (zr 0 (ci_X0_init_58 (zr 0 (ci_X5_init_49 (zr 0 (ci_X0_init_45 (zr 0 (ci_X5_init_36 (zr 0 (zr 0 (zr 0 (zr 0 (ci_X9_init_25 (zr 0 (ci_X0_init_21 (zr 0 (ci_X5_init_12 (zr 0 (ci_X6_init_2 (zr 0 (up2 (up2 (up2 (zr 0 I 1) 0 1 0) 0 2 0) 0 3 (-1)) 2)) 12)) 21)) 25)) 33) 34) 35) 36)) 45)) 49)) 58)) 62)) 71)) 75)) 81)) 87)) 88)), (cl_X8_init_88 (zr 0 (cl_X10_init_87 (zr 0 (cl_X3_init_81 (zr 0 (cl_X3_init_75 (zr 0 (cl_X0_init_71 (zr 0 (cl_X5_init_62 (zr 0 (cl_X0_init_58 (zr 0 (cl_X5_init_49 (zr 0 (cl_X0_init_45 (zr 0 (cl_X5_init_36 (zr 0 (zr 0 (zr 0 (zr 0 (cl_X9_init_25 (zr 0 (cl_X0_init_21 (zr 0 (cl_X5_init_12 (zr 0 (cl_X6_init_2 (zr 0 (zr 0 L 1) 2)) 12)) 21)) 25)) 33) 34) 35) 36)) 45)) 49)) 58)) 62)) 71)) 75)) 81)) 87)) 88)), (up2 (cr_X8_init_88 (zr none (up2 (cr_X10_init_87 (zr none (up2 (cr_X3_init_81 (zr none (up2 (cr_X3_init_75 (zr none (up2 (cr_X0_init_71 (zr none (up2 (cr_X5_init_62 (zr none (up2 (cr_X0_init_58 (zr none (up2 (cr_X5_init_49 (zr none (up2 (cr_X0_init_45 (zr none (up2 (cr_X5_init_36 (zr none (up2 (zr none (up2 (zr none (up2 (zr none (up2 (cr_X9_init_25 (zr none (up2 (cr_X0_init_21 (zr none (up2 (cr_X5_init_12 (zr none (up2 (cr_X6_init_2 (zr none (up2 (zr none R 1) 0 0 (some 1)) 2)) 0 4 (some 2)) 12)) 0 5 (some 12)) 21)) 0 6 (some 21)) 25)) 0 7 (some 25)) 33) 0 8 (some 33)) 34) 0 9 (some 34)) 35) 0 10 (some 35)) 36)) 33 0 (some 36)) 45)) 34 0 (some 45)) 49)) 33 1 (some 49)) 58)) 34 1 (some 58)) 62)) 33 2 (some 62)) 71)) 34 2 (some 71)) 75)) 0 11 (some 75)) 81)) 0 12 (some 81)) 87)) 0 13 (some 87)) 88)) 0 14 (some 88)))
  refine g_aload_n K1 1 dX11_init_214 rfl ?_
  refine g_new K1 q_clX4 df_X4 lyp_90.1 szp_90 (Nat.le_of_ble_eq_true rfl) (Nat.le_of_ble_eq_true rfl) kl_X11_93 in_X4 it_X4 dX11_init_215 ?_
  show q_Gs w g 218 [(1, .int 3), (0, .ref 0)] [.ref 90, .ref 0] (91, (zr 0 (ci_X8_init_88 (zr 0 (ci_X10_init_87 (zr 0 (ci_X3_init_81 (zr 0 (ci_X3_init_75 (zr 0 (ci_X0_init_71 (zr 0 (ci_X5_init_62 (zr 0 (ci_X0_init_58 (zr 0 (ci_X5_init_49 (zr 0 (ci_X0_init_45 (zr 0 (ci_X5_init_36 (zr 0 (zr 0 (zr 0 (zr 0 (ci_X9_init_25 (zr 0 (ci_X0_init_21 (zr 0 (ci_X5_init_12 (zr 0 (ci_X6_init_2 (zr 0 (up2 (up2 (up2 (zr 0 I 1) 0 1 0) 0 2 0) 0 3 (-1)) 2)) 12)) 21)) 25)) 33) 34) 35) 36)) 45)) 49)) 58)) 62)) 71)) 75)) 81)) 87)) 88)) 90), (zr 0 (cl_X8_init_88 (zr 0 (cl_X10_init_87 (zr 0 (cl_X3_init_81 (zr 0 (cl_X3_init_75 (zr 0 (cl_X0_init_71 (zr 0 (cl_X5_init_62 (zr 0 (cl_X0_init_58 (zr 0 (cl_X5_init_49 (zr 0 (cl_X0_init_45 (zr 0 (cl_X5_init_36 (zr 0 (zr 0 (zr 0 (zr 0 (cl_X9_init_25 (zr 0 (cl_X0_init_21 (zr 0 (cl_X5_init_12 (zr 0 (cl_X6_init_2 (zr 0 (zr 0 L 1) 2)) 12)) 21)) 25)) 33) 34) 35) 36)) 45)) 49)) 58)) 62)) 71)) 75)) 81)) 87)) 88)) 90), (zr none (up2 (cr_X8_init_88 (zr none (up2 (cr_X10_init_87 (zr none (up2 (cr_X3_init_81 (zr none (up2 (cr_X3_init_75 (zr none (up2 (cr_X0_init_71 (zr none (up2 (cr_X5_init_62 (zr none (up2 (cr_X0_init_58 (zr none (up2 (cr_X5_init_49 (zr none (up2 (cr_X0_init_45 (zr none (up2 (cr_X5_init_36 (zr none (up2 (zr none (up2 (zr none (up2 (zr none (up2 (cr_X9_init_25 (zr none (up2 (cr_X0_init_21 (zr none (up2 (cr_X5_init_12 (zr none (up2 (cr_X6_init_2 (zr none (up2 (zr none R 1) 0 0 (some 1)) 2)) 0 4 (some 2)) 12)) 0 5 (some 12)) 21)) 0 6 (some 21)) 25)) 0 7 (some 25)) 33) 0 8 (some 33)) 34) 0 9 (some 34)) 35) 0 10 (some 35)) 36)) 33 0 (some 36)) 45)) 34 0 (some 45)) 49)) 33 1 (some 49)) 58)) 34 1 (some 58)) 62)) 33 2 (some 62)) 71)) 34 2 (some 71)) 75)) 0 11 (some 75)) 81)) 0 12 (some 81)) 87)) 0 13 (some 87)) 88)) 0 14 (some 88)) 90))
  refine g_dup K1 dX11_init_218 rfl ?_
  refine g_aload_n K1 1 dX11_init_219 rfl ?_
  refine g_getO K1 q_clX11 5 12 (Nat.le_of_ble_eq_true rfl) lyp_0.1 fkX11_5.1 fkX11_5.2 rfl fl_X11_35 dX11_init_220 ?_
  refine g_aload_n K1 1 dX11_init_223 rfl ?_
  refine g_getO K1 q_clX11 12 81 (Nat.le_of_ble_eq_true rfl) lyp_0.1 fkX11_12.1 fkX11_12.2 rfl fl_X11_74 dX11_init_224 ?_
  refine g_callI K1 (st := [.ref 90, .ref 0]) [.ref 12, .ref 81] (cc_X4_init_90 w (gl g) (zr 0 (ci_X8_init_88 (zr 0 (ci_X10_init_87 (zr 0 (ci_X3_init_81 (zr 0 (ci_X3_init_75 (zr 0 (ci_X0_init_71 (zr 0 (ci_X5_init_62 (zr 0 (ci_X0_init_58 (zr 0 (ci_X5_init_49 (zr 0 (ci_X0_init_45 (zr 0 (ci_X5_init_36 (zr 0 (zr 0 (zr 0 (zr 0 (ci_X9_init_25 (zr 0 (ci_X0_init_21 (zr 0 (ci_X5_init_12 (zr 0 (ci_X6_init_2 (zr 0 (up2 (up2 (up2 (zr 0 I 1) 0 1 0) 0 2 0) 0 3 (-1)) 2)) 12)) 21)) 25)) 33) 34) 35) 36)) 45)) 49)) 58)) 62)) 71)) 75)) 81)) 87)) 88)) 90) (zr 0 (cl_X8_init_88 (zr 0 (cl_X10_init_87 (zr 0 (cl_X3_init_81 (zr 0 (cl_X3_init_75 (zr 0 (cl_X0_init_71 (zr 0 (cl_X5_init_62 (zr 0 (cl_X0_init_58 (zr 0 (cl_X5_init_49 (zr 0 (cl_X0_init_45 (zr 0 (cl_X5_init_36 (zr 0 (zr 0 (zr 0 (zr 0 (cl_X9_init_25 (zr 0 (cl_X0_init_21 (zr 0 (cl_X5_init_12 (zr 0 (cl_X6_init_2 (zr 0 (zr 0 L 1) 2)) 12)) 21)) 25)) 33) 34) 35) 36)) 45)) 49)) 58)) 62)) 71)) 75)) 81)) 87)) 88)) 90) (zr none (up2 (cr_X8_init_88 (zr none (up2 (cr_X10_init_87 (zr none (up2 (cr_X3_init_81 (zr none (up2 (cr_X3_init_75 (zr none (up2 (cr_X0_init_71 (zr none (up2 (cr_X5_init_62 (zr none (up2 (cr_X0_init_58 (zr none (up2 (cr_X5_init_49 (zr none (up2 (cr_X0_init_45 (zr none (up2 (cr_X5_init_36 (zr none (up2 (zr none (up2 (zr none (up2 (zr none (up2 (cr_X9_init_25 (zr none (up2 (cr_X0_init_21 (zr none (up2 (cr_X5_init_12 (zr none (up2 (cr_X6_init_2 (zr none (up2 (zr none R 1) 0 0 (some 1)) 2)) 0 4 (some 2)) 12)) 0 5 (some 12)) 21)) 0 6 (some 21)) 25)) 0 7 (some 25)) 33) 0 8 (some 33)) 34) 0 9 (some 34)) 35) 0 10 (some 35)) 36)) 33 0 (some 36)) 45)) 34 0 (some 45)) 49)) 33 1 (some 49)) 58)) 34 1 (some 58)) 62)) 33 2 (some 62)) 71)) 34 2 (some 71)) 75)) 0 11 (some 75)) 81)) 0 12 (some 81)) 87)) 0 13 (some 87)) 88)) 0 14 (some 88)) 90)) (Nat.le_of_ble_eq_true rfl) ok_X4_init ml_X11_95 (Nat.le_of_ble_eq_true rfl) (Nat.le_of_ble_eq_true rfl) (Nat.le_of_ble_eq_true rfl) dX11_init_227 ?_
  show q_Gs w g 230 [(1, .int 3), (0, .ref 0)] [.ref 90, .ref 0] (92, (ci_X4_init_90 (zr 0 (ci_X8_init_88 (zr 0 (ci_X10_init_87 (zr 0 (ci_X3_init_81 (zr 0 (ci_X3_init_75 (zr 0 (ci_X0_init_71 (zr 0 (ci_X5_init_62 (zr 0 (ci_X0_init_58 (zr 0 (ci_X5_init_49 (zr 0 (ci_X0_init_45 (zr 0 (ci_X5_init_36 (zr 0 (zr 0 (zr 0 (zr 0 (ci_X9_init_25 (zr 0 (ci_X0_init_21 (zr 0 (ci_X5_init_12 (zr 0 (ci_X6_init_2 (zr 0 (up2 (up2 (up2 (zr 0 I 1) 0 1 0) 0 2 0) 0 3 (-1)) 2)) 12)) 21)) 25)) 33) 34) 35) 36)) 45)) 49)) 58)) 62)) 71)) 75)) 81)) 87)) 88)) 90)), (cl_X4_init_90 (zr 0 (cl_X8_init_88 (zr 0 (cl_X10_init_87 (zr 0 (cl_X3_init_81 (zr 0 (cl_X3_init_75 (zr 0 (cl_X0_init_71 (zr 0 (cl_X5_init_62 (zr 0 (cl_X0_init_58 (zr 0 (cl_X5_init_49 (zr 0 (cl_X0_init_45 (zr 0 (cl_X5_init_36 (zr 0 (zr 0 (zr 0 (zr 0 (cl_X9_init_25 (zr 0 (cl_X0_init_21 (zr 0 (cl_X5_init_12 (zr 0 (cl_X6_init_2 (zr 0 (zr 0 L 1) 2)) 12)) 21)) 25)) 33) 34) 35) 36)) 45)) 49)) 58)) 62)) 71)) 75)) 81)) 87)) 88)) 90)), (cr_X4_init_90 (zr none (up2 (cr_X8_init_88 (zr none (up2 (cr_X10_init_87 (zr none (up2 (cr_X3_init_81 (zr none (up2 (cr_X3_init_75 (zr none (up2 (cr_X0_init_71 (zr none (up2 (cr_X5_init_62 (zr none (up2 (cr_X0_init_58 (zr none (up2 (cr_X5_init_49 (zr none (up2 (cr_X0_init_45 (zr none (up2 (cr_X5_init_36 (zr none (up2 (zr none (up2 (zr none (up2 (zr none (up2 (cr_X9_init_25 (zr none (up2 (cr_X0_init_21 (zr none (up2 (cr_X5_init_12 (zr none (up2 (cr_X6_init_2 (zr none (up2 (zr none R 1) 0 0 (some 1)) 2)) 0 4 (some 2)) 12)) 0 5 (some 12)) 21)) 0 6 (some 21)) 25)) 0 7 (some 25)) 33) 0 8 (some 33)) 34) 0 9 (some 34)) 35) 0 10 (some 35)) 36)) 33 0 (some 36)) 45)) 34 0 (some 45)) 49)) 33 1 (some 49)) 58)) 34 1 (some 58)) 62)) 33 2 (some 62)) 71)) 34 2 (some 71)) 75)) 0 11 (some 75)) 81)) 0 12 (some 81)) 87)) 0 13 (some 87)) 88)) 0 14 (some 88)) 90)))
  refine g_putF K1 q_clX11 15 (Nat.le_of_ble_eq_true rfl) lyp_0.1 fkX11_15.1 fkX11_15.2 fl_X11_96 rfl rfl rfl (fun _ => rfl) (fun _ => rfl) dX11_init_230 ?_
  show q_Gs w g 233 [(1, .int 3), (0, .ref 0)] [] (92, (ci_X4_init_90 (zr 0 (ci_X8_init_88 (zr 0 (ci_X10_init_87 (zr 0 (ci_X3_init_81 (zr 0 (ci_X3_init_75 (zr 0 (ci_X0_init_71 (zr 0 (ci_X5_init_62 (zr 0 (ci_X0_init_58 (zr 0 (ci_X5_init_49 (zr 0 (ci_X0_init_45 (zr 0 (ci_X5_init_36 (zr 0 (zr 0 (zr 0 (zr 0 (ci_X9_init_25 (zr 0 (ci_X0_init_21 (zr 0 (ci_X5_init_12 (zr 0 (ci_X6_init_2 (zr 0 (up2 (up2 (up2 (zr 0 I 1) 0 1 0) 0 2 0) 0 3 (-1)) 2)) 12)) 21)) 25)) 33) 34) 35) 36)) 45)) 49)) 58)) 62)) 71)) 75)) 81)) 87)) 88)) 90)), (cl_X4_init_90 (zr 0 (cl_X8_init_88 (zr 0 (cl_X10_init_87 (zr 0 (cl_X3_init_81 (zr 0 (cl_X3_init_75 (zr 0 (cl_X0_init_71 (zr 0 (cl_X5_init_62 (zr 0 (cl_X0_init_58 (zr 0 (cl_X5_init_49 (zr 0 (cl_X0_init_45 (zr 0 (cl_X5_init_36 (zr 0 (zr 0 (zr 0 (zr 0 (cl_X9_init_25 (zr 0 (cl_X0_init_21 (zr 0 (cl_X5_init_12 (zr 0 (cl_X6_init_2 (zr 0 (zr 0 L 1) 2)) 12)) 21)) 25)) 33) 34) 35) 36)) 45)) 49)) 58)) 62)) 71)) 75)) 81)) 87)) 88)) 90)), (up2 (cr_X4_init_90 (zr none (up2 (cr_X8_init_88 (zr none (up2 (cr_X10_init_87 (zr none (up2 (cr_X3_init_81 (zr none (up2 (cr_X3_init_75 (zr none (up2 (cr_X0_init_71 (zr none (up2 (cr_X5_init_62 (zr none (up2 (cr_X0_init_58 (zr none (up2 (cr_X5_init_49 (zr none (up2 (cr_X0_init_45 (zr none (up2 (cr_X5_init_36 (zr none (up2 (zr none (up2 (zr none (up2 (zr none (up2 (cr_X9_init_25 (zr none (up2 (cr_X0_init_21 (zr none (up2 (cr_X5_init_12 (zr none (up2 (cr_X6_init_2 (zr none (up2 (zr none R 1) 0 0 (some 1)) 2)) 0 4 (some 2)) 12)) 0 5 (some 12)) 21)) 0 6 (some 21)) 25)) 0 7 (some 25)) 33) 0 8 (some 33)) 34) 0 9 (some 34)) 35) 0 10 (some 35)) 36)) 33 0 (some 36)) 45)) 34 0 (some 45)) 49)) 33 1 (some 49)) 58)) 34 1 (some 58)) 62)) 33 2 (some 62)) 71)) 34 2 (some 71)) 75)) 0 11 (some 75)) 81)) 0 12 (some 81)) 87)) 0 13 (some 87)) 88)) 0 14 (some 88)) 90)) 0 15 (some 90)))
  refine g_aload_n K1 1 dX11_init_233 rfl ?_
  refine g_new K1 q_clX2 df_X2 lyp_92.1 szp_92 (Nat.le_of_ble_eq_true rfl) (Nat.le_of_ble_eq_true rfl) kl_X11_100 in_X2 it_X2 dX11_init_234 ?_
  show q_Gs w g 237 [(1, .int 3), (0, .ref 0)] [.ref 92, .ref 0] (93, (zr 0 (ci_X4_init_90 (zr 0 (ci_X8_init_88 (zr 0 (ci_X10_init_87 (zr 0 (ci_X3_init_81 (zr 0 (ci_X3_init_75 (zr 0 (ci_X0_init_71 (zr 0 (ci_X5_init_62 (zr 0 (ci_X0_init_58 (zr 0 (ci_X5_init_49 (zr 0 (ci_X0_init_45 (zr 0 (ci_X5_init_36 (zr 0 (zr 0 (zr 0 (zr 0 (ci_X9_init_25 (zr 0 (ci_X0_init_21 (zr 0 (ci_X5_init_12 (zr 0 (ci_X6_init_2 (zr 0 (up2 (up2 (up2 (zr 0 I 1) 0 1 0) 0 2 0) 0 3 (-1)) 2)) 12)) 21)) 25)) 33) 34) 35) 36)) 45)) 49)) 58)) 62)) 71)) 75)) 81)) 87)) 88)) 90)) 92), (zr 0 (cl_X4_init_90 (zr 0 (cl_X8_init_88 (zr 0 (cl_X10_init_87 (zr 0 (cl_X3_init_81 (zr 0 (cl_X3_init_75 (zr 0 (cl_X0_init_71 (zr 0 (cl_X5_init_62 (zr 0 (cl_X0_init_58 (zr 0 (cl_X5_init_49 (zr 0 (cl_X0_init_45 (zr 0 (cl_X5_init_36 (zr 0 (zr 0 (zr 0 (zr 0 (cl_X9_init_25 (zr 0 (cl_X0_init_21 (zr 0 (cl_X5_init_12 (zr 0 (cl_X6_init_2 (zr 0 (zr 0 L 1) 2)) 12)) 21)) 25)) 33) 34) 35) 36)) 45)) 49)) 58)) 62)) 71)) 75)) 81)) 87)) 88)) 90)) 92), (zr none (up2 (cr_X4_init_90 (zr none (up2 (cr_X8_init_88 (zr none (up2 (cr_X10_init_87 (zr none (up2 (cr_X3_init_81 (zr none (up2 (cr_X3_init_75 (zr none (up2 (cr_X0_init_71 (zr none (up2 (cr_X5_init_62 (zr none (up2 (cr_X0_init_58 (zr none (up2 (cr_X5_init_49 (zr none (up2 (cr_X0_init_45 (zr none (up2 (cr_X5_init_36 (zr none (up2 (zr none (up2 (zr none (up2 (zr none (up2 (cr_X9_init_25 (zr none (up2 (cr_X0_init_21 (zr none (up2 (cr_X5_init_12 (zr none (up2 (cr_X6_init_2 (zr none (up2 (zr none R 1) 0 0 (some 1)) 2)) 0 4 (some 2)) 12)) 0 5 (some 12)) 21)) 0 6 (some 21)) 25)) 0 7 (some 25)) 33) 0 8 (some 33)) 34) 0 9 (some 34)) 35) 0 10 (some 35)) 36)) 33 0 (some 36)) 45)) 34 0 (some 45)) 49)) 33 1 (some 49)) 58)) 34 1 (some 58)) 62)) 33 2 (some 62)) 71)) 34 2 (some 71)) 75)) 0 11 (some 75)) 81)) 0 12 (some 81)) 87)) 0 13 (some 87)) 88)) 0 14 (some 88)) 90)) 0 15 (some 90)) 92))
  refine g_dup K1 dX11_init_237 rfl ?_
  refine g_aload_n K1 1 dX11_init_238 rfl ?_
  refine g_getO K1 q_clX11 5 12 (Nat.le_of_ble_eq_true rfl) lyp_0.1 fkX11_5.1 fkX11_5.2 rfl fl_X11_35 dX11_init_239 ?_
  refine g_aload_n K1 1 dX11_init_242 rfl ?_
  refine g_getO K1 q_clX11 12 81 (Nat.le_of_ble_eq_true rfl) lyp_0.1 fkX11_12.1 fkX11_12.2 rfl fl_X11_74 dX11_init_243 ?_
  refine g_aload_n K1 1 dX11_init_246 rfl ?_
  refine g_getO K1 q_clX11 7 25 (Nat.le_of_ble_eq_true rfl) lyp_0.1 fkX11_7.1 fkX11_7.2 rfl fl_X11_49 dX11_init_247 ?_
  refine g_callI K1 (st := [.ref 92, .ref 0]) [.ref 12, .ref 81, .ref 25] (cc_X2_init_92 w (gl g) (zr 0 (ci_X4_init_90 (zr 0 (ci_X8_init_88 (zr 0 (ci_X10_init_87 (zr 0 (ci_X3_init_81 (zr 0 (ci_X3_init_75 (zr 0 (ci_X0_init_71 (zr 0 (ci_X5_init_62 (zr 0 (ci_X0_init_58 (zr 0 (ci_X5_init_49 (zr 0 (ci_X0_init_45 (zr 0 (ci_X5_init_36 (zr 0 (zr 0 (zr 0 (zr 0 (ci_X9_init_25 (zr 0 (ci_X0_init_21 (zr 0 (ci_X5_init_12 (zr 0 (ci_X6_init_2 (zr 0 (up2 (up2 (up2 (zr 0 I 1) 0 1 0) 0 2 0) 0 3 (-1)) 2)) 12)) 21)) 25)) 33) 34) 35) 36)) 45)) 49)) 58)) 62)) 71)) 75)) 81)) 87)) 88)) 90)) 92) (zr 0 (cl_X4_init_90 (zr 0 (cl_X8_init_88 (zr 0 (cl_X10_init_87 (zr 0 (cl_X3_init_81 (zr 0 (cl_X3_init_75 (zr 0 (cl_X0_init_71 (zr 0 (cl_X5_init_62 (zr 0 (cl_X0_init_58 (zr 0 (cl_X5_init_49 (zr 0 (cl_X0_init_45 (zr 0 (cl_X5_init_36 (zr 0 (zr 0 (zr 0 (zr 0 (cl_X9_init_25 (zr 0 (cl_X0_init_21 (zr 0 (cl_X5_init_12 (zr 0 (cl_X6_init_2 (zr 0 (zr 0 L 1) 2)) 12)) 21)) 25)) 33) 34) 35) 36)) 45)) 49)) 58)) 62)) 71)) 75)) 81)) 87)) 88)) 90)) 92) (zr none (up2 (cr_X4_init_90 (zr none (up2 (cr_X8_init_88 (zr none (up2 (cr_X10_init_87 (zr none (up2 (cr_X3_init_81 (zr none (up2 (cr_X3_init_75 (zr none (up2 (cr_X0_init_71 (zr none (up2 (cr_X5_init_62 (zr none (up2 (cr_X0_init_58 (zr none (up2 (cr_X5_init_49 (zr none (up2 (cr_X0_init_45 (zr none (up2 (cr_X5_init_36 (zr none (up2 (zr none (up2 (zr none (up2 (zr none (up2 (cr_X9_init_25 (zr none (up2 (cr_X0_init_21 (zr none (up2 (cr_X5_init_12 (zr none (up2 (cr_X6_init_2 (zr none (up2 (zr none R 1) 0 0 (some 1)) 2)) 0 4 (some 2)) 12)) 0 5 (some 12)) 21)) 0 6 (some 21)) 25)) 0 7 (some 25)) 33) 0 8 (some 33)) 34) 0 9 (some 34)) 35) 0 10 (some 35)) 36)) 33 0 (some 36)) 45)) 34 0 (some 45)) 49)) 33 1 (some 49)) 58)) 34 1 (some 58)) 62)) 33 2 (some 62)) 71)) 34 2 (some 71)) 75)) 0 11 (some 75)) 81)) 0 12 (some 81)) 87)) 0 13 (some 87)) 88)) 0 14 (some 88)) 90)) 0 15 (some 90)) 92)) (Nat.le_of_ble_eq_true rfl) ok_X2_init ml_X11_102 (Nat.le_of_ble_eq_true rfl) (Nat.le_of_ble_eq_true rfl) (Nat.le_of_ble_eq_true rfl) dX11_init_250 ?_
  show q_Gs w g 253 [(1, .int 3), (0, .ref 0)] [.ref 92, .ref 0] (95, (ci_X2_init_92 (zr 0 (ci_X4_init_90 (zr 0 (ci_X8_init_88 (zr 0 (ci_X10_init_87 (zr 0 (ci_X3_init_81 (zr 0 (ci_X3_init_75 (zr 0 (ci_X0_init_71 (zr 0 (ci_X5_init_62 (zr 0 (ci_X0_init_58 (zr 0 (ci_X5_init_49 (zr 0 (ci_X0_init_45 (zr 0 (ci_X5_init_36 (zr 0 (zr 0 (zr 0 (zr 0 (ci_X9_init_25 (zr 0 (ci_X0_init_21 (zr 0 (ci_X5_init_12 (zr 0 (ci_X6_init_2 (zr 0 (up2 (up2 (up2 (zr 0 I 1) 0 1 0) 0 2 0) 0 3 (-1)) 2)) 12)) 21)) 25)) 33) 34) 35) 36)) 45)) 49)) 58)) 62)) 71)) 75)) 81)) 87)) 88)) 90)) 92)), (cl_X2_init_92 (zr 0 (cl_X4_init_90 (zr 0 (cl_X8_init_88 (zr 0 (cl_X10_init_87 (zr 0 (cl_X3_init_81 (zr 0 (cl_X3_init_75 (zr 0 (cl_X0_init_71 (zr 0 (cl_X5_init_62 (zr 0 (cl_X0_init_58 (zr 0 (cl_X5_init_49 (zr 0 (cl_X0_init_45 (zr 0 (cl_X5_init_36 (zr 0 (zr 0 (zr 0 (zr 0 (cl_X9_init_25 (zr 0 (cl_X0_init_21 (zr 0 (cl_X5_init_12 (zr 0 (cl_X6_init_2 (zr 0 (zr 0 L 1) 2)) 12)) 21)) 25)) 33) 34) 35) 36)) 45)) 49)) 58)) 62)) 71)) 75)) 81)) 87)) 88)) 90)) 92)), (cr_X2_init_92 (zr none (up2 (cr_X4_init_90 (zr none (up2 (cr_X8_init_88 (zr none (up2 (cr_X10_init_87 (zr none (up2 (cr_X3_init_81 (zr none (up2 (cr_X3_init_75 (zr none (up2 (cr_X0_init_71 (zr none (up2 (cr_X5_init_62 (zr none (up2 (cr_X0_init_58 (zr none (up2 (cr_X5_init_49 (zr none (up2 (cr_X0_init_45 (zr none (up2 (cr_X5_init_36 (zr none (up2 (zr none (up2 (zr none (up2 (zr none (up2 (cr_X9_init_25 (zr none (up2 (cr_X0_init_21 (zr none (up2 (cr_X5_init_12 (zr none (up2 (cr_X6_init_2 (zr none (up2 (zr none R 1) 0 0 (some 1)) 2)) 0 4 (some 2)) 12)) 0 5 (some 12)) 21)) 0 6 (some 21)) 25)) 0 7 (some 25)) 33) 0 8 (some 33)) 34) 0 9 (some 34)) 35) 0 10 (some 35)) 36)) 33 0 (some 36)) 45)) 34 0 (some 45)) 49)) 33 1 (some 49)) 58)) 34 1 (some 58)) 62)) 33 2 (some 62)) 71)) 34 2 (some 71)) 75)) 0 11 (some 75)) 81)) 0 12 (some 81)) 87)) 0 13 (some 87)) 88)) 0 14 (some 88)) 90)) 0 15 (some 90)) 92)))
  refine g_putF K1 q_clX11 16 (Nat.le_of_ble_eq_true rfl) lyp_0.1 fkX11_16.1 fkX11_16.2 fl_X11_105 rfl rfl rfl (fun _ => rfl) (fun _ => rfl) dX11_init_253 ?_
  show q_Gs w g 256 [(1, .int 3), (0, .ref 0)] [] (95, (ci_X2_init_92 (zr 0 (ci_X4_init_90 (zr 0 (ci_X8_init_88 (zr 0 (ci_X10_init_87 (zr 0 (ci_X3_init_81 (zr 0 (ci_X3_init_75 (zr 0 (ci_X0_init_71 (zr 0 (ci_X5_init_62 (zr 0 (ci_X0_init_58 (zr 0 (ci_X5_init_49 (zr 0 (ci_X0_init_45 (zr 0 (ci_X5_init_36 (zr 0 (zr 0 (zr 0 (zr 0 (ci_X9_init_25 (zr 0 (ci_X0_init_21 (zr 0 (ci_X5_init_12 (zr 0 (ci_X6_init_2 (zr 0 (up2 (up2 (up2 (zr 0 I 1) 0 1 0) 0 2 0) 0 3 (-1)) 2)) 12)) 21)) 25)) 33) 34) 35) 36)) 45)) 49)) 58)) 62)) 71)) 75)) 81)) 87)) 88)) 90)) 92)), (cl_X2_init_92 (zr 0 (cl_X4_init_90 (zr 0 (cl_X8_init_88 (zr 0 (cl_X10_init_87 (zr 0 (cl_X3_init_81 (zr 0 (cl_X3_init_75 (zr 0 (cl_X0_init_71 (zr 0 (cl_X5_init_62 (zr 0 (cl_X0_init_58 (zr 0 (cl_X5_init_49 (zr 0 (cl_X0_init_45 (zr 0 (cl_X5_init_36 (zr 0 (zr 0 (zr 0 (zr 0 (cl_X9_init_25 (zr 0 (cl_X0_init_21 (zr 0 (cl_X5_init_12 (zr 0 (cl_X6_init_2 (zr 0 (zr 0 L 1) 2)) 12)) 21)) 25)) 33) 34) 35) 36)) 45)) 49)) 58)) 62)) 71)) 75)) 81)) 87)) 88)) 90)) 92)), (up2 (cr_X2_init_92 (zr none (up2 (cr_X4_init_90 (zr none (up2 (cr_X8_init_88 (zr none (up2 (cr_X10_init_87 (zr none (up2 (cr_X3_init_81 (zr none (up2 (cr_X3_init_75 (zr none (up2 (cr_X0_init_71 (zr none (up2 (cr_X5_init_62 (zr none (up2 (cr_X0_init_58 (zr none (up2 (cr_X5_init_49 (zr none (up2 (cr_X0_init_45 (zr none (up2 (cr_X5_init_36 (zr none (up2 (zr none (up2 (zr none (up2 (zr none (up2 (cr_X9_init_25 (zr none (up2 (cr_X0_init_21 (zr none (up2 (cr_X5_init_12 (zr none (up2 (cr_X6_init_2 (zr none (up2 (zr none R 1) 0 0 (some 1)) 2)) 0 4 (some 2)) 12)) 0 5 (some 12)) 21)) 0 6 (some 21)) 25)) 0 7 (some 25)) 33) 0 8 (some 33)) 34) 0 9 (some 34)) 35) 0 10 (some 35)) 36)) 33 0 (some 36)) 45)) 34 0 (some 45)) 49)) 33 1 (some 49)) 58)) 34 1 (some 58)) 62)) 33 2 (some 62)) 71)) 34 2 (some 71)) 75)) 0 11 (some 75)) 81)) 0 12 (some 81)) 87)) 0 13 (some 87)) 88)) 0 14 (some 88)) 90)) 0 15 (some 90)) 92)) 0 16 (some 92)))
  refine g_aload_n K1 1 dX11_init_256 rfl ?_
  refine g_new K1 q_clX1 df_X1 lyp_95.1 szp_95 (Nat.le_of_ble_eq_true rfl) (Nat.le_of_ble_eq_true rfl) kl_X11_109 in_X1 it_X1 dX11_init_257 ?_
  show q_Gs w g 260 [(1, .int 3), (0, .ref 0)] [.ref 95, .ref 0] (96, (zr 0 (ci_X2_init_92 (zr 0 (ci_X4_init_90 (zr 0 (ci_X8_init_88 (zr 0 (ci_X10_init_87 (zr 0 (ci_X3_init_81 (zr 0 (ci_X3_init_75 (zr 0 (ci_X0_init_71 (zr 0 (ci_X5_init_62 (zr 0 (ci_X0_init_58 (zr 0 (ci_X5_init_49 (zr 0 (ci_X0_init_45 (zr 0 (ci_X5_init_36 (zr 0 (zr 0 (zr 0 (zr 0 (ci_X9_init_25 (zr 0 (ci_X0_init_21 (zr 0 (ci_X5_init_12 (zr 0 (ci_X6_init_2 (zr 0 (up2 (up2 (up2 (zr 0 I 1) 0 1 0) 0 2 0) 0 3 (-1)) 2)) 12)) 21)) 25)) 33) 34) 35) 36)) 45)) 49)) 58)) 62)) 71)) 75)) 81)) 87)) 88)) 90)) 92)) 95), (zr 0 (cl_X2_init_92 (zr 0 (cl_X4_init_90 (zr 0 (cl_X8_init_88 (zr 0 (cl_X10_init_87 (zr 0 (cl_X3_init_81 (zr 0 (cl_X3_init_75 (zr 0 (cl_X0_init_71 (zr 0 (cl_X5_init_62 (zr 0 (cl_X0_init_58 (zr 0 (cl_X5_init_49 (zr 0 (cl_X0_init_45 (zr 0 (cl_X5_init_36 (zr 0 (zr 0 (zr 0 (zr 0 (cl_X9_init_25 (zr 0 (cl_X0_init_21 (zr 0 (cl_X5_init_12 (zr 0 (cl_X6_init_2 (zr 0 (zr 0 L 1) 2)) 12)) 21)) 25)) 33) 34) 35) 36)) 45)) 49)) 58)) 62)) 71)) 75)) 81)) 87)) 88)) 90)) 92)) 95), (zr none (up2 (cr_X2_init_92 (zr none (up2 (cr_X4_init_90 (zr none (up2 (cr_X8_init_88 (zr none (up2 (cr_X10_init_87 (zr none (up2 (cr_X3_init_81 (zr none (up2 (cr_X3_init_75 (zr none (up2 (cr_X0_init_71 (zr none (up2 (cr_X5_init_62 (zr none (up2 (cr_X0_init_58 (zr none (up2 (cr_X5_init_49 (zr none (up2 (cr_X0_init_45 (zr none (up2 (cr_X5_init_36 (zr none (up2 (zr none (up2 (zr none (up2 (zr none (up2 (cr_X9_init_25 (zr none (up2 (cr_X0_init_21 (zr none (up2 (cr_X5_init_12 (zr none (up2 (cr_X6_init_2 (zr none (up2 (zr none R 1) 0 0 (some 1)) 2)) 0 4 (some 2)) 12)) 0 5 (some 12)) 21)) 0 6 (some 21)) 25)) 0 7 (some 25)) 33) 0 8 (some 33)) 34) 0 9 (some 34)) 35) 0 10 (some 35)) 36)) 33 0 (some 36)) 45)) 34 0 (some 45)) 49)) 33 1 (some 49)) 58)) 34 1 (some 58)) 62)) 33 2 (some 62)) 71)) 34 2 (some 71)) 75)) 0 11 (some 75)) 81)) 0 12 (some 81)) 87)) 0 13 (some 87)) 88)) 0 14 (some 88)) 90)) 0 15 (some 90)) 92)) 0 16 (some 92)) 95))
  refine g_dup K1 dX11_init_260 rfl ?_
  refine g_aload_n K1 1 dX11_init_261 rfl ?_
  refine g_getO K1 q_clX11 5 12 (Nat.le_of_ble_eq_true rfl) lyp_0.1 fkX11_5.1 fkX11_5.2 rfl fl_X11_35 dX11_init_262 ?_
  refine g_aload_n K1 1 dX11_init_265 rfl ?_
  refine g_getO K1 q_clX11 12 81 (Nat.le_of_ble_eq_true rfl) lyp_0.1 fkX11_12.1 fkX11_12.2 rfl fl_X11_74 dX11_init_266 ?_
  refine g_callI K1 (st := [.ref 95, .ref 0]) [.ref 12, .ref 81] (cc_X1_init_95 w (gl g) (zr 0 (ci_X2_init_92 (zr 0 (ci_X4_init_90 (zr 0 (ci_X8_init_88 (zr 0 (ci_X10_init_87 (zr 0 (ci_X3_init_81 (zr 0 (ci_X3_init_75 (zr 0 (ci_X0_init_71 (zr 0 (ci_X5_init_62 (zr 0 (ci_X0_init_58 (zr 0 (ci_X5_init_49 (zr 0 (ci_X0_init_45 (zr 0 (ci_X5_init_36 (zr 0 (zr 0 (zr 0 (zr 0 (ci_X9_init_25 (zr 0 (ci_X0_init_21 (zr 0 (ci_X5_init_12 (zr 0 (ci_X6_init_2 (zr 0 (up2 (up2 (up2 (zr 0 I 1) 0 1 0) 0 2 0) 0 3 (-1)) 2)) 12)) 21)) 25)) 33) 34) 35) 36)) 45)) 49)) 58)) 62)) 71)) 75)) 81)) 87)) 88)) 90)) 92)) 95) (zr 0 (cl_X2_init_92 (zr 0 (cl_X4_init_90 (zr 0 (cl_X8_init_88 (zr 0 (cl_X10_init_87 (zr 0 (cl_X3_init_81 (zr 0 (cl_X3_init_75 (zr 0 (cl_X0_init_71 (zr 0 (cl_X5_init_62 (zr 0 (cl_X0_init_58 (zr 0 (cl_X5_init_49 (zr 0 (cl_X0_init_45 (zr 0 (cl_X5_init_36 (zr 0 (zr 0 (zr 0 (zr 0 (cl_X9_init_25 (zr 0 (cl_X0_init_21 (zr 0 (cl_X5_init_12 (zr 0 (cl_X6_init_2 (zr 0 (zr 0 L 1) 2)) 12)) 21)) 25)) 33) 34) 35) 36)) 45)) 49)) 58)) 62)) 71)) 75)) 81)) 87)) 88)) 90)) 92)) 95) (zr none (up2 (cr_X2_init_92 (zr none (up2 (cr_X4_init_90 (zr none (up2 (cr_X8_init_88 (zr none (up2 (cr_X10_init_87 (zr none (up2 (cr_X3_init_81 (zr none (up2 (cr_X3_init_75 (zr none (up2 (cr_X0_init_71 (zr none (up2 (cr_X5_init_62 (zr none (up2 (cr_X0_init_58 (zr none (up2 (cr_X5_init_49 (zr none (up2 (cr_X0_init_45 (zr none (up2 (cr_X5_init_36 (zr none (up2 (zr none (up2 (zr none (up2 (zr none (up2 (cr_X9_init_25 (zr none (up2 (cr_X0_init_21 (zr none (up2 (cr_X5_init_12 (zr none (up2 (cr_X6_init_2 (zr none (up2 (zr none R 1) 0 0 (some 1)) 2)) 0 4 (some 2)) 12)) 0 5 (some 12)) 21)) 0 6 (some 21)) 25)) 0 7 (some 25)) 33) 0 8 (some 33)) 34) 0 9 (some 34)) 35) 0 10 (some 35)) 36)) 33 0 (some 36)) 45)) 34 0 (some 45)) 49)) 33 1 (some 49)) 58)) 34 1 (some 58)) 62)) 33 2 (some 62)) 71)) 34 2 (some 71)) 75)) 0 11 (some 75)) 81)) 0 12 (some 81)) 87)) 0 13 (some 87)) 88)) 0 14 (some 88)) 90)) 0 15 (some 90)) 92)) 0 16 (some 92)) 95)) (Nat.le_of_ble_eq_true rfl) ok_X1_init ml_X11_111 (Nat.le_of_ble_eq_true rfl) (Nat.le_of_ble_eq_true rfl) (Nat.le_of_ble_eq_true rfl) dX11_init_269 ?_
  show q_Gs w g 272 [(1, .int 3), (0, .ref 0)] [.ref 95, .ref 0] (96, (ci_X1_init_95 (zr 0 (ci_X2_init_92 (zr 0 (ci_X4_init_90 (zr 0 (ci_X8_init_88 (zr 0 (ci_X10_init_87 (zr 0 (ci_X3_init_81 (zr 0 (ci_X3_init_75 (zr 0 (ci_X0_init_71 (zr 0 (ci_X5_init_62 (zr 0 (ci_X0_init_58 (zr 0 (ci_X5_init_49 (zr 0 (ci_X0_init_45 (zr 0 (ci_X5_init_36 (zr 0 (zr 0 (zr 0 (zr 0 (ci_X9_init_25 (zr 0 (ci_X0_init_21 (zr 0 (ci_X5_init_12 (zr 0 (ci_X6_init_2 (zr 0 (up2 (up2 (up2 (zr 0 I 1) 0 1 0) 0 2 0) 0 3 (-1)) 2)) 12)) 21)) 25)) 33) 34) 35) 36)) 45)) 49)) 58)) 62)) 71)) 75)) 81)) 87)) 88)) 90)) 92)) 95)), (cl_X1_init_95 (zr 0 (cl_X2_init_92 (zr 0 (cl_X4_init_90 (zr 0 (cl_X8_init_88 (zr 0 (cl_X10_init_87 (zr 0 (cl_X3_init_81 (zr 0 (cl_X3_init_75 (zr 0 (cl_X0_init_71 (zr 0 (cl_X5_init_62 (zr 0 (cl_X0_init_58 (zr 0 (cl_X5_init_49 (zr 0 (cl_X0_init_45 (zr 0 (cl_X5_init_36 (zr 0 (zr 0 (zr 0 (zr 0 (cl_X9_init_25 (zr 0 (cl_X0_init_21 (zr 0 (cl_X5_init_12 (zr 0 (cl_X6_init_2 (zr 0 (zr 0 L 1) 2)) 12)) 21)) 25)) 33) 34) 35) 36)) 45)) 49)) 58)) 62)) 71)) 75)) 81)) 87)) 88)) 90)) 92)) 95)), (cr_X1_init_95 (zr none (up2 (cr_X2_init_92 (zr none (up2 (cr_X4_init_90 (zr none (up2 (cr_X8_init_88 (zr none (up2 (cr_X10_init_87 (zr none (up2 (cr_X3_init_81 (zr none (up2 (cr_X3_init_75 (zr none (up2 (cr_X0_init_71 (zr none (up2 (cr_X5_init_62 (zr none (up2 (cr_X0_init_58 (zr none (up2 (cr_X5_init_49 (zr none (up2 (cr_X0_init_45 (zr none (up2 (cr_X5_init_36 (zr none (up2 (zr none (up2 (zr none (up2 (zr none (up2 (cr_X9_init_25 (zr none (up2 (cr_X0_init_21 (zr none (up2 (cr_X5_init_12 (zr none (up2 (cr_X6_init_2 (zr none (up2 (zr none R 1) 0 0 (some 1)) 2)) 0 4 (some 2)) 12)) 0 5 (some 12)) 21)) 0 6 (some 21)) 25)) 0 7 (some 25)) 33) 0 8 (some 33)) 34) 0 9 (some 34)) 35) 0 10 (some 35)) 36)) 33 0 (some 36)) 45)) 34 0 (some 45)) 49)) 33 1 (some 49)) 58)) 34 1 (some 58)) 62)) 33 2 (some 62)) 71)) 34 2 (some 71)) 75)) 0 11 (some 75)) 81)) 0 12 (some 81)) 87)) 0 13 (some 87)) 88)) 0 14 (some 88)) 90)) 0 15 (some 90)) 92)) 0 16 (some 92)) 95)))
  refine g_putF K1 q_clX11 17 (Nat.le_of_ble_eq_true rfl) lyp_0.1 fkX11_17.1 fkX11_17.2 fl_X11_112 rfl rfl rfl (fun _ => rfl) (fun _ => rfl) dX11_init_272 ?_
  show q_Gs w g 275 [(1, .int 3), (0, .ref 0)] [] (96, (ci_X1_init_95 (zr 0 (ci_X2_init_92 (zr 0 (ci_X4_init_90 (zr 0 (ci_X8_init_88 (zr 0 (ci_X10_init_87 (zr 0 (ci_X3_init_81 (zr 0 (ci_X3_init_75 (zr 0 (ci_X0_init_71 (zr 0 (ci_X5_init_62 (zr 0 (ci_X0_init_58 (zr 0 (ci_X5_init_49 (zr 0 (ci_X0_init_45 (zr 0 (ci_X5_init_36 (zr 0 (zr 0 (zr 0 (zr 0 (ci_X9_init_25 (zr 0 (ci_X0_init_21 (zr 0 (ci_X5_init_12 (zr 0 (ci_X6_init_2 (zr 0 (up2 (up2 (up2 (zr 0 I 1) 0 1 0) 0 2 0) 0 3 (-1)) 2)) 12)) 21)) 25)) 33) 34) 35) 36)) 45)) 49)) 58)) 62)) 71)) 75)) 81)) 87)) 88)) 90)) 92)) 95)), (cl_X1_init_95 (zr 0 (cl_X2_init_92 (zr 0 (cl_X4_init_90 (zr 0 (cl_X8_init_88 (zr 0 (cl_X10_init_87 (zr 0 (cl_X3_init_81 (zr 0 (cl_X3_init_75 (zr 0 (cl_X0_init_71 (zr 0 (cl_X5_init_62 (zr 0 (cl_X0_init_58 (zr 0 (cl_X5_init_49 (zr 0 (cl_X0_init_45 (zr 0 (cl_X5_init_36 (zr 0 (zr 0 (zr 0 (zr 0 (cl_X9_init_25 (zr 0 (cl_X0_init_21 (zr 0 (cl_X5_init_12 (zr 0 (cl_X6_init_2 (zr 0 (zr 0 L 1) 2)) 12)) 21)) 25)) 33) 34) 35) 36)) 45)) 49)) 58)) 62)) 71)) 75)) 81)) 87)) 88)) 90)) 92)) 95)), (up2 (cr_X1_init_95 (zr none (up2 (cr_X2_init_92 (zr none (up2 (cr_X4_init_90 (zr none (up2 (cr_X8_init_88 (zr none (up2 (cr_X10_init_87 (zr none (up2 (cr_X3_init_81 (zr none (up2 (cr_X3_init_75 (zr none (up2 (cr_X0_init_71 (zr none (up2 (cr_X5_init_62 (zr none (up2 (cr_X0_init_58 (zr none (up2 (cr_X5_init_49 (zr none (up2 (cr_X0_init_45 (zr none (up2 (cr_X5_init_36 (zr none (up2 (zr none (up2 (zr none (up2 (zr none (up2 (cr_X9_init_25 (zr none (up2 (cr_X0_init_21 (zr none (up2 (cr_X5_init_12 (zr none (up2 (cr_X6_init_2 (zr none (up2 (zr none R 1) 0 0 (some 1)) 2)) 0 4 (some 2)) 12)) 0 5 (some 12)) 21)) 0 6 (some 21)) 25)) 0 7 (some 25)) 33) 0 8 (some 33)) 34) 0 9 (some 34)) 35) 0 10 (some 35)) 36)) 33 0 (some 36)) 45)) 34 0 (some 45)) 49)) 33 1 (some 49)) 58)) 34 1 (some 58)) 62)) 33 2 (some 62)) 71)) 34 2 (some 71)) 75)) 0 11 (some 75)) 81)) 0 12 (some 81)) 87)) 0 13 (some 87)) 88)) 0 14 (some 88)) 90)) 0 15 (some 90)) 92)) 0 16 (some 92)) 95)) 0 17 (some 95)))
  refine g_aload_n K1 1 dX11_init_275 rfl ?_
  refine g_iconst K1 0 dX11_init_276 rfl ?_
  refine g_putI K1 q_clX11 18 (Nat.le_of_ble_eq_true rfl) lyp_0.1 fkX11_18.1 fkX11_18.2 fl_X11_116 rfl (by decide) (by decide) dX11_init_277 ?_
  show q_Gs w g 280 [(1, .int 3), (0, .ref 0)] [] (96, (up2 (ci_X1_init_95 (zr 0 (ci_X2_init_92 (zr 0 (ci_X4_init_90 (zr 0 (ci_X8_init_88 (zr 0 (ci_X10_init_87 (zr 0 (ci_X3_init_81 (zr 0 (ci_X3_init_75 (zr 0 (ci_X0_init_71 (zr 0 (ci_X5_init_62 (zr 0 (ci_X0_init_58 (zr 0 (ci_X5_init_49 (zr 0 (ci_X0_init_45 (zr 0 (ci_X5_init_36 (zr 0 (zr 0 (zr 0 (zr 0 (ci_X9_init_25 (zr 0 (ci_X0_init_21 (zr 0 (ci_X5_init_12 (zr 0 (ci_X6_init_2 (zr 0 (up2 (up2 (up2 (zr 0 I 1) 0 1 0) 0 2 0) 0 3 (-1)) 2)) 12)) 21)) 25)) 33) 34) 35) 36)) 45)) 49)) 58)) 62)) 71)) 75)) 81)) 87)) 88)) 90)) 92)) 95)) 0 18 0), (cl_X1_init_95 (zr 0 (cl_X2_init_92 (zr 0 (cl_X4_init_90 (zr 0 (cl_X8_init_88 (zr 0 (cl_X10_init_87 (zr 0 (cl_X3_init_81 (zr 0 (cl_X3_init_75 (zr 0 (cl_X0_init_71 (zr 0 (cl_X5_init_62 (zr 0 (cl_X0_init_58 (zr 0 (cl_X5_init_49 (zr 0 (cl_X0_init_45 (zr 0 (cl_X5_init_36 (zr 0 (zr 0 (zr 0 (zr 0 (cl_X9_init_25 (zr 0 (cl_X0_init_21 (zr 0 (cl_X5_init_12 (zr 0 (cl_X6_init_2 (zr 0 (zr 0 L 1) 2)) 12)) 21)) 25)) 33) 34) 35) 36)) 45)) 49)) 58)) 62)) 71)) 75)) 81)) 87)) 88)) 90)) 92)) 95)), (up2 (cr_X1_init_95 (zr none (up2 (cr_X2_init_92 (zr none (up2 (cr_X4_init_90 (zr none (up2 (cr_X8_init_88 (zr none (up2 (cr_X10_init_87 (zr none (up2 (cr_X3_init_81 (zr none (up2 (cr_X3_init_75 (zr none (up2 (cr_X0_init_71 (zr none (up2 (cr_X5_init_62 (zr none (up2 (cr_X0_init_58 (zr none (up2 (cr_X5_init_49 (zr none (up2 (cr_X0_init_45 (zr none (up2 (cr_X5_init_36 (zr none (up2 (zr none (up2 (zr none (up2 (zr none (up2 (cr_X9_init_25 (zr none (up2 (cr_X0_init_21 (zr none (up2 (cr_X5_init_12 (zr none (up2 (cr_X6_init_2 (zr none (up2 (zr none R 1) 0 0 (some 1)) 2)) 0 4 (some 2)) 12)) 0 5 (some 12)) 21)) 0 6 (some 21)) 25)) 0 7 (some 25)) 33) 0 8 (some 33)) 34) 0 9 (some 34)) 35) 0 10 (some 35)) 36)) 33 0 (some 36)) 45)) 34 0 (some 45)) 49)) 33 1 (some 49)) 58)) 34 1 (some 58)) 62)) 33 2 (some 62)) 71)) 34 2 (some 71)) 75)) 0 11 (some 75)) 81)) 0 12 (some 81)) 87)) 0 13 (some 87)) 88)) 0 14 (some 88)) 90)) 0 15 (some 90)) 92)) 0 16 (some 92)) 95)) 0 17 (some 95)))
  exact g_vreturn K rfl dX11_init_280
def ci_X12_init_96 (I : Nat → Nat → Int32) : Nat → Nat → Int32 := (zr 0 (zr 0 (zr 0 (up2 (up2 (up2 (up2 (zr 0 (zr 0 (zr 0 (zr 0 (zr 0 (zr 0 (zr 0 (zr 0 (up2 (zr 0 (zr 0 (zr 0 (zr 0 (zr 0 I 97) 98) 99) 100) 101) 96 13 (-1)) 102) 103) 104) 105) 106) 107) 108) 109) 109 0 (-1)) 109 1 (-1)) 109 2 (-1)) 109 3 (-1)) 110) 111) 112)
def cl_X12_init_96 (L : Nat → Nat → Int64) : Nat → Nat → Int64 := (zr 0 (zr 0 (zr 0 (zr 0 (zr 0 (zr 0 (zr 0 (zr 0 (zr 0 (zr 0 (zr 0 (zr 0 (zr 0 (zr 0 (zr 0 (zr 0 L 97) 98) 99) 100) 101) 102) 103) 104) 105) 106) 107) 108) 109) 110) 111) 112)
def cr_X12_init_96 (R : Nat → Nat → Option Nat) : Nat → Nat → Option Nat := (up2 (zr none (up2 (zr none (up2 (zr none (up2 (zr none (up2 (zr none (up2 (zr none (up2 (zr none (up2 (zr none (up2 (zr none (up2 (zr none (up2 (zr none (up2 (zr none (up2 (zr none (up2 (zr none (up2 (zr none (up2 (zr none R 97) 96 1 (some 97)) 98) 96 2 (some 98)) 99) 96 3 (some 99)) 100) 96 4 (some 100)) 101) 96 6 (some 101)) 102) 96 14 (some 102)) 103) 96 24 (some 103)) 104) 96 25 (some 104)) 105) 96 26 (some 105)) 106) 96 27 (some 106)) 107) 96 31 (some 107)) 108) 96 32 (some 108)) 109) 96 37 (some 109)) 110) 96 38 (some 110)) 111) 96 39 (some 111)) 112) 96 40 (some 112))
set_option maxRecDepth 20000 in
set_option maxHeartbeats 4000000 in
theorem cc_X12_init_96 (w : q_Wc) (l : Launch) (I : Nat → Nat → Int32) (L : Nat → Nat → Int64) (R : Nat → Nat → Option Nat) : q_Ct w l kX12_init [.ref 96] (97, I, L, R) none (113, ci_X12_init_96 I, cl_X12_init_96 L, cr_X12_init_96 R) := by
  refine q_ct (by decide) (Nat.le_of_ble_eq_true rfl) (Nat.le_of_ble_eq_true rfl) (fun g hg0 K => ?_)
  have K1 := K.1
  show q_Gs w g 0 [(0, .ref 96)] [] (97, I, L, R)
  refine g_aload_n K1 0 dX12_init_0 rfl ?_
  refine g_objInit K1 ml_X12_3 oi_inst oi_code ⟨Nat.le_of_ble_eq_true rfl, Nat.le_of_ble_eq_true rfl⟩ (Nat.le_of_ble_eq_true rfl) dX12_init_1 ?_
  refine g_aload_n K1 0 dX12_init_4 rfl ?_
  refine g_bipush K1 104 dX12_init_5 rfl ?_
  refine g_newarr_int K1 (N := 104) (by decide) (by decide) (by decide) lyp_97.1 szp_97 (Nat.le_of_ble_eq_true rfl) (Nat.le_of_ble_eq_true rfl) ar_int dX12_init_7 ?_
  show q_Gs w g 9 [(0, .ref 96)] [.ref 97, .ref 96] (98, (zr 0 I 97), (zr 0 L 97), (zr none R 97))
  refine g_putF K1 q_clX12 1 (Nat.le_of_ble_eq_true rfl) lyp_96.1 fkX12_1.1 fkX12_1.2 fl_X12_9 rfl rfl rfl (fun _ => rfl) (fun _ => rfl) dX12_init_9 ?_
  show q_Gs w g 12 [(0, .ref 96)] [] (98, (zr 0 I 97), (zr 0 L 97), (up2 (zr none R 97) 96 1 (some 97)))
  refine g_aload_n K1 0 dX12_init_12 rfl ?_
  refine g_sipush K1 312 dX12_init_13 rfl ?_
  refine g_newarr_int K1 (N := 312) (by decide) (by decide) (by decide) lyp_98.1 szp_98 (Nat.le_of_ble_eq_true rfl) (Nat.le_of_ble_eq_true rfl) ar_int dX12_init_16 ?_
  show q_Gs w g 18 [(0, .ref 96)] [.ref 98, .ref 96] (99, (zr 0 (zr 0 I 97) 98), (zr 0 (zr 0 L 97) 98), (zr none (up2 (zr none R 97) 96 1 (some 97)) 98))
  refine g_putF K1 q_clX12 2 (Nat.le_of_ble_eq_true rfl) lyp_96.1 fkX12_2.1 fkX12_2.2 fl_X12_13 rfl rfl rfl (fun _ => rfl) (fun _ => rfl) dX12_init_18 ?_
  show q_Gs w g 21 [(0, .ref 96)] [] (99, (zr 0 (zr 0 I 97) 98), (zr 0 (zr 0 L 97) 98), (up2 (zr none (up2 (zr none R 97) 96 1 (some 97)) 98) 96 2 (some 98)))
  refine g_aload_n K1 0 dX12_init_21 rfl ?_
  refine g_iconst K1 3 dX12_init_22 rfl ?_
  refine g_newarr_boolean K1 (N := 3) (by decide) (by decide) (by decide) lyp_99.1 szp_99 (Nat.le_of_ble_eq_true rfl) (Nat.le_of_ble_eq_true rfl) ar_boolean dX12_init_23 ?_
  show q_Gs w g 25 [(0, .ref 96)] [.ref 99, .ref 96] (100, (zr 0 (zr 0 (zr 0 I 97) 98) 99), (zr 0 (zr 0 (zr 0 L 97) 98) 99), (zr none (up2 (zr none (up2 (zr none R 97) 96 1 (some 97)) 98) 96 2 (some 98)) 99))
  refine g_putF K1 q_clX12 3 (Nat.le_of_ble_eq_true rfl) lyp_96.1 fkX12_3.1 fkX12_3.2 fl_X12_16 rfl rfl rfl (fun _ => rfl) (fun _ => rfl) dX12_init_25 ?_
  show q_Gs w g 28 [(0, .ref 96)] [] (100, (zr 0 (zr 0 (zr 0 I 97) 98) 99), (zr 0 (zr 0 (zr 0 L 97) 98) 99), (up2 (zr none (up2 (zr none (up2 (zr none R 97) 96 1 (some 97)) 98) 96 2 (some 98)) 99) 96 3 (some 99)))
  refine g_aload_n K1 0 dX12_init_28 rfl ?_
  refine g_sipush K1 600 dX12_init_29 rfl ?_
  refine g_newarr_byte K1 (N := 600) (by decide) (by decide) (by decide) lyp_100.1 szp_100 (Nat.le_of_ble_eq_true rfl) (Nat.le_of_ble_eq_true rfl) ar_byte dX12_init_32 ?_
  show q_Gs w g 34 [(0, .ref 96)] [.ref 100, .ref 96] (101, (zr 0 (zr 0 (zr 0 (zr 0 I 97) 98) 99) 100), (zr 0 (zr 0 (zr 0 (zr 0 L 97) 98) 99) 100), (zr none (up2 (zr none (up2 (zr none (up2 (zr none R 97) 96 1 (some 97)) 98) 96 2 (some 98)) 99) 96 3 (some 99)) 100))
  refine g_putF K1 q_clX12 4 (Nat.le_of_ble_eq_true rfl) lyp_96.1 fkX12_4.1 fkX12_4.2 fl_X12_20 rfl rfl rfl (fun _ => rfl) (fun _ => rfl) dX12_init_34 ?_
  show q_Gs w g 37 [(0, .ref 96)] [] (101, (zr 0 (zr 0 (zr 0 (zr 0 I 97) 98) 99) 100), (zr 0 (zr 0 (zr 0 (zr 0 L 97) 98) 99) 100), (up2 (zr none (up2 (zr none (up2 (zr none (up2 (zr none R 97) 96 1 (some 97)) 98) 96 2 (some 98)) 99) 96 3 (some 99)) 100) 96 4 (some 100)))
  refine g_aload_n K1 0 dX12_init_37 rfl ?_
  refine g_iconst K1 5 dX12_init_38 rfl ?_
  refine g_newarr_int K1 (N := 5) (by decide) (by decide) (by decide) lyp_101.1 szp_101 (Nat.le_of_ble_eq_true rfl) (Nat.le_of_ble_eq_true rfl) ar_int dX12_init_39 ?_
  show q_Gs w g 41 [(0, .ref 96)] [.ref 101, .ref 96] (102, (zr 0 (zr 0 (zr 0 (zr 0 (zr 0 I 97) 98) 99) 100) 101), (zr 0 (zr 0 (zr 0 (zr 0 (zr 0 L 97) 98) 99) 100) 101), (zr none (up2 (zr none (up2 (zr none (up2 (zr none (up2 (zr none R 97) 96 1 (some 97)) 98) 96 2 (some 98)) 99) 96 3 (some 99)) 100) 96 4 (some 100)) 101))
  refine g_putF K1 q_clX12 6 (Nat.le_of_ble_eq_true rfl) lyp_96.1 fkX12_6.1 fkX12_6.2 fl_X12_24 rfl rfl rfl (fun _ => rfl) (fun _ => rfl) dX12_init_41 ?_
  show q_Gs w g 44 [(0, .ref 96)] [] (102, (zr 0 (zr 0 (zr 0 (zr 0 (zr 0 I 97) 98) 99) 100) 101), (zr 0 (zr 0 (zr 0 (zr 0 (zr 0 L 97) 98) 99) 100) 101), (up2 (zr none (up2 (zr none (up2 (zr none (up2 (zr none (up2 (zr none R 97) 96 1 (some 97)) 98) 96 2 (some 98)) 99) 96 3 (some 99)) 100) 96 4 (some 100)) 101) 96 6 (some 101)))
  refine g_aload_n K1 0 dX12_init_44 rfl ?_
  refine g_iconst K1 (-1) dX12_init_45 rfl ?_
  refine g_putI K1 q_clX12 13 (Nat.le_of_ble_eq_true rfl) lyp_96.1 fkX12_13.1 fkX12_13.2 fl_X12_27 rfl rfl rfl dX12_init_46 ?_
  show q_Gs w g 49 [(0, .ref 96)] [] (102, (up2 (zr 0 (zr 0 (zr 0 (zr 0 (zr 0 I 97) 98) 99) 100) 101) 96 13 (-1)), (zr 0 (zr 0 (zr 0 (zr 0 (zr 0 L 97) 98) 99) 100) 101), (up2 (zr none (up2 (zr none (up2 (zr none (up2 (zr none (up2 (zr none R 97) 96 1 (some 97)) 98) 96 2 (some 98)) 99) 96 3 (some 99)) 100) 96 4 (some 100)) 101) 96 6 (some 101)))
  refine g_aload_n K1 0 dX12_init_49 rfl ?_
  refine g_bipush K1 104 dX12_init_50 rfl ?_
  refine g_newarr_int K1 (N := 104) (by decide) (by decide) (by decide) lyp_102.1 szp_102 (Nat.le_of_ble_eq_true rfl) (Nat.le_of_ble_eq_true rfl) ar_int dX12_init_52 ?_
  show q_Gs w g 54 [(0, .ref 96)] [.ref 102, .ref 96] (103, (zr 0 (up2 (zr 0 (zr 0 (zr 0 (zr 0 (zr 0 I 97) 98) 99) 100) 101) 96 13 (-1)) 102), (zr 0 (zr 0 (zr 0 (zr 0 (zr 0 (zr 0 L 97) 98) 99) 100) 101) 102), (zr none (up2 (zr none (up2 (zr none (up2 (zr none (up2 (zr none (up2 (zr none R 97) 96 1 (some 97)) 98) 96 2 (some 98)) 99) 96 3 (some 99)) 100) 96 4 (some 100)) 101) 96 6 (some 101)) 102))
  refine g_putF K1 q_clX12 14 (Nat.le_of_ble_eq_true rfl) lyp_96.1 fkX12_14.1 fkX12_14.2 fl_X12_31 rfl rfl rfl (fun _ => rfl) (fun _ => rfl) dX12_init_54 ?_
  show q_Gs w g 57 [(0, .ref 96)] [] (103, (zr 0 (up2 (zr 0 (zr 0 (zr 0 (zr 0 (zr 0 I 97) 98) 99) 100) 101) 96 13 (-1)) 102), (zr 0 (zr 0 (zr 0 (zr 0 (zr 0 (zr 0 L 97) 98) 99) 100) 101) 102), (up2 (zr none (up2 (zr none (up2 (zr none (up2 (zr none (up2 (zr none (up2 (zr none R 97) 96 1 (some 97)) 98) 96 2 (some 98)) 99) 96 3 (some 99)) 100) 96 4 (some 100)) 101) 96 6 (some 101)) 102) 96 14 (some 102)))
  refine g_aload_n K1 0 dX12_init_57 rfl ?_
  refine g_bipush K1 91 dX12_init_58 rfl ?_
  refine g_newarr_int K1 (N := 91) (by decide) (by decide) (by decide) lyp_103.1 szp_103 (Nat.le_of_ble_eq_true rfl) (Nat.le_of_ble_eq_true rfl) ar_int dX12_init_60 ?_
  show q_Gs w g 62 [(0, .ref 96)] [.ref 103, .ref 96] (104, (zr 0 (zr 0 (up2 (zr 0 (zr 0 (zr 0 (zr 0 (zr 0 I 97) 98) 99) 100) 101) 96 13 (-1)) 102) 103), (zr 0 (zr 0 (zr 0 (zr 0 (zr 0 (zr 0 (zr 0 L 97) 98) 99) 100) 101) 102) 103), (zr none (up2 (zr none (up2 (zr none (up2 (zr none (up2 (zr none (up2 (zr none (up2 (zr none R 97) 96 1 (some 97)) 98) 96 2 (some 98)) 99) 96 3 (some 99)) 100) 96 4 (some 100)) 101) 96 6 (some 101)) 102) 96 14 (some 102)) 103))
  refine g_putF K1 q_clX12 24 (Nat.le_of_ble_eq_true rfl) lyp_96.1 fkX12_24.1 fkX12_24.2 fl_X12_34 rfl rfl rfl (fun _ => rfl) (fun _ => rfl) dX12_init_62 ?_
  show q_Gs w g 65 [(0, .ref 96)] [] (104, (zr 0 (zr 0 (up2 (zr 0 (zr 0 (zr 0 (zr 0 (zr 0 I 97) 98) 99) 100) 101) 96 13 (-1)) 102) 103), (zr 0 (zr 0 (zr 0 (zr 0 (zr 0 (zr 0 (zr 0 L 97) 98) 99) 100) 101) 102) 103), (up2 (zr none (up2 (zr none (up2 (zr none (up2 (zr none (up2 (zr none (up2 (zr none (up2 (zr none R 97) 96 1 (some 97)) 98) 96 2 (some 98)) 99) 96 3 (some 99)) 100) 96 4 (some 100)) 101) 96 6 (some 101)) 102) 96 14 (some 102)) 103) 96 24 (some 103)))
  refine g_aload_n K1 0 dX12_init_65 rfl ?_
  refine g_bipush K1 91 dX12_init_66 rfl ?_
  refine g_newarr_int K1 (N := 91) (by decide) (by decide) (by decide) lyp_104.1 szp_104 (Nat.le_of_ble_eq_true rfl) (Nat.le_of_ble_eq_true rfl) ar_int dX12_init_68 ?_
  show q_Gs w g 70 [(0, .ref 96)] [.ref 104, .ref 96] (105, (zr 0 (zr 0 (zr 0 (up2 (zr 0 (zr 0 (zr 0 (zr 0 (zr 0 I 97) 98) 99) 100) 101) 96 13 (-1)) 102) 103) 104), (zr 0 (zr 0 (zr 0 (zr 0 (zr 0 (zr 0 (zr 0 (zr 0 L 97) 98) 99) 100) 101) 102) 103) 104), (zr none (up2 (zr none (up2 (zr none (up2 (zr none (up2 (zr none (up2 (zr none (up2 (zr none (up2 (zr none R 97) 96 1 (some 97)) 98) 96 2 (some 98)) 99) 96 3 (some 99)) 100) 96 4 (some 100)) 101) 96 6 (some 101)) 102) 96 14 (some 102)) 103) 96 24 (some 103)) 104))
  refine g_putF K1 q_clX12 25 (Nat.le_of_ble_eq_true rfl) lyp_96.1 fkX12_25.1 fkX12_25.2 fl_X12_37 rfl rfl rfl (fun _ => rfl) (fun _ => rfl) dX12_init_70 ?_
  show q_Gs w g 73 [(0, .ref 96)] [] (105, (zr 0 (zr 0 (zr 0 (up2 (zr 0 (zr 0 (zr 0 (zr 0 (zr 0 I 97) 98) 99) 100) 101) 96 13 (-1)) 102) 103) 104), (zr 0 (zr 0 (zr 0 (zr 0 (zr 0 (zr 0 (zr 0 (zr 0 L 97) 98) 99) 100) 101) 102) 103) 104), (up2 (zr none (up2 (zr none (up2 (zr none (up2 (zr none (up2 (zr none (up2 (zr none (up2 (zr none (up2 (zr none R 97) 96 1 (some 97)) 98) 96 2 (some 98)) 99) 96 3 (some 99)) 100) 96 4 (some 100)) 101) 96 6 (some 101)) 102) 96 14 (some 102)) 103) 96 24 (some 103)) 104) 96 25 (some 104)))
  refine g_aload_n K1 0 dX12_init_73 rfl ?_
  refine g_bipush K1 91 dX12_init_74 rfl ?_
  refine g_newarr_int K1 (N := 91) (by decide) (by decide) (by decide) lyp_105.1 szp_105 (Nat.le_of_ble_eq_true rfl) (Nat.le_of_ble_eq_true rfl) ar_int dX12_init_76 ?_
  show q_Gs w g 78 [(0, .ref 96)] [.ref 105, .ref 96] (106, (zr 0 (zr 0 (zr 0 (zr 0 (up2 (zr 0 (zr 0 (zr 0 (zr 0 (zr 0 I 97) 98) 99) 100) 101) 96 13 (-1)) 102) 103) 104) 105), (zr 0 (zr 0 (zr 0 (zr 0 (zr 0 (zr 0 (zr 0 (zr 0 (zr 0 L 97) 98) 99) 100) 101) 102) 103) 104) 105), (zr none (up2 (zr none (up2 (zr none (up2 (zr none (up2 (zr none (up2 (zr none (up2 (zr none (up2 (zr none (up2 (zr none R 97) 96 1 (some 97)) 98) 96 2 (some 98)) 99) 96 3 (some 99)) 100) 96 4 (some 100)) 101) 96 6 (some 101)) 102) 96 14 (some 102)) 103) 96 24 (some 103)) 104) 96 25 (some 104)) 105))
  refine g_putF K1 q_clX12 26 (Nat.le_of_ble_eq_true rfl) lyp_96.1 fkX12_26.1 fkX12_26.2 fl_X12_40 rfl rfl rfl (fun _ => rfl) (fun _ => rfl) dX12_init_78 ?_
  show q_Gs w g 81 [(0, .ref 96)] [] (106, (zr 0 (zr 0 (zr 0 (zr 0 (up2 (zr 0 (zr 0 (zr 0 (zr 0 (zr 0 I 97) 98) 99) 100) 101) 96 13 (-1)) 102) 103) 104) 105), (zr 0 (zr 0 (zr 0 (zr 0 (zr 0 (zr 0 (zr 0 (zr 0 (zr 0 L 97) 98) 99) 100) 101) 102) 103) 104) 105), (up2 (zr none (up2 (zr none (up2 (zr none (up2 (zr none (up2 (zr none (up2 (zr none (up2 (zr none (up2 (zr none (up2 (zr none R 97) 96 1 (some 97)) 98) 96 2 (some 98)) 99) 96 3 (some 99)) 100) 96 4 (some 100)) 101) 96 6 (some 101)) 102) 96 14 (some 102)) 103) 96 24 (some 103)) 104) 96 25 (some 104)) 105) 96 26 (some 105)))
  refine g_aload_n K1 0 dX12_init_81 rfl ?_
  refine g_bipush K1 91 dX12_init_82 rfl ?_
  refine g_newarr_int K1 (N := 91) (by decide) (by decide) (by decide) lyp_106.1 szp_106 (Nat.le_of_ble_eq_true rfl) (Nat.le_of_ble_eq_true rfl) ar_int dX12_init_84 ?_
  show q_Gs w g 86 [(0, .ref 96)] [.ref 106, .ref 96] (107, (zr 0 (zr 0 (zr 0 (zr 0 (zr 0 (up2 (zr 0 (zr 0 (zr 0 (zr 0 (zr 0 I 97) 98) 99) 100) 101) 96 13 (-1)) 102) 103) 104) 105) 106), (zr 0 (zr 0 (zr 0 (zr 0 (zr 0 (zr 0 (zr 0 (zr 0 (zr 0 (zr 0 L 97) 98) 99) 100) 101) 102) 103) 104) 105) 106), (zr none (up2 (zr none (up2 (zr none (up2 (zr none (up2 (zr none (up2 (zr none (up2 (zr none (up2 (zr none (up2 (zr none (up2 (zr none R 97) 96 1 (some 97)) 98) 96 2 (some 98)) 99) 96 3 (some 99)) 100) 96 4 (some 100)) 101) 96 6 (some 101)) 102) 96 14 (some 102)) 103) 96 24 (some 103)) 104) 96 25 (some 104)) 105) 96 26 (some 105)) 106))
  refine g_putF K1 q_clX12 27 (Nat.le_of_ble_eq_true rfl) lyp_96.1 fkX12_27.1 fkX12_27.2 fl_X12_43 rfl rfl rfl (fun _ => rfl) (fun _ => rfl) dX12_init_86 ?_
  show q_Gs w g 89 [(0, .ref 96)] [] (107, (zr 0 (zr 0 (zr 0 (zr 0 (zr 0 (up2 (zr 0 (zr 0 (zr 0 (zr 0 (zr 0 I 97) 98) 99) 100) 101) 96 13 (-1)) 102) 103) 104) 105) 106), (zr 0 (zr 0 (zr 0 (zr 0 (zr 0 (zr 0 (zr 0 (zr 0 (zr 0 (zr 0 L 97) 98) 99) 100) 101) 102) 103) 104) 105) 106), (up2 (zr none (up2 (zr none (up2 (zr none (up2 (zr none (up2 (zr none (up2 (zr none (up2 (zr none (up2 (zr none (up2 (zr none (up2 (zr none R 97) 96 1 (some 97)) 98) 96 2 (some 98)) 99) 96 3 (some 99)) 100) 96 4 (some 100)) 101) 96 6 (some 101)) 102) 96 14 (some 102)) 103) 96 24 (some 103)) 104) 96 25 (some 104)) 105) 96 26 (some 105)) 106) 96 27 (some 106)))
  refine g_aload_n K1 0 dX12_init_89 rfl ?_
  refine g_sipush K1 128 dX12_init_90 rfl ?_
  refine g_newarr_int K1 (N := 128) (by decide) (by decide) (by decide) lyp_107.1 szp_107 (Nat.le_of_ble_eq_true rfl) (Nat.le_of_ble_eq_true rfl) ar_int dX12_init_93 ?_
  show q_Gs w g 95 [(0, .ref 96)] [.ref 107, .ref 96] (108, (zr 0 (zr 0 (zr 0 (zr 0 (zr 0 (zr 0 (up2 (zr 0 (zr 0 (zr 0 (zr 0 (zr 0 I 97) 98) 99) 100) 101) 96 13 (-1)) 102) 103) 104) 105) 106) 107), (zr 0 (zr 0 (zr 0 (zr 0 (zr 0 (zr 0 (zr 0 (zr 0 (zr 0 (zr 0 (zr 0 L 97) 98) 99) 100) 101) 102) 103) 104) 105) 106) 107), (zr none (up2 (zr none (up2 (zr none (up2 (zr none (up2 (zr none (up2 (zr none (up2 (zr none (up2 (zr none (up2 (zr none (up2 (zr none (up2 (zr none R 97) 96 1 (some 97)) 98) 96 2 (some 98)) 99) 96 3 (some 99)) 100) 96 4 (some 100)) 101) 96 6 (some 101)) 102) 96 14 (some 102)) 103) 96 24 (some 103)) 104) 96 25 (some 104)) 105) 96 26 (some 105)) 106) 96 27 (some 106)) 107))
  refine g_putF K1 q_clX12 31 (Nat.le_of_ble_eq_true rfl) lyp_96.1 fkX12_31.1 fkX12_31.2 fl_X12_46 rfl rfl rfl (fun _ => rfl) (fun _ => rfl) dX12_init_95 ?_
  show q_Gs w g 98 [(0, .ref 96)] [] (108, (zr 0 (zr 0 (zr 0 (zr 0 (zr 0 (zr 0 (up2 (zr 0 (zr 0 (zr 0 (zr 0 (zr 0 I 97) 98) 99) 100) 101) 96 13 (-1)) 102) 103) 104) 105) 106) 107), (zr 0 (zr 0 (zr 0 (zr 0 (zr 0 (zr 0 (zr 0 (zr 0 (zr 0 (zr 0 (zr 0 L 97) 98) 99) 100) 101) 102) 103) 104) 105) 106) 107), (up2 (zr none (up2 (zr none (up2 (zr none (up2 (zr none (up2 (zr none (up2 (zr none (up2 (zr none (up2 (zr none (up2 (zr none (up2 (zr none (up2 (zr none R 97) 96 1 (some 97)) 98) 96 2 (some 98)) 99) 96 3 (some 99)) 100) 96 4 (some 100)) 101) 96 6 (some 101)) 102) 96 14 (some 102)) 103) 96 24 (some 103)) 104) 96 25 (some 104)) 105) 96 26 (some 105)) 106) 96 27 (some 106)) 107) 96 31 (some 107)))
  refine g_aload_n K1 0 dX12_init_98 rfl ?_
  refine g_sipush K1 637 dX12_init_99 rfl ?_
  refine g_newarr_int K1 (N := 637) (by decide) (by decide) (by decide) lyp_108.1 szp_108 (Nat.le_of_ble_eq_true rfl) (Nat.le_of_ble_eq_true rfl) ar_int dX12_init_102 ?_
  show q_Gs w g 104 [(0, .ref 96)] [.ref 108, .ref 96] (109, (zr 0 (zr 0 (zr 0 (zr 0 (zr 0 (zr 0 (zr 0 (up2 (zr 0 (zr 0 (zr 0 (zr 0 (zr 0 I 97) 98) 99) 100) 101) 96 13 (-1)) 102) 103) 104) 105) 106) 107) 108), (zr 0 (zr 0 (zr 0 (zr 0 (zr 0 (zr 0 (zr 0 (zr 0 (zr 0 (zr 0 (zr 0 (zr 0 L 97) 98) 99) 100) 101) 102) 103) 104) 105) 106) 107) 108), (zr none (up2 (zr none (up2 (zr none (up2 (zr none (up2 (zr none (up2 (zr none (up2 (zr none (up2 (zr none (up2 (zr none (up2 (zr none (up2 (zr none (up2 (zr none R 97) 96 1 (some 97)) 98) 96 2 (some 98)) 99) 96 3 (some 99)) 100) 96 4 (some 100)) 101) 96 6 (some 101)) 102) 96 14 (some 102)) 103) 96 24 (some 103)) 104) 96 25 (some 104)) 105) 96 26 (some 105)) 106) 96 27 (some 106)) 107) 96 31 (some 107)) 108))
  refine g_putF K1 q_clX12 32 (Nat.le_of_ble_eq_true rfl) lyp_96.1 fkX12_32.1 fkX12_32.2 fl_X12_49 rfl rfl rfl (fun _ => rfl) (fun _ => rfl) dX12_init_104 ?_
  show q_Gs w g 107 [(0, .ref 96)] [] (109, (zr 0 (zr 0 (zr 0 (zr 0 (zr 0 (zr 0 (zr 0 (up2 (zr 0 (zr 0 (zr 0 (zr 0 (zr 0 I 97) 98) 99) 100) 101) 96 13 (-1)) 102) 103) 104) 105) 106) 107) 108), (zr 0 (zr 0 (zr 0 (zr 0 (zr 0 (zr 0 (zr 0 (zr 0 (zr 0 (zr 0 (zr 0 (zr 0 L 97) 98) 99) 100) 101) 102) 103) 104) 105) 106) 107) 108), (up2 (zr none (up2 (zr none (up2 (zr none (up2 (zr none (up2 (zr none (up2 (zr none (up2 (zr none (up2 (zr none (up2 (zr none (up2 (zr none (up2 (zr none (up2 (zr none R 97) 96 1 (some 97)) 98) 96 2 (some 98)) 99) 96 3 (some 99)) 100) 96 4 (some 100)) 101) 96 6 (some 101)) 102) 96 14 (some 102)) 103) 96 24 (some 103)) 104) 96 25 (some 104)) 105) 96 26 (some 105)) 106) 96 27 (some 106)) 107) 96 31 (some 107)) 108) 96 32 (some 108)))
  refine g_aload_n K1 0 dX12_init_107 rfl ?_
  refine g_iconst K1 4 dX12_init_108 rfl ?_
  refine g_newarr_int K1 (N := 4) (by decide) (by decide) (by decide) lyp_109.1 szp_109 (Nat.le_of_ble_eq_true rfl) (Nat.le_of_ble_eq_true rfl) ar_int dX12_init_109 ?_
  show q_Gs w g 111 [(0, .ref 96)] [.ref 109, .ref 96] (110, (zr 0 (zr 0 (zr 0 (zr 0 (zr 0 (zr 0 (zr 0 (zr 0 (up2 (zr 0 (zr 0 (zr 0 (zr 0 (zr 0 I 97) 98) 99) 100) 101) 96 13 (-1)) 102) 103) 104) 105) 106) 107) 108) 109), (zr 0 (zr 0 (zr 0 (zr 0 (zr 0 (zr 0 (zr 0 (zr 0 (zr 0 (zr 0 (zr 0 (zr 0 (zr 0 L 97) 98) 99) 100) 101) 102) 103) 104) 105) 106) 107) 108) 109), (zr none (up2 (zr none (up2 (zr none (up2 (zr none (up2 (zr none (up2 (zr none (up2 (zr none (up2 (zr none (up2 (zr none (up2 (zr none (up2 (zr none (up2 (zr none (up2 (zr none R 97) 96 1 (some 97)) 98) 96 2 (some 98)) 99) 96 3 (some 99)) 100) 96 4 (some 100)) 101) 96 6 (some 101)) 102) 96 14 (some 102)) 103) 96 24 (some 103)) 104) 96 25 (some 104)) 105) 96 26 (some 105)) 106) 96 27 (some 106)) 107) 96 31 (some 107)) 108) 96 32 (some 108)) 109))
  refine g_dup K1 dX12_init_111 rfl ?_
  refine g_iconst K1 0 dX12_init_112 rfl ?_
  refine g_iconst K1 (-1) dX12_init_113 rfl ?_
  refine g_iastore K1 (Nat.le_of_ble_eq_true rfl) lyp_109.1 (by unfold vp_in; decide) dX12_init_114 ?_
  show q_Gs w g 115 [(0, .ref 96)] [.ref 109, .ref 96] (110, (up2 (zr 0 (zr 0 (zr 0 (zr 0 (zr 0 (zr 0 (zr 0 (zr 0 (up2 (zr 0 (zr 0 (zr 0 (zr 0 (zr 0 I 97) 98) 99) 100) 101) 96 13 (-1)) 102) 103) 104) 105) 106) 107) 108) 109) 109 0 (-1)), (zr 0 (zr 0 (zr 0 (zr 0 (zr 0 (zr 0 (zr 0 (zr 0 (zr 0 (zr 0 (zr 0 (zr 0 (zr 0 L 97) 98) 99) 100) 101) 102) 103) 104) 105) 106) 107) 108) 109), (zr none (up2 (zr none (up2 (zr none (up2 (zr none (up2 (zr none (up2 (zr none (up2 (zr none (up2 (zr none (up2 (zr none (up2 (zr none (up2 (zr none (up2 (zr none (up2 (zr none R 97) 96 1 (some 97)) 98) 96 2 (some 98)) 99) 96 3 (some 99)) 100) 96 4 (some 100)) 101) 96 6 (some 101)) 102) 96 14 (some 102)) 103) 96 24 (some 103)) 104) 96 25 (some 104)) 105) 96 26 (some 105)) 106) 96 27 (some 106)) 107) 96 31 (some 107)) 108) 96 32 (some 108)) 109))
  refine g_dup K1 dX12_init_115 rfl ?_
  refine g_iconst K1 1 dX12_init_116 rfl ?_
  refine g_iconst K1 (-1) dX12_init_117 rfl ?_
  refine g_iastore K1 (Nat.le_of_ble_eq_true rfl) lyp_109.1 (by unfold vp_in; decide) dX12_init_118 ?_
  show q_Gs w g 119 [(0, .ref 96)] [.ref 109, .ref 96] (110, (up2 (up2 (zr 0 (zr 0 (zr 0 (zr 0 (zr 0 (zr 0 (zr 0 (zr 0 (up2 (zr 0 (zr 0 (zr 0 (zr 0 (zr 0 I 97) 98) 99) 100) 101) 96 13 (-1)) 102) 103) 104) 105) 106) 107) 108) 109) 109 0 (-1)) 109 1 (-1)), (zr 0 (zr 0 (zr 0 (zr 0 (zr 0 (zr 0 (zr 0 (zr 0 (zr 0 (zr 0 (zr 0 (zr 0 (zr 0 L 97) 98) 99) 100) 101) 102) 103) 104) 105) 106) 107) 108) 109), (zr none (up2 (zr none (up2 (zr none (up2 (zr none (up2 (zr none (up2 (zr none (up2 (zr none (up2 (zr none (up2 (zr none (up2 (zr none (up2 (zr none (up2 (zr none (up2 (zr none R 97) 96 1 (some 97)) 98) 96 2 (some 98)) 99) 96 3 (some 99)) 100) 96 4 (some 100)) 101) 96 6 (some 101)) 102) 96 14 (some 102)) 103) 96 24 (some 103)) 104) 96 25 (some 104)) 105) 96 26 (some 105)) 106) 96 27 (some 106)) 107) 96 31 (some 107)) 108) 96 32 (some 108)) 109))
  refine g_dup K1 dX12_init_119 rfl ?_
  refine g_iconst K1 2 dX12_init_120 rfl ?_
  refine g_iconst K1 (-1) dX12_init_121 rfl ?_
  refine g_iastore K1 (Nat.le_of_ble_eq_true rfl) lyp_109.1 (by unfold vp_in; decide) dX12_init_122 ?_
  show q_Gs w g 123 [(0, .ref 96)] [.ref 109, .ref 96] (110, (up2 (up2 (up2 (zr 0 (zr 0 (zr 0 (zr 0 (zr 0 (zr 0 (zr 0 (zr 0 (up2 (zr 0 (zr 0 (zr 0 (zr 0 (zr 0 I 97) 98) 99) 100) 101) 96 13 (-1)) 102) 103) 104) 105) 106) 107) 108) 109) 109 0 (-1)) 109 1 (-1)) 109 2 (-1)), (zr 0 (zr 0 (zr 0 (zr 0 (zr 0 (zr 0 (zr 0 (zr 0 (zr 0 (zr 0 (zr 0 (zr 0 (zr 0 L 97) 98) 99) 100) 101) 102) 103) 104) 105) 106) 107) 108) 109), (zr none (up2 (zr none (up2 (zr none (up2 (zr none (up2 (zr none (up2 (zr none (up2 (zr none (up2 (zr none (up2 (zr none (up2 (zr none (up2 (zr none (up2 (zr none (up2 (zr none R 97) 96 1 (some 97)) 98) 96 2 (some 98)) 99) 96 3 (some 99)) 100) 96 4 (some 100)) 101) 96 6 (some 101)) 102) 96 14 (some 102)) 103) 96 24 (some 103)) 104) 96 25 (some 104)) 105) 96 26 (some 105)) 106) 96 27 (some 106)) 107) 96 31 (some 107)) 108) 96 32 (some 108)) 109))
  refine g_dup K1 dX12_init_123 rfl ?_
  refine g_iconst K1 3 dX12_init_124 rfl ?_
  refine g_iconst K1 (-1) dX12_init_125 rfl ?_
  refine g_iastore K1 (Nat.le_of_ble_eq_true rfl) lyp_109.1 (by unfold vp_in; decide) dX12_init_126 ?_
  show q_Gs w g 127 [(0, .ref 96)] [.ref 109, .ref 96] (110, (up2 (up2 (up2 (up2 (zr 0 (zr 0 (zr 0 (zr 0 (zr 0 (zr 0 (zr 0 (zr 0 (up2 (zr 0 (zr 0 (zr 0 (zr 0 (zr 0 I 97) 98) 99) 100) 101) 96 13 (-1)) 102) 103) 104) 105) 106) 107) 108) 109) 109 0 (-1)) 109 1 (-1)) 109 2 (-1)) 109 3 (-1)), (zr 0 (zr 0 (zr 0 (zr 0 (zr 0 (zr 0 (zr 0 (zr 0 (zr 0 (zr 0 (zr 0 (zr 0 (zr 0 L 97) 98) 99) 100) 101) 102) 103) 104) 105) 106) 107) 108) 109), (zr none (up2 (zr none (up2 (zr none (up2 (zr none (up2 (zr none (up2 (zr none (up2 (zr none (up2 (zr none (up2 (zr none (up2 (zr none (up2 (zr none (up2 (zr none (up2 (zr none R 97) 96 1 (some 97)) 98) 96 2 (some 98)) 99) 96 3 (some 99)) 100) 96 4 (some 100)) 101) 96 6 (some 101)) 102) 96 14 (some 102)) 103) 96 24 (some 103)) 104) 96 25 (some 104)) 105) 96 26 (some 105)) 106) 96 27 (some 106)) 107) 96 31 (some 107)) 108) 96 32 (some 108)) 109))
  refine g_putF K1 q_clX12 37 (Nat.le_of_ble_eq_true rfl) lyp_96.1 fkX12_37.1 fkX12_37.2 fl_X12_52 rfl rfl rfl (fun _ => rfl) (fun _ => rfl) dX12_init_127 ?_
  show q_Gs w g 130 [(0, .ref 96)] [] (110, (up2 (up2 (up2 (up2 (zr 0 (zr 0 (zr 0 (zr 0 (zr 0 (zr 0 (zr 0 (zr 0 (up2 (zr 0 (zr 0 (zr 0 (zr 0 (zr 0 I 97) 98) 99) 100) 101) 96 13 (-1)) 102) 103) 104) 105) 106) 107) 108) 109) 109 0 (-1)) 109 1 (-1)) 109 2 (-1)) 109 3 (-1)), (zr 0 (zr 0 (zr 0 (zr 0 (zr 0 (zr 0 (zr 0 (zr 0 (zr 0 (zr 0 (zr 0 (zr 0 (zr 0 L 97) 98) 99) 100) 101) 102) 103) 104) 105) 106) 107) 108) 109), (up2 (zr none (up2 (zr none (up2 (zr none (up2 (zr none (up2 (zr none (up2 (zr none (up2 (zr none (up2 (zr none (up2 (zr none (up2 (zr none (up2 (zr none (up2 (zr none (up2 (zr none R 97) 96 1 (some 97)) 98) 96 2 (some 98)) 99) 96 3 (some 99)) 100) 96 4 (some 100)) 101) 96 6 (some 101)) 102) 96 14 (some 102)) 103) 96 24 (some 103)) 104) 96 25 (some 104)) 105) 96 26 (some 105)) 106) 96 27 (some 106)) 107) 96 31 (some 107)) 108) 96 32 (some 108)) 109) 96 37 (some 109)))
  refine g_aload_n K1 0 dX12_init_130 rfl ?_
  refine g_iconst K1 4 dX12_init_131 rfl ?_
  refine g_newarr_int K1 (N := 4) (by decide) (by decide) (by decide) lyp_110.1 szp_110 (Nat.le_of_ble_eq_true rfl) (Nat.le_of_ble_eq_true rfl) ar_int dX12_init_132 ?_
  show q_Gs w g 134 [(0, .ref 96)] [.ref 110, .ref 96] (111, (zr 0 (up2 (up2 (up2 (up2 (zr 0 (zr 0 (zr 0 (zr 0 (zr 0 (zr 0 (zr 0 (zr 0 (up2 (zr 0 (zr 0 (zr 0 (zr 0 (zr 0 I 97) 98) 99) 100) 101) 96 13 (-1)) 102) 103) 104) 105) 106) 107) 108) 109) 109 0 (-1)) 109 1 (-1)) 109 2 (-1)) 109 3 (-1)) 110), (zr 0 (zr 0 (zr 0 (zr 0 (zr 0 (zr 0 (zr 0 (zr 0 (zr 0 (zr 0 (zr 0 (zr 0 (zr 0 (zr 0 L 97) 98) 99) 100) 101) 102) 103) 104) 105) 106) 107) 108) 109) 110), (zr none (up2 (zr none (up2 (zr none (up2 (zr none (up2 (zr none (up2 (zr none (up2 (zr none (up2 (zr none (up2 (zr none (up2 (zr none (up2 (zr none (up2 (zr none (up2 (zr none (up2 (zr none R 97) 96 1 (some 97)) 98) 96 2 (some 98)) 99) 96 3 (some 99)) 100) 96 4 (some 100)) 101) 96 6 (some 101)) 102) 96 14 (some 102)) 103) 96 24 (some 103)) 104) 96 25 (some 104)) 105) 96 26 (some 105)) 106) 96 27 (some 106)) 107) 96 31 (some 107)) 108) 96 32 (some 108)) 109) 96 37 (some 109)) 110))
  refine g_putF K1 q_clX12 38 (Nat.le_of_ble_eq_true rfl) lyp_96.1 fkX12_38.1 fkX12_38.2 fl_X12_55 rfl rfl rfl (fun _ => rfl) (fun _ => rfl) dX12_init_134 ?_
  show q_Gs w g 137 [(0, .ref 96)] [] (111, (zr 0 (up2 (up2 (up2 (up2 (zr 0 (zr 0 (zr 0 (zr 0 (zr 0 (zr 0 (zr 0 (zr 0 (up2 (zr 0 (zr 0 (zr 0 (zr 0 (zr 0 I 97) 98) 99) 100) 101) 96 13 (-1)) 102) 103) 104) 105) 106) 107) 108) 109) 109 0 (-1)) 109 1 (-1)) 109 2 (-1)) 109 3 (-1)) 110), (zr 0 (zr 0 (zr 0 (zr 0 (zr 0 (zr 0 (zr 0 (zr 0 (zr 0 (zr 0 (zr 0 (zr 0 (zr 0 (zr 0 L 97) 98) 99) 100) 101) 102) 103) 104) 105) 106) 107) 108) 109) 110), (up2 (zr none (up2 (zr none (up2 (zr none (up2 (zr none (up2 (zr none (up2 (zr none (up2 (zr none (up2 (zr none (up2 (zr none (up2 (zr none (up2 (zr none (up2 (zr none (up2 (zr none (up2 (zr none R 97) 96 1 (some 97)) 98) 96 2 (some 98)) 99) 96 3 (some 99)) 100) 96 4 (some 100)) 101) 96 6 (some 101)) 102) 96 14 (some 102)) 103) 96 24 (some 103)) 104) 96 25 (some 104)) 105) 96 26 (some 105)) 106) 96 27 (some 106)) 107) 96 31 (some 107)) 108) 96 32 (some 108)) 109) 96 37 (some 109)) 110) 96 38 (some 110)))
  refine g_aload_n K1 0 dX12_init_137 rfl ?_
  refine g_sipush K1 240 dX12_init_138 rfl ?_
  refine g_newarr_long K1 (N := 240) (by decide) (by decide) (by decide) lyp_111.1 szp_111 (Nat.le_of_ble_eq_true rfl) (Nat.le_of_ble_eq_true rfl) ar_long dX12_init_141 ?_
  show q_Gs w g 143 [(0, .ref 96)] [.ref 111, .ref 96] (112, (zr 0 (zr 0 (up2 (up2 (up2 (up2 (zr 0 (zr 0 (zr 0 (zr 0 (zr 0 (zr 0 (zr 0 (zr 0 (up2 (zr 0 (zr 0 (zr 0 (zr 0 (zr 0 I 97) 98) 99) 100) 101) 96 13 (-1)) 102) 103) 104) 105) 106) 107) 108) 109) 109 0 (-1)) 109 1 (-1)) 109 2 (-1)) 109 3 (-1)) 110) 111), (zr 0 (zr 0 (zr 0 (zr 0 (zr 0 (zr 0 (zr 0 (zr 0 (zr 0 (zr 0 (zr 0 (zr 0 (zr 0 (zr 0 (zr 0 L 97) 98) 99) 100) 101) 102) 103) 104) 105) 106) 107) 108) 109) 110) 111), (zr none (up2 (zr none (up2 (zr none (up2 (zr none (up2 (zr none (up2 (zr none (up2 (zr none (up2 (zr none (up2 (zr none (up2 (zr none (up2 (zr none (up2 (zr none (up2 (zr none (up2 (zr none (up2 (zr none R 97) 96 1 (some 97)) 98) 96 2 (some 98)) 99) 96 3 (some 99)) 100) 96 4 (some 100)) 101) 96 6 (some 101)) 102) 96 14 (some 102)) 103) 96 24 (some 103)) 104) 96 25 (some 104)) 105) 96 26 (some 105)) 106) 96 27 (some 106)) 107) 96 31 (some 107)) 108) 96 32 (some 108)) 109) 96 37 (some 109)) 110) 96 38 (some 110)) 111))
  refine g_putF K1 q_clX12 39 (Nat.le_of_ble_eq_true rfl) lyp_96.1 fkX12_39.1 fkX12_39.2 fl_X12_58 rfl rfl rfl (fun _ => rfl) (fun _ => rfl) dX12_init_143 ?_
  show q_Gs w g 146 [(0, .ref 96)] [] (112, (zr 0 (zr 0 (up2 (up2 (up2 (up2 (zr 0 (zr 0 (zr 0 (zr 0 (zr 0 (zr 0 (zr 0 (zr 0 (up2 (zr 0 (zr 0 (zr 0 (zr 0 (zr 0 I 97) 98) 99) 100) 101) 96 13 (-1)) 102) 103) 104) 105) 106) 107) 108) 109) 109 0 (-1)) 109 1 (-1)) 109 2 (-1)) 109 3 (-1)) 110) 111), (zr 0 (zr 0 (zr 0 (zr 0 (zr 0 (zr 0 (zr 0 (zr 0 (zr 0 (zr 0 (zr 0 (zr 0 (zr 0 (zr 0 (zr 0 L 97) 98) 99) 100) 101) 102) 103) 104) 105) 106) 107) 108) 109) 110) 111), (up2 (zr none (up2 (zr none (up2 (zr none (up2 (zr none (up2 (zr none (up2 (zr none (up2 (zr none (up2 (zr none (up2 (zr none (up2 (zr none (up2 (zr none (up2 (zr none (up2 (zr none (up2 (zr none (up2 (zr none R 97) 96 1 (some 97)) 98) 96 2 (some 98)) 99) 96 3 (some 99)) 100) 96 4 (some 100)) 101) 96 6 (some 101)) 102) 96 14 (some 102)) 103) 96 24 (some 103)) 104) 96 25 (some 104)) 105) 96 26 (some 105)) 106) 96 27 (some 106)) 107) 96 31 (some 107)) 108) 96 32 (some 108)) 109) 96 37 (some 109)) 110) 96 38 (some 110)) 111) 96 39 (some 111)))
  refine g_aload_n K1 0 dX12_init_146 rfl ?_
  refine g_bipush K1 60 dX12_init_147 rfl ?_
  refine g_newarr_long K1 (N := 60) (by decide) (by decide) (by decide) lyp_112.1 szp_112 (Nat.le_of_ble_eq_true rfl) (Nat.le_of_ble_eq_true rfl) ar_long dX12_init_149 ?_
  show q_Gs w g 151 [(0, .ref 96)] [.ref 112, .ref 96] (113, (zr 0 (zr 0 (zr 0 (up2 (up2 (up2 (up2 (zr 0 (zr 0 (zr 0 (zr 0 (zr 0 (zr 0 (zr 0 (zr 0 (up2 (zr 0 (zr 0 (zr 0 (zr 0 (zr 0 I 97) 98) 99) 100) 101) 96 13 (-1)) 102) 103) 104) 105) 106) 107) 108) 109) 109 0 (-1)) 109 1 (-1)) 109 2 (-1)) 109 3 (-1)) 110) 111) 112), (zr 0 (zr 0 (zr 0 (zr 0 (zr 0 (zr 0 (zr 0 (zr 0 (zr 0 (zr 0 (zr 0 (zr 0 (zr 0 (zr 0 (zr 0 (zr 0 L 97) 98) 99) 100) 101) 102) 103) 104) 105) 106) 107) 108) 109) 110) 111) 112), (zr none (up2 (zr none (up2 (zr none (up2 (zr none (up2 (zr none (up2 (zr none (up2 (zr none (up2 (zr none (up2 (zr none (up2 (zr none (up2 (zr none (up2 (zr none (up2 (zr none (up2 (zr none (up2 (zr none (up2 (zr none R 97) 96 1 (some 97)) 98) 96 2 (some 98)) 99) 96 3 (some 99)) 100) 96 4 (some 100)) 101) 96 6 (some 101)) 102) 96 14 (some 102)) 103) 96 24 (some 103)) 104) 96 25 (some 104)) 105) 96 26 (some 105)) 106) 96 27 (some 106)) 107) 96 31 (some 107)) 108) 96 32 (some 108)) 109) 96 37 (some 109)) 110) 96 38 (some 110)) 111) 96 39 (some 111)) 112))
  refine g_putF K1 q_clX12 40 (Nat.le_of_ble_eq_true rfl) lyp_96.1 fkX12_40.1 fkX12_40.2 fl_X12_62 rfl rfl rfl (fun _ => rfl) (fun _ => rfl) dX12_init_151 ?_
  show q_Gs w g 154 [(0, .ref 96)] [] (113, (zr 0 (zr 0 (zr 0 (up2 (up2 (up2 (up2 (zr 0 (zr 0 (zr 0 (zr 0 (zr 0 (zr 0 (zr 0 (zr 0 (up2 (zr 0 (zr 0 (zr 0 (zr 0 (zr 0 I 97) 98) 99) 100) 101) 96 13 (-1)) 102) 103) 104) 105) 106) 107) 108) 109) 109 0 (-1)) 109 1 (-1)) 109 2 (-1)) 109 3 (-1)) 110) 111) 112), (zr 0 (zr 0 (zr 0 (zr 0 (zr 0 (zr 0 (zr 0 (zr 0 (zr 0 (zr 0 (zr 0 (zr 0 (zr 0 (zr 0 (zr 0 (zr 0 L 97) 98) 99) 100) 101) 102) 103) 104) 105) 106) 107) 108) 109) 110) 111) 112), (up2 (zr none (up2 (zr none (up2 (zr none (up2 (zr none (up2 (zr none (up2 (zr none (up2 (zr none (up2 (zr none (up2 (zr none (up2 (zr none (up2 (zr none (up2 (zr none (up2 (zr none (up2 (zr none (up2 (zr none (up2 (zr none R 97) 96 1 (some 97)) 98) 96 2 (some 98)) 99) 96 3 (some 99)) 100) 96 4 (some 100)) 101) 96 6 (some 101)) 102) 96 14 (some 102)) 103) 96 24 (some 103)) 104) 96 25 (some 104)) 105) 96 26 (some 105)) 106) 96 27 (some 106)) 107) 96 31 (some 107)) 108) 96 32 (some 108)) 109) 96 37 (some 109)) 110) 96 38 (some 110)) 111) 96 39 (some 111)) 112) 96 40 (some 112)))
  exact g_vreturn K rfl dX12_init_154
