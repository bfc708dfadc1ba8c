/-! THE REFERENCE: an hour begins. -/
theorem mE_one (a : Nat) : mE [a] = a := by show 5 * 0 + a = a; omega
section MH
variable {A : Nt} {P : Pm} {I : Nat → Nat → Int32} {L : Nat → Nat → Int64}
theorem ce_beginHour (hR : RM A I 97 0) (hV : NV A) (hP : PMd P I) (hPV : PV A P) (hG : P.2.1.2.2.1 ≠ -1 → P.2.1.2.1 ≠ -1) {t : Nat} (ht : t ≤ A.1 0 0) {r : Rw} (hr : rwE mE I 101 t (A.1 0 3) r) (hv : RV (A.1 0 3) t r) : ∃ I', q_C kX12_beginHour [.ref 96, .int (nI t)] I L none I' L ∧ rwE mE I' 101 t (A.1 0 3) (dress A P t r) ∧ FrR 101 t I I' := by
  have h0 := hV.1.1
  have h3 := hV.1.2.2.2.1
  have h6 := hV.1.2.2.2.2.2.2.1
  have h7 := hV.1.2.2.2.2.2.2.2.1
  have e7 : ∀ J, FrR 101 t I J → J 97 7 = nI (A.1 0 7) := fun J hf => by rw [hf 97 7 (by omega)]; exact hR.1 7 (by decide)
  have e6 : ∀ J, FrR 101 t I J → J 97 6 = nI (A.1 0 6) := fun J hf => by rw [hf 97 6 (by omega)]; exact hR.1 6 (by decide)
  have ea : ∀ J, FrR 101 t I J → ∀ k, k < A.1 0 7 → J 97 (74 + k) = nI (10000 * A.1 10 k + 100 * A.1 9 k + A.1 11 k) := fun J hf k hk => by rw [hf 97 _ (by omega), ← hR.2.2.2.2.2 k hk]
  have gus : ∀ (J : Nat → Nat → Int32) (r0 : Rw), FrR 101 t I J → rwE mE J 101 t (A.1 0 3) r0 → ∃ I', ((J 96 22 = nI t → ∃ I1, q_C kX12_putsOut [.ref 96, .int (J 96 21), .int (nI t)] J L none I1 L ∧ (I' = I1)) ∧ (¬ J 96 22 = nI t → I' = J)) ∧ rwE mE I' 101 t (A.1 0 3) (gusR P t r0) ∧ FrR 101 t I I' := by
    intro J r0 hf hr0
    have e22 : J 96 22 = iI P.2.1.2.2.1 := by rw [hf 96 22 (by omega)]; exact hP.2.2.2.2.2.1
    have e21 : J 96 21 = iI P.2.1.2.1 := by rw [hf 96 21 (by omega)]; exact hP.2.2.2.2.1
    have hg := hPV.2.1.2.2.1
    have hg2 := hPV.2.1.2.1
    unfold gusR
    rw [e22, e21, ← iI_n t, iI_eq (by omega) (by omega)]
    by_cases e : P.2.1.2.2.1 = t
    · have hne := hG (by omega)
      rw [if_pos ⟨e, hne⟩]
      obtain ⟨J1, c1, hr1, hf1⟩ := ce_putsOut (L := L) (t := t) (p := P.2.1.2.1.toNat) (by omega) (by omega) hV hr0
      refine ⟨J1, ⟨fun _ => ⟨J1, ?_, rfl⟩, fun z => absurd e z⟩, hr1, hf.tr hf1⟩
      rw [show P.2.1.2.1 = ((P.2.1.2.1.toNat : Nat) : Int) by omega, iI_n, iI_n]
      exact c1
    · rw [if_neg (fun z => e z.1)]
      exact ⟨J, ⟨fun z => absurd z e, fun _ => rfl⟩, hr0, hf⟩
  have dac : ∀ (m k : Nat) (J : Nat → Nat → Int32) (r0 : Rw), k + m = A.1 0 7 → FrR 101 t I J → rwE mE J 101 t (A.1 0 3) (dacR A t r0 k) → ∃ I', v_X12_beginHour_153 none I' L J L (nI t) (nI k) ∧ rwE mE I' 101 t (A.1 0 3) (gusR P t (dacR A t r0 (A.1 0 7))) ∧ FrR 101 t I I' := by
    intro m
    induction m with
    | zero =>
      intro k J r0 hk hf hr0
      have e : k = A.1 0 7 := by omega
      subst e
      obtain ⟨I', hw, hr1, hf1⟩ := gus J _ hf hr0
      refine ⟨I', vc_X12_beginHour_153 ?_, hr1, hf1⟩
      simp (disch := omega) only [l_0, l_1, l_2, l_3, l_4, l_5, l_6, l_7, l_8, l_9, l_10, l_11, l_12, l_15, l_16, l_20, l_24, l_30, l_31, l_32, l_50, l_54, l_60, l_62, l_63, l_64, l_74, l_91, l_100, l_128, l_240, l_600, l_10000, l_m1, nI_leI, nI_ltI, u_eq, u_add, u_mul, u_cl, u_in_t, pk_sub, pk_div, nI_nm1, m1_nI, m1_lt, m1_le, nI_ltm, nI_lem, up2_s_, u_31, u_one3, u_shr3, u_and1, u_or, true_and, and_true, e7 J hf]
      exact ⟨fun _ => hw, fun z => absurd (Nat.le_refl _) z⟩
    | succ m ih =>
      intro k J r0 hk hf hr0
      have hlt : k < A.1 0 7 := by omega
      have hka := hV.2.2.2.2.2.2.2 k hlt
      have hn : ¬ A.1 0 7 ≤ k := by omega
      have hdr : dacR A t r0 (k + 1) = if A.1 11 k = t ∧ A.1 10 k = 0 then rwU (dacR A t r0 k) (A.1 9 k) clO else dacR A t r0 k := rfl
      by_cases hc : A.1 11 k = t ∧ A.1 10 k = 0
      · obtain ⟨J1, c1, hr1, hf1⟩ := ce_putsOut (L := L) (t := t) (p := A.1 9 k) (by omega) hka.1 hV hr0
        obtain ⟨I', hw, hr2, hf2⟩ := ih (k + 1) J1 r0 (by omega) (hf.tr hf1) (by rw [hdr, if_pos hc]; exact hr1)
        refine ⟨I', vc_X12_beginHour_153 ?_, hr2, hf2⟩
        simp (disch := omega) only [l_0, l_1, l_2, l_3, l_4, l_5, l_6, l_7, l_8, l_9, l_10, l_11, l_12, l_15, l_16, l_20, l_24, l_30, l_31, l_32, l_50, l_54, l_60, l_62, l_63, l_64, l_74, l_91, l_100, l_128, l_240, l_600, l_10000, l_m1, nI_leI, nI_ltI, u_eq, u_add, u_mul, u_cl, u_in_t, pk_sub, pk_div, nI_nm1, m1_nI, m1_lt, m1_le, nI_ltm, nI_lem, up2_s_, u_31, u_one3, u_shr3, u_and1, u_or, true_and, and_true, e7 J hf, ea J hf k hlt]
        refine ⟨fun z => absurd z hn, fun _ => ⟨fun z => by omega, fun _ => ⟨fun _ => ⟨J1, ?_, hw⟩, fun z => by omega⟩⟩⟩
        rw [show (10000 * A.1 10 k + 100 * A.1 9 k + A.1 11 k) / 100 = A.1 9 k by omega]
        exact c1
      · obtain ⟨I', hw, hr2, hf2⟩ := ih (k + 1) J r0 (by omega) hf (by rw [hdr, if_neg hc]; exact hr0)
        refine ⟨I', vc_X12_beginHour_153 ?_, hr2, hf2⟩
        simp (disch := omega) only [l_0, l_1, l_2, l_3, l_4, l_5, l_6, l_7, l_8, l_9, l_10, l_11, l_12, l_15, l_16, l_20, l_24, l_30, l_31, l_32, l_50, l_54, l_60, l_62, l_63, l_64, l_74, l_91, l_100, l_128, l_240, l_600, l_10000, l_m1, nI_leI, nI_ltI, u_eq, u_add, u_mul, u_cl, u_in_t, pk_sub, pk_div, nI_nm1, m1_nI, m1_lt, m1_le, nI_ltm, nI_lem, up2_s_, u_31, u_one3, u_shr3, u_and1, u_or, true_and, and_true, e7 J hf, ea J hf k hlt]
        refine ⟨fun z => absurd z hn, fun _ => ⟨fun _ => hw, fun _ => ⟨fun z => by omega, fun _ => hw⟩⟩⟩
  have dra : ∀ (m k : Nat) (J : Nat → Nat → Int32) (r0 : Rw), k + m = A.1 0 6 → FrR 101 t I J → rwE mE J 101 t (A.1 0 3) (draR A P t r0 k) → ∃ I', v_X12_beginHour_93 none I' L J L (nI t) (nI k) ∧ rwE mE I' 101 t (A.1 0 3) (outR A P t r0) ∧ FrR 101 t I I' := by
    intro m
    induction m with
    | zero =>
      intro k J r0 hk hf hr0
      have e : k = A.1 0 6 := by omega
      subst e
      obtain ⟨I', hw, hr1, hf1⟩ := dac (A.1 0 7) 0 J (draR A P t r0 (A.1 0 6)) (by omega) hf hr0
      refine ⟨I', vc_X12_beginHour_93 ?_, hr1, hf1⟩
      simp (disch := omega) only [l_0, l_1, l_2, l_3, l_4, l_5, l_6, l_7, l_8, l_9, l_10, l_11, l_12, l_15, l_16, l_20, l_24, l_30, l_31, l_32, l_50, l_54, l_60, l_62, l_63, l_64, l_74, l_91, l_100, l_128, l_240, l_600, l_10000, l_m1, nI_leI, nI_ltI, u_eq, u_add, u_mul, u_cl, u_in_t, pk_sub, pk_div, nI_nm1, m1_nI, m1_lt, m1_le, nI_ltm, nI_lem, up2_s_, u_31, u_one3, u_shr3, u_and1, u_or, true_and, and_true, e6 J hf]
      exact ⟨fun _ => hw, fun z => absurd (Nat.le_refl _) z⟩
    | succ m ih =>
      intro k J r0 hk hf hr0
      have hlt : k < A.1 0 6 := by omega
      have hka := hV.2.2.2.2.2.2.1 k hlt
      have hn : ¬ A.1 0 6 ≤ k := by omega
      have hlo := hPV.2.1.2.2.2
      have e23 : J 96 23 = iI P.2.1.2.2.2 := by rw [hf 96 23 (by omega)]; exact hP.2.2.2.2.2.2.1
      have ed : J 97 (62 + 2 * k) = nI (A.1 7 k) := by rw [hf 97 _ (by omega), ← (hR.2.2.2.2.1 k hlt).1]
      have eh : J 97 (62 + 2 * k + 1) = nI (A.1 8 k) := by rw [hf 97 _ (by omega), ← (hR.2.2.2.2.1 k hlt).2]; congr 1; omega
      have hdr : draR A P t r0 (k + 1) = if A.1 8 k = t ∧ (k : Int) ≠ P.2.1.2.2.2 then rwU (draR A P t r0 k) (A.1 7 k) clO else draR A P t r0 k := rfl
      have hkl : nI k = iI P.2.1.2.2.2 ↔ (k : Int) = P.2.1.2.2.2 := by rw [← iI_n, iI_eq (by omega) (by omega)]
      by_cases hc : A.1 8 k = t ∧ (k : Int) ≠ P.2.1.2.2.2
      · obtain ⟨J1, c1, hr1, hf1⟩ := ce_putsOut (L := L) (t := t) (p := A.1 7 k) (by omega) hka.1 hV hr0
        obtain ⟨I', hw, hr2, hf2⟩ := ih (k + 1) J1 r0 (by omega) (hf.tr hf1) (by rw [hdr, if_pos hc]; exact hr1)
        refine ⟨I', vc_X12_beginHour_93 ?_, hr2, hf2⟩
        simp (disch := omega) only [l_0, l_1, l_2, l_3, l_4, l_5, l_6, l_7, l_8, l_9, l_10, l_11, l_12, l_15, l_16, l_20, l_24, l_30, l_31, l_32, l_50, l_54, l_60, l_62, l_63, l_64, l_74, l_91, l_100, l_128, l_240, l_600, l_10000, l_m1, nI_leI, nI_ltI, u_eq, u_add, u_mul, u_cl, u_in_t, pk_sub, pk_div, nI_nm1, m1_nI, m1_lt, m1_le, nI_ltm, nI_lem, up2_s_, u_31, u_one3, u_shr3, u_and1, u_or, true_and, and_true, e6 J hf, ed, eh, e23, hkl]
        exact ⟨fun z => absurd z hn, fun _ => ⟨fun _ => ⟨fun z => absurd z hc.2, fun _ => ⟨J1, c1, hw⟩⟩, fun z => absurd hc.1 z⟩⟩
      · obtain ⟨I', hw, hr2, hf2⟩ := ih (k + 1) J r0 (by omega) hf (by rw [hdr, if_neg hc]; exact hr0)
        refine ⟨I', vc_X12_beginHour_93 ?_, hr2, hf2⟩
        simp (disch := omega) only [l_0, l_1, l_2, l_3, l_4, l_5, l_6, l_7, l_8, l_9, l_10, l_11, l_12, l_15, l_16, l_20, l_24, l_30, l_31, l_32, l_50, l_54, l_60, l_62, l_63, l_64, l_74, l_91, l_100, l_128, l_240, l_600, l_10000, l_m1, nI_leI, nI_ltI, u_eq, u_add, u_mul, u_cl, u_in_t, pk_sub, pk_div, nI_nm1, m1_nI, m1_lt, m1_le, nI_ltm, nI_lem, up2_s_, u_31, u_one3, u_shr3, u_and1, u_or, true_and, and_true, e6 J hf, ed, eh, e23, hkl]
        exact ⟨fun z => absurd z hn, fun _ => ⟨fun z => ⟨fun _ => hw, fun z2 => absurd ⟨z, z2⟩ hc⟩, fun _ => hw⟩⟩
  have mor : ∀ (J : Nat → Nat → Int32) (r0 : Rw), FrR 101 t I J → rwE mE J 101 t (A.1 0 3) r0 → RV (A.1 0 3) t r0 → ∃ I', v_X12_beginHour_69 none I' L J L (nI t) ∧ rwE mE I' 101 t (A.1 0 3) (outR A P t (morR P t r0)) ∧ FrR 101 t I I' := by
    intro J r0 hf hr0 hv0
    have e20 : J 96 20 = iI P.2.1.1 := by rw [hf 96 20 (by omega)]; exact hP.2.2.2.1
    have hm := hPV.2.1.1
    have hm1 : iI P.2.1.1 = -1 ↔ P.2.1.1 = -1 := by rw [← iI_m1, iI_eq (by omega) (by omega)]
    unfold morR
    by_cases hc : t = 0 ∧ P.2.1.1 ≠ -1
    · obtain ⟨J1, c1, hr1, hf1⟩ := ce_lights (L := L) (s := [1]) (t := t) (p := P.2.1.1.toNat) (by omega) (by omega) hV hr0 hv0
      rw [if_pos hc]
      have ht0 := hc.1
      obtain ⟨I', hw, hr2, hf2⟩ := dra (A.1 0 6) 0 J1 _ (by omega) (hf.tr hf1) (by rw [ht0] at hr1 ⊢; exact hr1)
      refine ⟨I', vc_X12_beginHour_69 ?_, hr2, hf2⟩
      rw [mE_one, ← iI_n, show ((P.2.1.1.toNat : Nat) : Int) = P.2.1.1 by omega] at c1
      rw [e20, hm1]
      refine ⟨fun _ => ⟨fun z => absurd z hc.2, fun _ => ⟨J1, ?_, hw⟩⟩, fun z => absurd (by rw [ht0]; rfl) z⟩
      rw [ht0] at c1
      exact c1
    · rw [if_neg hc]
      obtain ⟨I', hw, hr2, hf2⟩ := dra (A.1 0 6) 0 J _ (by omega) hf hr0
      refine ⟨I', vc_X12_beginHour_69 ?_, hr2, hf2⟩
      rw [e20, hm1]
      refine ⟨fun z => ⟨fun _ => hw, fun z2 => absurd ⟨(u_0 (by omega)).mp z, z2⟩ hc⟩, fun _ => hw⟩
  have act : ∀ (m k : Nat) (J : Nat → Nat → Int32), k + m = A.1 0 7 → P.2.2.1 = false → FrR 101 t I J → rwE mE J 101 t (A.1 0 3) (actR A t r k) → ∃ I', v_X12_beginHour_2 none I' L J L (nI t) (nI k) ∧ rwE mE I' 101 t (A.1 0 3) (outR A P t (morR P t (actR A t r (A.1 0 7)))) ∧ FrR 101 t I I' := by
    intro m
    induction m with
    | zero =>
      intro k J hk hal hf hr0
      have e : k = A.1 0 7 := by omega
      subst e
      obtain ⟨I', hw, hr1, hf1⟩ := mor J _ hf hr0 (RV_actR hV hv _ (Nat.le_refl _))
      refine ⟨I', vc_X12_beginHour_2 ?_, hr1, hf1⟩
      simp (disch := omega) only [l_0, l_1, l_2, l_3, l_4, l_5, l_6, l_7, l_8, l_9, l_10, l_11, l_12, l_15, l_16, l_20, l_24, l_30, l_31, l_32, l_50, l_54, l_60, l_62, l_63, l_64, l_74, l_91, l_100, l_128, l_240, l_600, l_10000, l_m1, nI_leI, nI_ltI, u_eq, u_add, u_mul, u_cl, u_in_t, pk_sub, pk_div, nI_nm1, m1_nI, m1_lt, m1_le, nI_ltm, nI_lem, up2_s_, u_31, u_one3, u_shr3, u_and1, u_or, true_and, and_true, e7 J hf]
      exact ⟨fun _ => hw, fun z => absurd (Nat.le_refl _) z⟩
    | succ m ih =>
      intro k J hk hal hf hr0
      have hlt : k < A.1 0 7 := by omega
      have hka := hV.2.2.2.2.2.2.2 k hlt
      have hn : ¬ A.1 0 7 ≤ k := by omega
      have e18 : J 96 18 = -1 := by rw [hf 96 18 (by omega)]; exact hP.2.2.2.2.2.2.2.1 hal
      have hdr : actR A t r (k + 1) = if A.1 11 k = t ∧ A.1 10 k ≠ 0 then rwU (actR A t r k) (A.1 9 k) (clK (actR A t r k (A.1 9 k)) t [A.1 10 k]) else actR A t r k := rfl
      by_cases hc : A.1 11 k = t ∧ A.1 10 k ≠ 0
      · obtain ⟨J1, c1, hr1, hf1⟩ := ce_lights (L := L) (s := [A.1 10 k]) (t := t) (p := A.1 9 k) (by omega) hka.1 hV hr0 (RV_actR hV hv k (by omega))
        obtain ⟨I', hw, hr2, hf2⟩ := ih (k + 1) J1 (by omega) hal (hf.tr hf1) (by rw [hdr, if_pos hc]; exact hr1)
        refine ⟨I', vc_X12_beginHour_2 ?_, hr2, hf2⟩
        simp (disch := omega) only [l_0, l_1, l_2, l_3, l_4, l_5, l_6, l_7, l_8, l_9, l_10, l_11, l_12, l_15, l_16, l_20, l_24, l_30, l_31, l_32, l_50, l_54, l_60, l_62, l_63, l_64, l_74, l_91, l_100, l_128, l_240, l_600, l_10000, l_m1, nI_leI, nI_ltI, u_eq, u_add, u_mul, u_cl, u_in_t, pk_sub, pk_div, nI_nm1, m1_nI, m1_lt, m1_le, nI_ltm, nI_lem, up2_s_, u_31, u_one3, u_shr3, u_and1, u_or, true_and, and_true, e7 J hf, ea J hf k hlt, e18]
        refine ⟨fun z => absurd z hn, fun _ => ⟨fun _ => ⟨fun z => by omega, fun _ => ⟨fun _ => ⟨J1, ?_, hw⟩, fun z => by omega⟩⟩, fun z => absurd trivial z⟩⟩
        rw [mE_one] at c1
        rw [show (10000 * A.1 10 k + 100 * A.1 9 k + A.1 11 k) / 100 - (10000 * A.1 10 k + 100 * A.1 9 k + A.1 11 k) / 100 / 100 * 100 = A.1 9 k by omega, show (10000 * A.1 10 k + 100 * A.1 9 k + A.1 11 k) / 10000 = A.1 10 k by omega]
        exact c1
      · obtain ⟨I', hw, hr2, hf2⟩ := ih (k + 1) J (by omega) hal hf (by rw [hdr, if_neg hc]; exact hr0)
        refine ⟨I', vc_X12_beginHour_2 ?_, hr2, hf2⟩
        simp (disch := omega) only [l_0, l_1, l_2, l_3, l_4, l_5, l_6, l_7, l_8, l_9, l_10, l_11, l_12, l_15, l_16, l_20, l_24, l_30, l_31, l_32, l_50, l_54, l_60, l_62, l_63, l_64, l_74, l_91, l_100, l_128, l_240, l_600, l_10000, l_m1, nI_leI, nI_ltI, u_eq, u_add, u_mul, u_cl, u_in_t, pk_sub, pk_div, nI_nm1, m1_nI, m1_lt, m1_le, nI_ltm, nI_lem, up2_s_, u_31, u_one3, u_shr3, u_and1, u_or, true_and, and_true, e7 J hf, ea J hf k hlt, e18]
        refine ⟨fun z => absurd z hn, fun _ => ⟨fun _ => ⟨fun _ => hw, fun _ => ⟨fun z => by omega, fun _ => hw⟩⟩, fun z => absurd trivial z⟩⟩
  have start : ∃ I', v_X12_beginHour_2 none I' L I L (nI t) 0 ∧ rwE mE I' 101 t (A.1 0 3) (dress A P t r) ∧ FrR 101 t I I' := by
    unfold dress litR
    by_cases hal : P.2.2.1 = true
    · rw [if_pos hal]
      obtain ⟨I', hw, hr1, hf1⟩ := mor I r FrR.rf hr hv
      refine ⟨I', vc_X12_beginHour_2 ?_, hr1, hf1⟩
      have e18 : I 96 18 = nI P.2.2.2.1 := (hP.2.2.2.2.2.2.2.2 hal).1
      have hset := hPV.2.2.1
      simp (disch := omega) only [l_0, l_1, l_2, l_3, l_4, l_5, l_6, l_7, l_8, l_9, l_10, l_11, l_12, l_15, l_16, l_20, l_24, l_30, l_31, l_32, l_50, l_54, l_60, l_62, l_63, l_64, l_74, l_91, l_100, l_128, l_240, l_600, l_10000, l_m1, nI_leI, nI_ltI, u_eq, u_add, u_mul, u_cl, u_in_t, pk_sub, pk_div, nI_nm1, m1_nI, m1_lt, m1_le, nI_ltm, nI_lem, up2_s_, u_31, u_one3, u_shr3, u_and1, u_or, true_and, and_true, e7 I FrR.rf, e18]
      exact ⟨fun _ => hw, fun _ => ⟨fun z => z.elim, fun _ => hw⟩⟩
    · rw [if_neg hal]
      exact act (A.1 0 7) 0 I (by omega) (by simpa using hal) FrR.rf hr
  obtain ⟨I', hw, hr1, hf1⟩ := start
  exact ⟨I', c0_X12_beginHour (vc_X12_beginHour_0 hw), hr1, hf1⟩
end MH
