def litB (r : Rw) : Nat → Nat
  | 0 => 0
  | k + 1 => litB r k ||| (if (r k).1 = [] then 0 else 2 ^ k)
/-! ACTS, DRAUGHTS, WHAT IS LIT, at place 81. -/
section CD81
variable {A : Nt} {P : Pm} {I : Nat → Nat → Int32} {L : Nat → Nat → Int64}
theorem ce_lightByActs_81 {t : Nat} {r : Rw} (hR : RC A I 12 21) (hV : NV A) (hP : PC P I 81) (hPV : PV A P) (ht : t ≤ 12) (hr : rwE cE I 81 t (A.1 0 3) r) (hv : RV (A.1 0 3) t r) : ∃ I', q_C kX3_lightByActs [.ref 81, .int (nI t)] I L none I' L ∧ rwE cE I' 81 t (A.1 0 3) (litR A P t r) ∧ FrR 81 t I I' := by
  have h3 := hV.1.2.2.2.1
  have h7 := hV.1.2.2.2.2.2.2.2.1
  have tail : ∀ (J : Nat → Nat → Int32) (r1 : Rw), FrR 81 t I J → rwE cE J 81 t (A.1 0 3) r1 → RV (A.1 0 3) t r1 → ∃ I', v_X3_lightByActs_81_74 none I' L J L (nI t) ∧ rwE cE I' 81 t (A.1 0 3) (morR P t r1) ∧ FrR 81 t I I' := by
    intro J r1 hf hr1 hv1
    have e10 : J 81 10 = iI P.2.1.1 := by rw [hf 81 10 (by omega)]; exact hP.2.2.2.1
    have hm := hPV.2.1.1
    unfold morR
    by_cases h0 : t = 0
    · by_cases hn : P.2.1.1 = -1
      · rw [if_neg (fun q => q.2 hn)]
        refine ⟨J, vc_X3_lightByActs_81_74 ⟨fun _ => ⟨fun _ => ⟨rfl, rfl, rfl⟩, fun hc => ?_⟩, fun hc => ?_⟩, hr1, hf⟩
        · exfalso
          apply hc
          rw [e10, hn]
          rfl
        · exact absurd (by rw [h0]; rfl) hc
      · rw [if_pos ⟨h0, hn⟩]
        obtain ⟨m, hm2⟩ : ∃ m : Nat, P.2.1.1 = (m : Int) := ⟨P.2.1.1.toNat, by omega⟩
        have hmn : m < A.1 0 3 := by omega
        have et : P.2.1.1.toNat = m := by rw [hm2]; rfl
        obtain ⟨J1, hc, hr2, hf2⟩ := ce_kindle_81 (L := L) (s := [1]) (t := t) (p := m) ht hmn hV hr1 hv1
        subst h0
        rw [et]
        refine ⟨J1, vc_X3_lightByActs_81_74 ⟨fun _ => ⟨fun hc => ?_, fun _ => ⟨J1, ?_, rfl, rfl, rfl⟩⟩, fun hc => absurd rfl hc⟩, hr2, hf.tr hf2⟩
        · rw [e10, hm2, iI_n] at hc
          have := (t_eq _ _).mp hc
          rw [t_n (by omega)] at this
          have e : (-1 : Int32).toInt = -1 := by decide
          omega
        · rw [e10, hm2, iI_n]
          exact hc
    · rw [if_neg (fun q => h0 q.1)]
      refine ⟨J, vc_X3_lightByActs_81_74 ⟨fun hc => ?_, fun _ => ⟨rfl, rfl, rfl⟩⟩, hr1, hf⟩
      exact absurd ((u_0 (by omega)).mp hc) h0
  by_cases hal : P.2.2.1 = true
  · obtain ⟨I', hw, hr2, hf2⟩ := tail I r FrR.rf hr hv
    refine ⟨I', c0_X3_lightByActs_81 (vc_X3_lightByActs_81_0 (vc_X3_lightByActs_81_2 ⟨fun _ => hw, fun _ => ⟨fun hc => ?_, fun _ => hw⟩⟩)), ?_, hf2⟩
    · rw [hP.2.2.2.2.2.2.2.1, if_pos hal] at hc
      exact absurd hc (by decide)
    · unfold litR
      rw [if_pos hal]
      exact hr2
  · have loop : ∀ (m i : Nat) (J : Nat → Nat → Int32), i + m = A.1 0 7 → FrR 81 t I J → rwE cE J 81 t (A.1 0 3) (actR A t r i) → ∃ I', v_X3_lightByActs_81_2 none I' L J L (nI t) (nI i) ∧ rwE cE I' 81 t (A.1 0 3) (litR A P t r) ∧ FrR 81 t I I' := by
      intro m
      induction m with
      | zero =>
        intro i J hi hf hr1
        have e : i = A.1 0 7 := by omega
        subst e
        obtain ⟨I', hw, hr2, hf2⟩ := tail J _ hf hr1 (RV_actR hV hv _ (Nat.le_refl _))
        refine ⟨I', vc_X3_lightByActs_81_2 ⟨fun _ => hw, fun hc => ?_⟩, ?_, hf2⟩
        · rw [hf 21 0 (by omega), hR.2.2.2.2.1] at hc
          exact absurd (nI_le (Nat.le_refl _) (by omega)) hc
        · unfold litR
          rw [if_neg hal]
          exact hr2
      | succ m ih =>
        intro i J hi hf hr1
        have hlt : i < A.1 0 7 := by omega
        have hka := hV.2.2.2.2.2.2.2 i hlt
        have h0 := hV.1.1
        have ha := hR.2.2.2.2.2 i hlt
        have e22 : J 22 (nI i).toNatClampNeg = nI (A.1 9 i) := by rw [u_cl (by omega), hf 22 i (by omega)]; exact ha.1
        have e23 : J 23 (nI i).toNatClampNeg = nI (A.1 10 i) := by rw [u_cl (by omega), hf 23 i (by omega)]; exact ha.2.1
        have e24 : J 24 (nI i).toNatClampNeg = nI (A.1 11 i) := by rw [u_cl (by omega), hf 24 i (by omega)]; exact ha.2.2
        have hin : vp_in (nI i) 30 := u_in (by omega) (by decide)
        have hge : ¬ J 21 0 ≤ nI i := by
          rw [hf 21 0 (by omega), hR.2.2.2.2.1]
          exact nI_ge hlt (by omega)
        have h14 : J 81 14 = 0 := by rw [hf 81 14 (by omega), hP.2.2.2.2.2.2.2.1, if_neg hal]
        by_cases hy : A.1 11 i = t ∧ A.1 10 i ≠ 0
        · obtain ⟨J1, hc, hr2, hf2⟩ := ce_kindle_81 (L := L) (s := [A.1 10 i]) ht hka.1 hV hr1 (RV_actR hV hv i (by omega))
          have es : actR A t r (i + 1) = rwU (actR A t r i) (A.1 9 i) (clK (actR A t r i (A.1 9 i)) t [A.1 10 i]) := if_pos hy
          obtain ⟨I', hw, hr3, hf3⟩ := ih (i + 1) J1 (by omega) (hf.tr hf2) (by rw [es]; exact hr2)
          refine ⟨I', vc_X3_lightByActs_81_2 ⟨fun hc => absurd hc hge, fun _ => ⟨fun _ => ⟨hin, fun _ => ⟨hin, fun hc => ?_, fun _ => ⟨hin, hin, J1, ?_, ?_⟩⟩, fun hc => ?_⟩, fun hc => absurd h14 hc⟩⟩, hr3, hf3⟩
          · rw [e23, u_0 (by omega)] at hc
            exact absurd hc hy.2
          · rw [e22, e23]
            exact hc
          · rw [nI_1]
            exact hw
          · rw [e24, hy.1] at hc
            exact absurd rfl hc
        · have es : actR A t r (i + 1) = actR A t r i := if_neg hy
          obtain ⟨I', hw, hr3, hf3⟩ := ih (i + 1) J (by omega) hf (by rw [es]; exact hr1)
          rw [← nI_1] at hw
          refine ⟨I', vc_X3_lightByActs_81_2 ⟨fun hc => absurd hc hge, fun _ => ⟨fun _ => ⟨hin, fun hc => ⟨hin, fun _ => hw, fun hc2 => ?_⟩, fun _ => hw⟩, fun hc => absurd h14 hc⟩⟩, hr3, hf3⟩
          exfalso
          rw [e24, u_eq (by omega) (by omega)] at hc
          rw [e23, u_0 (by omega)] at hc2
          exact hy ⟨hc, hc2⟩
    obtain ⟨I', hw, hr2, hf2⟩ := loop (A.1 0 7) 0 I (by omega) FrR.rf hr
    exact ⟨I', c0_X3_lightByActs_81 (vc_X3_lightByActs_81_0 hw), hr2, hf2⟩
theorem ce_putOut_81 {t : Nat} {r : Rw} (hR : RC A I 12 21) (hV : NV A) (hP : PC P I 81) (hPV : PV A P) (ht : t ≤ 12) (hr : rwE cE I 81 t (A.1 0 3) r) : ∃ I', q_C kX3_putOut [.ref 81, .int (nI t)] I L none I' L ∧ rwE cE I' 81 t (A.1 0 3) (outR A P t r) ∧ FrR 81 t I I' := by
  have h3 := hV.1.2.2.2.1
  have h6 := hV.1.2.2.2.2.2.2.1
  have h7 := hV.1.2.2.2.2.2.2.2.1
  have hg1 := hPV.2.1.2.1
  have hg2 := hPV.2.1.2.2.1
  have hg3 := hPV.2.1.2.2.2
  have tail : ∀ (J : Nat → Nat → Int32) (r1 : Rw), FrR 81 t I J → rwE cE J 81 t (A.1 0 3) r1 → ∃ I', (((J 81 12) = nI t → (((J 81 11) = (-1) → ((none : Option Value) = none ∧ I' = J ∧ L = L)) ∧ (¬ (J 81 11) = (-1) → (∃ I1, q_C kX3_quench [.ref 81, .int ((nI t * 7) + (J 81 11))] J L none I1 L ∧ ((none : Option Value) = none ∧ I' = I1 ∧ L = L))))) ∧ (¬ (J 81 12) = nI t → ((none : Option Value) = none ∧ I' = J ∧ L = L))) ∧ rwE cE I' 81 t (A.1 0 3) (gusR P t r1) ∧ FrR 81 t I I' := by
    intro J r1 hf hr1
    have e11 : J 81 11 = iI P.2.1.2.1 := by rw [hf 81 11 (by omega)]; exact hP.2.2.2.2.1
    have e12 : J 81 12 = iI P.2.1.2.2.1 := by rw [hf 81 12 (by omega)]; exact hP.2.2.2.2.2.1
    have hq : J 81 12 = nI t ↔ P.2.1.2.2.1 = t := by
      rw [e12, ← iI_n]
      exact iI_eq (by omega) (by omega)
    have hq2 : J 81 11 = -1 ↔ P.2.1.2.1 = -1 := by
      rw [e11, ← iI_m1]
      exact iI_eq (by omega) (by omega)
    unfold gusR
    by_cases hy : P.2.1.2.2.1 = t ∧ P.2.1.2.1 ≠ -1
    · rw [if_pos hy]
      obtain ⟨m, hm2⟩ : ∃ m : Nat, P.2.1.2.1 = (m : Int) := ⟨P.2.1.2.1.toNat, by have := hy.2; omega⟩
      have hmn : m < A.1 0 3 := by omega
      have et : P.2.1.2.1.toNat = m := by rw [hm2]; rfl
      obtain ⟨J1, hc, hr2, hf2⟩ := ce_quench_81 (L := L) (p := m) ht hmn hV hr1
      rw [et]
      refine ⟨J1, ⟨fun _ => ⟨fun hc2 => absurd (hq2.mp hc2) hy.2, fun _ => ⟨J1, ?_, rfl, rfl, rfl⟩⟩, fun hc2 => absurd (hq.mpr hy.1) hc2⟩, hr2, hf.tr hf2⟩
      rw [e11, hm2, iI_n, ix7]
      exact hc
    · rw [if_neg hy]
      refine ⟨J, ⟨fun hc => ⟨fun _ => ⟨rfl, rfl, rfl⟩, fun hc2 => ?_⟩, fun _ => ⟨rfl, rfl, rfl⟩⟩, hr1, hf⟩
      exact absurd ⟨hq.mp hc, fun q => hc2 (hq2.mpr q)⟩ hy
  have acts : ∀ (m i : Nat) (J : Nat → Nat → Int32) (r1 : Rw), i + m = A.1 0 7 → FrR 81 t I J → rwE cE J 81 t (A.1 0 3) (dacR A t r1 i) → ∃ I', v_X3_putOut_81_60 none I' L J L (nI t) (nI i) ∧ rwE cE I' 81 t (A.1 0 3) (gusR P t (dacR A t r1 (A.1 0 7))) ∧ FrR 81 t I I' := by
    intro m
    induction m with
    | zero =>
      intro i J r1 hi hf hr1
      have e : i = A.1 0 7 := by omega
      subst e
      obtain ⟨I', hw, hr2, hf2⟩ := tail J _ hf hr1
      refine ⟨I', vc_X3_putOut_81_60 ⟨fun _ => hw, fun hc => ?_⟩, hr2, hf2⟩
      rw [hf 21 0 (by omega), hR.2.2.2.2.1] at hc
      exact absurd (nI_le (Nat.le_refl _) (by omega)) hc
    | succ m ih =>
      intro i J r1 hi hf hr1
      have hlt : i < A.1 0 7 := by omega
      have hka := hV.2.2.2.2.2.2.2 i hlt
      have h0 := hV.1.1
      have ha := hR.2.2.2.2.2 i hlt
      have e22 : J 22 (nI i).toNatClampNeg = nI (A.1 9 i) := by rw [u_cl (by omega), hf 22 i (by omega)]; exact ha.1
      have e23 : J 23 (nI i).toNatClampNeg = nI (A.1 10 i) := by rw [u_cl (by omega), hf 23 i (by omega)]; exact ha.2.1
      have e24 : J 24 (nI i).toNatClampNeg = nI (A.1 11 i) := by rw [u_cl (by omega), hf 24 i (by omega)]; exact ha.2.2
      have hin : vp_in (nI i) 30 := u_in (by omega) (by decide)
      have hge : ¬ J 21 0 ≤ nI i := by
        rw [hf 21 0 (by omega), hR.2.2.2.2.1]
        exact nI_ge hlt (by omega)
      by_cases hy : A.1 11 i = t ∧ A.1 10 i = 0
      · obtain ⟨J1, hc, hr2, hf2⟩ := ce_quench_81 (L := L) ht hka.1 hV hr1
        have es : dacR A t r1 (i + 1) = rwU (dacR A t r1 i) (A.1 9 i) clO := if_pos hy
        obtain ⟨I', hw, hr3, hf3⟩ := ih (i + 1) J1 r1 (by omega) (hf.tr hf2) (by rw [es]; exact hr2)
        refine ⟨I', vc_X3_putOut_81_60 ⟨fun hc => absurd hc hge, fun _ => ⟨hin, fun _ => ⟨hin, fun _ => ⟨hin, J1, ?_, ?_⟩, fun hc => ?_⟩, fun hc => ?_⟩⟩, hr3, hf3⟩
        · rw [e22, ix7]
          exact hc
        · rw [nI_1]
          exact hw
        · rw [e23, hy.2] at hc
          exact absurd rfl hc
        · rw [e24, hy.1] at hc
          exact absurd rfl hc
      · have es : dacR A t r1 (i + 1) = dacR A t r1 i := if_neg hy
        obtain ⟨I', hw, hr3, hf3⟩ := ih (i + 1) J r1 (by omega) hf (by rw [es]; exact hr1)
        rw [← nI_1] at hw
        refine ⟨I', vc_X3_putOut_81_60 ⟨fun hc => absurd hc hge, fun _ => ⟨hin, fun hc => ⟨hin, fun hc2 => ?_, fun _ => hw⟩, fun _ => hw⟩⟩, hr3, hf3⟩
        exfalso
        rw [e24, u_eq (by omega) (by omega)] at hc
        rw [e23, u_0 (by omega)] at hc2
        exact hy ⟨hc, hc2⟩
  have loop : ∀ (m i : Nat) (J : Nat → Nat → Int32), i + m = A.1 0 6 → FrR 81 t I J → rwE cE J 81 t (A.1 0 3) (draR A P t r i) → ∃ I', v_X3_putOut_81_2 none I' L J L (nI t) (nI i) ∧ rwE cE I' 81 t (A.1 0 3) (outR A P t r) ∧ FrR 81 t I I' := by
    intro m
    induction m with
    | zero =>
      intro i J hi hf hr1
      have e : i = A.1 0 6 := by omega
      subst e
      obtain ⟨I', hw, hr2, hf2⟩ := acts (A.1 0 7) 0 J (draR A P t r (A.1 0 6)) (by omega) hf hr1
      refine ⟨I', vc_X3_putOut_81_2 ⟨fun _ => hw, fun hc => ?_⟩, hr2, hf2⟩
      rw [hf 12 7 (by omega), hR.1.2.2.2.2.2.2.2] at hc
      exact absurd (nI_le (Nat.le_refl _) (by omega)) hc
    | succ m ih =>
      intro i J hi hf hr1
      have hlt : i < A.1 0 6 := by omega
      have hka := hV.2.2.2.2.2.2.1 i hlt
      have ha := hR.2.2.2.1 i hlt
      have e19 : J 19 (nI i).toNatClampNeg = nI (A.1 7 i) := by rw [u_cl (by omega), hf 19 i (by omega)]; exact ha.1
      have e20 : J 20 (nI i).toNatClampNeg = nI (A.1 8 i) := by rw [u_cl (by omega), hf 20 i (by omega)]; exact ha.2
      have e13 : J 81 13 = iI P.2.1.2.2.2 := by rw [hf 81 13 (by omega)]; exact hP.2.2.2.2.2.2.1
      have hq : nI i = J 81 13 ↔ (i : Int) = P.2.1.2.2.2 := by
        rw [e13, ← iI_n]
        exact iI_eq (by omega) (by omega)
      have hin : vp_in (nI i) 6 := u_in (by omega) (by decide)
      have hge : ¬ J 12 7 ≤ nI i := by
        rw [hf 12 7 (by omega), hR.1.2.2.2.2.2.2.2]
        exact nI_ge hlt (by omega)
      by_cases hy : A.1 8 i = t ∧ (i : Int) ≠ P.2.1.2.2.2
      · obtain ⟨J1, hc, hr2, hf2⟩ := ce_quench_81 (L := L) ht hka.1 hV hr1
        have es : draR A P t r (i + 1) = rwU (draR A P t r i) (A.1 7 i) clO := if_pos hy
        obtain ⟨I', hw, hr3, hf3⟩ := ih (i + 1) J1 (by omega) (hf.tr hf2) (by rw [es]; exact hr2)
        refine ⟨I', vc_X3_putOut_81_2 ⟨fun hc => absurd hc hge, fun _ => ⟨hin, fun _ => ⟨fun hc => absurd (hq.mp hc) hy.2, fun _ => ⟨hin, J1, ?_, ?_⟩⟩, fun hc => ?_⟩⟩, hr3, hf3⟩
        · rw [e19, ix7]
          exact hc
        · rw [nI_1]
          exact hw
        · rw [e20, hy.1] at hc
          exact absurd rfl hc
      · have es : draR A P t r (i + 1) = draR A P t r i := if_neg hy
        obtain ⟨I', hw, hr3, hf3⟩ := ih (i + 1) J (by omega) hf (by rw [es]; exact hr1)
        rw [← nI_1] at hw
        refine ⟨I', vc_X3_putOut_81_2 ⟨fun hc => absurd hc hge, fun _ => ⟨hin, fun hc => ⟨fun _ => hw, fun hc2 => ?_⟩, fun _ => hw⟩⟩, hr3, hf3⟩
        exfalso
        rw [e20, u_eq (by omega) (by omega)] at hc
        exact hy ⟨hc, fun q => hc2 (hq.mpr q)⟩
  obtain ⟨I', hw, hr2, hf2⟩ := loop (A.1 0 6) 0 I (by omega) FrR.rf hr
  exact ⟨I', c0_X3_putOut_81 (vc_X3_putOut_81_0 hw), hr2, hf2⟩
theorem ct_noteLit_81 {t : Nat} {r : Rw} (hR : RC A I 12 21) (hV : NV A) (ht : t ≤ 12) (hr : rwE cE I 81 t (A.1 0 3) r) (hv : RV (A.1 0 3) t r) : q_C kX3_noteLit [.ref 81, .int (nI t)] I L none (up2 I 82 t (nI (litB r (A.1 0 3)))) L := by
  have h3 := hV.1.2.2.2.1
  have loop : ∀ m k : Nat, k + m = A.1 0 3 → v_X3_noteLit_81_4 none (up2 I 82 t (nI (litB r (A.1 0 3)))) L I L (nI t) (nI (litB r k)) (nI k) := by
    intro m
    induction m with
    | zero =>
      intro k hk
      have e : k = A.1 0 3 := by omega
      subst e
      refine vc_X3_noteLit_81_4 ⟨fun _ => ⟨u_in (by omega) (by decide), rfl, ?_, rfl⟩, fun hc => ?_⟩
      · rw [u_cl (by omega)]
      · rw [hR.1.2.2.2.2.1] at hc
        exact absurd (nI_le (Nat.le_refl _) (by omega)) hc
    | succ m ih =>
      intro k hk
      have hlt : k < A.1 0 3 := by omega
      obtain ⟨h1, -⟩ := hr k hlt
      have h1 : I 83 (7 * t + k) = nI (cE (r k).1) := h1
      have hc := hv k hlt
      have hl := hc.1.lt
      have hz : I 83 (nI (7 * t + k)).toNatClampNeg = 0 ↔ (r k).1 = [] := by
        rw [u_cl (by omega), h1]
        exact (u_0 (by omega)).trans (cE_0 hc.1.ge1)
      have hn := ih (k + 1) (by omega)
      refine vc_X3_noteLit_81_4 ⟨fun hc => ?_, fun _ => ?_⟩
      · rw [hR.1.2.2.2.2.1] at hc
        exact absurd hc (nI_ge hlt (by omega))
      · rw [ix7]
        refine ⟨u_in (by omega) (by decide), fun h0 => ?_, fun h0 => ?_⟩
        · have e : litB r (k + 1) = litB r k := by
            show litB r k ||| (if (r k).1 = [] then 0 else 2 ^ k) = _
            rw [if_pos (hz.mp h0), Nat.or_zero]
          rw [e, ← nI_1] at hn
          exact hn
        · have e : litB r (k + 1) = litB r k ||| 2 ^ k := by
            show litB r k ||| (if (r k).1 = [] then 0 else 2 ^ k) = _
            rw [if_neg (fun q => h0 (hz.mpr q))]
          rw [e, ← nI_1, ← u_or, ← u_one (by omega)] at hn
          exact hn
  exact c0_X3_noteLit_81 (vc_X3_noteLit_81_0 (loop (A.1 0 3) 0 (by omega)))
end CD81
/-! ACTS, DRAUGHTS, WHAT IS LIT, at place 75. -/
section CD75
variable {A : Nt} {P : Pm} {I : Nat → Nat → Int32} {L : Nat → Nat → Int64}
theorem ce_lightByActs_75 {t : Nat} {r : Rw} (hR : RC A I 12 21) (hV : NV A) (hP : PC P I 75) (hPV : PV A P) (ht : t ≤ 12) (hr : rwE cE I 75 t (A.1 0 3) r) (hv : RV (A.1 0 3) t r) : ∃ I', q_C kX3_lightByActs [.ref 75, .int (nI t)] I L none I' L ∧ rwE cE I' 75 t (A.1 0 3) (litR A P t r) ∧ FrR 75 t I I' := by
  have h3 := hV.1.2.2.2.1
  have h7 := hV.1.2.2.2.2.2.2.2.1
  have tail : ∀ (J : Nat → Nat → Int32) (r1 : Rw), FrR 75 t I J → rwE cE J 75 t (A.1 0 3) r1 → RV (A.1 0 3) t r1 → ∃ I', v_X3_lightByActs_75_74 none I' L J L (nI t) ∧ rwE cE I' 75 t (A.1 0 3) (morR P t r1) ∧ FrR 75 t I I' := by
    intro J r1 hf hr1 hv1
    have e10 : J 75 10 = iI P.2.1.1 := by rw [hf 75 10 (by omega)]; exact hP.2.2.2.1
    have hm := hPV.2.1.1
    unfold morR
    by_cases h0 : t = 0
    · by_cases hn : P.2.1.1 = -1
      · rw [if_neg (fun q => q.2 hn)]
        refine ⟨J, vc_X3_lightByActs_75_74 ⟨fun _ => ⟨fun _ => ⟨rfl, rfl, rfl⟩, fun hc => ?_⟩, fun hc => ?_⟩, hr1, hf⟩
        · exfalso
          apply hc
          rw [e10, hn]
          rfl
        · exact absurd (by rw [h0]; rfl) hc
      · rw [if_pos ⟨h0, hn⟩]
        obtain ⟨m, hm2⟩ : ∃ m : Nat, P.2.1.1 = (m : Int) := ⟨P.2.1.1.toNat, by omega⟩
        have hmn : m < A.1 0 3 := by omega
        have et : P.2.1.1.toNat = m := by rw [hm2]; rfl
        obtain ⟨J1, hc, hr2, hf2⟩ := ce_kindle_75 (L := L) (s := [1]) (t := t) (p := m) ht hmn hV hr1 hv1
        subst h0
        rw [et]
        refine ⟨J1, vc_X3_lightByActs_75_74 ⟨fun _ => ⟨fun hc => ?_, fun _ => ⟨J1, ?_, rfl, rfl, rfl⟩⟩, fun hc => absurd rfl hc⟩, hr2, hf.tr hf2⟩
        · rw [e10, hm2, iI_n] at hc
          have := (t_eq _ _).mp hc
          rw [t_n (by omega)] at this
          have e : (-1 : Int32).toInt = -1 := by decide
          omega
        · rw [e10, hm2, iI_n]
          exact hc
    · rw [if_neg (fun q => h0 q.1)]
      refine ⟨J, vc_X3_lightByActs_75_74 ⟨fun hc => ?_, fun _ => ⟨rfl, rfl, rfl⟩⟩, hr1, hf⟩
      exact absurd ((u_0 (by omega)).mp hc) h0
  by_cases hal : P.2.2.1 = true
  · obtain ⟨I', hw, hr2, hf2⟩ := tail I r FrR.rf hr hv
    refine ⟨I', c0_X3_lightByActs_75 (vc_X3_lightByActs_75_0 (vc_X3_lightByActs_75_2 ⟨fun _ => hw, fun _ => ⟨fun hc => ?_, fun _ => hw⟩⟩)), ?_, hf2⟩
    · rw [hP.2.2.2.2.2.2.2.1, if_pos hal] at hc
      exact absurd hc (by decide)
    · unfold litR
      rw [if_pos hal]
      exact hr2
  · have loop : ∀ (m i : Nat) (J : Nat → Nat → Int32), i + m = A.1 0 7 → FrR 75 t I J → rwE cE J 75 t (A.1 0 3) (actR A t r i) → ∃ I', v_X3_lightByActs_75_2 none I' L J L (nI t) (nI i) ∧ rwE cE I' 75 t (A.1 0 3) (litR A P t r) ∧ FrR 75 t I I' := by
      intro m
      induction m with
      | zero =>
        intro i J hi hf hr1
        have e : i = A.1 0 7 := by omega
        subst e
        obtain ⟨I', hw, hr2, hf2⟩ := tail J _ hf hr1 (RV_actR hV hv _ (Nat.le_refl _))
        refine ⟨I', vc_X3_lightByActs_75_2 ⟨fun _ => hw, fun hc => ?_⟩, ?_, hf2⟩
        · rw [hf 21 0 (by omega), hR.2.2.2.2.1] at hc
          exact absurd (nI_le (Nat.le_refl _) (by omega)) hc
        · unfold litR
          rw [if_neg hal]
          exact hr2
      | succ m ih =>
        intro i J hi hf hr1
        have hlt : i < A.1 0 7 := by omega
        have hka := hV.2.2.2.2.2.2.2 i hlt
        have h0 := hV.1.1
        have ha := hR.2.2.2.2.2 i hlt
        have e22 : J 22 (nI i).toNatClampNeg = nI (A.1 9 i) := by rw [u_cl (by omega), hf 22 i (by omega)]; exact ha.1
        have e23 : J 23 (nI i).toNatClampNeg = nI (A.1 10 i) := by rw [u_cl (by omega), hf 23 i (by omega)]; exact ha.2.1
        have e24 : J 24 (nI i).toNatClampNeg = nI (A.1 11 i) := by rw [u_cl (by omega), hf 24 i (by omega)]; exact ha.2.2
        have hin : vp_in (nI i) 30 := u_in (by omega) (by decide)
        have hge : ¬ J 21 0 ≤ nI i := by
          rw [hf 21 0 (by omega), hR.2.2.2.2.1]
          exact nI_ge hlt (by omega)
        have h14 : J 75 14 = 0 := by rw [hf 75 14 (by omega), hP.2.2.2.2.2.2.2.1, if_neg hal]
        by_cases hy : A.1 11 i = t ∧ A.1 10 i ≠ 0
        · obtain ⟨J1, hc, hr2, hf2⟩ := ce_kindle_75 (L := L) (s := [A.1 10 i]) ht hka.1 hV hr1 (RV_actR hV hv i (by omega))
          have es : actR A t r (i + 1) = rwU (actR A t r i) (A.1 9 i) (clK (actR A t r i (A.1 9 i)) t [A.1 10 i]) := if_pos hy
          obtain ⟨I', hw, hr3, hf3⟩ := ih (i + 1) J1 (by omega) (hf.tr hf2) (by rw [es]; exact hr2)
          refine ⟨I', vc_X3_lightByActs_75_2 ⟨fun hc => absurd hc hge, fun _ => ⟨fun _ => ⟨hin, fun _ => ⟨hin, fun hc => ?_, fun _ => ⟨hin, hin, J1, ?_, ?_⟩⟩, fun hc => ?_⟩, fun hc => absurd h14 hc⟩⟩, hr3, hf3⟩
          · rw [e23, u_0 (by omega)] at hc
            exact absurd hc hy.2
          · rw [e22, e23]
            exact hc
          · rw [nI_1]
            exact hw
          · rw [e24, hy.1] at hc
            exact absurd rfl hc
        · have es : actR A t r (i + 1) = actR A t r i := if_neg hy
          obtain ⟨I', hw, hr3, hf3⟩ := ih (i + 1) J (by omega) hf (by rw [es]; exact hr1)
          rw [← nI_1] at hw
          refine ⟨I', vc_X3_lightByActs_75_2 ⟨fun hc => absurd hc hge, fun _ => ⟨fun _ => ⟨hin, fun hc => ⟨hin, fun _ => hw, fun hc2 => ?_⟩, fun _ => hw⟩, fun hc => absurd h14 hc⟩⟩, hr3, hf3⟩
          exfalso
          rw [e24, u_eq (by omega) (by omega)] at hc
          rw [e23, u_0 (by omega)] at hc2
          exact hy ⟨hc, hc2⟩
    obtain ⟨I', hw, hr2, hf2⟩ := loop (A.1 0 7) 0 I (by omega) FrR.rf hr
    exact ⟨I', c0_X3_lightByActs_75 (vc_X3_lightByActs_75_0 hw), hr2, hf2⟩
theorem ce_putOut_75 {t : Nat} {r : Rw} (hR : RC A I 12 21) (hV : NV A) (hP : PC P I 75) (hPV : PV A P) (ht : t ≤ 12) (hr : rwE cE I 75 t (A.1 0 3) r) : ∃ I', q_C kX3_putOut [.ref 75, .int (nI t)] I L none I' L ∧ rwE cE I' 75 t (A.1 0 3) (outR A P t r) ∧ FrR 75 t I I' := by
  have h3 := hV.1.2.2.2.1
  have h6 := hV.1.2.2.2.2.2.2.1
  have h7 := hV.1.2.2.2.2.2.2.2.1
  have hg1 := hPV.2.1.2.1
  have hg2 := hPV.2.1.2.2.1
  have hg3 := hPV.2.1.2.2.2
  have tail : ∀ (J : Nat → Nat → Int32) (r1 : Rw), FrR 75 t I J → rwE cE J 75 t (A.1 0 3) r1 → ∃ I', (((J 75 12) = nI t → (((J 75 11) = (-1) → ((none : Option Value) = none ∧ I' = J ∧ L = L)) ∧ (¬ (J 75 11) = (-1) → (∃ I1, q_C kX3_quench [.ref 75, .int ((nI t * 7) + (J 75 11))] J L none I1 L ∧ ((none : Option Value) = none ∧ I' = I1 ∧ L = L))))) ∧ (¬ (J 75 12) = nI t → ((none : Option Value) = none ∧ I' = J ∧ L = L))) ∧ rwE cE I' 75 t (A.1 0 3) (gusR P t r1) ∧ FrR 75 t I I' := by
    intro J r1 hf hr1
    have e11 : J 75 11 = iI P.2.1.2.1 := by rw [hf 75 11 (by omega)]; exact hP.2.2.2.2.1
    have e12 : J 75 12 = iI P.2.1.2.2.1 := by rw [hf 75 12 (by omega)]; exact hP.2.2.2.2.2.1
    have hq : J 75 12 = nI t ↔ P.2.1.2.2.1 = t := by
      rw [e12, ← iI_n]
      exact iI_eq (by omega) (by omega)
    have hq2 : J 75 11 = -1 ↔ P.2.1.2.1 = -1 := by
      rw [e11, ← iI_m1]
      exact iI_eq (by omega) (by omega)
    unfold gusR
    by_cases hy : P.2.1.2.2.1 = t ∧ P.2.1.2.1 ≠ -1
    · rw [if_pos hy]
      obtain ⟨m, hm2⟩ : ∃ m : Nat, P.2.1.2.1 = (m : Int) := ⟨P.2.1.2.1.toNat, by have := hy.2; omega⟩
      have hmn : m < A.1 0 3 := by omega
      have et : P.2.1.2.1.toNat = m := by rw [hm2]; rfl
      obtain ⟨J1, hc, hr2, hf2⟩ := ce_quench_75 (L := L) (p := m) ht hmn hV hr1
      rw [et]
      refine ⟨J1, ⟨fun _ => ⟨fun hc2 => absurd (hq2.mp hc2) hy.2, fun _ => ⟨J1, ?_, rfl, rfl, rfl⟩⟩, fun hc2 => absurd (hq.mpr hy.1) hc2⟩, hr2, hf.tr hf2⟩
      rw [e11, hm2, iI_n, ix7]
      exact hc
    · rw [if_neg hy]
      refine ⟨J, ⟨fun hc => ⟨fun _ => ⟨rfl, rfl, rfl⟩, fun hc2 => ?_⟩, fun _ => ⟨rfl, rfl, rfl⟩⟩, hr1, hf⟩
      exact absurd ⟨hq.mp hc, fun q => hc2 (hq2.mpr q)⟩ hy
  have acts : ∀ (m i : Nat) (J : Nat → Nat → Int32) (r1 : Rw), i + m = A.1 0 7 → FrR 75 t I J → rwE cE J 75 t (A.1 0 3) (dacR A t r1 i) → ∃ I', v_X3_putOut_75_60 none I' L J L (nI t) (nI i) ∧ rwE cE I' 75 t (A.1 0 3) (gusR P t (dacR A t r1 (A.1 0 7))) ∧ FrR 75 t I I' := by
    intro m
    induction m with
    | zero =>
      intro i J r1 hi hf hr1
      have e : i = A.1 0 7 := by omega
      subst e
      obtain ⟨I', hw, hr2, hf2⟩ := tail J _ hf hr1
      refine ⟨I', vc_X3_putOut_75_60 ⟨fun _ => hw, fun hc => ?_⟩, hr2, hf2⟩
      rw [hf 21 0 (by omega), hR.2.2.2.2.1] at hc
      exact absurd (nI_le (Nat.le_refl _) (by omega)) hc
    | succ m ih =>
      intro i J r1 hi hf hr1
      have hlt : i < A.1 0 7 := by omega
      have hka := hV.2.2.2.2.2.2.2 i hlt
      have h0 := hV.1.1
      have ha := hR.2.2.2.2.2 i hlt
      have e22 : J 22 (nI i).toNatClampNeg = nI (A.1 9 i) := by rw [u_cl (by omega), hf 22 i (by omega)]; exact ha.1
      have e23 : J 23 (nI i).toNatClampNeg = nI (A.1 10 i) := by rw [u_cl (by omega), hf 23 i (by omega)]; exact ha.2.1
      have e24 : J 24 (nI i).toNatClampNeg = nI (A.1 11 i) := by rw [u_cl (by omega), hf 24 i (by omega)]; exact ha.2.2
      have hin : vp_in (nI i) 30 := u_in (by omega) (by decide)
      have hge : ¬ J 21 0 ≤ nI i := by
        rw [hf 21 0 (by omega), hR.2.2.2.2.1]
        exact nI_ge hlt (by omega)
      by_cases hy : A.1 11 i = t ∧ A.1 10 i = 0
      · obtain ⟨J1, hc, hr2, hf2⟩ := ce_quench_75 (L := L) ht hka.1 hV hr1
        have es : dacR A t r1 (i + 1) = rwU (dacR A t r1 i) (A.1 9 i) clO := if_pos hy
        obtain ⟨I', hw, hr3, hf3⟩ := ih (i + 1) J1 r1 (by omega) (hf.tr hf2) (by rw [es]; exact hr2)
        refine ⟨I', vc_X3_putOut_75_60 ⟨fun hc => absurd hc hge, fun _ => ⟨hin, fun _ => ⟨hin, fun _ => ⟨hin, J1, ?_, ?_⟩, fun hc => ?_⟩, fun hc => ?_⟩⟩, hr3, hf3⟩
        · rw [e22, ix7]
          exact hc
        · rw [nI_1]
          exact hw
        · rw [e23, hy.2] at hc
          exact absurd rfl hc
        · rw [e24, hy.1] at hc
          exact absurd rfl hc
      · have es : dacR A t r1 (i + 1) = dacR A t r1 i := if_neg hy
        obtain ⟨I', hw, hr3, hf3⟩ := ih (i + 1) J r1 (by omega) hf (by rw [es]; exact hr1)
        rw [← nI_1] at hw
        refine ⟨I', vc_X3_putOut_75_60 ⟨fun hc => absurd hc hge, fun _ => ⟨hin, fun hc => ⟨hin, fun hc2 => ?_, fun _ => hw⟩, fun _ => hw⟩⟩, hr3, hf3⟩
        exfalso
        rw [e24, u_eq (by omega) (by omega)] at hc
        rw [e23, u_0 (by omega)] at hc2
        exact hy ⟨hc, hc2⟩
  have loop : ∀ (m i : Nat) (J : Nat → Nat → Int32), i + m = A.1 0 6 → FrR 75 t I J → rwE cE J 75 t (A.1 0 3) (draR A P t r i) → ∃ I', v_X3_putOut_75_2 none I' L J L (nI t) (nI i) ∧ rwE cE I' 75 t (A.1 0 3) (outR A P t r) ∧ FrR 75 t I I' := by
    intro m
    induction m with
    | zero =>
      intro i J hi hf hr1
      have e : i = A.1 0 6 := by omega
      subst e
      obtain ⟨I', hw, hr2, hf2⟩ := acts (A.1 0 7) 0 J (draR A P t r (A.1 0 6)) (by omega) hf hr1
      refine ⟨I', vc_X3_putOut_75_2 ⟨fun _ => hw, fun hc => ?_⟩, hr2, hf2⟩
      rw [hf 12 7 (by omega), hR.1.2.2.2.2.2.2.2] at hc
      exact absurd (nI_le (Nat.le_refl _) (by omega)) hc
    | succ m ih =>
      intro i J hi hf hr1
      have hlt : i < A.1 0 6 := by omega
      have hka := hV.2.2.2.2.2.2.1 i hlt
      have ha := hR.2.2.2.1 i hlt
      have e19 : J 19 (nI i).toNatClampNeg = nI (A.1 7 i) := by rw [u_cl (by omega), hf 19 i (by omega)]; exact ha.1
      have e20 : J 20 (nI i).toNatClampNeg = nI (A.1 8 i) := by rw [u_cl (by omega), hf 20 i (by omega)]; exact ha.2
      have e13 : J 75 13 = iI P.2.1.2.2.2 := by rw [hf 75 13 (by omega)]; exact hP.2.2.2.2.2.2.1
      have hq : nI i = J 75 13 ↔ (i : Int) = P.2.1.2.2.2 := by
        rw [e13, ← iI_n]
        exact iI_eq (by omega) (by omega)
      have hin : vp_in (nI i) 6 := u_in (by omega) (by decide)
      have hge : ¬ J 12 7 ≤ nI i := by
        rw [hf 12 7 (by omega), hR.1.2.2.2.2.2.2.2]
        exact nI_ge hlt (by omega)
      by_cases hy : A.1 8 i = t ∧ (i : Int) ≠ P.2.1.2.2.2
      · obtain ⟨J1, hc, hr2, hf2⟩ := ce_quench_75 (L := L) ht hka.1 hV hr1
        have es : draR A P t r (i + 1) = rwU (draR A P t r i) (A.1 7 i) clO := if_pos hy
        obtain ⟨I', hw, hr3, hf3⟩ := ih (i + 1) J1 (by omega) (hf.tr hf2) (by rw [es]; exact hr2)
        refine ⟨I', vc_X3_putOut_75_2 ⟨fun hc => absurd hc hge, fun _ => ⟨hin, fun _ => ⟨fun hc => absurd (hq.mp hc) hy.2, fun _ => ⟨hin, J1, ?_, ?_⟩⟩, fun hc => ?_⟩⟩, hr3, hf3⟩
        · rw [e19, ix7]
          exact hc
        · rw [nI_1]
          exact hw
        · rw [e20, hy.1] at hc
          exact absurd rfl hc
      · have es : draR A P t r (i + 1) = draR A P t r i := if_neg hy
        obtain ⟨I', hw, hr3, hf3⟩ := ih (i + 1) J (by omega) hf (by rw [es]; exact hr1)
        rw [← nI_1] at hw
        refine ⟨I', vc_X3_putOut_75_2 ⟨fun hc => absurd hc hge, fun _ => ⟨hin, fun hc => ⟨fun _ => hw, fun hc2 => ?_⟩, fun _ => hw⟩⟩, hr3, hf3⟩
        exfalso
        rw [e20, u_eq (by omega) (by omega)] at hc
        exact hy ⟨hc, fun q => hc2 (hq.mpr q)⟩
  obtain ⟨I', hw, hr2, hf2⟩ := loop (A.1 0 6) 0 I (by omega) FrR.rf hr
  exact ⟨I', c0_X3_putOut_75 (vc_X3_putOut_75_0 hw), hr2, hf2⟩
theorem ct_noteLit_75 {t : Nat} {r : Rw} (hR : RC A I 12 21) (hV : NV A) (ht : t ≤ 12) (hr : rwE cE I 75 t (A.1 0 3) r) (hv : RV (A.1 0 3) t r) : q_C kX3_noteLit [.ref 75, .int (nI t)] I L none (up2 I 76 t (nI (litB r (A.1 0 3)))) L := by
  have h3 := hV.1.2.2.2.1
  have loop : ∀ m k : Nat, k + m = A.1 0 3 → v_X3_noteLit_75_4 none (up2 I 76 t (nI (litB r (A.1 0 3)))) L I L (nI t) (nI (litB r k)) (nI k) := by
    intro m
    induction m with
    | zero =>
      intro k hk
      have e : k = A.1 0 3 := by omega
      subst e
      refine vc_X3_noteLit_75_4 ⟨fun _ => ⟨u_in (by omega) (by decide), rfl, ?_, rfl⟩, fun hc => ?_⟩
      · rw [u_cl (by omega)]
      · rw [hR.1.2.2.2.2.1] at hc
        exact absurd (nI_le (Nat.le_refl _) (by omega)) hc
    | succ m ih =>
      intro k hk
      have hlt : k < A.1 0 3 := by omega
      obtain ⟨h1, -⟩ := hr k hlt
      have h1 : I 77 (7 * t + k) = nI (cE (r k).1) := h1
      have hc := hv k hlt
      have hl := hc.1.lt
      have hz : I 77 (nI (7 * t + k)).toNatClampNeg = 0 ↔ (r k).1 = [] := by
        rw [u_cl (by omega), h1]
        exact (u_0 (by omega)).trans (cE_0 hc.1.ge1)
      have hn := ih (k + 1) (by omega)
      refine vc_X3_noteLit_75_4 ⟨fun hc => ?_, fun _ => ?_⟩
      · rw [hR.1.2.2.2.2.1] at hc
        exact absurd hc (nI_ge hlt (by omega))
      · rw [ix7]
        refine ⟨u_in (by omega) (by decide), fun h0 => ?_, fun h0 => ?_⟩
        · have e : litB r (k + 1) = litB r k := by
            show litB r k ||| (if (r k).1 = [] then 0 else 2 ^ k) = _
            rw [if_pos (hz.mp h0), Nat.or_zero]
          rw [e, ← nI_1] at hn
          exact hn
        · have e : litB r (k + 1) = litB r k ||| 2 ^ k := by
            show litB r k ||| (if (r k).1 = [] then 0 else 2 ^ k) = _
            rw [if_neg (fun q => h0 (hz.mpr q))]
          rw [e, ← nI_1, ← u_or, ← u_one (by omega)] at hn
          exact hn
  exact c0_X3_noteLit_75 (vc_X3_noteLit_75_0 (loop (A.1 0 3) 0 (by omega)))
end CD75
