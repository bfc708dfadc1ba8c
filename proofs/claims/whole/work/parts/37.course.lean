/-! THE COURSE AT PLACE 81. -/
section CC81
variable {A : Nt} {P : Pm} {I : Nat → Nat → Int32} {L : Nat → Nat → Int64}
theorem ct_quench_81 {k : Nat} (hk : k < 91) : q_C kX3_quench [.ref 81, .int (nI k)] I L none (wr4 I 81 k 0 (-1) (-1) (-1)) L := by
  have hin : vp_in (nI k) 91 := u_in hk (by decide)
  have e : (nI k).toNatClampNeg = k := u_cl (by omega)
  refine c0_X3_quench_81 (vc_X3_quench_81_0 ⟨hin, hin, hin, fun I1 hI => ⟨hin, rfl, ?_, rfl⟩⟩)
  rw [hI, e]
  rfl
theorem ct_kindle_81 {t p : Nat} (ht : t ≤ 12) (hp : p < 7) (x : Int32) : q_C kX3_kindle [.ref 81, .int (nI p), .int (nI t), .int x] I L none (wr4 I 81 (7 * t + p) x (-1) (if I 83 (7 * t + p) = 0 then nI t else I 85 (7 * t + p)) 0) L := by
  have hin : vp_in (nI (7 * t + p)) 91 := u_in (by omega) (by decide)
  have e : (nI (7 * t + p)).toNatClampNeg = 7 * t + p := u_cl (by omega)
  refine c0_X3_kindle_81 (vc_X3_kindle_81_0 ?_)
  rw [ix7, e]
  refine ⟨hin, fun h0 => ⟨hin, vc_X3_kindle_81_26 ⟨hin, hin, hin, fun I1 hI => ⟨rfl, ?_, rfl⟩⟩⟩, fun h0 => vc_X3_kindle_81_26 ⟨hin, hin, hin, fun I1 hI => ⟨rfl, ?_, rfl⟩⟩⟩
  · rw [hI, e, if_pos h0]
    unfold wr4
    rw [up2_comm _ (show 85 ≠ 83 by decide), up2_comm _ (show 85 ≠ 84 by decide)]
  · rw [hI, e, if_neg h0]
    unfold wr4
    have e2 : up2 (up2 I 83 (7 * t + p) x) 84 (7 * t + p) (-1) 85 (7 * t + p) = I 85 (7 * t + p) := by rw [up2_p (by decide), up2_p (by decide)]
    have e3 := up2_id (up2 (up2 I 83 (7 * t + p) x) 84 (7 * t + p) (-1)) 85 (7 * t + p)
    rw [e2] at e3
    show up2 (up2 (up2 (up2 I 83 (7 * t + p) x) 84 (7 * t + p) (-1)) 85 (7 * t + p) (I 85 (7 * t + p))) 86 (7 * t + p) 0 = _
    rw [e3]
/-- a pew is lit, a pew is put out, in a row -/
theorem ce_kindle_81 {t p : Nat} {r : Rw} {s : List Nat} (ht : t ≤ 12) (hp : p < A.1 0 3) (hV : NV A) (hr : rwE cE I 81 t (A.1 0 3) r) (hv : RV (A.1 0 3) t r) : ∃ I', q_C kX3_kindle [.ref 81, .int (nI p), .int (nI t), .int (nI (cE s))] I L none I' L ∧ rwE cE I' 81 t (A.1 0 3) (rwU r p (clK (r p) t s)) ∧ FrR 81 t I I' := by
  have h3 := hV.1.2.2.2.1
  refine ⟨_, ct_kindle_81 ht (by omega) _, rwE_w hr rfl rfl ?_ rfl, FrR_w (by omega)⟩
  obtain ⟨h1, -, h4, -⟩ := hr p hp
  have h1 : I 83 (7 * t + p) = nI (cE (r p).1) := h1
  have h4 : I 85 (7 * t + p) = iI (r p).2.2.1 := h4
  have hc := hv p hp
  have hl := hc.1.lt
  have hz : nI (cE (r p).1) = 0 ↔ (r p).1 = [] := (u_0 (by omega)).trans (cE_0 hc.1.ge1)
  rw [h1, h4]
  show _ = iI (if (r p).1 = [] then (t : Int) else (r p).2.2.1)
  by_cases e : (r p).1 = []
  · rw [if_pos (hz.mpr e), if_pos e, iI_n]
  · rw [if_neg (fun q => e (hz.mp q)), if_neg e]
theorem ce_quench_81 {t p : Nat} {r : Rw} (ht : t ≤ 12) (hp : p < A.1 0 3) (hV : NV A) (hr : rwE cE I 81 t (A.1 0 3) r) : ∃ I', q_C kX3_quench [.ref 81, .int (nI (7 * t + p))] I L none I' L ∧ rwE cE I' 81 t (A.1 0 3) (rwU r p clO) ∧ FrR 81 t I I' := by
  have h3 := hV.1.2.2.2.1
  exact ⟨_, ct_quench_81 (by omega), rwE_w hr rfl rfl rfl rfl, FrR_w (by omega)⟩
theorem ce_begin_81 (hR : RC A I 12 21) (hV : NV A) (hP : PC P I 81) (hPV : PV A P) : ∃ I', q_C kX3_begin [.ref 81] I L none I' L ∧ rwE cE I' 81 0 (A.1 0 3) (begR A P) ∧ FrR 81 0 I I' := by
  have h3 := hV.1.2.2.2.1
  have h5 := hV.1.2.2.2.2.2.1
  -- lights
  have lights : ∀ (m k : Nat) (J : Nat → Nat → Int32), k + m = A.1 0 5 → FrR 81 0 I J → P.2.2.1 = false → rwE cE J 81 0 (A.1 0 3) (begL A k) → ∃ I', v_X3_begin_81_54 none I' L J L (nI k) ∧ rwE cE I' 81 0 (A.1 0 3) (begL A (A.1 0 5)) ∧ FrR 81 0 I I' := by
    intro m
    induction m with
    | zero =>
      intro k J hk hf hal hr
      have e : k = A.1 0 5 := by omega
      subst e
      refine ⟨J, vc_X3_begin_81_54 ⟨fun _ => ⟨rfl, rfl, rfl⟩, fun hc => ?_⟩, hr, hf⟩
      rw [hf 12 6 (by decide), hR.1.2.2.2.2.2.2.1] at hc
      exact absurd (nI_le (Nat.le_refl _) (by omega)) hc
    | succ m ih =>
      intro k J hk hf hal hr
      have hlt : k < A.1 0 5 := by omega
      have hk4 := hV.2.2.2.2.2.1 k hlt
      have e17 : J 17 (nI k).toNatClampNeg = nI (A.1 6 k) := by rw [u_cl (by omega), hf 17 k (by omega)]; exact (hR.2.2.1 k hlt).1
      have e18 : J 18 (nI k).toNatClampNeg = nI (cE (A.2 k)) := by rw [u_cl (by omega), hf 18 k (by omega)]; exact (hR.2.2.1 k hlt).2
      obtain ⟨J1, hc, hr1, hf1⟩ := ce_kindle_81 (L := L) (s := A.2 k) (t := 0) (by omega) hk4.1 hV hr (RV_begL hV k (by omega))
      obtain ⟨I', hw, hr2, hf2⟩ := ih (k + 1) J1 (by omega) (hf.tr hf1) hal hr1
      refine ⟨I', vc_X3_begin_81_54 ⟨fun hc => ?_, fun _ => ⟨fun _ => ⟨u_in (by omega) (by decide), u_in (by omega) (by decide), J1, ?_, ?_⟩, fun hc => ?_⟩⟩, hr2, hf2⟩
      · rw [hf 12 6 (by decide), hR.1.2.2.2.2.2.2.1] at hc
        exact absurd hc (nI_ge hlt (by omega))
      · rw [e17, e18]
        exact hc
      · rw [nI_1]
        exact hw
      · rw [hf 81 14 (by decide), hP.2.2.2.2.2.2.2.1, hal] at hc
        exact absurd rfl hc
  have tail : ∀ (J : Nat → Nat → Int32), FrR 81 0 I J → rwE cE J 81 0 (A.1 0 3) (if P.2.2.1 = true then begA P else fun _ => clO) → ∃ I', v_X3_begin_81_54 none I' L J L 0 ∧ rwE cE I' 81 0 (A.1 0 3) (begR A P) ∧ FrR 81 0 I I' := by
    intro J hf hr
    unfold begR
    by_cases hal : P.2.2.1 = true
    · rw [if_pos hal] at hr ⊢
      refine ⟨J, vc_X3_begin_81_54 ⟨fun _ => ⟨rfl, rfl, rfl⟩, fun _ => ⟨fun hc => ?_, fun _ => ⟨rfl, rfl, rfl⟩⟩⟩, hr, hf⟩
      rw [hf 81 14 (by decide), hP.2.2.2.2.2.2.2.1, if_pos hal] at hc
      exact absurd hc (by decide)
    · rw [if_neg hal] at hr ⊢
      exact lights (A.1 0 5) 0 J (by omega) hf (by simpa using hal) hr
  have loop : ∀ (m k : Nat) (J : Nat → Nat → Int32), k + m = A.1 0 3 → FrR 81 0 I J → rwE cE J 81 0 k (if P.2.2.1 = true then begA P else fun _ => clO) → ∃ I', v_X3_begin_81_2 none I' L J L (nI k) ∧ rwE cE I' 81 0 (A.1 0 3) (begR A P) ∧ FrR 81 0 I I' := by
    intro m
    induction m with
    | zero =>
      intro k J hk hf hr
      have e : k = A.1 0 3 := by omega
      subst e
      obtain ⟨I', hw, hr2, hf2⟩ := tail J hf hr
      refine ⟨I', vc_X3_begin_81_2 ⟨fun _ => hw, fun hc => ?_⟩, hr2, hf2⟩
      rw [hf 12 4 (by decide), hR.1.2.2.2.2.1] at hc
      exact absurd (nI_le (Nat.le_refl _) (by omega)) hc
    | succ m ih =>
      intro k J hk hf hr
      have hlt : k < A.1 0 3 := by omega
      have hge : ¬ J 12 4 ≤ nI k := by
        rw [hf 12 4 (by decide), hR.1.2.2.2.2.1]
        exact nI_ge hlt (by omega)
      have c1 := ct_quench_81 (I := J) (L := L) (k := 7 * 0 + k) (by omega)
      have hf1 : FrR 81 0 J (wr4 J 81 (7 * 0 + k) 0 (-1) (-1) (-1)) := FrR_w (by omega)
      generalize hJ1 : wr4 J 81 (7 * 0 + k) 0 (-1) (-1) (-1) = J1 at c1 hf1
      rw [Nat.mul_zero, Nat.zero_add] at c1
      have hff := hf.tr hf1
      have ek : (1 : Nat) * k = k := Nat.one_mul k
      by_cases hal : P.2.2.1 = true
      · rw [if_pos hal] at hr
        have eset : J1 81 15 = nI P.2.2.2.1 := by rw [hff 81 15 (by decide)]; exact (hP.2.2.2.2.2.2.2.2 hal).1
        have esay : J1 81 16 = nI (cE P.2.2.2.2) := by rw [hff 81 16 (by decide)]; exact (hP.2.2.2.2.2.2.2.2 hal).2
        have ebit : (J1 81 15 >>> (nI k &&& 31)) &&& 1 = nI (P.2.2.2.1 / 2 ^ k % 2) := by
          have := hPV.2.2.1
          rw [eset, u_bit (by omega) (by omega)]
        have hb2 : P.2.2.2.1 / 2 ^ k % 2 < 2 := Nat.mod_lt _ (by decide)
        have hal14 : J1 81 14 = 1 := by rw [hff 81 14 (by decide), hP.2.2.2.2.2.2.2.1, if_pos hal]
        by_cases hbit : P.2.2.2.1 / 2 ^ k % 2 = 1
        · have c2 := ct_kindle_81 (I := J1) (L := L) (t := 0) (p := k) (by omega) (by omega) (nI (cE P.2.2.2.2))
          have e0 : J1 83 (7 * 0 + k) = 0 := by rw [← hJ1]; exact wr4_2 J 81 (7 * 0 + k) _ _ _ _
          rw [if_pos e0] at c2
          have hf2 : FrR 81 0 J1 (wr4 J1 81 (7 * 0 + k) (nI (cE P.2.2.2.2)) (-1) (nI 0) 0) := FrR_w (by omega)
          have hr2 : rwE cE (wr4 J1 81 (7 * 0 + k) (nI (cE P.2.2.2.2)) (-1) (nI 0) 0) 81 0 (k + 1) (begA P) := by
            have hr1 : rwE cE J1 81 0 k (begA P) := by
              intro q hq
              rw [← hJ1, wr4_o (by omega), wr4_o (by omega), wr4_o (by omega), wr4_o (by omega)]
              exact hr q hq
            refine rwE_x hr1 ?_ ?_ ?_ ?_
            · unfold begA; rw [if_pos hbit]; rfl
            · unfold begA; rw [if_pos hbit]; rfl
            · unfold begA; rw [if_pos hbit]; rfl
            · unfold begA; rw [if_pos hbit]; rfl
          obtain ⟨I', hw, hr3, hf3⟩ := ih (k + 1) _ (by omega) (hff.tr hf2) (by rw [if_pos hal]; exact hr2)
          refine ⟨I', vc_X3_begin_81_2 ⟨fun hc => absurd hc hge, fun _ => ⟨J1, c1, fun hc => ?_, fun _ => ⟨fun hc => ?_, fun _ => ⟨wr4 J1 81 (7 * 0 + k) (nI (cE P.2.2.2.2)) (-1) (nI 0) 0, ?_, ?_⟩⟩⟩⟩, hr3, hf3⟩
          · rw [hal14] at hc
            exact absurd hc (by decide)
          · rw [ebit, hbit] at hc
            exact absurd hc (by decide)
          · rw [esay]
            exact c2
          · rw [nI_1]
            exact hw
        · have hr2 : rwE cE J1 81 0 (k + 1) (begA P) := by
            rw [← hJ1]
            refine rwE_x hr ?_ ?_ ?_ ?_
            · unfold begA; rw [if_neg hbit]; rfl
            · unfold begA; rw [if_neg hbit]; rfl
            · unfold begA; rw [if_neg hbit]; rfl
            · unfold begA; rw [if_neg hbit]; rfl
          obtain ⟨I', hw, hr3, hf3⟩ := ih (k + 1) J1 (by omega) hff (by rw [if_pos hal]; exact hr2)
          refine ⟨I', vc_X3_begin_81_2 ⟨fun hc => absurd hc hge, fun _ => ⟨J1, c1, fun hc => ?_, fun _ => ⟨fun _ => ?_, fun hc => ?_⟩⟩⟩, hr3, hf3⟩
          · rw [hal14] at hc
            exact absurd hc (by decide)
          · rw [nI_1]
            exact hw
          · exfalso
            apply hc
            rw [ebit, show P.2.2.2.1 / 2 ^ k % 2 = 0 by omega]
            rfl
      · rw [if_neg hal] at hr
        have hr2 : rwE cE J1 81 0 (k + 1) (fun _ => clO) := by
          rw [← hJ1]
          exact rwE_x hr rfl rfl rfl rfl
        have hal14 : J1 81 14 = 0 := by rw [hff 81 14 (by decide), hP.2.2.2.2.2.2.2.1, if_neg hal]
        obtain ⟨I', hw, hr3, hf3⟩ := ih (k + 1) J1 (by omega) hff (by rw [if_neg hal]; exact hr2)
        refine ⟨I', vc_X3_begin_81_2 ⟨fun hc => absurd hc hge, fun _ => ⟨J1, c1, fun _ => ?_, fun hc => absurd hal14 hc⟩⟩, hr3, hf3⟩
        rw [nI_1]
        exact hw
  obtain ⟨I', hw, hr, hf⟩ := loop (A.1 0 3) 0 I (by omega) FrR.rf (fun p hp => absurd hp (by omega))
  exact ⟨I', c0_X3_begin_81 (vc_X3_begin_81_0 hw), hr, hf⟩
end CC81
/-! THE COURSE AT PLACE 75. -/
section CC75
variable {A : Nt} {P : Pm} {I : Nat → Nat → Int32} {L : Nat → Nat → Int64}
theorem ct_quench_75 {k : Nat} (hk : k < 91) : q_C kX3_quench [.ref 75, .int (nI k)] I L none (wr4 I 75 k 0 (-1) (-1) (-1)) L := by
  have hin : vp_in (nI k) 91 := u_in hk (by decide)
  have e : (nI k).toNatClampNeg = k := u_cl (by omega)
  refine c0_X3_quench_75 (vc_X3_quench_75_0 ⟨hin, hin, hin, fun I1 hI => ⟨hin, rfl, ?_, rfl⟩⟩)
  rw [hI, e]
  rfl
theorem ct_kindle_75 {t p : Nat} (ht : t ≤ 12) (hp : p < 7) (x : Int32) : q_C kX3_kindle [.ref 75, .int (nI p), .int (nI t), .int x] I L none (wr4 I 75 (7 * t + p) x (-1) (if I 77 (7 * t + p) = 0 then nI t else I 79 (7 * t + p)) 0) L := by
  have hin : vp_in (nI (7 * t + p)) 91 := u_in (by omega) (by decide)
  have e : (nI (7 * t + p)).toNatClampNeg = 7 * t + p := u_cl (by omega)
  refine c0_X3_kindle_75 (vc_X3_kindle_75_0 ?_)
  rw [ix7, e]
  refine ⟨hin, fun h0 => ⟨hin, vc_X3_kindle_75_26 ⟨hin, hin, hin, fun I1 hI => ⟨rfl, ?_, rfl⟩⟩⟩, fun h0 => vc_X3_kindle_75_26 ⟨hin, hin, hin, fun I1 hI => ⟨rfl, ?_, rfl⟩⟩⟩
  · rw [hI, e, if_pos h0]
    unfold wr4
    rw [up2_comm _ (show 79 ≠ 77 by decide), up2_comm _ (show 79 ≠ 78 by decide)]
  · rw [hI, e, if_neg h0]
    unfold wr4
    have e2 : up2 (up2 I 77 (7 * t + p) x) 78 (7 * t + p) (-1) 79 (7 * t + p) = I 79 (7 * t + p) := by rw [up2_p (by decide), up2_p (by decide)]
    have e3 := up2_id (up2 (up2 I 77 (7 * t + p) x) 78 (7 * t + p) (-1)) 79 (7 * t + p)
    rw [e2] at e3
    show up2 (up2 (up2 (up2 I 77 (7 * t + p) x) 78 (7 * t + p) (-1)) 79 (7 * t + p) (I 79 (7 * t + p))) 80 (7 * t + p) 0 = _
    rw [e3]
/-- a pew is lit, a pew is put out, in a row -/
theorem ce_kindle_75 {t p : Nat} {r : Rw} {s : List Nat} (ht : t ≤ 12) (hp : p < A.1 0 3) (hV : NV A) (hr : rwE cE I 75 t (A.1 0 3) r) (hv : RV (A.1 0 3) t r) : ∃ I', q_C kX3_kindle [.ref 75, .int (nI p), .int (nI t), .int (nI (cE s))] I L none I' L ∧ rwE cE I' 75 t (A.1 0 3) (rwU r p (clK (r p) t s)) ∧ FrR 75 t I I' := by
  have h3 := hV.1.2.2.2.1
  refine ⟨_, ct_kindle_75 ht (by omega) _, rwE_w hr rfl rfl ?_ rfl, FrR_w (by omega)⟩
  obtain ⟨h1, -, h4, -⟩ := hr p hp
  have h1 : I 77 (7 * t + p) = nI (cE (r p).1) := h1
  have h4 : I 79 (7 * t + p) = iI (r p).2.2.1 := h4
  have hc := hv p hp
  have hl := hc.1.lt
  have hz : nI (cE (r p).1) = 0 ↔ (r p).1 = [] := (u_0 (by omega)).trans (cE_0 hc.1.ge1)
  rw [h1, h4]
  show _ = iI (if (r p).1 = [] then (t : Int) else (r p).2.2.1)
  by_cases e : (r p).1 = []
  · rw [if_pos (hz.mpr e), if_pos e, iI_n]
  · rw [if_neg (fun q => e (hz.mp q)), if_neg e]
theorem ce_quench_75 {t p : Nat} {r : Rw} (ht : t ≤ 12) (hp : p < A.1 0 3) (hV : NV A) (hr : rwE cE I 75 t (A.1 0 3) r) : ∃ I', q_C kX3_quench [.ref 75, .int (nI (7 * t + p))] I L none I' L ∧ rwE cE I' 75 t (A.1 0 3) (rwU r p clO) ∧ FrR 75 t I I' := by
  have h3 := hV.1.2.2.2.1
  exact ⟨_, ct_quench_75 (by omega), rwE_w hr rfl rfl rfl rfl, FrR_w (by omega)⟩
theorem ce_begin_75 (hR : RC A I 12 21) (hV : NV A) (hP : PC P I 75) (hPV : PV A P) : ∃ I', q_C kX3_begin [.ref 75] I L none I' L ∧ rwE cE I' 75 0 (A.1 0 3) (begR A P) ∧ FrR 75 0 I I' := by
  have h3 := hV.1.2.2.2.1
  have h5 := hV.1.2.2.2.2.2.1
  -- lights
  have lights : ∀ (m k : Nat) (J : Nat → Nat → Int32), k + m = A.1 0 5 → FrR 75 0 I J → P.2.2.1 = false → rwE cE J 75 0 (A.1 0 3) (begL A k) → ∃ I', v_X3_begin_75_54 none I' L J L (nI k) ∧ rwE cE I' 75 0 (A.1 0 3) (begL A (A.1 0 5)) ∧ FrR 75 0 I I' := by
    intro m
    induction m with
    | zero =>
      intro k J hk hf hal hr
      have e : k = A.1 0 5 := by omega
      subst e
      refine ⟨J, vc_X3_begin_75_54 ⟨fun _ => ⟨rfl, rfl, rfl⟩, fun hc => ?_⟩, hr, hf⟩
      rw [hf 12 6 (by decide), hR.1.2.2.2.2.2.2.1] at hc
      exact absurd (nI_le (Nat.le_refl _) (by omega)) hc
    | succ m ih =>
      intro k J hk hf hal hr
      have hlt : k < A.1 0 5 := by omega
      have hk4 := hV.2.2.2.2.2.1 k hlt
      have e17 : J 17 (nI k).toNatClampNeg = nI (A.1 6 k) := by rw [u_cl (by omega), hf 17 k (by omega)]; exact (hR.2.2.1 k hlt).1
      have e18 : J 18 (nI k).toNatClampNeg = nI (cE (A.2 k)) := by rw [u_cl (by omega), hf 18 k (by omega)]; exact (hR.2.2.1 k hlt).2
      obtain ⟨J1, hc, hr1, hf1⟩ := ce_kindle_75 (L := L) (s := A.2 k) (t := 0) (by omega) hk4.1 hV hr (RV_begL hV k (by omega))
      obtain ⟨I', hw, hr2, hf2⟩ := ih (k + 1) J1 (by omega) (hf.tr hf1) hal hr1
      refine ⟨I', vc_X3_begin_75_54 ⟨fun hc => ?_, fun _ => ⟨fun _ => ⟨u_in (by omega) (by decide), u_in (by omega) (by decide), J1, ?_, ?_⟩, fun hc => ?_⟩⟩, hr2, hf2⟩
      · rw [hf 12 6 (by decide), hR.1.2.2.2.2.2.2.1] at hc
        exact absurd hc (nI_ge hlt (by omega))
      · rw [e17, e18]
        exact hc
      · rw [nI_1]
        exact hw
      · rw [hf 75 14 (by decide), hP.2.2.2.2.2.2.2.1, hal] at hc
        exact absurd rfl hc
  have tail : ∀ (J : Nat → Nat → Int32), FrR 75 0 I J → rwE cE J 75 0 (A.1 0 3) (if P.2.2.1 = true then begA P else fun _ => clO) → ∃ I', v_X3_begin_75_54 none I' L J L 0 ∧ rwE cE I' 75 0 (A.1 0 3) (begR A P) ∧ FrR 75 0 I I' := by
    intro J hf hr
    unfold begR
    by_cases hal : P.2.2.1 = true
    · rw [if_pos hal] at hr ⊢
      refine ⟨J, vc_X3_begin_75_54 ⟨fun _ => ⟨rfl, rfl, rfl⟩, fun _ => ⟨fun hc => ?_, fun _ => ⟨rfl, rfl, rfl⟩⟩⟩, hr, hf⟩
      rw [hf 75 14 (by decide), hP.2.2.2.2.2.2.2.1, if_pos hal] at hc
      exact absurd hc (by decide)
    · rw [if_neg hal] at hr ⊢
      exact lights (A.1 0 5) 0 J (by omega) hf (by simpa using hal) hr
  have loop : ∀ (m k : Nat) (J : Nat → Nat → Int32), k + m = A.1 0 3 → FrR 75 0 I J → rwE cE J 75 0 k (if P.2.2.1 = true then begA P else fun _ => clO) → ∃ I', v_X3_begin_75_2 none I' L J L (nI k) ∧ rwE cE I' 75 0 (A.1 0 3) (begR A P) ∧ FrR 75 0 I I' := by
    intro m
    induction m with
    | zero =>
      intro k J hk hf hr
      have e : k = A.1 0 3 := by omega
      subst e
      obtain ⟨I', hw, hr2, hf2⟩ := tail J hf hr
      refine ⟨I', vc_X3_begin_75_2 ⟨fun _ => hw, fun hc => ?_⟩, hr2, hf2⟩
      rw [hf 12 4 (by decide), hR.1.2.2.2.2.1] at hc
      exact absurd (nI_le (Nat.le_refl _) (by omega)) hc
    | succ m ih =>
      intro k J hk hf hr
      have hlt : k < A.1 0 3 := by omega
      have hge : ¬ J 12 4 ≤ nI k := by
        rw [hf 12 4 (by decide), hR.1.2.2.2.2.1]
        exact nI_ge hlt (by omega)
      have c1 := ct_quench_75 (I := J) (L := L) (k := 7 * 0 + k) (by omega)
      have hf1 : FrR 75 0 J (wr4 J 75 (7 * 0 + k) 0 (-1) (-1) (-1)) := FrR_w (by omega)
      generalize hJ1 : wr4 J 75 (7 * 0 + k) 0 (-1) (-1) (-1) = J1 at c1 hf1
      rw [Nat.mul_zero, Nat.zero_add] at c1
      have hff := hf.tr hf1
      have ek : (1 : Nat) * k = k := Nat.one_mul k
      by_cases hal : P.2.2.1 = true
      · rw [if_pos hal] at hr
        have eset : J1 75 15 = nI P.2.2.2.1 := by rw [hff 75 15 (by decide)]; exact (hP.2.2.2.2.2.2.2.2 hal).1
        have esay : J1 75 16 = nI (cE P.2.2.2.2) := by rw [hff 75 16 (by decide)]; exact (hP.2.2.2.2.2.2.2.2 hal).2
        have ebit : (J1 75 15 >>> (nI k &&& 31)) &&& 1 = nI (P.2.2.2.1 / 2 ^ k % 2) := by
          have := hPV.2.2.1
          rw [eset, u_bit (by omega) (by omega)]
        have hb2 : P.2.2.2.1 / 2 ^ k % 2 < 2 := Nat.mod_lt _ (by decide)
        have hal14 : J1 75 14 = 1 := by rw [hff 75 14 (by decide), hP.2.2.2.2.2.2.2.1, if_pos hal]
        by_cases hbit : P.2.2.2.1 / 2 ^ k % 2 = 1
        · have c2 := ct_kindle_75 (I := J1) (L := L) (t := 0) (p := k) (by omega) (by omega) (nI (cE P.2.2.2.2))
          have e0 : J1 77 (7 * 0 + k) = 0 := by rw [← hJ1]; exact wr4_2 J 75 (7 * 0 + k) _ _ _ _
          rw [if_pos e0] at c2
          have hf2 : FrR 75 0 J1 (wr4 J1 75 (7 * 0 + k) (nI (cE P.2.2.2.2)) (-1) (nI 0) 0) := FrR_w (by omega)
          have hr2 : rwE cE (wr4 J1 75 (7 * 0 + k) (nI (cE P.2.2.2.2)) (-1) (nI 0) 0) 75 0 (k + 1) (begA P) := by
            have hr1 : rwE cE J1 75 0 k (begA P) := by
              intro q hq
              rw [← hJ1, wr4_o (by omega), wr4_o (by omega), wr4_o (by omega), wr4_o (by omega)]
              exact hr q hq
            refine rwE_x hr1 ?_ ?_ ?_ ?_
            · unfold begA; rw [if_pos hbit]; rfl
            · unfold begA; rw [if_pos hbit]; rfl
            · unfold begA; rw [if_pos hbit]; rfl
            · unfold begA; rw [if_pos hbit]; rfl
          obtain ⟨I', hw, hr3, hf3⟩ := ih (k + 1) _ (by omega) (hff.tr hf2) (by rw [if_pos hal]; exact hr2)
          refine ⟨I', vc_X3_begin_75_2 ⟨fun hc => absurd hc hge, fun _ => ⟨J1, c1, fun hc => ?_, fun _ => ⟨fun hc => ?_, fun _ => ⟨wr4 J1 75 (7 * 0 + k) (nI (cE P.2.2.2.2)) (-1) (nI 0) 0, ?_, ?_⟩⟩⟩⟩, hr3, hf3⟩
          · rw [hal14] at hc
            exact absurd hc (by decide)
          · rw [ebit, hbit] at hc
            exact absurd hc (by decide)
          · rw [esay]
            exact c2
          · rw [nI_1]
            exact hw
        · have hr2 : rwE cE J1 75 0 (k + 1) (begA P) := by
            rw [← hJ1]
            refine rwE_x hr ?_ ?_ ?_ ?_
            · unfold begA; rw [if_neg hbit]; rfl
            · unfold begA; rw [if_neg hbit]; rfl
            · unfold begA; rw [if_neg hbit]; rfl
            · unfold begA; rw [if_neg hbit]; rfl
          obtain ⟨I', hw, hr3, hf3⟩ := ih (k + 1) J1 (by omega) hff (by rw [if_pos hal]; exact hr2)
          refine ⟨I', vc_X3_begin_75_2 ⟨fun hc => absurd hc hge, fun _ => ⟨J1, c1, fun hc => ?_, fun _ => ⟨fun _ => ?_, fun hc => ?_⟩⟩⟩, hr3, hf3⟩
          · rw [hal14] at hc
            exact absurd hc (by decide)
          · rw [nI_1]
            exact hw
          · exfalso
            apply hc
            rw [ebit, show P.2.2.2.1 / 2 ^ k % 2 = 0 by omega]
            rfl
      · rw [if_neg hal] at hr
        have hr2 : rwE cE J1 75 0 (k + 1) (fun _ => clO) := by
          rw [← hJ1]
          exact rwE_x hr rfl rfl rfl rfl
        have hal14 : J1 75 14 = 0 := by rw [hff 75 14 (by decide), hP.2.2.2.2.2.2.2.1, if_neg hal]
        obtain ⟨I', hw, hr3, hf3⟩ := ih (k + 1) J1 (by omega) hff (by rw [if_neg hal]; exact hr2)
        refine ⟨I', vc_X3_begin_75_2 ⟨fun hc => absurd hc hge, fun _ => ⟨J1, c1, fun _ => ?_, fun hc => absurd hal14 hc⟩⟩, hr3, hf3⟩
        rw [nI_1]
        exact hw
  obtain ⟨I', hw, hr, hf⟩ := loop (A.1 0 3) 0 I (by omega) FrR.rf (fun p hp => absurd hp (by omega))
  exact ⟨I', c0_X3_begin_75 (vc_X3_begin_75_0 hw), hr, hf⟩
end CC75
