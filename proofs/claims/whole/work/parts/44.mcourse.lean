/-! THE REFERENCE'S OWN COURSE: rows from place 103 on (101 + 2). -/
theorem ix7m (t p : Nat) : 7 * nI t + nI p = nI (7 * t + p) := by
  rw [show (7 : Int32) = nI 7 from rfl, u_mul, u_add]
def PMd (P : Pm) (I : Nat → Nat → Int32) : Prop :=
  I 96 16 = nI P.1.1 ∧ I 96 15 = nI P.1.2.1 ∧ I 96 17 = nI P.1.2.2 ∧ I 96 20 = iI P.2.1.1 ∧ I 96 21 = iI P.2.1.2.1 ∧ I 96 22 = iI P.2.1.2.2.1 ∧ I 96 23 = iI P.2.1.2.2.2 ∧ (P.2.2.1 = false → I 96 18 = -1) ∧ (P.2.2.1 = true → I 96 18 = nI P.2.2.2.1 ∧ I 96 19 = nI (mE P.2.2.2.2))
theorem PMd_of {P : Pm} {I I' : Nat → Nat → Int32} (h : ∀ k, I' 96 k = I 96 k) (hP : PMd P I) : PMd P I' := by
  have e : I' 96 = I 96 := funext h
  unfold PMd at hP ⊢
  rw [e]
  exact hP
theorem RM_of {A : Nt} {I I' : Nat → Nat → Int32} {o : Nat} (h : ∀ k, I' 97 k = I 97 k) (hR : RM A I 97 o) : RM A I' 97 o := by
  have e : I' 97 = I 97 := funext h
  unfold RM at hR ⊢
  rw [e]
  exact hR
def FrM (I I' : Nat → Nat → Int32) : Prop := ∀ a k, (a < 103 ∨ 106 < a) → I' a k = I a k
theorem FrM.rf {I : Nat → Nat → Int32} : FrM I I := fun _ _ _ => rfl
theorem FrM.tr {I I1 I2 : Nat → Nat → Int32} (h : FrM I I1) (h2 : FrM I1 I2) : FrM I I2 := fun a k q => (h2 a k q).trans (h a k q)
theorem FrR.M {t : Nat} {I I' : Nat → Nat → Int32} (h : FrR 101 t I I') : FrM I I' := fun a k q => h a k (by omega)
section MC
variable {A : Nt} {P : Pm} {I : Nat → Nat → Int32} {L : Nat → Nat → Int64}
theorem ct_putsOut {t p : Nat} (ht : t ≤ 12) (hp : p < 7) : q_C kX12_putsOut [.ref 96, .int (nI p), .int (nI t)] I L none (wr4 I 101 (7 * t + p) 0 (-1) (-1) (-1)) L := by
  have hin : vp_in (nI (7 * t + p)) 91 := u_in (by omega) (by decide)
  have e : (nI (7 * t + p)).toNatClampNeg = 7 * t + p := u_cl (by omega)
  refine c0_X12_putsOut (vc_X12_putsOut_0 ?_)
  rw [ix7m, e]
  refine ⟨hin, hin, fun I1 h1 => ⟨hin, hin, fun I2 h2 => ⟨rfl, ?_, rfl⟩⟩⟩
  rw [h2, h1]
  rfl
theorem ct_lights {t p : Nat} (ht : t ≤ 12) (hp : p < 7) (x : Int32) : q_C kX12_lights [.ref 96, .int (nI p), .int x, .int (nI t)] I L none (wr4 I 101 (7 * t + p) x (-1) (if I 103 (7 * t + p) ≤ 0 then nI t else I 105 (7 * t + p)) 0) L := by
  have hin : vp_in (nI (7 * t + p)) 91 := u_in (by omega) (by decide)
  have e : (nI (7 * t + p)).toNatClampNeg = 7 * t + p := u_cl (by omega)
  have fin : ∀ z : Int32, v_X12_lights_35 none (wr4 I 101 (7 * t + p) x (-1) z 0) L I L x (nI (7 * t + p)) (nI (7 * t + p)) z := by
    intro z
    refine vc_X12_lights_35 ⟨hin, hin, hin, fun I1 h1 => ⟨hin, rfl, ?_, rfl⟩⟩
    rw [h1, e]
    unfold wr4
    rw [up2_comm _ (show 105 ≠ 103 by decide), up2_comm _ (show 105 ≠ 104 by decide)]
  refine c0_X12_lights (vc_X12_lights_0 ?_)
  rw [ix7m, e]
  refine ⟨hin, fun h0 => ?_, fun h0 => ⟨hin, ?_⟩⟩
  · rw [if_pos h0]
    exact fin _
  · rw [if_neg h0]
    exact fin _
theorem ce_lights {t p : Nat} {r : Rw} {s : List Nat} (ht : t ≤ 12) (hp : p < A.1 0 3) (hV : NV A) (hr : rwE mE I 101 t (A.1 0 3) r) (hv : RV (A.1 0 3) t r) : ∃ I', q_C kX12_lights [.ref 96, .int (nI p), .int (nI (mE s)), .int (nI t)] I L none I' L ∧ rwE mE I' 101 t (A.1 0 3) (rwU r p (clK (r p) t s)) ∧ FrR 101 t I I' := by
  have h3 := hV.1.2.2.2.1
  refine ⟨_, ct_lights ht (by omega) _, rwE_w hr rfl rfl ?_ rfl, FrR_w (by omega)⟩
  obtain ⟨h1, -, h4, -⟩ := hr p hp
  have h1 : I 103 (7 * t + p) = nI (mE (r p).1) := h1
  have h4 : I 105 (7 * t + p) = iI (r p).2.2.1 := h4
  have hc := hv p hp
  have hl := hc.1.mlt
  have hz : nI (mE (r p).1) ≤ 0 ↔ (r p).1 = [] := by
    rw [← mE_0 hc.1.ge1]
    constructor
    · intro q
      rcases Nat.eq_zero_or_pos (mE (r p).1) with z | z
      · exact z
      · exact absurd q (nI_nle z (by omega))
    · intro q
      rw [q]
      decide
  rw [h1, h4]
  show _ = iI (if (r p).1 = [] then (t : Int) else (r p).2.2.1)
  by_cases e : (r p).1 = []
  · rw [if_pos (hz.mpr e), if_pos e, iI_n]
  · rw [if_neg (fun q => e (hz.mp q)), if_neg e]
theorem ce_putsOut {t p : Nat} {r : Rw} (ht : t ≤ 12) (hp : p < A.1 0 3) (hV : NV A) (hr : rwE mE I 101 t (A.1 0 3) r) : ∃ I', q_C kX12_putsOut [.ref 96, .int (nI p), .int (nI t)] I L none I' L ∧ rwE mE I' 101 t (A.1 0 3) (rwU r p clO) ∧ FrR 101 t I I' := by
  have h3 := hV.1.2.2.2.1
  exact ⟨_, ct_putsOut ht (by omega), rwE_w hr rfl rfl rfl rfl, FrR_w (by omega)⟩
theorem ix54 (k : Nat) : (54 : Int32) + 2 * nI k = nI (54 + 2 * k) := by rw [show (54 : Int32) = nI 54 from rfl, show (2 : Int32) = nI 2 from rfl, u_mul, u_add]
theorem ix62 (k : Nat) : (62 : Int32) + 2 * nI k = nI (62 + 2 * k) := by rw [show (62 : Int32) = nI 62 from rfl, show (2 : Int32) = nI 2 from rfl, u_mul, u_add]
theorem ix30 (k : Nat) : (30 : Int32) + 2 * nI k = nI (30 + 2 * k) := by rw [show (30 : Int32) = nI 30 from rfl, show (2 : Int32) = nI 2 from rfl, u_mul, u_add]
theorem ix74 (k : Nat) : (74 : Int32) + nI k = nI (74 + k) := by rw [show (74 : Int32) = nI 74 from rfl, u_add]
theorem ce_beginNight (hR : RM A I 97 0) (hV : NV A) (hP : PMd P I) (hPV : PV A P) : ∃ I', q_C kX12_beginNight [.ref 96] I L none I' L ∧ rwE mE I' 101 0 (A.1 0 3) (begR A P) ∧ FrR 101 0 I I' := by
  have h3 := hV.1.2.2.2.1
  have h5 := hV.1.2.2.2.2.2.1
  have hi5 : vp_in 5 104 := by unfold vp_in; decide
  have ne1 : ∀ n : Nat, n < 128 → ¬ nI n = -1 := fun n hn z => by
    have := (t_eq _ _).mp z
    rw [t_n (by omega)] at this
    have e : (-1 : Int32).toInt = -1 := by decide
    omega
  have e5 : ∀ J, FrR 101 0 I J → J 97 (5 : Int32).toNatClampNeg = nI (A.1 0 5) := fun J hf => by
    rw [show (5 : Int32).toNatClampNeg = 5 by decide, hf 97 5 (by omega)]
    exact hR.1 5 (by decide)
  have lights : ∀ (m k : Nat) (J : Nat → Nat → Int32), k + m = A.1 0 5 → FrR 101 0 I J → P.2.2.1 = false → rwE mE J 101 0 (A.1 0 3) (begL A k) → ∃ I', v_X12_beginNight_54 none I' L J L (nI k) ∧ rwE mE I' 101 0 (A.1 0 3) (begL A (A.1 0 5)) ∧ FrR 101 0 I I' := by
    intro m
    induction m with
    | zero =>
      intro k J hk hf hal hr
      have e : k = A.1 0 5 := by omega
      subst e
      refine ⟨J, vc_X12_beginNight_54 ⟨hi5, fun _ => ⟨rfl, rfl, rfl⟩, fun hc => ?_⟩, hr, hf⟩
      rw [e5 J hf] at hc
      exact absurd (nI_le (Nat.le_refl _) (by omega)) hc
    | succ m ih =>
      intro k J hk hf hal hr
      have hlt : k < A.1 0 5 := by omega
      have hk4 := hV.2.2.2.2.2.1 k hlt
      have hl := hR.2.2.2.1 k hlt
      have e54 : J 97 (nI (54 + 2 * k)).toNatClampNeg = nI (A.1 6 k) := by rw [u_cl (by omega), hf 97 _ (by omega), ← hl.1]
      have e55 : J 97 (nI (54 + 2 * k) + 1).toNatClampNeg = nI (mE (A.2 k)) := by rw [nI_1, u_cl (by omega), hf 97 _ (by omega), ← hl.2]; congr 1; omega
      obtain ⟨J1, hc, hr1, hf1⟩ := ce_lights (L := L) (s := A.2 k) (t := 0) (by omega) hk4.1 hV hr (RV_begL hV k (by omega))
      obtain ⟨I', hw, hr2, hf2⟩ := ih (k + 1) J1 (by omega) (hf.tr hf1) hal hr1
      refine ⟨I', vc_X12_beginNight_54 ⟨hi5, fun hc => ?_, fun _ => ⟨fun _ => ?_, fun hc => ?_⟩⟩, hr2, hf2⟩
      · rw [e5 J hf] at hc
        exact absurd hc (nI_ge hlt (by omega))
      · rw [ix54, e54, e55]
        refine ⟨u_in (by omega) (by decide), by rw [nI_1]; exact u_in (by omega) (by decide), J1, hc, ?_⟩
        rw [nI_1 k]
        exact hw
      · rw [hf 96 18 (by omega), hP.2.2.2.2.2.2.2.1 hal] at hc
        exact absurd rfl hc
  have tail : ∀ (J : Nat → Nat → Int32), FrR 101 0 I J → rwE mE J 101 0 (A.1 0 3) (if P.2.2.1 = true then begA P else fun _ => clO) → ∃ I', v_X12_beginNight_54 none I' L J L 0 ∧ rwE mE I' 101 0 (A.1 0 3) (begR A P) ∧ FrR 101 0 I I' := by
    intro J hf hr
    unfold begR
    by_cases hal : P.2.2.1 = true
    · rw [if_pos hal] at hr ⊢
      refine ⟨J, vc_X12_beginNight_54 ⟨hi5, fun _ => ⟨rfl, rfl, rfl⟩, fun _ => ⟨fun hc => ?_, fun _ => ⟨rfl, rfl, rfl⟩⟩⟩, hr, hf⟩
      rw [hf 96 18 (by omega), (hP.2.2.2.2.2.2.2.2 hal).1] at hc
      exact absurd hc (ne1 _ hPV.2.2.1)
    · rw [if_neg hal] at hr ⊢
      exact lights (A.1 0 5) 0 J (by omega) hf (by simpa using hal) hr
  have loop : ∀ (m k : Nat) (J : Nat → Nat → Int32), k + m = A.1 0 3 → FrR 101 0 I J → rwE mE J 101 0 k (if P.2.2.1 = true then begA P else fun _ => clO) → ∃ I', v_X12_beginNight_2 none I' L J L (nI k) ∧ rwE mE I' 101 0 (A.1 0 3) (begR A P) ∧ FrR 101 0 I I' := by
    intro m
    induction m with
    | zero =>
      intro k J hk hf hr
      have e : k = A.1 0 3 := by omega
      subst e
      have hRJ : RM A J 97 0 := RM_of (fun j => hf 97 j (by omega)) hR
      obtain ⟨I', hw, hr2, hf2⟩ := tail J hf hr
      exact ⟨I', vc_X12_beginNight_2 ⟨_, ct_pews hRJ, fun _ => hw, fun hc => absurd (nI_le (Nat.le_refl _) (by omega)) hc⟩, hr2, hf2⟩
    | succ m ih =>
      intro k J hk hf hr
      have hlt : k < A.1 0 3 := by omega
      have hRJ : RM A J 97 0 := RM_of (fun j => hf 97 j (by omega)) hR
      have hge : ¬ nI (A.1 0 3) ≤ nI k := nI_ge hlt (by omega)
      have c1 := ct_putsOut (I := J) (L := L) (t := 0) (p := k) (by omega) (by omega)
      have hf1 : FrR 101 0 J (wr4 J 101 (7 * 0 + k) 0 (-1) (-1) (-1)) := FrR_w (by omega)
      generalize hJ1 : wr4 J 101 (7 * 0 + k) 0 (-1) (-1) (-1) = J1 at c1 hf1
      have hff := hf.tr hf1
      by_cases hal : P.2.2.1 = true
      · rw [if_pos hal] at hr
        have hset := hPV.2.2.1
        have eset : J1 96 18 = nI P.2.2.2.1 := by rw [hff 96 18 (by omega)]; exact (hP.2.2.2.2.2.2.2.2 hal).1
        have esay : J1 96 19 = nI (mE P.2.2.2.2) := by rw [hff 96 19 (by omega)]; exact (hP.2.2.2.2.2.2.2.2 hal).2
        have cb := ct_bitN (I := J1) (L := L) (a := P.2.2.2.1) (k := k) (by omega) (by omega)
        have hb2 : P.2.2.2.1 / 2 ^ k % 2 < 2 := Nat.mod_lt _ (by decide)
        by_cases hbit : P.2.2.2.1 / 2 ^ k % 2 = 1
        · have c2 := ct_lights (I := J1) (L := L) (t := 0) (p := k) (by omega) (by omega) (nI (mE P.2.2.2.2))
          have e0 : J1 103 (7 * 0 + k) ≤ 0 := by rw [← hJ1, show (103 : Nat) = 101 + 2 from rfl, wr4_2]; decide
          rw [if_pos e0] at c2
          have hf2 : FrR 101 0 J1 (wr4 J1 101 (7 * 0 + k) (nI (mE P.2.2.2.2)) (-1) (nI 0) 0) := FrR_w (by omega)
          have hr2 : rwE mE (wr4 J1 101 (7 * 0 + k) (nI (mE P.2.2.2.2)) (-1) (nI 0) 0) 101 0 (k + 1) (begA P) := by
            have hr1 : rwE mE J1 101 0 k (begA P) := by
              intro q hq
              rw [← hJ1, wr4_o (by omega), wr4_o (by omega), wr4_o (by omega), wr4_o (by omega)]
              exact hr q hq
            refine rwE_x hr1 ?_ ?_ ?_ ?_
            · unfold begA; rw [if_pos hbit]; rfl
            · unfold begA; rw [if_pos hbit]; rfl
            · unfold begA; rw [if_pos hbit]; rfl
            · unfold begA; rw [if_pos hbit]; rfl
          obtain ⟨I', hw, hr3, hf3⟩ := ih (k + 1) _ (by omega) (hff.tr hf2) (by rw [if_pos hal]; exact hr2)
          rw [← nI_1 k] at hw
          refine ⟨I', vc_X12_beginNight_2 ⟨_, ct_pews hRJ, fun hc => absurd hc hge, fun _ => ⟨J1, c1, fun hc => ?_, fun _ => ?_⟩⟩, hr3, hf3⟩
          · rw [eset] at hc
            exact absurd hc (ne1 _ hset)
          · rw [eset, esay]
            refine ⟨_, cb, fun _ => ⟨_, c2, hw⟩, fun hc => ?_⟩
            rw [hbit] at hc
            exact absurd rfl hc
        · have hr2 : rwE mE J1 101 0 (k + 1) (begA P) := by
            rw [← hJ1]
            refine rwE_x hr ?_ ?_ ?_ ?_
            · unfold begA; rw [if_neg hbit]; rfl
            · unfold begA; rw [if_neg hbit]; rfl
            · unfold begA; rw [if_neg hbit]; rfl
            · unfold begA; rw [if_neg hbit]; rfl
          obtain ⟨I', hw, hr3, hf3⟩ := ih (k + 1) J1 (by omega) hff (by rw [if_pos hal]; exact hr2)
          rw [← nI_1 k] at hw
          refine ⟨I', vc_X12_beginNight_2 ⟨_, ct_pews hRJ, fun hc => absurd hc hge, fun _ => ⟨J1, c1, fun hc => ?_, fun _ => ?_⟩⟩, hr3, hf3⟩
          · rw [eset] at hc
            exact absurd hc (ne1 _ hset)
          · rw [eset]
            refine ⟨_, cb, fun hc => ?_, fun _ => hw⟩
            exact absurd ((u_eq (b := 1) (by omega) (by decide)).mp hc) hbit
      · rw [if_neg hal] at hr
        have hr2 : rwE mE J1 101 0 (k + 1) (fun _ => clO) := by
          rw [← hJ1]
          exact rwE_x hr rfl rfl rfl rfl
        have h18 : J1 96 18 = -1 := by rw [hff 96 18 (by omega)]; exact hP.2.2.2.2.2.2.2.1 (by simpa using hal)
        obtain ⟨I', hw, hr3, hf3⟩ := ih (k + 1) J1 (by omega) hff (by rw [if_neg hal]; exact hr2)
        rw [← nI_1 k] at hw
        exact ⟨I', vc_X12_beginNight_2 ⟨_, ct_pews hRJ, fun hc => absurd hc hge, fun _ => ⟨J1, c1, fun _ => hw, fun hc => absurd h18 hc⟩⟩, hr3, hf3⟩
  obtain ⟨I', hw, hr, hf⟩ := loop (A.1 0 3) 0 I (by omega) FrR.rf (fun p hp => absurd hp (by omega))
  exact ⟨I', c0_X12_beginNight (vc_X12_beginNight_0 hw), hr, hf⟩
end MC
