theorem crs_step {e : List Nat → Nat} {A : Nt} {P : Pm} {J J3 : Nat → Nat → Int32} {c t : Nat} (h : crs e A P J c t) (hf : FrR c t J J3) (hr : rwE e J3 c t (A.1 0 3) (rows A P t)) (hn : A.1 0 3 ≤ 7) (x : Int32) : crs e A P (up2 J3 (c + 1) t x) c (t + 1) := by
  intro s hs p hp
  rw [up2_p (by omega), up2_p (by omega), up2_p (by omega), up2_p (by omega)]
  by_cases q : s = t
  · subst q
    exact hr p hp
  · exact rwE_fr (h s (by omega)) hf hn q p hp
theorem lts_step {A : Nt} {P : Pm} {J J3 : Nat → Nat → Int32} {c t : Nat} (h : lts A P J c t) (hf : FrR c t J J3) : lts A P (up2 J3 (c + 1) t (nI (litB (rows A P t) (A.1 0 3)))) c (t + 1) := by
  intro s hs
  by_cases q : s = t
  · subst q
    rw [up2_s]
  · rw [up2_k q, hf _ _ (by omega)]
    exact h s (by omega)
section CG81
variable {A : Nt} {P : Pm} {I : Nat → Nat → Int32} {L : Nat → Nat → Int64}
theorem ce_run_81 {f l : Nat} (hR : RC A I 12 21) (hV : NV A) (hP : PC P I 81) (hPV : PV A P) (hl : l ≤ 12) (hfl : f ≤ l) (hc : crs cE A P I 81 f) (hlt : lts A P I 81 f) : ∃ I', q_C kX3_run [.ref 81, .int (nI f), .int (nI l)] I L (some (.int (nI (pc7 (litB (rows A P l) (A.1 0 3)))))) I' L ∧ crs cE A P I' 81 (l + 1) ∧ lts A P I' 81 (l + 1) ∧ FrC 81 I I' := by
  have h3 := hV.1.2.2.2.1
  have loop : ∀ (m t : Nat) (J : Nat → Nat → Int32), t + m = l + 1 → FrC 81 I J → crs cE A P J 81 t → lts A P J 81 t → ∃ I', v_X3_run_81_2 (some (.int (nI (pc7 (litB (rows A P l) (A.1 0 3)))))) I' L J L (nI l) (nI t) ∧ crs cE A P I' 81 (l + 1) ∧ lts A P I' 81 (l + 1) ∧ FrC 81 I I' := by
    intro m
    induction m with
    | zero =>
      intro t J ht hf hcJ hlJ
      have e : t = l + 1 := by omega
      subst e
      refine ⟨J, vc_X3_run_81_2 ⟨fun _ => ⟨u_in (by omega) (by decide), ?_⟩, fun hc => absurd (nI_lt (Nat.lt_succ_self l) (by omega)) hc⟩, hcJ, hlJ, hf⟩
      have e1 : J 82 (nI l).toNatClampNeg = nI (litB (rows A P l) (A.1 0 3)) := by rw [u_cl (by omega)]; exact hlJ l (by omega)
      rw [e1]
      exact ⟨_, ct_bitCount (litB_lt _ h3), rfl, rfl, rfl⟩
    | succ m ih =>
      intro t J ht hf hcJ hlJ
      have htl : t ≤ l := by omega
      have hRJ : RC A J 12 21 := RC_of (fun a j ha => hf a j (by omega)) hR
      have hPJ : PC P J 81 := PC_of (fun j => hf 81 j (by omega)) hP
      -- from the row as it is ahead of acts on
      have fin : ∀ (J1 : Nat → Nat → Int32) (r0 : Rw), FrR 81 t J J1 → rwE cE J1 81 t (A.1 0 3) r0 → RV (A.1 0 3) t r0 → dress A P t r0 = rows A P t → ∃ J2, q_C kX3_lightByActs [.ref 81, .int (nI t)] J1 L none J2 L ∧ ∃ J3, q_C kX3_putOut [.ref 81, .int (nI t)] J2 L none J3 L ∧ ∃ J4, q_C kX3_noteLit [.ref 81, .int (nI t)] J3 L none J4 L ∧ ∃ I', v_X3_run_81_2 (some (.int (nI (pc7 (litB (rows A P l) (A.1 0 3)))))) I' L J4 L (nI l) (nI t + 1) ∧ crs cE A P I' 81 (l + 1) ∧ lts A P I' 81 (l + 1) ∧ FrC 81 I I' := by
        intro J1 r0 hf1 hr1 hv1 hd
        have hR1 : RC A J1 12 21 := RC_of (fun a j ha => hf1 a j (by omega)) hRJ
        have hP1 : PC P J1 81 := PC_of (fun j => hf1 81 j (by omega)) hPJ
        obtain ⟨J2, c2, hr2, hf2⟩ := ce_lightByActs_81 (L := L) hR1 hV hP1 hPV (by omega) hr1 hv1
        have hR2 : RC A J2 12 21 := RC_of (fun a j ha => hf2 a j (by omega)) hR1
        have hP2 : PC P J2 81 := PC_of (fun j => hf2 81 j (by omega)) hP1
        obtain ⟨J3, c3, hr3, hf3⟩ := ce_putOut_81 (L := L) hR2 hV hP2 hPV (by omega) hr2
        have hR3 : RC A J3 12 21 := RC_of (fun a j ha => hf3 a j (by omega)) hR2
        have hr3 : rwE cE J3 81 t (A.1 0 3) (rows A P t) := by rw [← hd]; exact hr3
        have c4 := ct_noteLit_81 (L := L) hR3 hV (by omega) hr3 (RV_rows hV hPV t)
        have hff := (hf1.tr hf2).tr hf3
        obtain ⟨I', hw, h1, h2, h3⟩ := ih (t + 1) _ (by omega) (hf.tr (hff.C.tr (fun a j q => up2_p (by omega)))) (crs_step hcJ hff hr3 h3 (nI (litB (rows A P t) (A.1 0 3)))) (lts_step hlJ hff)
        rw [← nI_1 t] at hw
        exact ⟨J2, c2, J3, c3, _, c4, I', hw, h1, h2, h3⟩
      have hnl : ¬ nI l < nI t := nI_nlt htl (by omega)
      cases t with
      | zero =>
        obtain ⟨J1, c1, hr1, hf1⟩ := ce_begin_81 (L := L) hRJ hV hPJ hPV
        obtain ⟨J2, c2, J3, c3, J4, c4, I', hw, h1, h2, h3⟩ := fin J1 (begR A P) hf1 hr1 (RV_begR hV hPV) rfl
        exact ⟨I', vc_X3_run_81_2 ⟨fun hc => absurd hc hnl, fun _ => ⟨fun _ => ⟨J1, c1, J2, c2, J3, c3, J4, c4, hw⟩, fun hc => absurd rfl hc⟩⟩, h1, h2, h3⟩
      | succ t =>
        obtain ⟨J1, c1, hr1, hf1⟩ := ce_carry_81 (L := L) hRJ hV hPJ hPV (by omega) (hcJ t (by omega)) (RV_rows hV hPV t) (hlJ t (by omega))
        obtain ⟨J2, c2, J3, c3, J4, c4, I', hw, h1, h2, h3⟩ := fin J1 (carR A P t (rows A P t)) hf1 hr1 (RV_carR hV (RV_rows hV hPV t)) rfl
        refine ⟨I', vc_X3_run_81_2 ⟨fun hc => absurd hc hnl, fun _ => ⟨fun hc => ?_, fun _ => ⟨J1, c1, J2, c2, J3, c3, J4, c4, hw⟩⟩⟩, h1, h2, h3⟩
        rw [u_0 (by omega)] at hc
        omega
  obtain ⟨I', hw, h1, h2, h4⟩ := loop (l + 1 - f) f I (by omega) FrC.rf hc hlt
  exact ⟨I', c0_X3_run_81 (vc_X3_run_81_0 hw), h1, h2, h4⟩
end CG81
section CG75
variable {A : Nt} {P : Pm} {I : Nat → Nat → Int32} {L : Nat → Nat → Int64}
theorem ce_run_75 {f l : Nat} (hR : RC A I 12 21) (hV : NV A) (hP : PC P I 75) (hPV : PV A P) (hl : l ≤ 12) (hfl : f ≤ l) (hc : crs cE A P I 75 f) (hlt : lts A P I 75 f) : ∃ I', q_C kX3_run [.ref 75, .int (nI f), .int (nI l)] I L (some (.int (nI (pc7 (litB (rows A P l) (A.1 0 3)))))) I' L ∧ crs cE A P I' 75 (l + 1) ∧ lts A P I' 75 (l + 1) ∧ FrC 75 I I' := by
  have h3 := hV.1.2.2.2.1
  have loop : ∀ (m t : Nat) (J : Nat → Nat → Int32), t + m = l + 1 → FrC 75 I J → crs cE A P J 75 t → lts A P J 75 t → ∃ I', v_X3_run_75_2 (some (.int (nI (pc7 (litB (rows A P l) (A.1 0 3)))))) I' L J L (nI l) (nI t) ∧ crs cE A P I' 75 (l + 1) ∧ lts A P I' 75 (l + 1) ∧ FrC 75 I I' := by
    intro m
    induction m with
    | zero =>
      intro t J ht hf hcJ hlJ
      have e : t = l + 1 := by omega
      subst e
      refine ⟨J, vc_X3_run_75_2 ⟨fun _ => ⟨u_in (by omega) (by decide), ?_⟩, fun hc => absurd (nI_lt (Nat.lt_succ_self l) (by omega)) hc⟩, hcJ, hlJ, hf⟩
      have e1 : J 76 (nI l).toNatClampNeg = nI (litB (rows A P l) (A.1 0 3)) := by rw [u_cl (by omega)]; exact hlJ l (by omega)
      rw [e1]
      exact ⟨_, ct_bitCount (litB_lt _ h3), rfl, rfl, rfl⟩
    | succ m ih =>
      intro t J ht hf hcJ hlJ
      have htl : t ≤ l := by omega
      have hRJ : RC A J 12 21 := RC_of (fun a j ha => hf a j (by omega)) hR
      have hPJ : PC P J 75 := PC_of (fun j => hf 75 j (by omega)) hP
      -- from the row as it is ahead of acts on
      have fin : ∀ (J1 : Nat → Nat → Int32) (r0 : Rw), FrR 75 t J J1 → rwE cE J1 75 t (A.1 0 3) r0 → RV (A.1 0 3) t r0 → dress A P t r0 = rows A P t → ∃ J2, q_C kX3_lightByActs [.ref 75, .int (nI t)] J1 L none J2 L ∧ ∃ J3, q_C kX3_putOut [.ref 75, .int (nI t)] J2 L none J3 L ∧ ∃ J4, q_C kX3_noteLit [.ref 75, .int (nI t)] J3 L none J4 L ∧ ∃ I', v_X3_run_75_2 (some (.int (nI (pc7 (litB (rows A P l) (A.1 0 3)))))) I' L J4 L (nI l) (nI t + 1) ∧ crs cE A P I' 75 (l + 1) ∧ lts A P I' 75 (l + 1) ∧ FrC 75 I I' := by
        intro J1 r0 hf1 hr1 hv1 hd
        have hR1 : RC A J1 12 21 := RC_of (fun a j ha => hf1 a j (by omega)) hRJ
        have hP1 : PC P J1 75 := PC_of (fun j => hf1 75 j (by omega)) hPJ
        obtain ⟨J2, c2, hr2, hf2⟩ := ce_lightByActs_75 (L := L) hR1 hV hP1 hPV (by omega) hr1 hv1
        have hR2 : RC A J2 12 21 := RC_of (fun a j ha => hf2 a j (by omega)) hR1
        have hP2 : PC P J2 75 := PC_of (fun j => hf2 75 j (by omega)) hP1
        obtain ⟨J3, c3, hr3, hf3⟩ := ce_putOut_75 (L := L) hR2 hV hP2 hPV (by omega) hr2
        have hR3 : RC A J3 12 21 := RC_of (fun a j ha => hf3 a j (by omega)) hR2
        have hr3 : rwE cE J3 75 t (A.1 0 3) (rows A P t) := by rw [← hd]; exact hr3
        have c4 := ct_noteLit_75 (L := L) hR3 hV (by omega) hr3 (RV_rows hV hPV t)
        have hff := (hf1.tr hf2).tr hf3
        obtain ⟨I', hw, h1, h2, h3⟩ := ih (t + 1) _ (by omega) (hf.tr (hff.C.tr (fun a j q => up2_p (by omega)))) (crs_step hcJ hff hr3 h3 (nI (litB (rows A P t) (A.1 0 3)))) (lts_step hlJ hff)
        rw [← nI_1 t] at hw
        exact ⟨J2, c2, J3, c3, _, c4, I', hw, h1, h2, h3⟩
      have hnl : ¬ nI l < nI t := nI_nlt htl (by omega)
      cases t with
      | zero =>
        obtain ⟨J1, c1, hr1, hf1⟩ := ce_begin_75 (L := L) hRJ hV hPJ hPV
        obtain ⟨J2, c2, J3, c3, J4, c4, I', hw, h1, h2, h3⟩ := fin J1 (begR A P) hf1 hr1 (RV_begR hV hPV) rfl
        exact ⟨I', vc_X3_run_75_2 ⟨fun hc => absurd hc hnl, fun _ => ⟨fun _ => ⟨J1, c1, J2, c2, J3, c3, J4, c4, hw⟩, fun hc => absurd rfl hc⟩⟩, h1, h2, h3⟩
      | succ t =>
        obtain ⟨J1, c1, hr1, hf1⟩ := ce_carry_75 (L := L) hRJ hV hPJ hPV (by omega) (hcJ t (by omega)) (RV_rows hV hPV t) (hlJ t (by omega))
        obtain ⟨J2, c2, J3, c3, J4, c4, I', hw, h1, h2, h3⟩ := fin J1 (carR A P t (rows A P t)) hf1 hr1 (RV_carR hV (RV_rows hV hPV t)) rfl
        refine ⟨I', vc_X3_run_75_2 ⟨fun hc => absurd hc hnl, fun _ => ⟨fun hc => ?_, fun _ => ⟨J1, c1, J2, c2, J3, c3, J4, c4, hw⟩⟩⟩, h1, h2, h3⟩
        rw [u_0 (by omega)] at hc
        omega
  obtain ⟨I', hw, h1, h2, h4⟩ := loop (l + 1 - f) f I (by omega) FrC.rf hc hlt
  exact ⟨I', c0_X3_run_75 (vc_X3_run_75_0 hw), h1, h2, h4⟩
end CG75
