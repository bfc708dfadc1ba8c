section CF81
variable {A : Nt} {P : Pm} {I : Nat → Nat → Int32} {L : Nat → Nat → Int64}
set_option maxHeartbeats 1000000 in
theorem ce_carry_81 {t : Nat} {r : Rw} (hR : RC A I 12 21) (hV : NV A) (hP : PC P I 81) (hPV : PV A P) (ht : t + 1 ≤ 12) (hr : rwE cE I 81 t (A.1 0 3) r) (hv : RV (A.1 0 3) t r) (hlit : I 82 t = nI (litB r (A.1 0 3))) : ∃ I', q_C kX3_carry [.ref 81, .int (nI (t + 1))] I L none I' L ∧ rwE cE I' 81 (t + 1) (A.1 0 3) (carR A P t r) ∧ FrR 81 (t + 1) I I' := by
  have h3 := hV.1.2.2.2.1
  have hsh := hPV.1.2.1
  have hll := litB_lt r h3
  generalize hLE : litB r (A.1 0 3) = lit at hlit hll
  have ltb : ∀ o, o < A.1 0 3 → lit.testBit o = !(r o).1.isEmpty := fun o ho => by rw [← hLE, litB_tb]; simp [ho]
  generalize hsp : (if P.1.2.2.testBit t = true then 0 else lit &&& (4294967295 ^^^ P.1.2.1)) = sp
  generalize hli : (lit ||| P.1.2.1) ^^^ 4294967295 = li
  have tM : ∀ o, o < 32 → (4294967295 : Nat).testBit o = true := fun o ho => by
    rw [show (4294967295 : Nat) = 2 ^ 32 - 1 from rfl, Nat.testBit_two_pow_sub_one]
    simp [ho]
  have lib : ∀ o, o < 7 → li.testBit o = !(lit.testBit o || P.1.2.1.testBit o) := fun o ho => by
    rw [← hli, Nat.testBit_xor, Nat.testBit_or, tM o (by omega)]
    simp
  -- the whole loop over pews
  have loop : ∀ (m k : Nat) (J : Nat → Nat → Int32), k + m = A.1 0 3 → FrR 81 (t + 1) I J → rwE cE J 81 (t + 1) (A.1 0 3) (fun q => if q < k then carC A P t r q else r q) → ∃ I', v_X3_carry_81_136 none I' L J L (nI (t + 1)) (nI (7 * (t + 1))) (nI (7 * t)) (nI sp) (nI li) (nI k) ∧ rwE cE I' 81 (t + 1) (A.1 0 3) (carR A P t r) ∧ FrR 81 (t + 1) I I' := by
    intro m
    induction m with
    | zero =>
      intro k J hk hf hr1
      have e : k = A.1 0 3 := by omega
      subst e
      refine ⟨J, vc_X3_carry_81_136 ⟨fun _ => ⟨rfl, rfl, rfl⟩, fun hc => ?_⟩, ?_, hf⟩
      · rw [hf 12 4 (by omega), hR.1.2.2.2.2.1] at hc
        exact absurd (nI_le (Nat.le_refl _) (by omega)) hc
      · intro p hp
        have := hr1 p hp
        simp only [if_pos hp] at this
        exact this
    | succ m ih =>
      intro k J hk hf hr1
      have hlt : k < A.1 0 3 := by omega
      have hRJ : RC A J 12 21 := RC_of (fun a j ha => hf a j (by omega)) hR
      have hrt : rwE cE J 81 t (A.1 0 3) r := rwE_fr hr hf h3 (by omega)
      have hge : ¬ J 12 4 ≤ nI k := by rw [hRJ.1.2.2.2.2.1]; exact nI_ge hlt (by omega)
      have e16 : J 16 (nI k).toNatClampNeg = nI (nearB A k) := by rw [u_cl (by omega)]; exact (hRJ.2.1 k hlt).2.2.2
      have hnb := nearB_lt hV k
      -- from the pew's own choice on
      have toS : ∀ I', v_X3_carry_81_193 none I' L J L (nI (t + 1)) (nI (7 * (t + 1))) (nI (7 * t)) (nI sp) (nI li) (nI k) (spO (carS A P t r k)) → v_X3_carry_81_136 none I' L J L (nI (t + 1)) (nI (7 * (t + 1))) (nI (7 * t)) (nI sp) (nI li) (nI k) := by
        intro I' hw
        refine vc_X3_carry_81_136 ⟨fun hc => absurd hc hge, fun _ => ⟨fun hb => ⟨fun _ => ?_, fun hc => absurd rfl hc⟩, fun hb => ⟨u_in (by omega) (by decide), ?_⟩⟩⟩
        · rw [bz li (by omega), lib k (by omega)] at hb
          have hn : carS A P t r k = none := by
            unfold carS
            by_cases e : (r k).1 = [] ∧ P.1.2.2.testBit t = false
            · rw [if_pos e]
              have hsk : P.1.2.1.testBit k = true := by
                rw [ltb k hlt, e.1] at hb
                simpa using hb
              exact spk_none (fun o _ => by unfold aud; rw [hsk]; simp)
            · rw [if_neg e]
          rw [hn] at hw
          exact hw
        · rw [bz li (by omega), lib k (by omega)] at hb
          have hb : lit.testBit k = false ∧ P.1.2.1.testBit k = false := by simpa using hb
          have hout : (r k).1 = [] := by
            have := hb.1
            rw [ltb k hlt] at this
            simpa using this
          rw [e16, u_and]
          have audb : P.1.2.2.testBit t = false → ∀ o, o < A.1 0 3 → (nearB A k &&& sp).testBit o = aud A P r k o := by
            intro hns o ho
            rw [← hsp, if_neg (by rw [hns]; decide), Nat.testBit_and, Nat.testBit_and, Nat.testBit_xor, tM o (by omega), ltb o ho]
            unfold aud
            rw [hb.2]
            simp [Bool.and_assoc]
          refine ⟨fun hz => ?_, fun hz => ?_⟩
          · have hn : carS A P t r k = none := by
              unfold carS
              by_cases e : (r k).1 = [] ∧ P.1.2.2.testBit t = false
              · rw [if_pos e]
                have hz : nearB A k &&& sp = 0 := by
                  have hlt2 : nearB A k &&& sp < 4294967296 := Nat.lt_of_le_of_lt Nat.and_le_left (by omega)
                  exact (u_0 hlt2).mp hz
                exact spk_none (fun o ho => by rw [← audb e.2 o ho, hz]; simp)
              · rw [if_neg e]
            rw [hn] at hw
            exact hw
          · have hns : P.1.2.2.testBit t = false := by
              by_cases q : P.1.2.2.testBit t = true
              · exfalso
                apply hz
                rw [← hsp, if_pos q, Nat.and_zero]
                rfl
              · simpa using q
            have hc := ct_speaker_81 (P := P) (L := L) (a := nearB A k &&& sp) (f := aud A P r k) hRJ hV (by rw [hf 81 7 (by omega)]; exact hP.1) hPV (by omega) hrt hv (audb hns) (fun o _ q => aud_ne q)
            have hS : carS A P t r k = spk P.1.1 r (aud A P r k) (A.1 0 3) := by
              unfold carS
              rw [if_pos ⟨hout, hns⟩]
            rw [hS] at hw
            exact ⟨_, hc, hw⟩
      -- nothing changes
      have stay : carC A P t r k = r k → ∃ I', v_X3_carry_81_136 none I' L J L (nI (t + 1)) (nI (7 * (t + 1))) (nI (7 * t)) (nI sp) (nI li) (nI k + 1) ∧ rwE cE I' 81 (t + 1) (A.1 0 3) (carR A P t r) ∧ FrR 81 (t + 1) I I' := by
        intro he
        rw [nI_1]
        refine ih (k + 1) J (by omega) hf (fun p hp => ?_)
        have := hr1 p hp
        by_cases q : p = k
        · subst q
          simp only [if_neg (Nat.lt_irrefl p)] at this
          simp only [if_pos (Nat.lt_succ_self p), he]
          exact this
        · by_cases q2 : p < k
          · simp only [if_pos q2] at this
            simp only [if_pos (show p < k + 1 by omega)]
            exact this
          · simp only [if_neg q2] at this
            simp only [if_neg (show ¬ p < k + 1 by omega)]
            exact this
      cases hS : carS A P t r k with
      | none =>
        obtain ⟨I', hw, hr2, hf2⟩ := stay (carC_0 hS)
        refine ⟨I', toS I' ?_, hr2, hf2⟩
        rw [hS]
        exact vc_X3_carry_81_193 ⟨fun _ => vc_X3_carry_81_223 ⟨fun _ => hw, fun hc => absurd rfl hc⟩, fun hc => absurd rfl hc⟩
      | some q =>
        obtain ⟨hq, hqn⟩ := carS_lt hS
        have hcC := carC_1 hS
        have eq2 : J 83 (nI (7 * t + q)).toNatClampNeg = nI (cE (r q).1) := by rw [u_cl (by omega)]; exact (hrt q hq).1
        have hb := ct_heardBy (L := L) hRJ hV hlt (hv q hq).1
        have hSg := hs_Sg hV hlt (hv q hq).1
        have hcl := hSg.lt
        have ne1 : ¬ nI q = -1 := fun z => by
          have := (t_eq _ _).mp z
          rw [t_n (by omega)] at this
          have e : (-1 : Int32).toInt = -1 := by decide
          omega
        by_cases hz : hs A k (r q).1 = []
        · rw [if_pos hz] at hcC
          obtain ⟨I', hw, hr2, hf2⟩ := stay hcC
          refine ⟨I', toS I' ?_, hr2, hf2⟩
          rw [hS]
          refine vc_X3_carry_81_193 ⟨fun hc => absurd hc ne1, fun _ => ?_⟩
          have es : nI (7 * t) + spO (some q) = nI (7 * t + q) := u_add _ _
          rw [es, eq2]
          refine ⟨u_in (by omega) (by decide), _, hb, vc_X3_carry_81_223 ⟨fun _ => hw, fun hc => ?_⟩⟩
          exfalso
          apply hc
          rw [hz]
          rfl
        · rw [if_neg hz] at hcC
          have hcz : ¬ nI (cE (hs A k (r q).1)) = 0 := fun z => hz ((cE_0 hSg.ge1).mp ((u_0 (by omega)).mp z))
          have hfw : FrR 81 (t + 1) J (wr4 J 81 (7 * (t + 1) + k) (nI (cE (hs A k (r q).1))) (nI q) (nI (t + 1)) (J 86 (7 * t + q) + 1)) := FrR_w (by omega)
          have hrw : rwE cE (wr4 J 81 (7 * (t + 1) + k) (nI (cE (hs A k (r q).1))) (nI q) (nI (t + 1)) (J 86 (7 * t + q) + 1)) 81 (t + 1) (A.1 0 3) (fun p => if p < k + 1 then carC A P t r p else r p) := by
            have h1 := rwE_w (p := k) (cl := carC A P t r k) (x := nI (cE (hs A k (r q).1))) (y := nI q) (z := nI (t + 1)) (u := J 86 (7 * t + q) + 1) hr1 (by rw [hcC]) (by rw [hcC]; exact (iI_n q).symm) (by rw [hcC]; exact (iI_n (t + 1)).symm) (by
              rw [hcC]
              have h5 : J 86 (7 * t + q) = iI (r q).2.2.2 := (hrt q hq).2.2.2
              rw [h5]
              exact iI_1 _)
            intro p hp
            have h2 := h1 p hp
            have e : rwU (fun q => if q < k then carC A P t r q else r q) k (carC A P t r k) p = (if p < k + 1 then carC A P t r p else r p) := by
              by_cases z : p = k
              · subst z
                rw [rwU_s, if_pos (by omega)]
              · rw [rwU_n z]
                by_cases z2 : p < k
                · rw [if_pos z2, if_pos (by omega)]
                · rw [if_neg z2, if_neg (by omega)]
            rw [e] at h2
            exact h2
          obtain ⟨I', hw, hr2, hf2⟩ := ih (k + 1) _ (by omega) (hf.tr hfw) hrw
          rw [← nI_1 k] at hw
          refine ⟨I', toS I' ?_, hr2, hf2⟩
          rw [hS]
          refine vc_X3_carry_81_193 ⟨fun hc => absurd hc ne1, fun _ => ?_⟩
          have es : nI (7 * t) + spO (some q) = nI (7 * t + q) := u_add _ _
          rw [es, eq2]
          refine ⟨u_in (by omega) (by decide), _, hb, vc_X3_carry_81_223 ⟨fun hc => absurd hc hcz, fun _ => ?_⟩⟩
          have hin : vp_in (nI (7 * (t + 1)) + nI k) 91 := by rw [u_add]; exact u_in (by omega) (by decide)
          have hin2 : vp_in (nI (7 * t) + spO (some q)) 91 := by show vp_in (nI (7 * t) + nI q) 91; rw [u_add]; exact u_in (by omega) (by decide)
          refine ⟨hin, hin, fun I1 h1 => ⟨hin, hin2, hin, fun I2 h2 => ?_⟩⟩
          have e1 : (nI (7 * (t + 1)) + nI k).toNatClampNeg = 7 * (t + 1) + k := by rw [u_add, u_cl (by omega)]
          have e2 : (nI (7 * t) + spO (some q)).toNatClampNeg = 7 * t + q := by show (nI (7 * t) + nI q).toNatClampNeg = _; rw [u_add, u_cl (by omega)]
          rw [e1] at h1 h2
          rw [e2] at h2
          have e3 : up2 I1 85 (7 * (t + 1) + k) (nI (t + 1)) 86 (7 * t + q) = J 86 (7 * t + q) := by
            rw [up2_p (by decide), h1, up2_p (by decide), up2_p (by decide)]
          rw [e3, h1] at h2
          rw [h2]
          exact hw
  -- ahead of it
  have hf0 := cp4_fr (I := I) (c := 81) (t := t)
  obtain ⟨I', hw, hr2, hf2⟩ := loop (A.1 0 3) 0 (cp4 I 81 t) (by omega) hf0 (by
    have := cp4_rw h3 hr
    intro p hp
    simp only [if_neg (Nat.not_lt_zero p)]
    exact this p hp)
  refine ⟨I', c0_X3_carry_81 (vc_X3_carry_81_0 ?_), hr2, hf2⟩
  have e1 : nI (t + 1) * 7 = nI (7 * (t + 1)) := by rw [show (7 : Int32) = nI 7 from rfl, u_mul, Nat.mul_comm]
  have e2 : nI (7 * (t + 1)) - 7 = nI (7 * t) := by
    rw [show (7 : Int32) = nI 7 from rfl, pk_sub (by omega)]
    congr 1
  have e3 : nI (t + 1) - 1 = nI t := nI_pred t
  have c1 : (nI (7 * t)).toNatClampNeg = 7 * t := u_cl (by omega)
  have c2 : (nI (7 * (t + 1))).toNatClampNeg = 7 * (t + 1) := u_cl (by omega)
  have c7 : (7 : Int32).toNatClampNeg = 7 := by decide
  have ct : (nI t).toNatClampNeg = t := u_cl (by omega)
  rw [e1, e2, e3, c1, c2, c7]
  have hg : ¬ nI (7 * t) < 0 ∧ ¬ nI (7 * (t + 1)) < 0 ∧ ¬ (7 : Int32) < 0 ∧ 7 * t + 7 ≤ 91 ∧ 7 * (t + 1) + 7 ≤ 91 := ⟨nI_pos (by omega), nI_pos (by omega), by decide, by omega, by omega⟩
  refine ⟨hg, fun I1 h1 => ⟨hg, fun I2 h2 => ⟨hg, fun I3 h3' => ⟨hg, fun I4 h4 => ?_⟩⟩⟩⟩
  have e4 : I4 = cp4 I 81 t := by
    rw [h4, h3', h2, h1]
    rfl
  rw [e4]
  have e9 : cp4 I 81 t 81 9 = nI P.1.2.2 := by rw [hf0 81 9 (by omega)]; exact hP.2.2.1
  have e8 : cp4 I 81 t 81 8 = nI P.1.2.1 := by rw [hf0 81 8 (by omega)]; exact hP.2.1
  have el : cp4 I 81 t 82 t = nI lit := by rw [hf0 82 t (by omega)]; exact hlit
  have hint : vp_in (nI t) 13 := u_in (by omega) (by decide)
  have w114 : ∀ s : Int32, s = nI sp → v_X3_carry_81_114 none I' L (cp4 I 81 t) L (nI (t + 1)) (nI (7 * (t + 1))) (nI (7 * t)) s := by
    intro s hs0
    subst hs0
    refine vc_X3_carry_81_114 ?_
    rw [e3, ct, el, e8]
    refine ⟨hint, fun z hz => ?_⟩
    rw [u_or, u_m1, u_xor, hli] at hz
    subst hz
    exact hw
  rw [e9]
  refine ⟨fun hz => ?_, fun hz => ?_⟩
  · rw [bz _ (by omega)] at hz
    refine vc_X3_carry_81_88 ⟨fun _ => ?_, fun hc => absurd rfl hc⟩
    rw [e3, ct, el, e8]
    refine ⟨hint, w114 _ ?_⟩
    rw [u_m1, u_xor, u_and, ← hsp, if_neg (by rw [hz]; decide), Nat.xor_comm]
  · rw [bz _ (by omega)] at hz
    refine vc_X3_carry_81_88 ⟨fun hc => absurd hc (by decide), fun _ => w114 _ ?_⟩
    rw [← hsp, if_pos (by simpa using hz)]
    rfl
end CF81
section CF75
variable {A : Nt} {P : Pm} {I : Nat → Nat → Int32} {L : Nat → Nat → Int64}
set_option maxHeartbeats 1000000 in
theorem ce_carry_75 {t : Nat} {r : Rw} (hR : RC A I 12 21) (hV : NV A) (hP : PC P I 75) (hPV : PV A P) (ht : t + 1 ≤ 12) (hr : rwE cE I 75 t (A.1 0 3) r) (hv : RV (A.1 0 3) t r) (hlit : I 76 t = nI (litB r (A.1 0 3))) : ∃ I', q_C kX3_carry [.ref 75, .int (nI (t + 1))] I L none I' L ∧ rwE cE I' 75 (t + 1) (A.1 0 3) (carR A P t r) ∧ FrR 75 (t + 1) I I' := by
  have h3 := hV.1.2.2.2.1
  have hsh := hPV.1.2.1
  have hll := litB_lt r h3
  generalize hLE : litB r (A.1 0 3) = lit at hlit hll
  have ltb : ∀ o, o < A.1 0 3 → lit.testBit o = !(r o).1.isEmpty := fun o ho => by rw [← hLE, litB_tb]; simp [ho]
  generalize hsp : (if P.1.2.2.testBit t = true then 0 else lit &&& (4294967295 ^^^ P.1.2.1)) = sp
  generalize hli : (lit ||| P.1.2.1) ^^^ 4294967295 = li
  have tM : ∀ o, o < 32 → (4294967295 : Nat).testBit o = true := fun o ho => by
    rw [show (4294967295 : Nat) = 2 ^ 32 - 1 from rfl, Nat.testBit_two_pow_sub_one]
    simp [ho]
  have lib : ∀ o, o < 7 → li.testBit o = !(lit.testBit o || P.1.2.1.testBit o) := fun o ho => by
    rw [← hli, Nat.testBit_xor, Nat.testBit_or, tM o (by omega)]
    simp
  -- the whole loop over pews
  have loop : ∀ (m k : Nat) (J : Nat → Nat → Int32), k + m = A.1 0 3 → FrR 75 (t + 1) I J → rwE cE J 75 (t + 1) (A.1 0 3) (fun q => if q < k then carC A P t r q else r q) → ∃ I', v_X3_carry_75_136 none I' L J L (nI (t + 1)) (nI (7 * (t + 1))) (nI (7 * t)) (nI sp) (nI li) (nI k) ∧ rwE cE I' 75 (t + 1) (A.1 0 3) (carR A P t r) ∧ FrR 75 (t + 1) I I' := by
    intro m
    induction m with
    | zero =>
      intro k J hk hf hr1
      have e : k = A.1 0 3 := by omega
      subst e
      refine ⟨J, vc_X3_carry_75_136 ⟨fun _ => ⟨rfl, rfl, rfl⟩, fun hc => ?_⟩, ?_, hf⟩
      · rw [hf 12 4 (by omega), hR.1.2.2.2.2.1] at hc
        exact absurd (nI_le (Nat.le_refl _) (by omega)) hc
      · intro p hp
        have := hr1 p hp
        simp only [if_pos hp] at this
        exact this
    | succ m ih =>
      intro k J hk hf hr1
      have hlt : k < A.1 0 3 := by omega
      have hRJ : RC A J 12 21 := RC_of (fun a j ha => hf a j (by omega)) hR
      have hrt : rwE cE J 75 t (A.1 0 3) r := rwE_fr hr hf h3 (by omega)
      have hge : ¬ J 12 4 ≤ nI k := by rw [hRJ.1.2.2.2.2.1]; exact nI_ge hlt (by omega)
      have e16 : J 16 (nI k).toNatClampNeg = nI (nearB A k) := by rw [u_cl (by omega)]; exact (hRJ.2.1 k hlt).2.2.2
      have hnb := nearB_lt hV k
      -- from the pew's own choice on
      have toS : ∀ I', v_X3_carry_75_193 none I' L J L (nI (t + 1)) (nI (7 * (t + 1))) (nI (7 * t)) (nI sp) (nI li) (nI k) (spO (carS A P t r k)) → v_X3_carry_75_136 none I' L J L (nI (t + 1)) (nI (7 * (t + 1))) (nI (7 * t)) (nI sp) (nI li) (nI k) := by
        intro I' hw
        refine vc_X3_carry_75_136 ⟨fun hc => absurd hc hge, fun _ => ⟨fun hb => ⟨fun _ => ?_, fun hc => absurd rfl hc⟩, fun hb => ⟨u_in (by omega) (by decide), ?_⟩⟩⟩
        · rw [bz li (by omega), lib k (by omega)] at hb
          have hn : carS A P t r k = none := by
            unfold carS
            by_cases e : (r k).1 = [] ∧ P.1.2.2.testBit t = false
            · rw [if_pos e]
              have hsk : P.1.2.1.testBit k = true := by
                rw [ltb k hlt, e.1] at hb
                simpa using hb
              exact spk_none (fun o _ => by unfold aud; rw [hsk]; simp)
            · rw [if_neg e]
          rw [hn] at hw
          exact hw
        · rw [bz li (by omega), lib k (by omega)] at hb
          have hb : lit.testBit k = false ∧ P.1.2.1.testBit k = false := by simpa using hb
          have hout : (r k).1 = [] := by
            have := hb.1
            rw [ltb k hlt] at this
            simpa using this
          rw [e16, u_and]
          have audb : P.1.2.2.testBit t = false → ∀ o, o < A.1 0 3 → (nearB A k &&& sp).testBit o = aud A P r k o := by
            intro hns o ho
            rw [← hsp, if_neg (by rw [hns]; decide), Nat.testBit_and, Nat.testBit_and, Nat.testBit_xor, tM o (by omega), ltb o ho]
            unfold aud
            rw [hb.2]
            simp [Bool.and_assoc]
          refine ⟨fun hz => ?_, fun hz => ?_⟩
          · have hn : carS A P t r k = none := by
              unfold carS
              by_cases e : (r k).1 = [] ∧ P.1.2.2.testBit t = false
              · rw [if_pos e]
                have hz : nearB A k &&& sp = 0 := by
                  have hlt2 : nearB A k &&& sp < 4294967296 := Nat.lt_of_le_of_lt Nat.and_le_left (by omega)
                  exact (u_0 hlt2).mp hz
                exact spk_none (fun o ho => by rw [← audb e.2 o ho, hz]; simp)
              · rw [if_neg e]
            rw [hn] at hw
            exact hw
          · have hns : P.1.2.2.testBit t = false := by
              by_cases q : P.1.2.2.testBit t = true
              · exfalso
                apply hz
                rw [← hsp, if_pos q, Nat.and_zero]
                rfl
              · simpa using q
            have hc := ct_speaker_75 (P := P) (L := L) (a := nearB A k &&& sp) (f := aud A P r k) hRJ hV (by rw [hf 75 7 (by omega)]; exact hP.1) hPV (by omega) hrt hv (audb hns) (fun o _ q => aud_ne q)
            have hS : carS A P t r k = spk P.1.1 r (aud A P r k) (A.1 0 3) := by
              unfold carS
              rw [if_pos ⟨hout, hns⟩]
            rw [hS] at hw
            exact ⟨_, hc, hw⟩
      -- nothing changes
      have stay : carC A P t r k = r k → ∃ I', v_X3_carry_75_136 none I' L J L (nI (t + 1)) (nI (7 * (t + 1))) (nI (7 * t)) (nI sp) (nI li) (nI k + 1) ∧ rwE cE I' 75 (t + 1) (A.1 0 3) (carR A P t r) ∧ FrR 75 (t + 1) I I' := by
        intro he
        rw [nI_1]
        refine ih (k + 1) J (by omega) hf (fun p hp => ?_)
        have := hr1 p hp
        by_cases q : p = k
        · subst q
          simp only [if_neg (Nat.lt_irrefl p)] at this
          simp only [if_pos (Nat.lt_succ_self p), he]
          exact this
        · by_cases q2 : p < k
          · simp only [if_pos q2] at this
            simp only [if_pos (show p < k + 1 by omega)]
            exact this
          · simp only [if_neg q2] at this
            simp only [if_neg (show ¬ p < k + 1 by omega)]
            exact this
      cases hS : carS A P t r k with
      | none =>
        obtain ⟨I', hw, hr2, hf2⟩ := stay (carC_0 hS)
        refine ⟨I', toS I' ?_, hr2, hf2⟩
        rw [hS]
        exact vc_X3_carry_75_193 ⟨fun _ => vc_X3_carry_75_223 ⟨fun _ => hw, fun hc => absurd rfl hc⟩, fun hc => absurd rfl hc⟩
      | some q =>
        obtain ⟨hq, hqn⟩ := carS_lt hS
        have hcC := carC_1 hS
        have eq2 : J 77 (nI (7 * t + q)).toNatClampNeg = nI (cE (r q).1) := by rw [u_cl (by omega)]; exact (hrt q hq).1
        have hb := ct_heardBy (L := L) hRJ hV hlt (hv q hq).1
        have hSg := hs_Sg hV hlt (hv q hq).1
        have hcl := hSg.lt
        have ne1 : ¬ nI q = -1 := fun z => by
          have := (t_eq _ _).mp z
          rw [t_n (by omega)] at this
          have e : (-1 : Int32).toInt = -1 := by decide
          omega
        by_cases hz : hs A k (r q).1 = []
        · rw [if_pos hz] at hcC
          obtain ⟨I', hw, hr2, hf2⟩ := stay hcC
          refine ⟨I', toS I' ?_, hr2, hf2⟩
          rw [hS]
          refine vc_X3_carry_75_193 ⟨fun hc => absurd hc ne1, fun _ => ?_⟩
          have es : nI (7 * t) + spO (some q) = nI (7 * t + q) := u_add _ _
          rw [es, eq2]
          refine ⟨u_in (by omega) (by decide), _, hb, vc_X3_carry_75_223 ⟨fun _ => hw, fun hc => ?_⟩⟩
          exfalso
          apply hc
          rw [hz]
          rfl
        · rw [if_neg hz] at hcC
          have hcz : ¬ nI (cE (hs A k (r q).1)) = 0 := fun z => hz ((cE_0 hSg.ge1).mp ((u_0 (by omega)).mp z))
          have hfw : FrR 75 (t + 1) J (wr4 J 75 (7 * (t + 1) + k) (nI (cE (hs A k (r q).1))) (nI q) (nI (t + 1)) (J 80 (7 * t + q) + 1)) := FrR_w (by omega)
          have hrw : rwE cE (wr4 J 75 (7 * (t + 1) + k) (nI (cE (hs A k (r q).1))) (nI q) (nI (t + 1)) (J 80 (7 * t + q) + 1)) 75 (t + 1) (A.1 0 3) (fun p => if p < k + 1 then carC A P t r p else r p) := by
            have h1 := rwE_w (p := k) (cl := carC A P t r k) (x := nI (cE (hs A k (r q).1))) (y := nI q) (z := nI (t + 1)) (u := J 80 (7 * t + q) + 1) hr1 (by rw [hcC]) (by rw [hcC]; exact (iI_n q).symm) (by rw [hcC]; exact (iI_n (t + 1)).symm) (by
              rw [hcC]
              have h5 : J 80 (7 * t + q) = iI (r q).2.2.2 := (hrt q hq).2.2.2
              rw [h5]
              exact iI_1 _)
            intro p hp
            have h2 := h1 p hp
            have e : rwU (fun q => if q < k then carC A P t r q else r q) k (carC A P t r k) p = (if p < k + 1 then carC A P t r p else r p) := by
              by_cases z : p = k
              · subst z
                rw [rwU_s, if_pos (by omega)]
              · rw [rwU_n z]
                by_cases z2 : p < k
                · rw [if_pos z2, if_pos (by omega)]
                · rw [if_neg z2, if_neg (by omega)]
            rw [e] at h2
            exact h2
          obtain ⟨I', hw, hr2, hf2⟩ := ih (k + 1) _ (by omega) (hf.tr hfw) hrw
          rw [← nI_1 k] at hw
          refine ⟨I', toS I' ?_, hr2, hf2⟩
          rw [hS]
          refine vc_X3_carry_75_193 ⟨fun hc => absurd hc ne1, fun _ => ?_⟩
          have es : nI (7 * t) + spO (some q) = nI (7 * t + q) := u_add _ _
          rw [es, eq2]
          refine ⟨u_in (by omega) (by decide), _, hb, vc_X3_carry_75_223 ⟨fun hc => absurd hc hcz, fun _ => ?_⟩⟩
          have hin : vp_in (nI (7 * (t + 1)) + nI k) 91 := by rw [u_add]; exact u_in (by omega) (by decide)
          have hin2 : vp_in (nI (7 * t) + spO (some q)) 91 := by show vp_in (nI (7 * t) + nI q) 91; rw [u_add]; exact u_in (by omega) (by decide)
          refine ⟨hin, hin, fun I1 h1 => ⟨hin, hin2, hin, fun I2 h2 => ?_⟩⟩
          have e1 : (nI (7 * (t + 1)) + nI k).toNatClampNeg = 7 * (t + 1) + k := by rw [u_add, u_cl (by omega)]
          have e2 : (nI (7 * t) + spO (some q)).toNatClampNeg = 7 * t + q := by show (nI (7 * t) + nI q).toNatClampNeg = _; rw [u_add, u_cl (by omega)]
          rw [e1] at h1 h2
          rw [e2] at h2
          have e3 : up2 I1 79 (7 * (t + 1) + k) (nI (t + 1)) 80 (7 * t + q) = J 80 (7 * t + q) := by
            rw [up2_p (by decide), h1, up2_p (by decide), up2_p (by decide)]
          rw [e3, h1] at h2
          rw [h2]
          exact hw
  -- ahead of it
  have hf0 := cp4_fr (I := I) (c := 75) (t := t)
  obtain ⟨I', hw, hr2, hf2⟩ := loop (A.1 0 3) 0 (cp4 I 75 t) (by omega) hf0 (by
    have := cp4_rw h3 hr
    intro p hp
    simp only [if_neg (Nat.not_lt_zero p)]
    exact this p hp)
  refine ⟨I', c0_X3_carry_75 (vc_X3_carry_75_0 ?_), hr2, hf2⟩
  have e1 : nI (t + 1) * 7 = nI (7 * (t + 1)) := by rw [show (7 : Int32) = nI 7 from rfl, u_mul, Nat.mul_comm]
  have e2 : nI (7 * (t + 1)) - 7 = nI (7 * t) := by
    rw [show (7 : Int32) = nI 7 from rfl, pk_sub (by omega)]
    congr 1
  have e3 : nI (t + 1) - 1 = nI t := nI_pred t
  have c1 : (nI (7 * t)).toNatClampNeg = 7 * t := u_cl (by omega)
  have c2 : (nI (7 * (t + 1))).toNatClampNeg = 7 * (t + 1) := u_cl (by omega)
  have c7 : (7 : Int32).toNatClampNeg = 7 := by decide
  have ct : (nI t).toNatClampNeg = t := u_cl (by omega)
  rw [e1, e2, e3, c1, c2, c7]
  have hg : ¬ nI (7 * t) < 0 ∧ ¬ nI (7 * (t + 1)) < 0 ∧ ¬ (7 : Int32) < 0 ∧ 7 * t + 7 ≤ 91 ∧ 7 * (t + 1) + 7 ≤ 91 := ⟨nI_pos (by omega), nI_pos (by omega), by decide, by omega, by omega⟩
  refine ⟨hg, fun I1 h1 => ⟨hg, fun I2 h2 => ⟨hg, fun I3 h3' => ⟨hg, fun I4 h4 => ?_⟩⟩⟩⟩
  have e4 : I4 = cp4 I 75 t := by
    rw [h4, h3', h2, h1]
    rfl
  rw [e4]
  have e9 : cp4 I 75 t 75 9 = nI P.1.2.2 := by rw [hf0 75 9 (by omega)]; exact hP.2.2.1
  have e8 : cp4 I 75 t 75 8 = nI P.1.2.1 := by rw [hf0 75 8 (by omega)]; exact hP.2.1
  have el : cp4 I 75 t 76 t = nI lit := by rw [hf0 76 t (by omega)]; exact hlit
  have hint : vp_in (nI t) 13 := u_in (by omega) (by decide)
  have w114 : ∀ s : Int32, s = nI sp → v_X3_carry_75_114 none I' L (cp4 I 75 t) L (nI (t + 1)) (nI (7 * (t + 1))) (nI (7 * t)) s := by
    intro s hs0
    subst hs0
    refine vc_X3_carry_75_114 ?_
    rw [e3, ct, el, e8]
    refine ⟨hint, fun z hz => ?_⟩
    rw [u_or, u_m1, u_xor, hli] at hz
    subst hz
    exact hw
  rw [e9]
  refine ⟨fun hz => ?_, fun hz => ?_⟩
  · rw [bz _ (by omega)] at hz
    refine vc_X3_carry_75_88 ⟨fun _ => ?_, fun hc => absurd rfl hc⟩
    rw [e3, ct, el, e8]
    refine ⟨hint, w114 _ ?_⟩
    rw [u_m1, u_xor, u_and, ← hsp, if_neg (by rw [hz]; decide), Nat.xor_comm]
  · rw [bz _ (by omega)] at hz
    refine vc_X3_carry_75_88 ⟨fun hc => absurd hc (by decide), fun _ => w114 _ ?_⟩
    rw [← hsp, if_pos (by simpa using hz)]
    rfl
end CF75
