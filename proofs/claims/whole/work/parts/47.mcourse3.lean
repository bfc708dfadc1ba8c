/-! THE REFERENCE: whom a pew hears, an hour goes on. -/
def mnr (A : Nt) (s p : Nat) : Nat := if s.testBit p = true then 0 else nearB A p &&& (s ^^^ 4294967295)
theorem mnr_lt {A : Nt} (hV : NV A) (s p : Nat) : mnr A s p < 128 := by
  unfold mnr
  by_cases e : s.testBit p = true
  · rw [if_pos e]; decide
  · rw [if_neg e]
    exact Nat.lt_of_le_of_lt Nat.and_le_left (nearB_lt hV p)
theorem mnr_tb {A : Nt} {s p o : Nat} (ho : o < 32) : (mnr A s p).testBit o = ((nearB A p).testBit o && !s.testBit o && !s.testBit p) := by
  unfold mnr
  have h1 : (4294967295 : Nat).testBit o = true := by rw [show (4294967295 : Nat) = 2 ^ 32 - 1 from rfl, Nat.testBit_two_pow_sub_one]; simpa using ho
  by_cases e : s.testBit p = true
  · rw [if_pos e, e]; simp
  · rw [if_neg e, Nat.testBit_and, Nat.testBit_xor, h1]
    have : s.testBit p = false := by simpa using e
    rw [this]; simp
section MK
variable {A : Nt} {P : Pm} {I : Nat → Nat → Int32} {L : Nat → Nat → Int64}
theorem cm_nearOf (hR : RM A I 97 0) (hV : NV A) {s p : Nat} (hs15 : I 96 15 = nI s) (hs : s < 128) (hp : p < A.1 0 3) : q_C kX12_nearOf [.ref 96, .int (nI p)] I L (some (.int (nI (mnr A s p)))) I L := by
  have h3 := hV.1.2.2.2.1
  have h4 := hV.1.2.2.2.2.1
  have e4 : I 97 4 = nI (A.1 0 4) := hR.1 4 (by decide)
  refine c0_X12_nearOf (vc_X12_nearOf_0 ?_)
  refine down (P := fun k => v_X12_nearOf_4 (some (.int (nI (mnr A s p)))) I L I L (nI p) (nI (nearF A p k)) (nI k)) (n := A.1 0 4) ?_ ?_
  · refine vc_X12_nearOf_4 ?_
    simp (disch := omega) only [l_0, l_1, l_2, l_3, l_4, l_5, l_6, l_7, l_8, l_9, l_10, l_11, l_12, l_15, l_16, l_20, l_24, l_30, l_31, l_32, l_50, l_54, l_60, l_62, l_63, l_64, l_74, l_91, l_100, l_128, l_240, l_600, l_10000, l_m1, nI_leI, nI_ltI, u_eq, u_add, u_mul, u_cl, u_in_t, pk_sub, pk_div, nI_nm1, m1_nI, m1_lt, m1_le, nI_ltm, nI_lem, up2_s_, u_31, u_one3, u_shr3, u_and1, u_or, true_and, and_true, e4]
    refine ⟨fun _ => ⟨_, by rw [hs15]; exact ct_bitN (by omega) (by omega), ?_⟩, fun z => absurd (Nat.le_refl _) z⟩
    simp (disch := omega) only [l_0, l_1, l_2, l_3, l_4, l_5, l_6, l_7, l_8, l_9, l_10, l_11, l_12, l_15, l_16, l_20, l_24, l_30, l_31, l_32, l_50, l_54, l_60, l_62, l_63, l_64, l_74, l_91, l_100, l_128, l_240, l_600, l_10000, l_m1, nI_leI, nI_ltI, u_eq, u_add, u_mul, u_cl, u_in_t, pk_sub, pk_div, nI_nm1, m1_nI, m1_lt, m1_le, nI_ltm, nI_lem, up2_s_, u_31, u_one3, u_shr3, u_and1, u_or, true_and, and_true, hs15, tb1]
    have e2 : -nI 1 = nI 4294967295 := by decide
    rw [e2, u_xor, u_and]
    unfold mnr
    refine ⟨fun z => ?_, fun z => ?_⟩
    · rw [if_pos z]
    · rw [if_neg z]
      rfl
  · intro k hk ih
    have hka := hV.2.2.2.2.1 k hk
    have ha : I 97 (30 + 2 * k) = nI (A.1 4 k) := by rw [← (hR.2.2.1 k hk).1]
    have hb : I 97 (30 + 2 * k + 1) = nI (A.1 5 k) := by rw [← (hR.2.2.1 k hk).2]; congr 1; omega
    have hd : nearF A p (k + 1) = nearF A p k ||| (if A.1 4 k = p then 2 ^ A.1 5 k else if A.1 5 k = p then 2 ^ A.1 4 k else 0) := rfl
    rw [hd] at ih
    refine vc_X12_nearOf_4 ?_
    simp (disch := omega) only [l_0, l_1, l_2, l_3, l_4, l_5, l_6, l_7, l_8, l_9, l_10, l_11, l_12, l_15, l_16, l_20, l_24, l_30, l_31, l_32, l_50, l_54, l_60, l_62, l_63, l_64, l_74, l_91, l_100, l_128, l_240, l_600, l_10000, l_m1, nI_leI, nI_ltI, u_eq, u_add, u_mul, u_cl, u_in_t, pk_sub, pk_div, nI_nm1, m1_nI, m1_lt, m1_le, nI_ltm, nI_lem, up2_s_, u_31, u_one3, u_shr3, u_and1, u_or, true_and, and_true, e4, ha, hb]
    refine ⟨fun z => by omega, fun _ z2 hz2 => ?_⟩
    subst hz2
    simp (disch := omega) only [l_0, l_1, l_2, l_3, l_4, l_5, l_6, l_7, l_8, l_9, l_10, l_11, l_12, l_15, l_16, l_20, l_24, l_30, l_31, l_32, l_50, l_54, l_60, l_62, l_63, l_64, l_74, l_91, l_100, l_128, l_240, l_600, l_10000, l_m1, nI_leI, nI_ltI, u_eq, u_add, u_mul, u_cl, u_in_t, pk_sub, pk_div, nI_nm1, m1_nI, m1_lt, m1_le, nI_ltm, nI_lem, up2_s_, u_31, u_one3, u_shr3, u_and1, u_or, true_and, and_true]
    refine ⟨fun z => ?_, fun z => ⟨fun z2 z3 hz3 => ?_, fun z2 => ?_⟩⟩
    · rw [if_pos z] at ih; exact ih
    · rw [if_neg z, if_pos z2] at ih; rw [hz3]; exact ih
    · rw [if_neg z, if_neg z2] at ih; exact ih
theorem cm_saysOf {t p : Nat} {r : Rw} (h3 : A.1 0 3 ≤ 7) (ht : t ≤ 12) (hr : rwE mE I 101 t (A.1 0 3) r) (hp : p < A.1 0 3) : q_C kX12_saysOf [.ref 96, .int (nI p), .int (nI t)] I L (some (.int (nI (mE (r p).1)))) I L := by
  refine c0_X12_saysOf (vc_X12_saysOf_0 ?_)
  have e : I 103 (7 * t + p) = nI (mE (r p).1) := (hr p hp).1
  simp (disch := omega) only [l_0, l_1, l_2, l_3, l_4, l_5, l_6, l_7, l_8, l_9, l_10, l_11, l_12, l_15, l_16, l_20, l_24, l_30, l_31, l_32, l_50, l_54, l_60, l_62, l_63, l_64, l_74, l_91, l_100, l_128, l_240, l_600, l_10000, l_m1, nI_leI, nI_ltI, u_eq, u_add, u_mul, u_cl, u_in_t, pk_sub, pk_div, nI_nm1, m1_nI, m1_lt, m1_le, nI_ltm, nI_lem, up2_s_, u_31, u_one3, u_shr3, u_and1, u_or, true_and, and_true, e]
theorem cm_isBetter (hV : NV A) (hP : PMd P I) (hPV : PV A P) {t : Nat} {r : Rw} (ht : t ≤ 12) (hr : rwE mE I 101 t (A.1 0 3) r) (hv : RV (A.1 0 3) t r) {o c : Nat} (ho : o < A.1 0 3) (hc : c < A.1 0 3) (ho1 : (r o).1 ≠ []) (hc1 : (r c).1 ≠ []) : q_C kX12_isBetter [.ref 96, .int (nI o), .int (nI c), .int (nI t)] I L (some (.int (if btr P.1.1 r o c = true then 1 else 0))) I L := by
  have h3 := hV.1.2.2.2.1
  have hl := hPV.1.1
  have e16 : I 96 16 = nI P.1.1 := hP.1
  have lo := (hv o ho).1
  have lc := (hv c hc).1
  have vo := (hv o ho).2.2 ho1
  have vc := (hv c hc).2.2 hc1
  have s1 : I 105 (7 * t + o) = iI (r o).2.2.1 := (hr o ho).2.2.1
  have s2 : I 105 (7 * t + c) = iI (r c).2.2.1 := (hr c hc).2.2.1
  have l1 := lo.1
  have l2 := lc.1
  refine c0_X12_isBetter (vc_X12_isBetter_0 ?_)
  rw [e16]
  unfold btr
  have hcase : P.1.1 = 0 ∨ P.1.1 = 1 ∨ P.1.1 = 2 ∨ P.1.1 = 3 := by omega
  have n01 : ¬ (nI 1 : Int32) = 0 := by decide
  have n20 : ¬ (nI 2 : Int32) = 0 := by decide
  have n21 : ¬ (nI 2 : Int32) = 1 := by decide
  have n30 : ¬ (nI 3 : Int32) = 0 := by decide
  have n31 : ¬ (nI 3 : Int32) = 1 := by decide
  have n32 : ¬ (nI 3 : Int32) = 2 := by decide
  rcases hcase with e | e | e | e
  · rw [e]
    exact ⟨fun _ => ⟨rfl, rfl, rfl⟩, fun z => absurd rfl z⟩
  · rw [e]
    exact ⟨fun z => absurd z n01, fun _ => ⟨fun _ => ⟨rfl, rfl, rfl⟩, fun z => absurd rfl z⟩⟩
  · rw [e]
    refine ⟨fun z => absurd z n20, fun _ => ⟨fun z => absurd z n21, fun _ => ⟨fun _ => ⟨_, cm_saysOf h3 ht hr ho, _, ct_longOf lo, _, cm_saysOf h3 ht hr hc, _, ct_longOf lc, ?_⟩, fun z => absurd rfl z⟩⟩⟩
    simp (disch := omega) only [nI_leI]
    refine ⟨fun z => ?_, fun z => ?_⟩
    · rw [if_neg (by simp; omega)]; simp
    · rw [if_pos (by simp; omega)]; simp
  · rw [e]
    refine ⟨fun z => absurd z n30, fun _ => ⟨fun z => absurd z n31, fun _ => ⟨fun z => absurd z n32, fun _ => ?_⟩⟩⟩
    simp (disch := omega) only [l_0, l_1, l_2, l_3, l_4, l_5, l_6, l_7, l_8, l_9, l_10, l_11, l_12, l_15, l_16, l_20, l_24, l_30, l_31, l_32, l_50, l_54, l_60, l_62, l_63, l_64, l_74, l_91, l_100, l_128, l_240, l_600, l_10000, l_m1, nI_leI, nI_ltI, u_eq, u_add, u_mul, u_cl, u_in_t, pk_sub, pk_div, nI_nm1, m1_nI, m1_lt, m1_le, nI_ltm, nI_lem, up2_s_, u_31, u_one3, u_shr3, u_and1, u_or, true_and, and_true, s1, s2]
    rw [iI_le (by omega) (by omega)]
    refine ⟨fun z => ?_, fun z => ?_⟩
    · rw [if_neg (by simp; omega)]
    · rw [if_pos (by simp; omega)]
theorem cm_heardBy (hR : RM A I 97 0) (hV : NV A) (hP : PMd P I) (hPV : PV A P) {t : Nat} {r : Rw} (ht : t ≤ 12) (hr : rwE mE I 101 t (A.1 0 3) r) (hv : RV (A.1 0 3) t r) {p : Nat} (hp : p < A.1 0 3) : q_C kX12_heardBy [.ref 96, .int (nI p), .int (nI t)] I L (some (.int (spO (spk P.1.1 r (aud A P r p) (A.1 0 3))))) I L := by
  have h3 := hV.1.2.2.2.1
  have e15 : I 96 15 = nI P.1.2.1 := hP.2.1
  have hsh := hPV.1.2.1
  refine c0_X12_heardBy (vc_X12_heardBy_0 ?_)
  refine down (P := fun k => v_X12_heardBy_5 (some (.int (spO (spk P.1.1 r (aud A P r p) (A.1 0 3))))) I L I L (nI p) (nI t) (spO (spk P.1.1 r (aud A P r p) k)) (nI k)) (n := A.1 0 3) ?_ ?_
  · exact vc_X12_heardBy_5 ⟨_, ct_pews hR, fun _ => ⟨rfl, rfl, rfl⟩, fun z => absurd (nI_le (Nat.le_refl _) (by omega)) z⟩
  · intro k hk ih
    have hm := mnr_lt hV P.1.2.1 p
    have hb := mnr_tb (A := A) (s := P.1.2.1) (p := p) (o := k) (by omega)
    refine vc_X12_heardBy_5 ⟨_, ct_pews hR, fun z => absurd z (nI_ge hk (by omega)), fun _ => ⟨_, cm_nearOf hR hV e15 hsh hp, _, ct_bitN (by omega) (by omega), ?_⟩⟩
    have hmod : mnr A P.1.2.1 p / 2 ^ k % 2 < 2 := Nat.mod_lt _ (by decide)
    rw [u_0 (by omega), tb0, hb]
    have sk : aud A P r p k = false → v_X12_heardBy_5 (some (.int (spO (spk P.1.1 r (aud A P r p) (A.1 0 3))))) I L I L (nI p) (nI t) (spO (spk P.1.1 r (aud A P r p) k)) (nI k + 1) := fun z => by
      rw [nI_1, ← spk_no z]
      exact ih
    have hlk := (hv k hk).1
    have hml := hlk.mlt
    refine ⟨fun z => sk ?_, fun z => ⟨_, cm_saysOf h3 ht hr hk, fun z2 => sk ?_, fun z2 => ?_⟩⟩
    · unfold aud
      revert z
      cases (nearB A p).testBit k <;> cases P.1.2.1.testBit k <;> cases P.1.2.1.testBit p <;> simp
    · rw [u_0 (by omega), mE_0 hlk.ge1] at z2
      unfold aud
      rw [z2]
      simp
    · rw [u_0 (by omega), mE_0 hlk.ge1] at z2
      have hau : aud A P r p k = true := by
        unfold aud
        have : (r k).1.isEmpty = false := by simpa using z2
        rw [this]
        revert z
        cases (nearB A p).testBit k <;> cases P.1.2.1.testBit k <;> cases P.1.2.1.testBit p <;> simp
      have hst : spk P.1.1 r (aud A P r p) (k + 1) = (match spk P.1.1 r (aud A P r p) k with | none => some k | some c => if btr P.1.1 r k c = true then some k else some c) := by
        show (if aud A P r p k = true then _ else _) = _
        rw [if_pos hau]
        rfl
      rw [hst] at ih
      rw [nI_1]
      cases hsp : spk P.1.1 r (aud A P r p) k with
      | none =>
        rw [hsp] at ih
        exact ⟨fun _ => ih, fun z => absurd rfl z⟩
      | some c =>
        have hcl := spk_lt hsp
        rw [hsp] at ih
        have ih : v_X12_heardBy_5 _ I L I L (nI p) (nI t) (spO (if btr P.1.1 r k c = true then some k else some c)) (nI (k + 1)) := ih
        show (nI c = -1 → _) ∧ (¬ nI c = -1 → ∃ r5, q_C kX12_isBetter [.ref 96, .int (nI k), .int (nI c), .int (nI t)] I L (some (.int r5)) I L ∧ _)
        refine ⟨fun z => ((nI_nm1 (by omega)).mp z).elim, fun _ => ⟨_, cm_isBetter hV hP hPV ht hr hv hk (by omega) z2 (aud_ne hcl.2), fun z => ?_, fun z => ?_⟩⟩
        · by_cases hb2 : btr P.1.1 r k c = true
          · rw [if_pos hb2] at z; exact absurd z (by decide)
          · rw [if_neg hb2] at ih; exact ih
        · by_cases hb2 : btr P.1.1 r k c = true
          · rw [if_pos hb2] at ih; exact ih
          · rw [if_neg hb2] at z; exact absurd rfl z
theorem cm_goesOn (hR : RM A I 97 0) (hV : NV A) (hP : PMd P I) (hPV : PV A P) {t : Nat} {r : Rw} (ht : t < 12) (hr : rwE mE I 101 t (A.1 0 3) r) (hv : RV (A.1 0 3) t r) {p : Nat} (hp : p < A.1 0 3) (hr2 : rwE mE I 101 (t + 1) p (carR A P t r)) : ∃ I', q_C kX12_goesOn [.ref 96, .int (nI p), .int (nI t)] I L none I' L ∧ rwE mE I' 101 (t + 1) (p + 1) (carR A P t r) ∧ FrR 101 (t + 1) I I' := by
  have h3 := hV.1.2.2.2.1
  have hsil := hPV.1.2.2
  obtain ⟨g1, g2, g3, g4⟩ := hr p hp
  have g1 : I 103 (7 * t + p) = nI (mE (r p).1) := g1
  have g2 : I 104 (7 * t + p) = iI (r p).2.1 := g2
  have g3 : I 105 (7 * t + p) = iI (r p).2.2.1 := g3
  have g4 : I 106 (7 * t + p) = iI (r p).2.2.2 := g4
  have hI4 : ∃ I4, I4 = wr4 I 101 (7 * (t + 1) + p) (nI (mE (r p).1)) (iI (r p).2.1) (iI (r p).2.2.1) (iI (r p).2.2.2) := ⟨_, rfl⟩
  obtain ⟨I4, hI4⟩ := hI4
  have hf4 : FrR 101 (t + 1) I I4 := by rw [hI4]; exact FrR_w (by omega)
  have hR4 : RM A I4 97 0 := RM_of (fun j => hf4 97 j (by omega)) hR
  have hP4 : PMd P I4 := PMd_of (fun j => hf4 96 j (by omega)) hP
  have hr4 : rwE mE I4 101 t (A.1 0 3) r := rwE_fr hr hf4 h3 (by omega)
  have hlp := (hv p hp).1
  have hmp := hlp.mlt
  -- where nothing is heard
  have stay : carC A P t r p = r p → rwE mE I4 101 (t + 1) (p + 1) (carR A P t r) := fun hs => by
    rw [hI4]
    refine rwE_x hr2 ?_ ?_ ?_ ?_
    · show _ = nI (mE (carC A P t r p).1); rw [hs]
    · show _ = iI (carC A P t r p).2.1; rw [hs]
    · show _ = iI (carC A P t r p).2.2.1; rw [hs]
    · show _ = iI (carC A P t r p).2.2.2; rw [hs]
  have tail : ∃ I', (((0 < nI (mE (r p).1)) → v_X12_goesOn_86 none I' L I4 L (nI p) (nI t) (nI (7 * t + p + 7))) ∧ (¬ 0 < nI (mE (r p).1) → ∃ r5, q_C kX12_bit [.int (I4 96 17), .int (nI t)] I4 L (some (.int r5)) I4 L ∧ ((r5 = 1 → v_X12_goesOn_86 none I' L I4 L (nI p) (nI t) (nI (7 * t + p + 7))) ∧ (¬ r5 = 1 → ∃ r6, q_C kX12_heardBy [.ref 96, .int (nI p), .int (nI t)] I4 L (some (.int r6)) I4 L ∧ ((r6 = -1 → v_X12_goesOn_120 none I' L I4 L (nI t) (nI (7 * t + p + 7)) r6 0) ∧ (¬ r6 = -1 → ∃ r7, q_C kX12_saysOf [.ref 96, .int r6, .int (nI t)] I4 L (some (.int r7)) I4 L ∧ ∃ r8, q_C kX12_changed [.ref 96, .int (nI p), .int r7] I4 L (some (.int r8)) I4 L ∧ v_X12_goesOn_120 none I' L I4 L (nI t) (nI (7 * t + p + 7)) r6 r8)))))) ∧ rwE mE I' 101 (t + 1) (p + 1) (carR A P t r) ∧ FrR 101 (t + 1) I I' := by
    have w120 : ∀ w, v_X12_goesOn_120 none I4 L I4 L (nI t) (nI (7 * t + p + 7)) w 0 := fun w => vc_X12_goesOn_120 ⟨fun _ => ⟨rfl, rfl, rfl⟩, fun z => absurd rfl z⟩
    have w86 : v_X12_goesOn_86 none I4 L I4 L (nI p) (nI t) (nI (7 * t + p + 7)) := vc_X12_goesOn_86 ⟨fun _ => w120 _, fun z => absurd rfl z⟩
    have e17 : I4 96 17 = nI P.1.2.2 := hP4.2.2.1
    rw [e17]
    have hpos : 0 < nI (mE (r p).1) ↔ ¬ (r p).1 = [] := by
      rw [show (0 : Int32) = nI 0 from rfl, nI_ltI (by omega) (by omega), ← mE_0 hlp.ge1]
      omega
    rw [hpos]
    have hmod : P.1.2.2 / 2 ^ t % 2 < 2 := Nat.mod_lt _ (by decide)
    have hsb : ∀ x : Nat, x < 2 → (nI x = 1 ↔ x = 1) := fun x hx => by rw [show (1 : Int32) = nI 1 from rfl, u_eq (by omega) (by omega)]
    cases hcs : carS A P t r p with
    | none =>
      refine ⟨I4, ⟨fun _ => w86, fun h1 => ⟨_, ct_bitN (by omega) (by omega), fun _ => w86, fun h2 => ⟨_, cm_heardBy hR4 hV hP4 hPV (by omega) hr4 hv hp, ?_⟩⟩⟩, stay (carC_0 hcs), hf4⟩
      rw [hsb _ hmod, tb1] at h2
      unfold carS at hcs
      rw [if_pos ⟨by simpa using h1, by simpa using h2⟩] at hcs
      rw [hcs]
      exact ⟨fun _ => w120 _, fun z => absurd rfl z⟩
    | some q =>
      have hq := carS_lt hcs
      have hc1 := carC_1 hcs
      have hcond : (r p).1 = [] ∧ P.1.2.2.testBit t = false := by
        unfold carS at hcs
        by_cases e : (r p).1 = [] ∧ P.1.2.2.testBit t = false
        · exact e
        · rw [if_neg e] at hcs; cases hcs
      have hspk : spk P.1.1 r (aud A P r p) (A.1 0 3) = some q := by
        unfold carS at hcs
        rw [if_pos hcond] at hcs
        exact hcs
      have hch := ct_changed (I := I4) (L := L) hR4 hV hp (hv q hq.1).1 hq.2
      have hsl := hs_Sg hV hp (hv q hq.1).1
      have hml := hsl.mlt
      have fin : ∀ I', v_X12_goesOn_120 none I' L I4 L (nI t) (nI (7 * t + p + 7)) (nI q) (nI (mE (hs A p (r q).1))) → (((¬ (r p).1 = []) → v_X12_goesOn_86 none I' L I4 L (nI p) (nI t) (nI (7 * t + p + 7))) ∧ (¬ ¬ (r p).1 = [] → ∃ r5, q_C kX12_bit [.int (nI P.1.2.2), .int (nI t)] I4 L (some (.int r5)) I4 L ∧ ((r5 = 1 → v_X12_goesOn_86 none I' L I4 L (nI p) (nI t) (nI (7 * t + p + 7))) ∧ (¬ r5 = 1 → ∃ r6, q_C kX12_heardBy [.ref 96, .int (nI p), .int (nI t)] I4 L (some (.int r6)) I4 L ∧ ((r6 = -1 → v_X12_goesOn_120 none I' L I4 L (nI t) (nI (7 * t + p + 7)) r6 0) ∧ (¬ r6 = -1 → ∃ r7, q_C kX12_saysOf [.ref 96, .int r6, .int (nI t)] I4 L (some (.int r7)) I4 L ∧ ∃ r8, q_C kX12_changed [.ref 96, .int (nI p), .int r7] I4 L (some (.int r8)) I4 L ∧ v_X12_goesOn_120 none I' L I4 L (nI t) (nI (7 * t + p + 7)) r6 r8)))))) := by
        intro I' hw
        refine ⟨fun z => absurd hcond.1 z, fun _ => ⟨_, ct_bitN (by omega) (by omega), fun z => ?_, fun _ => ⟨_, cm_heardBy hR4 hV hP4 hPV (by omega) hr4 hv hp, ?_⟩⟩⟩
        · rw [hsb _ hmod, tb1, hcond.2] at z
          exact absurd z (by decide)
        · rw [hspk]
          exact ⟨fun z => ((nI_nm1 (by omega)).mp z).elim, fun _ => ⟨_, cm_saysOf h3 (by omega) hr4 hq.1, _, hch, hw⟩⟩
      by_cases hem : hs A p (r q).1 = []
      · rw [if_pos hem] at hc1
        refine ⟨I4, fin I4 ?_, stay hc1, hf4⟩
        rw [hem]
        exact w120 _
      · rw [if_neg hem] at hc1
        have hdq : I4 106 (7 * t + q) = iI (r q).2.2.2 := (hr4 q hq.1).2.2.2
        refine ⟨wr4 I4 101 (7 * (t + 1) + p) (nI (mE (hs A p (r q).1))) (nI q) (nI (t + 1)) (iI ((r q).2.2.2 + 1)), fin _ (vc_X12_goesOn_120 ?_), ?_, hf4.tr (FrR_w (by omega))⟩
        · simp (disch := omega) only [l_0, l_1, l_2, l_3, l_4, l_5, l_6, l_7, l_8, l_9, l_10, l_11, l_12, l_15, l_16, l_20, l_24, l_30, l_31, l_32, l_50, l_54, l_60, l_62, l_63, l_64, l_74, l_91, l_100, l_128, l_240, l_600, l_10000, l_m1, nI_leI, nI_ltI, u_eq, u_add, u_mul, u_cl, u_in_t, pk_sub, pk_div, nI_nm1, m1_nI, m1_lt, m1_le, nI_ltm, nI_lem, up2_s_, u_31, u_one3, u_shr3, u_and1, u_or, true_and, and_true]
          refine ⟨fun z => ?_, fun _ I1 h1 I2 h2 => ?_⟩
          · exact absurd ((mE_0 hsl.ge1).mp z) hem
          · rw [h2, h1]
            rw [up2_p (show (106 : Nat) ≠ 105 by decide), up2_p (show (106 : Nat) ≠ 104 by decide), up2_p (show (106 : Nat) ≠ 103 by decide), hdq]
            show wr4 _ _ _ _ _ _ _ = up2 _ _ _ (iI (r q).2.2.2 + 1)
            rw [iI_1, show 7 * t + p + 7 = 7 * (t + 1) + p by omega]
            rfl
        · have hr5 : rwE mE I4 101 (t + 1) p (carR A P t r) := by
            intro a ha
            rw [hI4, wr4_o (by omega), wr4_o (by omega), wr4_o (by omega), wr4_o (by omega)]
            exact hr2 a ha
          refine rwE_x hr5 ?_ ?_ ?_ ?_
          · show _ = nI (mE (carC A P t r p).1); rw [hc1]
          · show _ = iI (carC A P t r p).2.1; rw [hc1]; exact (iI_n q).symm
          · show _ = iI (carC A P t r p).2.2.1; rw [hc1]; exact (iI_n (t + 1)).symm
          · show _ = iI (carC A P t r p).2.2.2; rw [hc1]
  obtain ⟨I', hw, hr6, hf6⟩ := tail
  refine ⟨I', c0_X12_goesOn (vc_X12_goesOn_0 ?_), hr6, hf6⟩
  simp (disch := omega) only [l_0, l_1, l_2, l_3, l_4, l_5, l_6, l_7, l_8, l_9, l_10, l_11, l_12, l_15, l_16, l_20, l_24, l_30, l_31, l_32, l_50, l_54, l_60, l_62, l_63, l_64, l_74, l_91, l_100, l_128, l_240, l_600, l_10000, l_m1, nI_leI, nI_ltI, u_eq, u_add, u_mul, u_cl, u_in_t, pk_sub, pk_div, nI_nm1, m1_nI, m1_lt, m1_le, nI_ltm, nI_lem, up2_s_, u_31, u_one3, u_shr3, u_and1, u_or, true_and, and_true]
  intro I1 h1 I2 h2 I3 h3' J4 h4
  have hJ : J4 = I4 := by
    rw [h4, h3', h2, h1, hI4]
    unfold wr4
    rw [up2_p (show (106 : Nat) ≠ 105 by decide), up2_p (show (106 : Nat) ≠ 104 by decide), up2_p (show (106 : Nat) ≠ 103 by decide), up2_p (show (105 : Nat) ≠ 104 by decide), up2_p (show (105 : Nat) ≠ 103 by decide), up2_p (show (104 : Nat) ≠ 103 by decide), g1, g2, g3, g4, show 7 * t + p + 7 = 7 * (t + 1) + p by omega]
  have h1' : I4 103 (7 * t + p) = nI (mE (r p).1) := (hr4 p hp).1
  rw [hJ, h1']
  exact hw
theorem ce_goAll (hR : RM A I 97 0) (hV : NV A) (hP : PMd P I) (hPV : PV A P) (hG : P.2.1.2.2.1 ≠ -1 → P.2.1.2.1 ≠ -1) : ∃ I', q_C kX12_goAll [.ref 96] I L none I' L ∧ crs mE A P I' 101 (A.1 0 0 + 1) ∧ FrM I I' := by
  have h0 := hV.1.1
  have h3 := hV.1.2.2.2.1
  have hRf : ∀ J, FrM I J → RM A J 97 0 := fun J hf => RM_of (fun j => hf 97 j (by omega)) hR
  have hPf : ∀ J, FrM I J → PMd P J := fun J hf => PMd_of (fun j => hf 96 j (by omega)) hP
  have loop : ∀ (m t : Nat) (J : Nat → Nat → Int32) (r0 : Rw), t + m = A.1 0 0 → FrM I J → crs mE A P J 101 t → rwE mE J 101 t (A.1 0 3) r0 → RV (A.1 0 3) t r0 → rows A P t = dress A P t r0 → ∃ I', v_X12_goAll_6 none I' L J L (nI t) ∧ crs mE A P I' 101 (A.1 0 0 + 1) ∧ FrM I I' := by
    intro m
    induction m with
    | zero =>
      intro t J r0 ht hf hc hr hv hd
      have e : t = A.1 0 0 := by omega
      subst e
      obtain ⟨J1, c1, hr1, hf1⟩ := ce_beginHour (L := L) (hRf J hf) hV (hPf J hf) hPV hG (Nat.le_refl _) hr hv
      rw [← hd] at hr1
      have hff := hf.tr hf1.M
      refine ⟨J1, vc_X12_goAll_6 ⟨_, ct_hours (hRf J hf), fun z => absurd z (nI_nlt (Nat.le_refl _) (by omega)), fun _ => ⟨J1, c1, vc_X12_goAll_21 ⟨_, ct_pews (hRf J1 hff), ?_⟩⟩⟩, ?_, hff⟩
      · have hend : v_X12_goAll_6 none J1 L J1 L (nI (A.1 0 0) + 1) := by
          rw [nI_1]
          exact vc_X12_goAll_6 ⟨_, ct_hours (hRf J1 hff), fun _ => ⟨rfl, rfl, rfl⟩, fun z => absurd (nI_lt (Nat.lt_succ_self _) (by omega)) z⟩
        exact ⟨fun _ => hend, fun _ => ⟨_, ct_hours (hRf J1 hff), fun _ => hend, fun z => absurd (nI_le (Nat.le_refl _) (by omega)) z⟩⟩
      · intro s hs2
        by_cases q : s = A.1 0 0
        · rw [q]; exact hr1
        · exact rwE_fr (hc s (by omega)) hf1 h3 q
    | succ m ih =>
      intro t J r0 ht hf hc hr hv hd
      have htl : t < A.1 0 0 := by omega
      obtain ⟨J1, c1, hr1, hf1⟩ := ce_beginHour (L := L) (hRf J hf) hV (hPf J hf) hPV hG (by omega) hr hv
      rw [← hd] at hr1
      have hff := hf.tr hf1.M
      have hc1 : crs mE A P J1 101 (t + 1) := by
        intro s hs2
        by_cases q : s = t
        · rw [q]; exact hr1
        · exact rwE_fr (hc s (by omega)) hf1 h3 q
      have hvt := RV_rows hV hPV t
      have inner : ∀ (m2 p : Nat) (K : Nat → Nat → Int32), p + m2 = A.1 0 3 → FrR 101 (t + 1) J1 K → rwE mE K 101 (t + 1) p (carR A P t (rows A P t)) → ∃ I', v_X12_goAll_21 none I' L K L (nI t) (nI p) ∧ crs mE A P I' 101 (A.1 0 0 + 1) ∧ FrM I I' := by
        intro m2
        induction m2 with
        | zero =>
          intro p K hp hfK hrK
          have e : p = A.1 0 3 := by omega
          subst e
          have hfK2 := hff.tr hfK.M
          obtain ⟨I', hw, hc2, hf2⟩ := ih (t + 1) K (carR A P t (rows A P t)) (by omega) hfK2 (fun s hs2 => rwE_fr (hc1 s (by omega)) hfK h3 (by omega)) hrK (RV_carR hV hvt) rfl
          rw [← nI_1 t] at hw
          exact ⟨I', vc_X12_goAll_21 ⟨_, ct_pews (hRf K hfK2), fun _ => hw, fun z => absurd (nI_le (Nat.le_refl _) (by omega)) z⟩, hc2, hf2⟩
        | succ m2 ih2 =>
          intro p K hp hfK hrK
          have hpl : p < A.1 0 3 := by omega
          have hfK2 := hff.tr hfK.M
          obtain ⟨K1, c2, hrK1, hfK1⟩ := cm_goesOn (L := L) (hRf K hfK2) hV (hPf K hfK2) hPV (by omega) (rwE_fr hr1 hfK h3 (by omega)) hvt hpl hrK
          obtain ⟨I', hw, hc2, hf2⟩ := ih2 (p + 1) K1 (by omega) (hfK.tr hfK1) hrK1
          rw [← nI_1 p] at hw
          exact ⟨I', vc_X12_goAll_21 ⟨_, ct_pews (hRf K hfK2), fun z => absurd z (nI_ge hpl (by omega)), fun _ => ⟨_, ct_hours (hRf K hfK2), fun z => absurd z (nI_ge htl (by omega)), fun _ => ⟨K1, c2, hw⟩⟩⟩, hc2, hf2⟩
      obtain ⟨I', hw, hc2, hf2⟩ := inner (A.1 0 3) 0 J1 (by omega) FrR.rf (fun p hp => absurd hp (by omega))
      exact ⟨I', vc_X12_goAll_6 ⟨_, ct_hours (hRf J hf), fun z => absurd z (nI_nlt (by omega) (by omega)), fun _ => ⟨J1, c1, hw⟩⟩, hc2, hf2⟩
  obtain ⟨J, c1, hr1, hf1⟩ := ce_beginNight (L := L) hR hV hP hPV
  obtain ⟨I', hw, hc, hf⟩ := loop (A.1 0 0) 0 J (begR A P) (by omega) hf1.M (fun s hs2 => absurd hs2 (by omega)) hr1 (RV_begR hV hPV) rfl
  exact ⟨I', c0_X12_goAll (vc_X12_goAll_0 ⟨J, c1, hw⟩), hc, hf⟩
end MK
