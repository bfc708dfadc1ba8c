/-! MORE CALLS THAT ASK OF THE COURSE AS IT IS. -/
theorem same_bit {A : Nt} {P : Pm} {t p : Nat} (hp : p < A.1 0 3) : (setF (fun o => decide ((rows A P t p).1 ≠ [] ∧ (rows A P t o).1 = (rows A P t p).1)) (A.1 0 3)).testBit p = true ↔ setF (fun o => decide ((rows A P t p).1 ≠ [] ∧ (rows A P t o).1 = (rows A P t p).1)) (A.1 0 3) ≠ 0 := by
  constructor
  · intro h z
    rw [z] at h
    simp at h
  · intro h
    rw [setF_tb]
    by_cases hl : (rows A P t p).1 = []
    · exfalso
      apply h
      have e0 : ∀ k, setF (fun o => decide ((rows A P t p).1 ≠ [] ∧ (rows A P t o).1 = (rows A P t p).1)) k = 0 := by
        intro k
        induction k with
        | zero => rfl
        | succ k ih => rw [setF_n (by simp [hl]), ih]
      exact e0 _
    · simp [hp, hl]
/-- one is chosen of those that can be: a later one, if it is better -/
def chF (b : Nat → Nat → Bool) (f : Nat → Bool) : Nat → Option Nat
  | 0 => none
  | k + 1 => if f k = true then (match chF b f k with
      | none => some k
      | some c => if b k c = true then some k else some c) else chF b f k
theorem chF_no {b : Nat → Nat → Bool} {f : Nat → Bool} {k : Nat} (h : f k = false) : chF b f (k + 1) = chF b f k := by
  show (if f k = true then _ else chF b f k) = _
  rw [if_neg (by rw [h]; decide)]
theorem chF_0 {b : Nat → Nat → Bool} {f : Nat → Bool} {k : Nat} (h : f k = true) (hn : chF b f k = none) : chF b f (k + 1) = some k := by
  show (if f k = true then (match chF b f k with | none => some k | some c => if b k c = true then some k else some c) else chF b f k) = _
  rw [if_pos h, hn]
theorem chF_1 {b : Nat → Nat → Bool} {f : Nat → Bool} {k c : Nat} (h : f k = true) (hn : chF b f k = some c) : chF b f (k + 1) = if b k c = true then some k else some c := by
  show (if f k = true then (match chF b f k with | none => some k | some c => if b k c = true then some k else some c) else chF b f k) = _
  rw [if_pos h, hn]
theorem chF_lt {b : Nat → Nat → Bool} {f : Nat → Bool} : ∀ {k c : Nat}, chF b f k = some c → c < k ∧ f c = true
  | 0, c, h => by cases h
  | k + 1, c, h => by
    by_cases e : f k = true
    · cases hs : chF b f k with
      | none =>
        rw [chF_0 e hs] at h
        have : k = c := by simpa using h
        subst this
        exact ⟨by omega, e⟩
      | some d =>
        have hd := chF_lt hs
        rw [chF_1 e hs] at h
        by_cases q : b k d = true
        · rw [if_pos q] at h
          have : k = c := by simpa using h
          subst this
          exact ⟨by omega, e⟩
        · rw [if_neg q] at h
          have : d = c := by simpa using h
          subst this
          exact ⟨by omega, hd.2⟩
    · rw [chF_no (by simpa using e)] at h
      have hc := chF_lt h
      exact ⟨by omega, hc.2⟩
def neR (r : Rw) (o : Nat) : Bool := !(r o).1.isEmpty
theorem neR_t {r : Rw} {o : Nat} : neR r o = true ↔ ¬ (r o).1 = [] := by unfold neR; simp
theorem neR_f {r : Rw} {o : Nat} : neR r o = false ↔ (r o).1 = [] := by unfold neR; simp
def lgB (r : Rw) (k c : Nat) : Bool := decide ((r c).1.length < (r k).1.length)
def shB (r : Rw) (k c : Nat) : Bool := decide ((r k).1.length < (r c).1.length)
def lgM (r : Rw) : Option Nat → Nat
  | none => 0
  | some c => (r c).1.length
def shM (r : Rw) : Option Nat → Nat
  | none => 7
  | some c => (r c).1.length
theorem neg_le {a b : Nat} (ha : a < 100) (hb : b < 100) : (-1 : Int32) * nI a ≤ -1 * nI b ↔ b ≤ a := by
  rw [t_le, Int32.toInt_mul, Int32.toInt_mul, t_n (by omega), t_n (by omega), show (-1 : Int32).toInt = -1 by decide, Int.bmod_eq_of_le (by omega) (by omega), Int.bmod_eq_of_le (by omega) (by omega)]
  omega
theorem one_mul32 (x : Int32) : 1 * x = x := Int32.one_mul x
theorem q_sorts (Z : St) (x : Int32) : ∃ v, Q2 Z Z kX11_sorts kX12_sorts [.int x] (.int v) := by
  by_cases hh : bh Z.1 x
  · refine ⟨-2, QC_q fun I L hr => ⟨I, c0_X11_sorts (vc_X11_sorts_0 ⟨_, ct_noHour hr.1.1.1 hr.1.1.2 x, g1p hh ⟨rfl, rfl, rfl⟩⟩), Fq.rf, hr.2.1, hr.2.2⟩, QM_q fun I L hr => ?_⟩
    obtain ⟨I1, c1, hc1, hf1, -, -⟩ := ce_asksHour (L := L) hr.1.1 hr.1.2 x
    exact ⟨I1, c0_X12_sorts (vc_X12_sorts_0 ⟨_, I1, c1, g0p hh ⟨rfl, rfl, rfl⟩⟩), hf1⟩
  · refine ⟨(fun t : Nat => nI (cntF (fun p => decide ((setF (fun o => decide ((rows Z.1 (P0 Z.1) t p).1 ≠ [] ∧ (rows Z.1 (P0 Z.1) t o).1 = (rows Z.1 (P0 Z.1) t p).1)) (Z.1.1 0 3)) ≠ 0 ∧ (setF (fun o => decide ((rows Z.1 (P0 Z.1) t p).1 ≠ [] ∧ (rows Z.1 (P0 Z.1) t o).1 = (rows Z.1 (P0 Z.1) t p).1)) (Z.1.1 0 3)) &&& (2 ^ p - 1) = 0)) (Z.1.1 0 3))) x.toNatClampNeg, QC_q fun I L hr => ?_, QM_q fun I L hr => ?_⟩
    · have hV := hr.1.1.2
      have h0 := hV.1.1
      have h3 := hV.1.2.2.2.1
      obtain ⟨t, ht, hx, h8⟩ := xHour hr.1.1.2 hh
      obtain ⟨I1, c1, hf1, hs1, hse, hw⟩ := ce_settled hr
      have hR := (Bc_of hf1 hr.1).1.1
      have hS : SCo Z.1 (P0 Z.1) 75 I1 := ⟨⟨hR, hV, PV_P0 hV⟩, hs1.1, hs1.2⟩
      refine ⟨I1, c0_X11_sorts (vc_X11_sorts_0 ⟨_, ct_noHour hr.1.1.1 hr.1.1.2 x, g1n hh ⟨I1, c1, ?_⟩⟩), hf1, hse, hw⟩
      subst hx
      rw [u_cl (by omega)]
      have e4 : I1 12 4 = nI (Z.1.1 0 3) := hR.1.2.2.2.2.1
      refine down (P := fun k => v_X11_sorts_21 (some (.int (nI (cntF (fun p => decide ((setF (fun o => decide ((rows Z.1 (P0 Z.1) t p).1 ≠ [] ∧ (rows Z.1 (P0 Z.1) t o).1 = (rows Z.1 (P0 Z.1) t p).1)) (Z.1.1 0 3)) ≠ 0 ∧ (setF (fun o => decide ((rows Z.1 (P0 Z.1) t p).1 ≠ [] ∧ (rows Z.1 (P0 Z.1) t o).1 = (rows Z.1 (P0 Z.1) t p).1)) (Z.1.1 0 3)) &&& (2 ^ p - 1) = 0)) (Z.1.1 0 3))))) I1 L I1 L (nI t) (nI (cntF (fun p => decide ((setF (fun o => decide ((rows Z.1 (P0 Z.1) t p).1 ≠ [] ∧ (rows Z.1 (P0 Z.1) t o).1 = (rows Z.1 (P0 Z.1) t p).1)) (Z.1.1 0 3)) ≠ 0 ∧ (setF (fun o => decide ((rows Z.1 (P0 Z.1) t p).1 ≠ [] ∧ (rows Z.1 (P0 Z.1) t o).1 = (rows Z.1 (P0 Z.1) t p).1)) (Z.1.1 0 3)) &&& (2 ^ p - 1) = 0)) k)) (nI k)) (n := Z.1.1 0 3) ?_ ?_
      · refine vc_X11_sorts_21 ?_
        rw [e4]
        exact ⟨fun _ => ⟨rfl, rfl, rfl⟩, fun z => absurd (nI_le (Nat.le_refl _) (by omega)) z⟩
      · intro k hk ih
        have hq1 : 1 ≤ 2 ^ k := Nat.one_le_two_pow
        have hq2 : 2 ^ k ≤ 2 ^ 7 := Nat.pow_le_pow_right (by decide) (by omega)
        have hsl : (setF (fun o => decide ((rows Z.1 (P0 Z.1) t k).1 ≠ [] ∧ (rows Z.1 (P0 Z.1) t o).1 = (rows Z.1 (P0 Z.1) t k).1)) (Z.1.1 0 3)) < 128 := setF_lt _ h3
        have hal : (setF (fun o => decide ((rows Z.1 (P0 Z.1) t k).1 ≠ [] ∧ (rows Z.1 (P0 Z.1) t o).1 = (rows Z.1 (P0 Z.1) t k).1)) (Z.1.1 0 3)) &&& (2 ^ k - 1) < 128 := Nat.lt_of_le_of_lt Nat.and_le_left hsl

        refine vc_X11_sorts_21 ?_
        rw [e4]
        refine ⟨fun z => absurd z (nI_ge hk (by omega)), fun _ => ⟨_, cq_sayingSame hS ht hk, ?_⟩⟩
        simp (disch := omega) only [l_0, l_1, l_2, l_3, l_4, l_5, l_6, l_7, l_8, l_9, l_10, l_11, l_12, l_15, l_16, l_20, l_24, l_30, l_31, l_32, l_50, l_54, l_60, l_62, l_63, l_64, l_74, l_91, l_100, l_128, l_240, l_600, l_10000, l_m1, nI_leI, nI_ltI, u_eq, u_add, u_mul, u_cl, u_in_t, pk_sub, pk_div, nI_nm1, m1_nI, m1_lt, m1_le, nI_ltm, nI_lem, up2_s_, u_31, u_one3, u_shr3, u_and1, u_or, true_and, and_true]
        simp (disch := omega) only [u_and, u_eq]
        refine ⟨fun z => ?_, fun z => ⟨fun z2 => ?_, fun z2 => ?_⟩⟩
        · rw [cntF_n (k := k) (by simp only [decide_eq_false_iff_not]; exact fun q => q.1 z)] at ih; exact ih
        · rw [cntF_y (k := k) (by simp only [decide_eq_true_iff]; exact ⟨z, z2⟩)] at ih; exact ih
        · rw [cntF_n (k := k) (by simp only [decide_eq_false_iff_not]; exact fun q => z2 q.2)] at ih; exact ih
    · have hV := hr.1.2
      have h0 := hV.1.1
      have h3 := hV.1.2.2.2.1
      obtain ⟨t, ht, hx, h8⟩ := xHour hr.1.2 hh
      obtain ⟨I1, c1, hc1, hf1, -, -⟩ := ce_asksHour (L := L) hr.1.1 hr.1.2 x
      have hR : RM Z.1 I1 97 0 := RM_of (fun k => hf1 97 k (by omega)) hr.1.1
      have hS : SMo Z.1 (P0 Z.1) I1 := ⟨⟨hR, hV, PV_P0 hV⟩, hc1⟩
      refine ⟨I1, c0_X12_sorts (vc_X12_sorts_0 ⟨_, I1, c1, g0n hh ?_⟩), hf1⟩
      subst hx
      rw [u_cl (by omega)]
      refine down (P := fun k => v_X12_sorts_15 (some (.int (nI (cntF (fun p => decide ((setF (fun o => decide ((rows Z.1 (P0 Z.1) t p).1 ≠ [] ∧ (rows Z.1 (P0 Z.1) t o).1 = (rows Z.1 (P0 Z.1) t p).1)) (Z.1.1 0 3)) ≠ 0 ∧ (setF (fun o => decide ((rows Z.1 (P0 Z.1) t p).1 ≠ [] ∧ (rows Z.1 (P0 Z.1) t o).1 = (rows Z.1 (P0 Z.1) t p).1)) (Z.1.1 0 3)) &&& (2 ^ p - 1) = 0)) (Z.1.1 0 3))))) I1 L I1 L (nI t) (nI (cntF (fun p => decide ((setF (fun o => decide ((rows Z.1 (P0 Z.1) t p).1 ≠ [] ∧ (rows Z.1 (P0 Z.1) t o).1 = (rows Z.1 (P0 Z.1) t p).1)) (Z.1.1 0 3)) ≠ 0 ∧ (setF (fun o => decide ((rows Z.1 (P0 Z.1) t p).1 ≠ [] ∧ (rows Z.1 (P0 Z.1) t o).1 = (rows Z.1 (P0 Z.1) t p).1)) (Z.1.1 0 3)) &&& (2 ^ p - 1) = 0)) k)) (nI k)) (n := Z.1.1 0 3) ?_ ?_
      · exact vc_X12_sorts_15 ⟨_, ct_pews hR, fun _ => ⟨rfl, rfl, rfl⟩, fun z => absurd (nI_le (Nat.le_refl _) (by omega)) z⟩
      · intro k hk ih
        have hq1 : 1 ≤ 2 ^ k := Nat.one_le_two_pow
        have hq2 : 2 ^ k ≤ 2 ^ 7 := Nat.pow_le_pow_right (by decide) (by omega)
        have hsl : (setF (fun o => decide ((rows Z.1 (P0 Z.1) t k).1 ≠ [] ∧ (rows Z.1 (P0 Z.1) t o).1 = (rows Z.1 (P0 Z.1) t k).1)) (Z.1.1 0 3)) < 128 := setF_lt _ h3
        have hal : (setF (fun o => decide ((rows Z.1 (P0 Z.1) t k).1 ≠ [] ∧ (rows Z.1 (P0 Z.1) t o).1 = (rows Z.1 (P0 Z.1) t k).1)) (Z.1.1 0 3)) &&& (2 ^ k - 1) < 128 := Nat.lt_of_le_of_lt Nat.and_le_left hsl

        have hmd : (setF (fun o => decide ((rows Z.1 (P0 Z.1) t k).1 ≠ [] ∧ (rows Z.1 (P0 Z.1) t o).1 = (rows Z.1 (P0 Z.1) t k).1)) (Z.1.1 0 3)) / 2 ^ k % 2 < 2 := Nat.mod_lt _ (by decide)
        refine vc_X12_sorts_15 ⟨_, ct_pews hR, fun z => absurd z (nI_ge hk (by omega)), fun _ => ⟨_, mq_alikeTo hS ht hk, _, ct_bitN (by omega) (by omega), ?_⟩⟩
        simp (disch := omega) only [l_0, l_1, l_2, l_3, l_4, l_5, l_6, l_7, l_8, l_9, l_10, l_11, l_12, l_15, l_16, l_20, l_24, l_30, l_31, l_32, l_50, l_54, l_60, l_62, l_63, l_64, l_74, l_91, l_100, l_128, l_240, l_600, l_10000, l_m1, nI_leI, nI_ltI, u_eq, u_add, u_mul, u_cl, u_in_t, pk_sub, pk_div, nI_nm1, m1_nI, m1_lt, m1_le, nI_ltm, nI_lem, up2_s_, u_31, u_one3, u_shr3, u_and1, u_or, true_and, and_true, tb1, same_bit hk]
        refine ⟨fun z => ⟨_, mq_alikeTo hS ht hk, ?_⟩, fun z => ?_⟩
        · simp (disch := omega) only [u_and, u_eq]
          refine ⟨fun z2 => ?_, fun z2 => ?_⟩
          · rw [cntF_y (k := k) (by simp only [decide_eq_true_iff]; exact ⟨z, z2⟩)] at ih; exact ih
          · rw [cntF_n (k := k) (by simp only [decide_eq_false_iff_not]; exact fun q => z2 q.2)] at ih; exact ih
        · rw [cntF_n (k := k) (by simp only [decide_eq_false_iff_not]; exact fun q => z q.1)] at ih; exact ih
theorem q_longest (Z : St) (x : Int32) : ∃ v, Q2 Z Z kX11_longest kX12_longest [.int x] (.int v) := by
  by_cases hh : bh Z.1 x
  · refine ⟨-2, QC_q fun I L hr => ⟨I, c0_X11_longest (vc_X11_longest_0 ⟨_, ct_noHour hr.1.1.1 hr.1.1.2 x, g1p hh ⟨rfl, rfl, rfl⟩⟩), Fq.rf, hr.2.1, hr.2.2⟩, QM_q fun I L hr => ?_⟩
    obtain ⟨I1, c1, hc1, hf1, -, -⟩ := ce_asksHour (L := L) hr.1.1 hr.1.2 x
    exact ⟨I1, c0_X12_longest (vc_X12_longest_0 ⟨_, I1, c1, g0p hh ⟨rfl, rfl, rfl⟩⟩), hf1⟩
  · refine ⟨(fun t : Nat => spO (chF (lgB (rows Z.1 (P0 Z.1) t)) (neR (rows Z.1 (P0 Z.1) t)) (Z.1.1 0 3))) x.toNatClampNeg, QC_q fun I L hr => ?_, QM_q fun I L hr => ?_⟩
    · have hV := hr.1.1.2
      have h0 := hV.1.1
      have h3 := hV.1.2.2.2.1
      obtain ⟨t, ht, hx, h8⟩ := xHour hr.1.1.2 hh
      obtain ⟨I1, c1, hf1, hs1, hse, hw⟩ := ce_settled hr
      have hR := (Bc_of hf1 hr.1).1.1
      have hS : SCo Z.1 (P0 Z.1) 75 I1 := ⟨⟨hR, hV, PV_P0 hV⟩, hs1.1, hs1.2⟩
      refine ⟨I1, c0_X11_longest (vc_X11_longest_0 ⟨_, ct_noHour hr.1.1.1 hr.1.1.2 x, g1n hh ⟨I1, c1, ?_⟩⟩), hf1, hse, hw⟩
      subst hx
      rw [u_cl (by omega)]
      have e4 : I1 12 4 = nI (Z.1.1 0 3) := hR.1.2.2.2.2.1
      refine down (P := fun k => v_X11_longest_24 (some (.int (spO (chF (lgB (rows Z.1 (P0 Z.1) t)) (neR (rows Z.1 (P0 Z.1) t)) (Z.1.1 0 3))))) I1 L I1 L (nI t) (spO (chF (lgB (rows Z.1 (P0 Z.1) t)) (neR (rows Z.1 (P0 Z.1) t)) k)) (nI (lgM (rows Z.1 (P0 Z.1) t) (chF (lgB (rows Z.1 (P0 Z.1) t)) (neR (rows Z.1 (P0 Z.1) t)) k))) (nI k)) (n := Z.1.1 0 3) ?_ ?_
      · refine vc_X11_longest_24 ?_
        rw [e4]
        exact ⟨fun _ => ⟨rfl, rfl, rfl⟩, fun z => absurd (nI_le (Nat.le_refl _) (by omega)) z⟩
      · intro k hk ih
        have es : I1 77 (t * 7 + k) = nI (cE ((rows Z.1 (P0 Z.1) t) k).1) := (hS.says ht hk).1
        have hl := (hS.cv (t := t) hk).1
        have hl6 := hl.1
        have hM : lgM (rows Z.1 (P0 Z.1) t) (chF (lgB (rows Z.1 (P0 Z.1) t)) (neR (rows Z.1 (P0 Z.1) t)) k) ≤ 7 := by
          cases hc : chF (lgB (rows Z.1 (P0 Z.1) t)) (neR (rows Z.1 (P0 Z.1) t)) k with
          | none => show 0 ≤ 7; decide
          | some c => have := (hS.cv (t := t) (p := c) (by have := chF_lt hc; omega)).1.1; show ((rows Z.1 (P0 Z.1) t) c).1.length ≤ 7; omega
        refine vc_X11_longest_24 ?_
        rw [e4]
        refine ⟨fun z => absurd z (nI_ge hk (by omega)), fun _ => ⟨_, ct_cell _ _, ?_⟩⟩
        rw [show nI t * 7 + nI k = nI (t * 7 + k) by simp (disch := omega) only [l_0, l_1, l_2, l_3, l_4, l_5, l_6, l_7, l_8, l_9, l_10, l_11, l_12, l_15, l_16, l_20, l_24, l_30, l_31, l_32, l_50, l_54, l_60, l_62, l_63, l_64, l_74, l_91, l_100, l_128, l_240, l_600, l_10000, l_m1, nI_leI, nI_ltI, u_eq, u_add, u_mul, u_cl, u_in_t, pk_sub, pk_div, nI_nm1, m1_nI, m1_lt, m1_le, nI_ltm, nI_lem, up2_s_, u_31, u_one3, u_shr3, u_and1, u_or, true_and, and_true], u_cl (n := t * 7 + k) (by omega), es]
        refine ⟨u_in (by omega) (by decide), _, ct_size hl, ?_⟩
        simp (disch := omega) only [l_0, l_1, l_2, l_3, l_4, l_5, l_6, l_7, l_8, l_9, l_10, l_11, l_12, l_15, l_16, l_20, l_24, l_30, l_31, l_32, l_50, l_54, l_60, l_62, l_63, l_64, l_74, l_91, l_100, l_128, l_240, l_600, l_10000, l_m1, nI_leI, nI_ltI, u_eq, u_add, u_mul, u_cl, u_in_t, pk_sub, pk_div, nI_nm1, m1_nI, m1_lt, m1_le, nI_ltm, nI_lem, up2_s_, u_31, u_one3, u_shr3, u_and1, u_or, true_and, and_true]
        by_cases q : ((rows Z.1 (P0 Z.1) t) k).1 = []
        · rw [chF_no (neR_f.mpr q)] at ih
          rw [q]
          exact ⟨fun _ => ih, fun z => absurd (Nat.zero_le _) z⟩
        · have hpos : 0 < ((rows Z.1 (P0 Z.1) t) k).1.length := List.length_pos_iff.mpr q
          cases hc : chF (lgB (rows Z.1 (P0 Z.1) t)) (neR (rows Z.1 (P0 Z.1) t)) k with
          | none =>
            rw [chF_0 (neR_t.mpr q) hc] at ih
            exact ⟨fun z => absurd z (by show ¬ ((rows Z.1 (P0 Z.1) t) k).1.length ≤ 0; omega), fun _ => ih⟩
          | some c =>
            rw [chF_1 (neR_t.mpr q) hc] at ih
            show (((rows Z.1 (P0 Z.1) t) k).1.length ≤ ((rows Z.1 (P0 Z.1) t) c).1.length → _) ∧ (¬ ((rows Z.1 (P0 Z.1) t) k).1.length ≤ ((rows Z.1 (P0 Z.1) t) c).1.length → _)
            refine ⟨fun z => ?_, fun z => ?_⟩
            · rw [if_neg (by unfold lgB; simp; omega)] at ih; exact ih
            · rw [if_pos (by unfold lgB; simp; omega)] at ih; exact ih
    · have hV := hr.1.2
      have h0 := hV.1.1
      have h3 := hV.1.2.2.2.1
      obtain ⟨t, ht, hx, h8⟩ := xHour hr.1.2 hh
      obtain ⟨I1, c1, hc1, hf1, -, -⟩ := ce_asksHour (L := L) hr.1.1 hr.1.2 x
      have hR : RM Z.1 I1 97 0 := RM_of (fun k => hf1 97 k (by omega)) hr.1.1
      have hS : SMo Z.1 (P0 Z.1) I1 := ⟨⟨hR, hV, PV_P0 hV⟩, hc1⟩
      refine ⟨I1, c0_X12_longest (vc_X12_longest_0 ⟨_, I1, c1, g0n hh ?_⟩), hf1⟩
      subst hx
      rw [u_cl (by omega)]
      refine ⟨spO (chF (lgB (rows Z.1 (P0 Z.1) t)) (neR (rows Z.1 (P0 Z.1) t)) (Z.1.1 0 3)), ?_, rfl, rfl, rfl⟩
      refine c0_X12_longestBy (vc_X12_longestBy_0 ?_)
      refine down (P := fun k => v_X12_longestBy_5 (some (.int (spO (chF (lgB (rows Z.1 (P0 Z.1) t)) (neR (rows Z.1 (P0 Z.1) t)) (Z.1.1 0 3))))) I1 L I1 L (nI t) (1) (spO (chF (lgB (rows Z.1 (P0 Z.1) t)) (neR (rows Z.1 (P0 Z.1) t)) k)) (nI k)) (n := Z.1.1 0 3) ?_ ?_
      · exact vc_X12_longestBy_5 ⟨_, ct_pews hR, fun _ => ⟨rfl, rfl, rfl⟩, fun z => absurd (nI_le (Nat.le_refl _) (by omega)) z⟩
      · intro k hk ih
        have hl := (hS.cv (t := t) hk).1
        have hl6 := hl.1
        have hml := hl.mlt
        refine vc_X12_longestBy_5 ⟨_, ct_pews hR, fun z => absurd z (nI_ge hk (by omega)), fun _ => ⟨_, mq_says hS ht hk, ?_⟩⟩
        rw [u_0 (by omega), mE_0 hl.ge1, nI_1]
        refine ⟨fun z => ?_, fun q => ?_⟩
        · rw [chF_no (neR_f.mpr z)] at ih; exact ih
        · cases hc : chF (lgB (rows Z.1 (P0 Z.1) t)) (neR (rows Z.1 (P0 Z.1) t)) k with
          | none =>
            rw [chF_0 (neR_t.mpr q) hc] at ih
            exact ⟨fun _ => ih, fun z => absurd rfl z⟩
          | some c =>
            rw [chF_1 (neR_t.mpr q) hc] at ih
            have hcl := chF_lt hc
            have hcs := (hS.cv (t := t) (p := c) (by omega)).1
            have hc6 := hcs.1
            refine ⟨fun z => ((nI_nm1 (n := c) (by omega)).mp z).elim, fun _ => ⟨_, mq_says hS ht hk, _, ct_longOf hl, _, mq_says hS ht (p := c) (by omega), _, ct_longOf hcs, ?_⟩⟩
            rw [one_mul32, one_mul32, nI_leI (by omega) (by omega)]
            refine ⟨fun z => ?_, fun z => ?_⟩
            · rw [if_neg (by unfold lgB; simp; omega)] at ih; exact ih
            · rw [if_pos (by unfold lgB; simp; omega)] at ih; exact ih
theorem q_shortest (Z : St) (x : Int32) : ∃ v, Q2 Z Z kX11_shortest kX12_shortest [.int x] (.int v) := by
  by_cases hh : bh Z.1 x
  · refine ⟨-2, QC_q fun I L hr => ⟨I, c0_X11_shortest (vc_X11_shortest_0 ⟨_, ct_noHour hr.1.1.1 hr.1.1.2 x, g1p hh ⟨rfl, rfl, rfl⟩⟩), Fq.rf, hr.2.1, hr.2.2⟩, QM_q fun I L hr => ?_⟩
    obtain ⟨I1, c1, hc1, hf1, -, -⟩ := ce_asksHour (L := L) hr.1.1 hr.1.2 x
    exact ⟨I1, c0_X12_shortest (vc_X12_shortest_0 ⟨_, I1, c1, g0p hh ⟨rfl, rfl, rfl⟩⟩), hf1⟩
  · refine ⟨(fun t : Nat => spO (chF (shB (rows Z.1 (P0 Z.1) t)) (neR (rows Z.1 (P0 Z.1) t)) (Z.1.1 0 3))) x.toNatClampNeg, QC_q fun I L hr => ?_, QM_q fun I L hr => ?_⟩
    · have hV := hr.1.1.2
      have h0 := hV.1.1
      have h3 := hV.1.2.2.2.1
      obtain ⟨t, ht, hx, h8⟩ := xHour hr.1.1.2 hh
      obtain ⟨I1, c1, hf1, hs1, hse, hw⟩ := ce_settled hr
      have hR := (Bc_of hf1 hr.1).1.1
      have hS : SCo Z.1 (P0 Z.1) 75 I1 := ⟨⟨hR, hV, PV_P0 hV⟩, hs1.1, hs1.2⟩
      refine ⟨I1, c0_X11_shortest (vc_X11_shortest_0 ⟨_, ct_noHour hr.1.1.1 hr.1.1.2 x, g1n hh ⟨I1, c1, ?_⟩⟩), hf1, hse, hw⟩
      subst hx
      rw [u_cl (by omega)]
      have e4 : I1 12 4 = nI (Z.1.1 0 3) := hR.1.2.2.2.2.1
      refine down (P := fun k => v_X11_shortest_25 (some (.int (spO (chF (shB (rows Z.1 (P0 Z.1) t)) (neR (rows Z.1 (P0 Z.1) t)) (Z.1.1 0 3))))) I1 L I1 L (nI t) (spO (chF (shB (rows Z.1 (P0 Z.1) t)) (neR (rows Z.1 (P0 Z.1) t)) k)) (nI (shM (rows Z.1 (P0 Z.1) t) (chF (shB (rows Z.1 (P0 Z.1) t)) (neR (rows Z.1 (P0 Z.1) t)) k))) (nI k)) (n := Z.1.1 0 3) ?_ ?_
      · refine vc_X11_shortest_25 ?_
        rw [e4]
        exact ⟨fun _ => ⟨rfl, rfl, rfl⟩, fun z => absurd (nI_le (Nat.le_refl _) (by omega)) z⟩
      · intro k hk ih
        have es : I1 77 (t * 7 + k) = nI (cE ((rows Z.1 (P0 Z.1) t) k).1) := (hS.says ht hk).1
        have hl := (hS.cv (t := t) hk).1
        have hl6 := hl.1
        have hM : shM (rows Z.1 (P0 Z.1) t) (chF (shB (rows Z.1 (P0 Z.1) t)) (neR (rows Z.1 (P0 Z.1) t)) k) ≤ 7 := by
          cases hc : chF (shB (rows Z.1 (P0 Z.1) t)) (neR (rows Z.1 (P0 Z.1) t)) k with
          | none => show 7 ≤ 7; decide
          | some c => have := (hS.cv (t := t) (p := c) (by have := chF_lt hc; omega)).1.1; show ((rows Z.1 (P0 Z.1) t) c).1.length ≤ 7; omega
        refine vc_X11_shortest_25 ?_
        rw [e4]
        refine ⟨fun z => absurd z (nI_ge hk (by omega)), fun _ => ⟨_, ct_cell _ _, ?_⟩⟩
        rw [show nI t * 7 + nI k = nI (t * 7 + k) by simp (disch := omega) only [l_0, l_1, l_2, l_3, l_4, l_5, l_6, l_7, l_8, l_9, l_10, l_11, l_12, l_15, l_16, l_20, l_24, l_30, l_31, l_32, l_50, l_54, l_60, l_62, l_63, l_64, l_74, l_91, l_100, l_128, l_240, l_600, l_10000, l_m1, nI_leI, nI_ltI, u_eq, u_add, u_mul, u_cl, u_in_t, pk_sub, pk_div, nI_nm1, m1_nI, m1_lt, m1_le, nI_ltm, nI_lem, up2_s_, u_31, u_one3, u_shr3, u_and1, u_or, true_and, and_true], u_cl (n := t * 7 + k) (by omega), es]
        refine ⟨u_in (by omega) (by decide), _, ct_size hl, ?_⟩
        simp (disch := omega) only [l_0, l_1, l_2, l_3, l_4, l_5, l_6, l_7, l_8, l_9, l_10, l_11, l_12, l_15, l_16, l_20, l_24, l_30, l_31, l_32, l_50, l_54, l_60, l_62, l_63, l_64, l_74, l_91, l_100, l_128, l_240, l_600, l_10000, l_m1, nI_leI, nI_ltI, u_eq, u_add, u_mul, u_cl, u_in_t, pk_sub, pk_div, nI_nm1, m1_nI, m1_lt, m1_le, nI_ltm, nI_lem, up2_s_, u_31, u_one3, u_shr3, u_and1, u_or, true_and, and_true]
        by_cases q : ((rows Z.1 (P0 Z.1) t) k).1 = []
        · rw [chF_no (neR_f.mpr q)] at ih
          rw [q]
          exact ⟨fun _ => ih, fun z => absurd (Nat.zero_le _) z⟩
        · have hpos : 0 < ((rows Z.1 (P0 Z.1) t) k).1.length := List.length_pos_iff.mpr q
          refine ⟨fun z => by omega, fun _ => ?_⟩
          cases hc : chF (shB (rows Z.1 (P0 Z.1) t)) (neR (rows Z.1 (P0 Z.1) t)) k with
          | none =>
            rw [chF_0 (neR_t.mpr q) hc] at ih
            exact ⟨fun z => absurd z (by show ¬ 7 ≤ ((rows Z.1 (P0 Z.1) t) k).1.length; omega), fun _ => ih⟩
          | some c =>
            rw [chF_1 (neR_t.mpr q) hc] at ih
            show (((rows Z.1 (P0 Z.1) t) c).1.length ≤ ((rows Z.1 (P0 Z.1) t) k).1.length → _) ∧ (¬ ((rows Z.1 (P0 Z.1) t) c).1.length ≤ ((rows Z.1 (P0 Z.1) t) k).1.length → _)
            refine ⟨fun z => ?_, fun z => ?_⟩
            · rw [if_neg (by unfold shB; simp; omega)] at ih; exact ih
            · rw [if_pos (by unfold shB; simp; omega)] at ih; exact ih
    · have hV := hr.1.2
      have h0 := hV.1.1
      have h3 := hV.1.2.2.2.1
      obtain ⟨t, ht, hx, h8⟩ := xHour hr.1.2 hh
      obtain ⟨I1, c1, hc1, hf1, -, -⟩ := ce_asksHour (L := L) hr.1.1 hr.1.2 x
      have hR : RM Z.1 I1 97 0 := RM_of (fun k => hf1 97 k (by omega)) hr.1.1
      have hS : SMo Z.1 (P0 Z.1) I1 := ⟨⟨hR, hV, PV_P0 hV⟩, hc1⟩
      refine ⟨I1, c0_X12_shortest (vc_X12_shortest_0 ⟨_, I1, c1, g0n hh ?_⟩), hf1⟩
      subst hx
      rw [u_cl (by omega)]
      refine ⟨spO (chF (shB (rows Z.1 (P0 Z.1) t)) (neR (rows Z.1 (P0 Z.1) t)) (Z.1.1 0 3)), ?_, rfl, rfl, rfl⟩
      refine c0_X12_longestBy (vc_X12_longestBy_0 ?_)
      refine down (P := fun k => v_X12_longestBy_5 (some (.int (spO (chF (shB (rows Z.1 (P0 Z.1) t)) (neR (rows Z.1 (P0 Z.1) t)) (Z.1.1 0 3))))) I1 L I1 L (nI t) (-1) (spO (chF (shB (rows Z.1 (P0 Z.1) t)) (neR (rows Z.1 (P0 Z.1) t)) k)) (nI k)) (n := Z.1.1 0 3) ?_ ?_
      · exact vc_X12_longestBy_5 ⟨_, ct_pews hR, fun _ => ⟨rfl, rfl, rfl⟩, fun z => absurd (nI_le (Nat.le_refl _) (by omega)) z⟩
      · intro k hk ih
        have hl := (hS.cv (t := t) hk).1
        have hl6 := hl.1
        have hml := hl.mlt
        refine vc_X12_longestBy_5 ⟨_, ct_pews hR, fun z => absurd z (nI_ge hk (by omega)), fun _ => ⟨_, mq_says hS ht hk, ?_⟩⟩
        rw [u_0 (by omega), mE_0 hl.ge1, nI_1]
        refine ⟨fun z => ?_, fun q => ?_⟩
        · rw [chF_no (neR_f.mpr z)] at ih; exact ih
        · cases hc : chF (shB (rows Z.1 (P0 Z.1) t)) (neR (rows Z.1 (P0 Z.1) t)) k with
          | none =>
            rw [chF_0 (neR_t.mpr q) hc] at ih
            exact ⟨fun _ => ih, fun z => absurd rfl z⟩
          | some c =>
            rw [chF_1 (neR_t.mpr q) hc] at ih
            have hcl := chF_lt hc
            have hcs := (hS.cv (t := t) (p := c) (by omega)).1
            have hc6 := hcs.1
            refine ⟨fun z => ((nI_nm1 (n := c) (by omega)).mp z).elim, fun _ => ⟨_, mq_says hS ht hk, _, ct_longOf hl, _, mq_says hS ht (p := c) (by omega), _, ct_longOf hcs, ?_⟩⟩
            rw [neg_le (by omega) (by omega)]
            refine ⟨fun z => ?_, fun z => ?_⟩
            · rw [if_neg (by unfold shB; simp; omega)] at ih; exact ih
            · rw [if_pos (by unfold shB; simp; omega)] at ih; exact ih
def tauF (A : Nt) (P : Pm) (p : Nat) : Nat → Nat
  | 0 => 0
  | t + 1 => tauF A P p t ||| setF (fun o => decide ((rows A P t o).2.1 = (p : Int))) (A.1 0 3)
theorem q_taught (Z : St) (x : Int32) : ∃ v, Q2 Z Z kX11_taught kX12_taught [.int x] (.int v) := by
  by_cases hh : bp Z.1 x
  · refine ⟨-2, QC_q fun I L hr => ⟨I, c0_X11_taught (vc_X11_taught_0 ⟨_, ct_noPew hr.1.1.1 x, g1p hh ⟨rfl, rfl, rfl⟩⟩), Fq.rf, hr.2.1, hr.2.2⟩, QM_q fun I L hr => ?_⟩
    obtain ⟨I1, c1, hc1, hf1, -, -⟩ := ce_asksPew (L := L) hr.1.1 hr.1.2 x
    exact ⟨I1, c0_X12_taught (vc_X12_taught_0 ⟨_, I1, c1, g0p hh ⟨rfl, rfl, rfl⟩⟩), hf1⟩
  · refine ⟨(fun p : Nat => nI (tauF Z.1 (P0 Z.1) p (Z.1.1 0 0 + 1))) x.toNatClampNeg, QC_q fun I L hr => ?_, QM_q fun I L hr => ?_⟩
    · have hV := hr.1.1.2
      have h0 := hV.1.1
      have h3 := hV.1.2.2.2.1
      obtain ⟨p, hp, hx⟩ := xPew hr.1.1.2 hh
      obtain ⟨I1, c1, hf1, hs1, hse, hw⟩ := ce_settled hr
      have hR := (Bc_of hf1 hr.1).1.1
      have hS : SCo Z.1 (P0 Z.1) 75 I1 := ⟨⟨hR, hV, PV_P0 hV⟩, hs1.1, hs1.2⟩
      have e1 : I1 12 1 = nI (Z.1.1 0 0) := hR.1.2.1
      have e4 : I1 12 4 = nI (Z.1.1 0 3) := hR.1.2.2.2.2.1
      refine ⟨I1, c0_X11_taught (vc_X11_taught_0 ⟨_, ct_noPew hr.1.1.1 x, g1n hh ⟨I1, c1, ?_⟩⟩), hf1, hse, hw⟩
      subst hx
      rw [u_cl (by omega)]
      refine down (P := fun t => v_X11_taught_21 (some (.int (nI (tauF Z.1 (P0 Z.1) p (Z.1.1 0 0 + 1))))) I1 L I1 L (nI p) (nI (tauF Z.1 (P0 Z.1) p t)) (nI t)) (n := Z.1.1 0 0 + 1) ?_ ?_
      · refine vc_X11_taught_21 ?_
        rw [e1]
        exact ⟨fun _ => ⟨rfl, rfl, rfl⟩, fun z => absurd (nI_lt (Nat.lt_succ_self _) (by omega)) z⟩
      · intro t ht ih
        refine vc_X11_taught_21 ?_
        rw [e1]
        refine ⟨fun z => absurd z (nI_nlt (by omega) (by omega)), fun _ => ?_⟩
        have h := down (P := fun k => v_X11_taught_36 (some (.int (nI (tauF Z.1 (P0 Z.1) p (Z.1.1 0 0 + 1))))) I1 L I1 L (nI p) (nI (tauF Z.1 (P0 Z.1) p t ||| setF (fun o => decide ((rows Z.1 (P0 Z.1) t o).2.1 = (p : Int))) k)) (nI t) (nI k)) (n := Z.1.1 0 3) ?_ ?_
        · rw [show tauF Z.1 (P0 Z.1) p t ||| setF (fun o => decide ((rows Z.1 (P0 Z.1) t o).2.1 = (p : Int))) 0 = tauF Z.1 (P0 Z.1) p t from Nat.or_zero _] at h
          exact h
        · refine vc_X11_taught_36 ?_
          rw [e4, nI_1]
          exact ⟨fun _ => ih, fun z => absurd (nI_le (Nat.le_refl _) (by omega)) z⟩
        · intro k hk ih2
          have hv := hS.cv (t := t) hk
          have hrg : -1 ≤ (rows Z.1 (P0 Z.1) t k).2.1 ∧ (rows Z.1 (P0 Z.1) t k).2.1 ≤ 7 := by
            by_cases q : (rows Z.1 (P0 Z.1) t k).1 = []
            · rw [hv.2.1 q]; exact ⟨by decide, by decide⟩
            · have := (hv.2.2 q).1; omega
          have es : I1 78 (t * 7 + k) = iI (rows Z.1 (P0 Z.1) t k).2.1 := (hS.says (by omega) hk).2.1
          have ei : iI (rows Z.1 (P0 Z.1) t k).2.1 = nI p ↔ (rows Z.1 (P0 Z.1) t k).2.1 = (p : Int) := by rw [← iI_n, iI_eq (by omega) (by omega)]
          refine vc_X11_taught_36 ?_
          rw [e4]
          refine ⟨fun z => absurd z (nI_ge hk (by omega)), fun _ => ⟨_, ct_cell _ _, ?_⟩⟩
          simp (disch := omega) only [l_0, l_1, l_2, l_3, l_4, l_5, l_6, l_7, l_8, l_9, l_10, l_11, l_12, l_15, l_16, l_20, l_24, l_30, l_31, l_32, l_50, l_54, l_60, l_62, l_63, l_64, l_74, l_91, l_100, l_128, l_240, l_600, l_10000, l_m1, nI_leI, nI_ltI, u_eq, u_add, u_mul, u_cl, u_in_t, pk_sub, pk_div, nI_nm1, m1_nI, m1_lt, m1_le, nI_ltm, nI_lem, up2_s_, u_31, u_one3, u_shr3, u_and1, u_or, true_and, and_true, es, ei]
          refine ⟨fun z => ?_, fun z => ?_⟩
          · rw [setF_y (k := k) (by simpa using z), ← Nat.or_assoc] at ih2; exact ih2
          · rw [setF_n (k := k) (by simpa using z)] at ih2; exact ih2
    · have hV := hr.1.2
      have h0 := hV.1.1
      have h3 := hV.1.2.2.2.1
      obtain ⟨p, hp, hx⟩ := xPew hr.1.2 hh
      obtain ⟨I1, c1, hc1, hf1, -, -⟩ := ce_asksPew (L := L) hr.1.1 hr.1.2 x
      have hR : RM Z.1 I1 97 0 := RM_of (fun k => hf1 97 k (by omega)) hr.1.1
      have hS : SMo Z.1 (P0 Z.1) I1 := ⟨⟨hR, hV, PV_P0 hV⟩, hc1⟩
      refine ⟨I1, c0_X12_taught (vc_X12_taught_0 ⟨_, I1, c1, g0n hh ?_⟩), hf1⟩
      subst hx
      rw [u_cl (by omega)]
      refine down (P := fun t => v_X12_taught_15 (some (.int (nI (tauF Z.1 (P0 Z.1) p (Z.1.1 0 0 + 1))))) I1 L I1 L (nI p) (nI (tauF Z.1 (P0 Z.1) p t)) (nI t)) (n := Z.1.1 0 0 + 1) ?_ ?_
      · exact vc_X12_taught_15 ⟨_, ct_hours hR, fun _ => ⟨rfl, rfl, rfl⟩, fun z => absurd (nI_lt (Nat.lt_succ_self _) (by omega)) z⟩
      · intro t ht ih
        refine vc_X12_taught_15 ⟨_, ct_hours hR, fun z => absurd z (nI_nlt (by omega) (by omega)), fun _ => ?_⟩
        have h := down (P := fun k => v_X12_taught_26 (some (.int (nI (tauF Z.1 (P0 Z.1) p (Z.1.1 0 0 + 1))))) I1 L I1 L (nI p) (nI (tauF Z.1 (P0 Z.1) p t ||| setF (fun o => decide ((rows Z.1 (P0 Z.1) t o).2.1 = (p : Int))) k)) (nI t) (nI k)) (n := Z.1.1 0 3) ?_ ?_
        · rw [show tauF Z.1 (P0 Z.1) p t ||| setF (fun o => decide ((rows Z.1 (P0 Z.1) t o).2.1 = (p : Int))) 0 = tauF Z.1 (P0 Z.1) p t from Nat.or_zero _] at h
          exact h
        · refine vc_X12_taught_26 ⟨_, ct_pews hR, fun _ => ?_, fun z => absurd (nI_le (Nat.le_refl _) (by omega)) z⟩
          rw [nI_1]
          exact ih
        · intro k hk ih2
          have hv := hS.cv (t := t) hk
          have hrg : -1 ≤ (rows Z.1 (P0 Z.1) t k).2.1 ∧ (rows Z.1 (P0 Z.1) t k).2.1 ≤ 7 := by
            by_cases q : (rows Z.1 (P0 Z.1) t k).1 = []
            · rw [hv.2.1 q]; exact ⟨by decide, by decide⟩
            · have := (hv.2.2 q).1; omega
          have es : I1 104 (7 * t + k) = iI (rows Z.1 (P0 Z.1) t k).2.1 := (hS.says (by omega) hk).2.1
          have ei : iI (rows Z.1 (P0 Z.1) t k).2.1 = nI p ↔ (rows Z.1 (P0 Z.1) t k).2.1 = (p : Int) := by rw [← iI_n, iI_eq (by omega) (by omega)]
          refine vc_X12_taught_26 ⟨_, ct_pews hR, fun z => absurd z (nI_ge hk (by omega)), fun _ => ?_⟩
          simp (disch := omega) only [l_0, l_1, l_2, l_3, l_4, l_5, l_6, l_7, l_8, l_9, l_10, l_11, l_12, l_15, l_16, l_20, l_24, l_30, l_31, l_32, l_50, l_54, l_60, l_62, l_63, l_64, l_74, l_91, l_100, l_128, l_240, l_600, l_10000, l_m1, nI_leI, nI_ltI, u_eq, u_add, u_mul, u_cl, u_in_t, pk_sub, pk_div, nI_nm1, m1_nI, m1_lt, m1_le, nI_ltm, nI_lem, up2_s_, u_31, u_one3, u_shr3, u_and1, u_or, true_and, and_true, es, ei]
          refine ⟨fun z => ?_, fun z => ?_⟩
          · rw [setF_y (k := k) (by simpa using z), ← Nat.or_assoc] at ih2; exact ih2
          · rw [setF_n0 (k := k) (by simpa using z), ← Nat.or_assoc] at ih2; exact ih2
def dpF (r : Rw) (b : Int32) : Nat → Int32
  | 0 => b
  | k + 1 => if dpF r b k < iI (r k).2.2.2 then iI (r k).2.2.2 else dpF r b k
def dpA (A : Nt) (P : Pm) : Nat → Int32
  | 0 => -1
  | t + 1 => dpF (rows A P t) (dpA A P t) (A.1 0 3)
theorem q_deepest (Z : St) : ∃ v, Q2 Z Z kX11_deepest kX12_deepest [] (.int v) := by
  by_cases hh : Z.1.1 0 8 = 0
  · refine ⟨-2, QC_q fun I L hr => ⟨I, c0_X11_deepest (vc_X11_deepest_0 ⟨_, ct_noNight hr.1.1.1 hr.1.1.2, g1p hh ⟨rfl, rfl, rfl⟩⟩), Fq.rf, hr.2.1, hr.2.2⟩, QM_q fun I L hr => ?_⟩
    obtain ⟨I1, c1, hc1, hf1, -, -⟩ := ce_asksNight (L := L) hr.1.1 hr.1.2
    exact ⟨I1, c0_X12_deepest (vc_X12_deepest_0 ⟨_, I1, c1, g0p hh ⟨rfl, rfl, rfl⟩⟩), hf1⟩
  · refine ⟨dpA Z.1 (P0 Z.1) (Z.1.1 0 0 + 1), QC_q fun I L hr => ?_, QM_q fun I L hr => ?_⟩
    · have hV := hr.1.1.2
      have h0 := hV.1.1
      have h3 := hV.1.2.2.2.1
      obtain ⟨I1, c1, hf1, hs1, hse, hw⟩ := ce_settled hr
      have hR := (Bc_of hf1 hr.1).1.1
      have hS : SCo Z.1 (P0 Z.1) 75 I1 := ⟨⟨hR, hV, PV_P0 hV⟩, hs1.1, hs1.2⟩
      have e1 : I1 12 1 = nI (Z.1.1 0 0) := hR.1.2.1
      have e4 : I1 12 4 = nI (Z.1.1 0 3) := hR.1.2.2.2.2.1
      refine ⟨I1, c0_X11_deepest (vc_X11_deepest_0 ⟨_, ct_noNight hr.1.1.1 hr.1.1.2, g1n hh ⟨I1, c1, ?_⟩⟩), hf1, hse, hw⟩
      refine down (P := fun t => v_X11_deepest_19 (some (.int (dpA Z.1 (P0 Z.1) (Z.1.1 0 0 + 1)))) I1 L I1 L (dpA Z.1 (P0 Z.1) t) (nI t)) (n := Z.1.1 0 0 + 1) ?_ ?_
      · refine vc_X11_deepest_19 ?_
        rw [e1]
        exact ⟨fun _ => ⟨rfl, rfl, rfl⟩, fun z => absurd (nI_lt (Nat.lt_succ_self _) (by omega)) z⟩
      · intro t ht ih
        refine vc_X11_deepest_19 ?_
        rw [e1]
        refine ⟨fun z => absurd z (nI_nlt (by omega) (by omega)), fun _ => ?_⟩
        refine down (P := fun k => v_X11_deepest_33 (some (.int (dpA Z.1 (P0 Z.1) (Z.1.1 0 0 + 1)))) I1 L I1 L (dpF (rows Z.1 (P0 Z.1) t) (dpA Z.1 (P0 Z.1) t) k) (nI t) (nI k)) (n := Z.1.1 0 3) ?_ ?_
        · refine vc_X11_deepest_33 ?_
          rw [e4, nI_1]
          exact ⟨fun _ => ih, fun z => absurd (nI_le (Nat.le_refl _) (by omega)) z⟩
        · intro k hk ih2
          have es : I1 80 (t * 7 + k) = iI (rows Z.1 (P0 Z.1) t k).2.2.2 := (hS.says (by omega) hk).2.2.2
          refine vc_X11_deepest_33 ?_
          rw [e4]
          refine ⟨fun z => absurd z (nI_ge hk (by omega)), fun _ => ⟨_, ct_cell _ _, ?_⟩⟩
          simp (disch := omega) only [l_0, l_1, l_2, l_3, l_4, l_5, l_6, l_7, l_8, l_9, l_10, l_11, l_12, l_15, l_16, l_20, l_24, l_30, l_31, l_32, l_50, l_54, l_60, l_62, l_63, l_64, l_74, l_91, l_100, l_128, l_240, l_600, l_10000, l_m1, nI_leI, nI_ltI, u_eq, u_add, u_mul, u_cl, u_in_t, pk_sub, pk_div, nI_nm1, m1_nI, m1_lt, m1_le, nI_ltm, nI_lem, up2_s_, u_31, u_one3, u_shr3, u_and1, u_or, true_and, and_true, es]
          intro z2 hz2
          rw [hz2]
          exact ih2
    · have hV := hr.1.2
      have h0 := hV.1.1
      have h3 := hV.1.2.2.2.1
      obtain ⟨I1, c1, hc1, hf1, -, -⟩ := ce_asksNight (L := L) hr.1.1 hr.1.2
      have hR : RM Z.1 I1 97 0 := RM_of (fun k => hf1 97 k (by omega)) hr.1.1
      have hS : SMo Z.1 (P0 Z.1) I1 := ⟨⟨hR, hV, PV_P0 hV⟩, hc1⟩
      refine ⟨I1, c0_X12_deepest (vc_X12_deepest_0 ⟨_, I1, c1, g0n hh ?_⟩), hf1⟩
      refine down (P := fun t => v_X12_deepest_14 (some (.int (dpA Z.1 (P0 Z.1) (Z.1.1 0 0 + 1)))) I1 L I1 L (dpA Z.1 (P0 Z.1) t) (nI t)) (n := Z.1.1 0 0 + 1) ?_ ?_
      · exact vc_X12_deepest_14 ⟨_, ct_hours hR, fun _ => ⟨rfl, rfl, rfl⟩, fun z => absurd (nI_lt (Nat.lt_succ_self _) (by omega)) z⟩
      · intro t ht ih
        refine vc_X12_deepest_14 ⟨_, ct_hours hR, fun z => absurd z (nI_nlt (by omega) (by omega)), fun _ => ?_⟩
        refine down (P := fun k => v_X12_deepest_24 (some (.int (dpA Z.1 (P0 Z.1) (Z.1.1 0 0 + 1)))) I1 L I1 L (dpF (rows Z.1 (P0 Z.1) t) (dpA Z.1 (P0 Z.1) t) k) (nI t) (nI k)) (n := Z.1.1 0 3) ?_ ?_
        · refine vc_X12_deepest_24 ⟨_, ct_pews hR, fun _ => ?_, fun z => absurd (nI_le (Nat.le_refl _) (by omega)) z⟩
          rw [nI_1]
          exact ih
        · intro k hk ih2
          have es : I1 106 (7 * t + k) = iI (rows Z.1 (P0 Z.1) t k).2.2.2 := (hS.says (by omega) hk).2.2.2
          refine vc_X12_deepest_24 ⟨_, ct_pews hR, fun z => absurd z (nI_ge hk (by omega)), fun _ => ?_⟩
          simp (disch := omega) only [l_0, l_1, l_2, l_3, l_4, l_5, l_6, l_7, l_8, l_9, l_10, l_11, l_12, l_15, l_16, l_20, l_24, l_30, l_31, l_32, l_50, l_54, l_60, l_62, l_63, l_64, l_74, l_91, l_100, l_128, l_240, l_600, l_10000, l_m1, nI_leI, nI_ltI, u_eq, u_add, u_mul, u_cl, u_in_t, pk_sub, pk_div, nI_nm1, m1_nI, m1_lt, m1_le, nI_ltm, nI_lem, up2_s_, u_31, u_one3, u_shr3, u_and1, u_or, true_and, and_true, es]
          intro z2 hz2
          rw [hz2]
          exact ih2
theorem x0 {x : Int32} (h : 0 ≤ x) : x = nI x.toNatClampNeg ∧ x.toNatClampNeg < 2147483648 := by
  have hr := t_rng x
  rw [t_le, show (0 : Int32).toInt = 0 from rfl] at h
  have e : (x.toNatClampNeg : Int) = x.toInt := by
    show ((x.toInt.toNat : Nat) : Int) = _
    omega
  refine ⟨?_, by omega⟩
  rw [t_eq, t_n (by omega)]
  omega
def letN (l : List Nat) (x : Int32) : Int32 := if ¬ x < 0 ∧ x.toNatClampNeg < l.length then nI (l.getD x.toNatClampNeg 0) else -1
theorem ct_letC {I : Nat → Nat → Int32} {L : Nat → Nat → Int64} {l : List Nat} (h : Sg l) (x : Int32) : q_C kX11_letterOrNone [.int (nI (cE l)), .int x] I L (some (.int (letN l x))) I L := ct_letterOrNoneC h x
theorem ct_letM {I : Nat → Nat → Int32} {L : Nat → Nat → Int64} {l : List Nat} (h : Sg l) {x : Int32} (hx : 0 ≤ x) : q_C kX12_letterOrNone [.int (nI (mE l)), .int x] I L (some (.int (letN l x))) I L := by
  obtain ⟨e, hlt⟩ := x0 hx
  have c := ct_letterOrNone (I := I) (L := L) h (i := x.toNatClampNeg) hlt
  rw [← e] at c
  unfold letN
  have hn : ¬ x < 0 := Int32.not_lt.mpr hx
  by_cases q : x.toNatClampNeg < l.length
  · rw [if_pos ⟨hn, q⟩]; rw [if_pos q] at c; exact c
  · rw [if_neg (fun z => q z.2)]; rw [if_neg q] at c; exact c
theorem q_says (Z : St) (x y i : Int32) : ∃ v, Q2 Z Z kX11_says kX12_says [.int x, .int y, .int i] (.int v) := by
  by_cases hh : bp Z.1 x ∨ bh Z.1 y ∨ ¬ 0 ≤ i
  · refine ⟨-2, QC_q fun I L hr => ⟨I, c0_X11_says (vc_X11_says_0 ⟨_, ct_noPew hr.1.1.1 x, ?_⟩), Fq.rf, hr.2.1, hr.2.2⟩, QM_q fun I L hr => ?_⟩
    · by_cases h1 : bp Z.1 x
      · exact g1p h1 ⟨rfl, rfl, rfl⟩
      · refine g1n h1 ⟨_, ct_noHour hr.1.1.1 hr.1.1.2 y, ?_⟩
        by_cases h2 : bh Z.1 y
        · exact g1p h2 ⟨rfl, rfl, rfl⟩
        · exact g1n h2 ⟨fun z => absurd z ((hh.resolve_left h1).resolve_left h2), fun _ => ⟨rfl, rfl, rfl⟩⟩
    · obtain ⟨I1, c1, hc1, hf1, -, -⟩ := ce_asksHour (L := L) hr.1.1 hr.1.2 y
      have hR : RM Z.1 I1 97 0 := RM_of (fun k => hf1 97 k (by omega)) hr.1.1
      refine ⟨I1, c0_X12_says (vc_X12_says_0 ⟨_, I1, c1, ?_⟩), hf1⟩
      by_cases h2 : bh Z.1 y
      · exact g0p h2 ⟨rfl, rfl, rfl⟩
      · refine g0n h2 ⟨_, ct_isPew hR hr.1.2 x, ?_⟩
        by_cases h1 : bp Z.1 x
        · exact g0p h1 ⟨rfl, rfl, rfl⟩
        · exact g0n h1 ⟨fun z => absurd z ((hh.resolve_left h1).resolve_left h2), fun _ => ⟨rfl, rfl, rfl⟩⟩
  · have hp' : ¬ bp Z.1 x := fun z => hh (Or.inl z)
    have hh' : ¬ bh Z.1 y := fun z => hh (Or.inr (Or.inl z))
    have hi : 0 ≤ i := by
      by_cases q : 0 ≤ i
      · exact q
      · exact absurd (Or.inr (Or.inr q)) hh
    refine ⟨letN (rows Z.1 (P0 Z.1) y.toNatClampNeg x.toNatClampNeg).1 i, QC_q fun I L hr => ?_, QM_q fun I L hr => ?_⟩
    · have hV := hr.1.1.2
      have h0 := hV.1.1
      have h3 := hV.1.2.2.2.1
      obtain ⟨p, hp, hx⟩ := xPew hV hp'
      obtain ⟨t, ht, hy, h8⟩ := xHour hV hh'
      obtain ⟨I1, c1, hf1, hs1, hse, hw⟩ := ce_settled hr
      have hR := (Bc_of hf1 hr.1).1.1
      have hS : SCo Z.1 (P0 Z.1) 75 I1 := ⟨⟨hR, hV, PV_P0 hV⟩, hs1.1, hs1.2⟩
      refine ⟨I1, c0_X11_says (vc_X11_says_0 ⟨_, ct_noPew hr.1.1.1 x, g1n hp' ⟨_, ct_noHour hr.1.1.1 hV y, g1n hh' ⟨fun _ => ⟨I1, c1, ?_⟩, fun z => absurd hi z⟩⟩⟩), hf1, hse, hw⟩
      subst hx
      subst hy
      rw [u_cl (n := p) (by omega), u_cl (n := t) (by omega)]
      refine ⟨_, ct_cell _ _, ?_⟩
      rw [show nI t * 7 + nI p = nI (t * 7 + p) by simp (disch := omega) only [l_0, l_1, l_2, l_3, l_4, l_5, l_6, l_7, l_8, l_9, l_10, l_11, l_12, l_15, l_16, l_20, l_24, l_30, l_31, l_32, l_50, l_54, l_60, l_62, l_63, l_64, l_74, l_91, l_100, l_128, l_240, l_600, l_10000, l_m1, nI_leI, nI_ltI, u_eq, u_add, u_mul, u_cl, u_in_t, pk_sub, pk_div, nI_nm1, m1_nI, m1_lt, m1_le, nI_ltm, nI_lem, up2_s_, u_31, u_one3, u_shr3, u_and1, u_or, true_and, and_true], u_cl (n := t * 7 + p) (by omega)]
      have e : I1 77 (t * 7 + p) = _ := (hS.says ht hp).1
      rw [e]
      exact ⟨u_in (by omega) (by decide), _, ct_letC (hS.cv hp).1 i, rfl, rfl, rfl⟩
    · have hV := hr.1.2
      have h0 := hV.1.1
      have h3 := hV.1.2.2.2.1
      obtain ⟨p, hp, hx⟩ := xPew hV hp'
      obtain ⟨t, ht, hy, h8⟩ := xHour hV hh'
      obtain ⟨I1, c1, hc1, hf1, -, -⟩ := ce_asksHour (L := L) hr.1.1 hr.1.2 y
      have hR : RM Z.1 I1 97 0 := RM_of (fun k => hf1 97 k (by omega)) hr.1.1
      have hS : SMo Z.1 (P0 Z.1) I1 := ⟨⟨hR, hV, PV_P0 hV⟩, hc1⟩
      refine ⟨I1, c0_X12_says (vc_X12_says_0 ⟨_, I1, c1, g0n hh' ⟨_, ct_isPew hR hV x, g0n hp' ⟨fun _ => ?_, fun z => absurd hi z⟩⟩⟩), hf1⟩
      subst hx
      subst hy
      rw [u_cl (n := p) (by omega), u_cl (n := t) (by omega)]
      exact ⟨_, mq_says hS ht hp, _, ct_letM (hS.cv hp).1 hi, rfl, rfl, rfl⟩
