/-! WHAT CALLS ASK OF A COURSE. -/
def setF (f : Nat → Bool) : Nat → Nat
  | 0 => 0
  | k + 1 => setF f k ||| (if f k = true then 2 ^ k else 0)
theorem setF_lt (f : Nat → Bool) : ∀ {n : Nat}, n ≤ 7 → setF f n < 128
  | 0, _ => by show 0 < 128; decide
  | n + 1, h => by
    show setF f n ||| (if f n = true then 2 ^ n else 0) < 2 ^ 7
    apply Nat.or_lt_two_pow
    · exact setF_lt f (n := n) (by omega)
    · by_cases e : f n = true
      · rw [if_pos e]; exact Nat.pow_lt_pow_right (by decide) (by omega)
      · rw [if_neg e]; decide
theorem setF_y {f : Nat → Bool} {k : Nat} (h : f k = true) : setF f (k + 1) = setF f k ||| 2 ^ k := by
  show setF f k ||| (if f k = true then 2 ^ k else 0) = _
  rw [if_pos h]
theorem setF_n {f : Nat → Bool} {k : Nat} (h : f k = false) : setF f (k + 1) = setF f k := by
  show setF f k ||| (if f k = true then 2 ^ k else 0) = _
  rw [h]
  simp
theorem setF_n0 {f : Nat → Bool} {k : Nat} (h : f k = false) : setF f (k + 1) = setF f k ||| 0 := by
  rw [setF_n h]; simp
theorem setF_tb (f : Nat → Bool) : ∀ (n o : Nat), (setF f n).testBit o = (decide (o < n) && f o)
  | 0, o => by simp [setF]
  | n + 1, o => by
    show (setF f n ||| (if f n = true then 2 ^ n else 0)).testBit o = _
    rw [Nat.testBit_or, setF_tb f n o]
    by_cases e : o = n
    · subst e
      by_cases h : f o = true
      · rw [if_pos h, tb_2p]; simp [h]
      · have : f o = false := by simpa using h
        simp [this]
    · have h2 : (if f n = true then 2 ^ n else 0).testBit o = false := by
        by_cases h : f n = true
        · rw [if_pos h, tb_2p]; simp; omega
        · rw [if_neg h]; simp
      rw [h2]
      by_cases h3 : o < n
      · simp [h3, show o < n + 1 by omega]
      · simp [h3, show ¬ o < n + 1 by omega]
def cntF (f : Nat → Bool) : Nat → Nat
  | 0 => 0
  | k + 1 => cntF f k + (if f k = true then 1 else 0)
theorem cntF_le (f : Nat → Bool) : ∀ n, cntF f n ≤ n
  | 0 => Nat.le_refl _
  | n + 1 => by
    have := cntF_le f n
    show cntF f n + (if f n = true then 1 else 0) ≤ _
    by_cases e : f n = true
    · rw [if_pos e]; omega
    · rw [if_neg e]; omega
theorem cntF_y {f : Nat → Bool} {k : Nat} (h : f k = true) : cntF f (k + 1) = cntF f k + 1 := by
  show cntF f k + (if f k = true then 1 else 0) = _
  rw [if_pos h]
theorem cntF_n {f : Nat → Bool} {k : Nat} (h : f k = false) : cntF f (k + 1) = cntF f k + 0 := by
  show cntF f k + (if f k = true then 1 else 0) = _
  rw [h]; simp
/-- the first from k on, of m; -1 if there is none -/
def fstF (f : Nat → Bool) : Nat → Nat → Int32
  | _, 0 => -1
  | k, m + 1 => if f k = true then nI k else fstF f (k + 1) m
theorem downF {f : Nat → Bool} {V : Int32 → Nat → Prop} {n : Nat} (hn : V (-1) n) (hy : ∀ k, k < n → f k = true → V (nI k) k) (hs : ∀ k v, k < n → f k = false → V v (k + 1) → V v k) : V (fstF f 0 n) 0 := by
  have h : ∀ m k, k + m = n → V (fstF f k m) k := by
    intro m
    induction m with
    | zero => intro k hk; rw [show k = n by omega]; exact hn
    | succ m ih =>
      intro k hk
      show V (if f k = true then nI k else fstF f (k + 1) m) k
      by_cases e : f k = true
      · rw [if_pos e]; exact hy k (by omega) e
      · rw [if_neg e]; exact hs k _ (by omega) (by simpa using e) (ih (k + 1) (by omega))
  exact h n 0 (by omega)
theorem g1p {C : Prop} [Decidable C] {X Y : Prop} (h : C) (y : Y) : ((if C then (1 : Int32) else 0) = 0 → X) ∧ (¬ (if C then (1 : Int32) else 0) = 0 → Y) := by
  rw [if_pos h]
  exact ⟨fun z => absurd z (by decide), fun _ => y⟩
theorem g1n {C : Prop} [Decidable C] {X Y : Prop} (h : ¬ C) (x : X) : ((if C then (1 : Int32) else 0) = 0 → X) ∧ (¬ (if C then (1 : Int32) else 0) = 0 → Y) := by
  rw [if_neg h]
  exact ⟨fun _ => x, fun z => absurd rfl z⟩
theorem g0p {C : Prop} [Decidable C] {X Y : Prop} (h : C) (y : Y) : ((if C then (0 : Int32) else 1) = 0 → Y) ∧ (¬ (if C then (0 : Int32) else 1) = 0 → X) := by
  rw [if_pos h]
  exact ⟨fun _ => y, fun z => absurd rfl z⟩
theorem g0n {C : Prop} [Decidable C] {X Y : Prop} (h : ¬ C) (x : X) : ((if C then (0 : Int32) else 1) = 0 → Y) ∧ (¬ (if C then (0 : Int32) else 1) = 0 → X) := by
  rw [if_neg h]
  exact ⟨fun z => absurd z (by decide), fun _ => x⟩
abbrev bp (A : Nt) (x : Int32) : Prop := x < 0 ∨ nI (A.1 0 3) ≤ x
abbrev bh (A : Nt) (x : Int32) : Prop := A.1 0 8 = 0 ∨ x < 0 ∨ nI (A.1 0 0) < x
/-- a course of the class at place c; the reference's -/
def SCo (A : Nt) (P : Pm) (c : Nat) (I : Nat → Nat → Int32) : Prop := (RC A I 12 21 ∧ NV A ∧ PV A P) ∧ crs cE A P I c (A.1 0 0 + 1) ∧ lts A P I c (A.1 0 0 + 1)
def SMo (A : Nt) (P : Pm) (I : Nat → Nat → Int32) : Prop := (RM A I 97 0 ∧ NV A ∧ PV A P) ∧ crs mE A P I 101 (A.1 0 0 + 1)
section QS
variable {A : Nt} {P : Pm} {I : Nat → Nat → Int32} {L : Nat → Nat → Int64} {t p c : Nat}
theorem SCo.says (h : SCo A P c I) (ht : t ≤ A.1 0 0) (hp : p < A.1 0 3) : I (c + 2) (t * 7 + p) = nI (cE (rows A P t p).1) ∧ I (c + 3) (t * 7 + p) = iI (rows A P t p).2.1 ∧ I (c + 4) (t * 7 + p) = iI (rows A P t p).2.2.1 ∧ I (c + 5) (t * 7 + p) = iI (rows A P t p).2.2.2 := by
  have := h.2.1 t (by omega) p hp
  rw [Nat.mul_comm t 7]
  exact this
theorem SCo.lit (h : SCo A P c I) (ht : t ≤ A.1 0 0) : I (c + 1) t = nI (litB (rows A P t) (A.1 0 3)) := h.2.2 t (by omega)
theorem SCo.cv (h : SCo A P c I) (hp : p < A.1 0 3) : CV (A.1 0 3) t (rows A P t p) := RV_rows h.1.2.1 h.1.2.2 t p hp
theorem SMo.says (h : SMo A P I) (ht : t ≤ A.1 0 0) (hp : p < A.1 0 3) : I 103 (7 * t + p) = nI (mE (rows A P t p).1) ∧ I 104 (7 * t + p) = iI (rows A P t p).2.1 ∧ I 105 (7 * t + p) = iI (rows A P t p).2.2.1 ∧ I 106 (7 * t + p) = iI (rows A P t p).2.2.2 := h.2 t (by omega) p hp
theorem SMo.cv (h : SMo A P I) (hp : p < A.1 0 3) : CV (A.1 0 3) t (rows A P t p) := RV_rows h.1.2.1 h.1.2.2 t p hp
theorem ct_cell (x y : Int32) : q_C kX11_cell [.int x, .int y] I L (some (.int (y * 7 + x))) I L := c0_X11_cell (vc_X11_cell_0 ⟨rfl, rfl, rfl⟩)
theorem ct_allPewsC (hR : RC A I 12 21) (hV : NV A) : q_C kX5_allPews [.ref 12] I L (some (.int (nI (2 ^ A.1 0 3 - 1)))) I L := by
  have h3 := hV.1.2.2.2.1
  have e4 : I 12 4 = nI (A.1 0 3) := hR.1.2.2.2.2.1
  have hp : 1 ≤ 2 ^ A.1 0 3 := Nat.one_le_two_pow
  refine c0_X5_allPews (vc_X5_allPews_0 ?_)
  simp (disch := omega) only [l_0, l_1, l_2, l_3, l_4, l_5, l_6, l_7, l_8, l_9, l_10, l_11, l_12, l_15, l_16, l_20, l_24, l_30, l_31, l_32, l_50, l_54, l_60, l_62, l_63, l_64, l_74, l_91, l_100, l_128, l_240, l_600, l_10000, l_m1, nI_leI, nI_ltI, u_eq, u_add, u_mul, u_cl, u_in_t, pk_sub, pk_div, nI_nm1, m1_nI, m1_lt, m1_le, nI_ltm, nI_lem, up2_s_, u_31, u_one3, u_shr3, u_and1, u_or, true_and, and_true, e4]
theorem ct_allPewsM (hR : RM A I 97 0) (hV : NV A) : q_C kX12_allPews [.ref 96] I L (some (.int (nI (2 ^ A.1 0 3 - 1)))) I L := by
  have h3 := hV.1.2.2.2.1
  have hp : 1 ≤ 2 ^ A.1 0 3 := Nat.one_le_two_pow
  refine c0_X12_allPews (vc_X12_allPews_0 ⟨_, ct_pews hR, ?_⟩)
  simp (disch := omega) only [l_0, l_1, l_2, l_3, l_4, l_5, l_6, l_7, l_8, l_9, l_10, l_11, l_12, l_15, l_16, l_20, l_24, l_30, l_31, l_32, l_50, l_54, l_60, l_62, l_63, l_64, l_74, l_91, l_100, l_128, l_240, l_600, l_10000, l_m1, nI_leI, nI_ltI, u_eq, u_add, u_mul, u_cl, u_in_t, pk_sub, pk_div, nI_nm1, m1_nI, m1_lt, m1_le, nI_ltm, nI_lem, up2_s_, u_31, u_one3, u_shr3, u_and1, u_or, true_and, and_true]
theorem cq_isLit (h : SCo A P 75 I) (ht : t ≤ A.1 0 0) (hp : p < A.1 0 3) : q_C kX3_isLit [.ref 75, .int (nI p), .int (nI t)] I L (some (.int (if (rows A P t p).1 = [] then 0 else 1))) I L := by
  have h0 := h.1.2.1.1.1
  have h3 := h.1.2.1.1.2.2.2.1
  have e : I 76 t = nI (litB (rows A P t) (A.1 0 3)) := h.lit ht
  refine c0_X3_isLit (vc_X3_isLit_0 ?_)
  rw [u_cl (by omega), e, bz _ (by omega), litB_tb]
  refine ⟨u_in (by omega) (by decide), fun z => ?_, fun z => ?_⟩
  · rw [if_pos (by simpa [hp] using z)]; exact ⟨rfl, rfl, rfl⟩
  · rw [if_neg (by simpa [hp] using z)]; exact ⟨rfl, rfl, rfl⟩
theorem cq_otherwise (h : SCo A P 75 I) {s : Nat} (ht : t ≤ A.1 0 0) (hs : s ≤ A.1 0 0) : q_C kX3_otherwise [.ref 75, .int (nI t), .int (nI s)] I L (some (.int (nI (setF (fun p => decide ((rows A P t p).1 ≠ (rows A P s p).1)) (A.1 0 3))))) I L := by
  have h0 := h.1.2.1.1.1
  have h3 := h.1.2.1.1.2.2.2.1
  have e4 : I 12 4 = nI (A.1 0 3) := h.1.1.1.2.2.2.2.1
  refine c0_X3_otherwise (vc_X3_otherwise_0 ?_)
  refine down (P := fun k => v_X3_otherwise_5 (some (.int (nI (setF (fun p => decide ((rows A P t p).1 ≠ (rows A P s p).1)) (A.1 0 3))))) I L I L (nI t) (nI s) (nI (setF (fun p => decide ((rows A P t p).1 ≠ (rows A P s p).1)) k)) (nI k)) (n := A.1 0 3) ?_ ?_
  · refine vc_X3_otherwise_5 ?_
    simp (disch := omega) only [l_0, l_1, l_2, l_3, l_4, l_5, l_6, l_7, l_8, l_9, l_10, l_11, l_12, l_15, l_16, l_20, l_24, l_30, l_31, l_32, l_50, l_54, l_60, l_62, l_63, l_64, l_74, l_91, l_100, l_128, l_240, l_600, l_10000, l_m1, nI_leI, nI_ltI, u_eq, u_add, u_mul, u_cl, u_in_t, pk_sub, pk_div, nI_nm1, m1_nI, m1_lt, m1_le, nI_ltm, nI_lem, up2_s_, u_31, u_one3, u_shr3, u_and1, u_or, true_and, and_true, e4]
    exact ⟨fun _ => trivial, fun z => absurd (Nat.le_refl _) z⟩
  · intro k hk ih
    have a1 : I 77 (t * 7 + k) = nI (cE (rows A P t k).1) := (h.says ht hk).1
    have a2 : I 77 (s * 7 + k) = nI (cE (rows A P s k).1) := (h.says hs hk).1
    have l1 := (h.cv (t := t) hk).1
    have l2 := (h.cv (t := s) hk).1
    have b1 := l1.lt
    have b2 := l2.lt
    refine vc_X3_otherwise_5 ?_
    simp (disch := omega) only [l_0, l_1, l_2, l_3, l_4, l_5, l_6, l_7, l_8, l_9, l_10, l_11, l_12, l_15, l_16, l_20, l_24, l_30, l_31, l_32, l_50, l_54, l_60, l_62, l_63, l_64, l_74, l_91, l_100, l_128, l_240, l_600, l_10000, l_m1, nI_leI, nI_ltI, u_eq, u_add, u_mul, u_cl, u_in_t, pk_sub, pk_div, nI_nm1, m1_nI, m1_lt, m1_le, nI_ltm, nI_lem, up2_s_, u_31, u_one3, u_shr3, u_and1, u_or, true_and, and_true, e4, a1, a2, l1.cinj l2]
    refine ⟨fun z => by omega, fun _ => ⟨fun z => ?_, fun z => ?_⟩⟩
    · rw [setF_n (by simpa using z)] at ih; exact ih
    · rw [setF_y (by simpa using z)] at ih; exact ih
theorem cq_sayingSame (h : SCo A P 75 I) (ht : t ≤ A.1 0 0) (hp : p < A.1 0 3) : q_C kX3_sayingSame [.ref 75, .int (nI p), .int (nI t)] I L (some (.int (nI (setF (fun o => decide ((rows A P t p).1 ≠ [] ∧ (rows A P t o).1 = (rows A P t p).1)) (A.1 0 3))))) I L := by
  have h0 := h.1.2.1.1.1
  have h3 := h.1.2.1.1.2.2.2.1
  have e4 : I 12 4 = nI (A.1 0 3) := h.1.1.1.2.2.2.2.1
  have a1 : I 77 (t * 7 + p) = nI (cE (rows A P t p).1) := (h.says ht hp).1
  have l1 := (h.cv (t := t) hp).1
  have b1 := l1.lt
  refine c0_X3_sayingSame (vc_X3_sayingSame_0 ?_)
  rw [show nI t * 7 + nI p = nI (t * 7 + p) by simp (disch := omega) only [l_0, l_1, l_2, l_3, l_4, l_5, l_6, l_7, l_8, l_9, l_10, l_11, l_12, l_15, l_16, l_20, l_24, l_30, l_31, l_32, l_50, l_54, l_60, l_62, l_63, l_64, l_74, l_91, l_100, l_128, l_240, l_600, l_10000, l_m1, nI_leI, nI_ltI, u_eq, u_add, u_mul, u_cl, u_in_t, pk_sub, pk_div, nI_nm1, m1_nI, m1_lt, m1_le, nI_ltm, nI_lem, up2_s_, u_31, u_one3, u_shr3, u_and1, u_or, true_and, and_true], u_cl (by omega), a1]
  refine ⟨u_in (by omega) (by decide), ?_⟩
  by_cases hl : (rows A P t p).1 = []
  · have e0 : ∀ k, setF (fun o => decide ((rows A P t p).1 ≠ [] ∧ (rows A P t o).1 = (rows A P t p).1)) k = 0 := by
      intro k
      induction k with
      | zero => rfl
      | succ k ih => rw [setF_n (by simp [hl]), ih]
    rw [e0, hl]
    refine vc_X3_sayingSame_18 ⟨fun _ => ⟨rfl, rfl, rfl⟩, fun _ => ⟨fun _ => ⟨rfl, rfl, rfl⟩, fun z => absurd rfl z⟩⟩
  refine down (P := fun k => v_X3_sayingSame_18 (some (.int (nI (setF (fun o => decide ((rows A P t p).1 ≠ [] ∧ (rows A P t o).1 = (rows A P t p).1)) (A.1 0 3))))) I L I L (nI t) (nI (cE (rows A P t p).1)) (nI (setF (fun o => decide ((rows A P t p).1 ≠ [] ∧ (rows A P t o).1 = (rows A P t p).1)) k)) (nI k)) (n := A.1 0 3) ?_ ?_
  · refine vc_X3_sayingSame_18 ?_
    simp (disch := omega) only [l_0, l_1, l_2, l_3, l_4, l_5, l_6, l_7, l_8, l_9, l_10, l_11, l_12, l_15, l_16, l_20, l_24, l_30, l_31, l_32, l_50, l_54, l_60, l_62, l_63, l_64, l_74, l_91, l_100, l_128, l_240, l_600, l_10000, l_m1, nI_leI, nI_ltI, u_eq, u_add, u_mul, u_cl, u_in_t, pk_sub, pk_div, nI_nm1, m1_nI, m1_lt, m1_le, nI_ltm, nI_lem, up2_s_, u_31, u_one3, u_shr3, u_and1, u_or, true_and, and_true, e4]
    exact ⟨fun _ => trivial, fun z => absurd (Nat.le_refl _) z⟩
  · intro k hk ih
    have a2 : I 77 (t * 7 + k) = nI (cE (rows A P t k).1) := (h.says ht hk).1
    have l2 := (h.cv (t := t) hk).1
    have b2 := l2.lt
    refine vc_X3_sayingSame_18 ?_
    simp (disch := omega) only [l_0, l_1, l_2, l_3, l_4, l_5, l_6, l_7, l_8, l_9, l_10, l_11, l_12, l_15, l_16, l_20, l_24, l_30, l_31, l_32, l_50, l_54, l_60, l_62, l_63, l_64, l_74, l_91, l_100, l_128, l_240, l_600, l_10000, l_m1, nI_leI, nI_ltI, u_eq, u_add, u_mul, u_cl, u_in_t, pk_sub, pk_div, nI_nm1, m1_nI, m1_lt, m1_le, nI_ltm, nI_lem, up2_s_, u_31, u_one3, u_shr3, u_and1, u_or, true_and, and_true, e4, a2, l2.cinj l1, cE_0 l1.ge1]
    refine ⟨fun z => by omega, fun _ => ⟨fun z => absurd z hl, fun _ => ⟨fun z => ?_, fun z => ?_⟩⟩⟩
    · rw [setF_y (by simpa [hl] using z)] at ih; exact ih
    · rw [setF_n (by simpa [hl] using z)] at ih; exact ih
def sumL (r : Rw) : Nat → Nat
  | 0 => 0
  | k + 1 => sumL r k + (r k).1.length
theorem sumL_le {n t : Nat} {r : Rw} (h : RV n t r) : ∀ k, k ≤ n → sumL r k ≤ 6 * k
  | 0, _ => Nat.le_refl _
  | k + 1, hk => by
    have := sumL_le h k (by omega)
    have h2 := (h k (by omega)).1.1
    show sumL r k + (r k).1.length ≤ _
    omega
theorem cq_lettersSaid (h : SCo A P 75 I) (ht : t ≤ A.1 0 0) : q_C kX3_lettersSaid [.ref 75, .int (nI t)] I L (some (.int (nI (sumL (rows A P t) (A.1 0 3))))) I L := by
  have h0 := h.1.2.1.1.1
  have h3 := h.1.2.1.1.2.2.2.1
  have e4 : I 12 4 = nI (A.1 0 3) := h.1.1.1.2.2.2.2.1
  refine c0_X3_lettersSaid_75 (vc_X3_lettersSaid_75_0 ?_)
  refine down (P := fun k => v_X3_lettersSaid_75_4 (some (.int (nI (sumL (rows A P t) (A.1 0 3))))) I L I L (nI t) (nI (sumL (rows A P t) k)) (nI k)) (n := A.1 0 3) ?_ ?_
  · refine vc_X3_lettersSaid_75_4 ?_
    simp (disch := omega) only [l_0, l_1, l_2, l_3, l_4, l_5, l_6, l_7, l_8, l_9, l_10, l_11, l_12, l_15, l_16, l_20, l_24, l_30, l_31, l_32, l_50, l_54, l_60, l_62, l_63, l_64, l_74, l_91, l_100, l_128, l_240, l_600, l_10000, l_m1, nI_leI, nI_ltI, u_eq, u_add, u_mul, u_cl, u_in_t, pk_sub, pk_div, nI_nm1, m1_nI, m1_lt, m1_le, nI_ltm, nI_lem, up2_s_, u_31, u_one3, u_shr3, u_and1, u_or, true_and, and_true, e4]
    exact ⟨fun _ => trivial, fun z => absurd (Nat.le_refl _) z⟩
  · intro k hk ih
    have a1 : I 77 (t * 7 + k) = nI (cE (rows A P t k).1) := (h.says ht hk).1
    have l1 := (h.cv (t := t) hk).1
    refine vc_X3_lettersSaid_75_4 ?_
    simp (disch := omega) only [l_0, l_1, l_2, l_3, l_4, l_5, l_6, l_7, l_8, l_9, l_10, l_11, l_12, l_15, l_16, l_20, l_24, l_30, l_31, l_32, l_50, l_54, l_60, l_62, l_63, l_64, l_74, l_91, l_100, l_128, l_240, l_600, l_10000, l_m1, nI_leI, nI_ltI, u_eq, u_add, u_mul, u_cl, u_in_t, pk_sub, pk_div, nI_nm1, m1_nI, m1_lt, m1_le, nI_ltm, nI_lem, up2_s_, u_31, u_one3, u_shr3, u_and1, u_or, true_and, and_true, e4, a1]
    refine ⟨fun z => by omega, fun _ => ⟨_, ct_size l1, ?_⟩⟩
    rw [u_add]
    exact ih
theorem cq_lettersSaid81 (h : SCo A P 81 I) (ht : t ≤ A.1 0 0) : q_C kX3_lettersSaid [.ref 81, .int (nI t)] I L (some (.int (nI (sumL (rows A P t) (A.1 0 3))))) I L := by
  have h0 := h.1.2.1.1.1
  have h3 := h.1.2.1.1.2.2.2.1
  have e4 : I 12 4 = nI (A.1 0 3) := h.1.1.1.2.2.2.2.1
  refine c0_X3_lettersSaid_81 (vc_X3_lettersSaid_81_0 ?_)
  refine down (P := fun k => v_X3_lettersSaid_81_4 (some (.int (nI (sumL (rows A P t) (A.1 0 3))))) I L I L (nI t) (nI (sumL (rows A P t) k)) (nI k)) (n := A.1 0 3) ?_ ?_
  · refine vc_X3_lettersSaid_81_4 ?_
    simp (disch := omega) only [l_0, l_1, l_2, l_3, l_4, l_5, l_6, l_7, l_8, l_9, l_10, l_11, l_12, l_15, l_16, l_20, l_24, l_30, l_31, l_32, l_50, l_54, l_60, l_62, l_63, l_64, l_74, l_91, l_100, l_128, l_240, l_600, l_10000, l_m1, nI_leI, nI_ltI, u_eq, u_add, u_mul, u_cl, u_in_t, pk_sub, pk_div, nI_nm1, m1_nI, m1_lt, m1_le, nI_ltm, nI_lem, up2_s_, u_31, u_one3, u_shr3, u_and1, u_or, true_and, and_true, e4]
    exact ⟨fun _ => trivial, fun z => absurd (Nat.le_refl _) z⟩
  · intro k hk ih
    have a1 : I 83 (t * 7 + k) = nI (cE (rows A P t k).1) := (h.says ht hk).1
    have l1 := (h.cv (t := t) hk).1
    refine vc_X3_lettersSaid_81_4 ?_
    simp (disch := omega) only [l_0, l_1, l_2, l_3, l_4, l_5, l_6, l_7, l_8, l_9, l_10, l_11, l_12, l_15, l_16, l_20, l_24, l_30, l_31, l_32, l_50, l_54, l_60, l_62, l_63, l_64, l_74, l_91, l_100, l_128, l_240, l_600, l_10000, l_m1, nI_leI, nI_ltI, u_eq, u_add, u_mul, u_cl, u_in_t, pk_sub, pk_div, nI_nm1, m1_nI, m1_lt, m1_le, nI_ltm, nI_lem, up2_s_, u_31, u_one3, u_shr3, u_and1, u_or, true_and, and_true, e4, a1]
    refine ⟨fun z => by omega, fun _ => ⟨_, ct_size l1, ?_⟩⟩
    rw [u_add]
    exact ih
theorem mq_says (h : SMo A P I) (ht : t ≤ A.1 0 0) (hp : p < A.1 0 3) : q_C kX12_saysOf [.ref 96, .int (nI p), .int (nI t)] I L (some (.int (nI (mE (rows A P t p).1)))) I L := cm_saysOf h.1.2.1.1.2.2.2.1 (by have := h.1.2.1.1.1; omega) (h.2 t (by omega)) hp
theorem mE_le0 {l : List Nat} (h : Sg l) : nI (mE l) ≤ 0 ↔ l = [] := by
  have := h.mlt
  rw [show (0 : Int32) = nI 0 from rfl, nI_leI (by omega) (by omega), ← mE_0 h.ge1]
  omega
theorem mq_litAt (h : SMo A P I) (ht : t ≤ A.1 0 0) : q_C kX12_litAt [.ref 96, .int (nI t)] I L (some (.int (nI (litB (rows A P t) (A.1 0 3))))) I L := by
  have h0 := h.1.2.1.1.1
  have h3 := h.1.2.1.1.2.2.2.1
  refine c0_X12_litAt (vc_X12_litAt_0 ?_)
  refine down (P := fun k => v_X12_litAt_4 (some (.int (nI (litB (rows A P t) (A.1 0 3))))) I L I L (nI t) (nI (litB (rows A P t) k)) (nI k)) (n := A.1 0 3) ?_ ?_
  · exact vc_X12_litAt_4 ⟨_, ct_pews h.1.1, fun _ => ⟨rfl, rfl, rfl⟩, fun z => absurd (nI_le (Nat.le_refl _) (by omega)) z⟩
  · intro k hk ih
    have l1 := (h.cv (t := t) hk).1
    have hd : litB (rows A P t) (k + 1) = litB (rows A P t) k ||| (if (rows A P t k).1 = [] then 0 else 2 ^ k) := rfl
    rw [hd] at ih
    refine vc_X12_litAt_4 ⟨_, ct_pews h.1.1, fun z => absurd z (nI_ge hk (by omega)), fun _ => ⟨_, mq_says h ht hk, ?_⟩⟩
    rw [mE_le0 l1]
    simp (disch := omega) only [l_0, l_1, l_2, l_3, l_4, l_5, l_6, l_7, l_8, l_9, l_10, l_11, l_12, l_15, l_16, l_20, l_24, l_30, l_31, l_32, l_50, l_54, l_60, l_62, l_63, l_64, l_74, l_91, l_100, l_128, l_240, l_600, l_10000, l_m1, nI_leI, nI_ltI, u_eq, u_add, u_mul, u_cl, u_in_t, pk_sub, pk_div, nI_nm1, m1_nI, m1_lt, m1_le, nI_ltm, nI_lem, up2_s_, u_31, u_one3, u_shr3, u_and1, u_or, true_and, and_true]
    refine ⟨fun z => ?_, fun z => ?_⟩
    · rw [if_pos z] at ih; exact ih
    · rw [if_neg z] at ih; exact ih
theorem mq_wordsAt (h : SMo A P I) (ht : t ≤ A.1 0 0) : q_C kX12_wordsAt [.ref 96, .int (nI t)] I L (some (.int (nI (sumL (rows A P t) (A.1 0 3))))) I L := by
  have h0 := h.1.2.1.1.1
  have h3 := h.1.2.1.1.2.2.2.1
  refine c0_X12_wordsAt (vc_X12_wordsAt_0 ?_)
  refine down (P := fun k => v_X12_wordsAt_4 (some (.int (nI (sumL (rows A P t) (A.1 0 3))))) I L I L (nI t) (nI (sumL (rows A P t) k)) (nI k)) (n := A.1 0 3) ?_ ?_
  · exact vc_X12_wordsAt_4 ⟨_, ct_pews h.1.1, fun _ => ⟨rfl, rfl, rfl⟩, fun z => absurd (nI_le (Nat.le_refl _) (by omega)) z⟩
  · intro k hk ih
    refine vc_X12_wordsAt_4 ⟨_, ct_pews h.1.1, fun z => absurd z (nI_ge hk (by omega)), fun _ => ⟨_, mq_says h ht hk, _, ct_longOf (h.cv (t := t) hk).1, ?_⟩⟩
    simp (disch := omega) only [l_0, l_1, l_2, l_3, l_4, l_5, l_6, l_7, l_8, l_9, l_10, l_11, l_12, l_15, l_16, l_20, l_24, l_30, l_31, l_32, l_50, l_54, l_60, l_62, l_63, l_64, l_74, l_91, l_100, l_128, l_240, l_600, l_10000, l_m1, nI_leI, nI_ltI, u_eq, u_add, u_mul, u_cl, u_in_t, pk_sub, pk_div, nI_nm1, m1_nI, m1_lt, m1_le, nI_ltm, nI_lem, up2_s_, u_31, u_one3, u_shr3, u_and1, u_or, true_and, and_true]
    exact ih
theorem mq_turnedAt (h : SMo A P I) (ht : t ≤ A.1 0 0) (h1 : 0 < t) : q_C kX12_turnedAt [.ref 96, .int (nI t)] I L (some (.int (nI (setF (fun p => decide ((rows A P t p).1 ≠ (rows A P (t - 1) p).1)) (A.1 0 3))))) I L := by
  have h0 := h.1.2.1.1.1
  have h3 := h.1.2.1.1.2.2.2.1
  refine c0_X12_turnedAt (vc_X12_turnedAt_0 ⟨fun z => ?_, fun _ => ?_⟩)
  · rw [u_0 (by omega)] at z; omega
  refine down (P := fun k => v_X12_turnedAt_14 (some (.int (nI (setF (fun p => decide ((rows A P t p).1 ≠ (rows A P (t - 1) p).1)) (A.1 0 3))))) I L I L (nI t) (nI (setF (fun p => decide ((rows A P t p).1 ≠ (rows A P (t - 1) p).1)) k)) (nI k)) (n := A.1 0 3) ?_ ?_
  · exact vc_X12_turnedAt_14 ⟨_, ct_pews h.1.1, fun _ => ⟨rfl, rfl, rfl⟩, fun z => absurd (nI_le (Nat.le_refl _) (by omega)) z⟩
  · intro k hk ih
    have l1 := (h.cv (t := t) hk).1
    have l2 := (h.cv (t := t - 1) hk).1
    have b1 := l1.mlt
    have b2 := l2.mlt
    refine vc_X12_turnedAt_14 ⟨_, ct_pews h.1.1, fun z => absurd z (nI_ge hk (by omega)), fun _ => ⟨_, mq_says h ht hk, nI (mE (rows A P (t - 1) k).1), ?_, ?_⟩⟩
    · rw [show nI t - 1 = nI (t - 1) from pk_sub (b := 1) h1]
      exact mq_says h (by omega) hk
    · simp (disch := omega) only [l_0, l_1, l_2, l_3, l_4, l_5, l_6, l_7, l_8, l_9, l_10, l_11, l_12, l_15, l_16, l_20, l_24, l_30, l_31, l_32, l_50, l_54, l_60, l_62, l_63, l_64, l_74, l_91, l_100, l_128, l_240, l_600, l_10000, l_m1, nI_leI, nI_ltI, u_eq, u_add, u_mul, u_cl, u_in_t, pk_sub, pk_div, nI_nm1, m1_nI, m1_lt, m1_le, nI_ltm, nI_lem, up2_s_, u_31, u_one3, u_shr3, u_and1, u_or, true_and, and_true, l1.minj l2]
      refine ⟨fun z => ?_, fun z => ?_⟩
      · rw [setF_n0 (by simpa using z)] at ih; exact ih
      · rw [setF_y (by simpa using z)] at ih; exact ih
theorem mq_turnedAt0 (h : SMo A P I) : q_C kX12_turnedAt [.ref 96, .int 0] I L (some (.int (nI (litB (rows A P 0) (A.1 0 3))))) I L := c0_X12_turnedAt (vc_X12_turnedAt_0 ⟨fun _ => ⟨_, mq_litAt h (t := 0) (by omega), rfl, rfl, rfl⟩, fun z => absurd rfl z⟩)
theorem mq_alikeTo (h : SMo A P I) (ht : t ≤ A.1 0 0) (hp : p < A.1 0 3) : q_C kX12_alikeTo [.ref 96, .int (nI p), .int (nI t)] I L (some (.int (nI (setF (fun o => decide ((rows A P t p).1 ≠ [] ∧ (rows A P t o).1 = (rows A P t p).1)) (A.1 0 3))))) I L := by
  have h0 := h.1.2.1.1.1
  have h3 := h.1.2.1.1.2.2.2.1
  have l1 := (h.cv (t := t) hp).1
  have b1 := l1.mlt
  refine c0_X12_alikeTo (vc_X12_alikeTo_0 ?_)
  refine down (P := fun k => v_X12_alikeTo_5 (some (.int (nI (setF (fun o => decide ((rows A P t p).1 ≠ [] ∧ (rows A P t o).1 = (rows A P t p).1)) (A.1 0 3))))) I L I L (nI p) (nI t) (nI (setF (fun o => decide ((rows A P t p).1 ≠ [] ∧ (rows A P t o).1 = (rows A P t p).1)) k)) (nI k)) (n := A.1 0 3) ?_ ?_
  · exact vc_X12_alikeTo_5 ⟨_, ct_pews h.1.1, fun _ => ⟨rfl, rfl, rfl⟩, fun z => absurd (nI_le (Nat.le_refl _) (by omega)) z⟩
  · intro k hk ih
    have l2 := (h.cv (t := t) hk).1
    have b2 := l2.mlt
    refine vc_X12_alikeTo_5 ⟨_, ct_pews h.1.1, fun z => absurd z (nI_ge hk (by omega)), fun _ => ⟨_, mq_says h ht hp, ?_⟩⟩
    rw [mE_le0 l1]
    refine ⟨fun z => ?_, fun hl => ⟨_, mq_says h ht hk, _, mq_says h ht hp, ?_⟩⟩
    · rw [setF_n0 (by simp [z])] at ih
      rw [nI_1, show (0 : Int32) = nI 0 from rfl, u_or]
      exact ih
    · simp (disch := omega) only [l_0, l_1, l_2, l_3, l_4, l_5, l_6, l_7, l_8, l_9, l_10, l_11, l_12, l_15, l_16, l_20, l_24, l_30, l_31, l_32, l_50, l_54, l_60, l_62, l_63, l_64, l_74, l_91, l_100, l_128, l_240, l_600, l_10000, l_m1, nI_leI, nI_ltI, u_eq, u_add, u_mul, u_cl, u_in_t, pk_sub, pk_div, nI_nm1, m1_nI, m1_lt, m1_le, nI_ltm, nI_lem, up2_s_, u_31, u_one3, u_shr3, u_and1, u_or, true_and, and_true, l2.minj l1]
      refine ⟨fun z => ?_, fun z => ?_⟩
      · rw [setF_y (by simpa [hl] using z)] at ih; exact ih
      · rw [setF_n0 (by simpa [hl] using z)] at ih; exact ih
end QS
