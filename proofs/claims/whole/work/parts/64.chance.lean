/-! SILENCE BY CHANCE. -/
theorem dra_2 {A : Nt} {P P' : Pm} (h : P.2 = P'.2) {t : Nat} {r : Rw} : ∀ i, draR A P t r i = draR A P' t r i
  | 0 => rfl
  | i + 1 => by
    show (if A.1 8 i = t ∧ (i : Int) ≠ P.2.1.2.2.2 then rwU (draR A P t r i) (A.1 7 i) clO else draR A P t r i) = (if A.1 8 i = t ∧ (i : Int) ≠ P'.2.1.2.2.2 then rwU (draR A P' t r i) (A.1 7 i) clO else draR A P' t r i)
    rw [dra_2 h i, h]
theorem dress_2 {A : Nt} {P P' : Pm} (h : P.2 = P'.2) (t : Nat) (r : Rw) : dress A P t r = dress A P' t r := by
  unfold dress outR gusR litR morR
  rw [dra_2 h, h]
theorem beg_2 {A : Nt} {P P' : Pm} (h : P.2 = P'.2) : begR A P = begR A P' := by
  have e : begA P = begA P' := by
    funext p
    unfold begA
    rw [h]
  unfold begR
  rw [e, h]
theorem rows_sil {A : Nt} {s s' : Nat} : ∀ t, (∀ i, i < t → s.testBit i = s'.testBit i) → rows A (Psl A s) t = rows A (Psl A s') t
  | 0, _ => by
    show dress A (Psl A s) 0 (begR A (Psl A s)) = dress A (Psl A s') 0 (begR A (Psl A s'))
    rw [beg_2 (P := Psl A s) (P' := Psl A s') rfl, dress_2 (P := Psl A s) (P' := Psl A s') rfl]
  | t + 1, h => by
    have ih := rows_sil (A := A) t (fun i hi => h i (by omega))
    have hb := h t (by omega)
    have hc : carR A (Psl A s) t (rows A (Psl A s) t) = carR A (Psl A s') t (rows A (Psl A s') t) := by
      funext p
      show carC A (Psl A s) t (rows A (Psl A s) t) p = carC A (Psl A s') t (rows A (Psl A s') t) p
      rw [ih]
      unfold carC
      show (if (rows A (Psl A s') t p).1 = [] ∧ s.testBit t = false then _ else _) = (if (rows A (Psl A s') t p).1 = [] ∧ s'.testBit t = false then _ else _)
      rw [hb]
      rfl
    show dress A (Psl A s) (t + 1) (carR A (Psl A s) t (rows A (Psl A s) t)) = dress A (Psl A s') (t + 1) (carR A (Psl A s') t (rows A (Psl A s') t))
    rw [hc, dress_2 (P := Psl A s) (P' := Psl A s') rfl]
/-- sums -/
def smN (F : Nat → Nat) : Nat → Nat
  | 0 => 0
  | k + 1 => smN F k + F k
theorem smN_c {F G : Nat → Nat} : ∀ {k}, (∀ i, i < k → F i = G i) → smN F k = smN G k
  | 0, _ => rfl
  | k + 1, h => by
    show smN F k + F k = smN G k + G k
    rw [smN_c (fun i hi => h i (by omega)), h k (by omega)]
theorem smN_add (F G : Nat → Nat) : ∀ k, smN (fun i => F i + G i) k = smN F k + smN G k
  | 0 => rfl
  | k + 1 => by
    show smN (fun i => F i + G i) k + (F k + G k) = smN F k + F k + (smN G k + G k)
    rw [smN_add F G k]
    omega
theorem smN_app (F : Nat → Nat) (a : Nat) : ∀ b, smN F (a + b) = smN F a + smN (fun i => F (a + i)) b
  | 0 => rfl
  | b + 1 => by
    show smN F (a + b) + F (a + b) = smN F a + (smN (fun i => F (a + i)) b + F (a + b))
    rw [smN_app F a b]
    omega
theorem smN_dbl (F : Nat → Nat) : ∀ k, smN F (2 * k) = smN (fun i => F (2 * i) + F (2 * i + 1)) k
  | 0 => rfl
  | k + 1 => by
    show smN F (2 * k) + F (2 * k) + F (2 * k + 1) = smN (fun i => F (2 * i) + F (2 * i + 1)) k + (F (2 * k) + F (2 * k + 1))
    rw [smN_dbl F k]
    omega
theorem smN_le {F G : Nat → Nat} {m : Nat} : ∀ {k}, (∀ i, i < k → F i ≤ m * G i) → smN F k ≤ m * smN G k
  | 0, _ => by show 0 ≤ m * 0; omega
  | k + 1, h => by
    have ih := smN_le (F := F) (G := G) (m := m) (k := k) (fun i hi => h i (by omega))
    have hk := h k (by omega)
    show smN F k + F k ≤ m * (smN G k + G k)
    rw [Nat.mul_add]
    omega
/-- a code backwards -/
def bkN (h c : Nat) : Nat → Nat
  | 0 => 0
  | i + 1 => bkN h c i ||| (c / 2 ^ i % 2) * 2 ^ (h - 1 - i)
def lwb (c : Nat) : Nat := (c &&& (256 - c)) - 1
def fcv (h c : Nat) : Nat := h - pc7 (lwb c)
theorem bk_lt : ∀ h, h ≤ 8 → ∀ c, c < 2 ^ h → ∀ i, i ≤ h → bkN h c i < 2 ^ h := by decide +kernel
theorem bk_cnt : ∀ h, h ≤ 8 → ∀ c, c < 2 ^ h → bitsF (bkN h c h) h = bitsF c 8 := by decide +kernel
theorem bk_eq : ∀ h, h ≤ 8 → ∀ c, c < 2 ^ h → 0 < c → ∀ i, i < 8 → i + 1 < fcv h c → (bkN h c h).testBit i = (bkN h (c - 1) h).testBit i := by decide +kernel
theorem bk_lw : ∀ c, c < 256 → 0 < c → ((nI c &&& (-nI c)) - 1) = nI (lwb c) ∧ lwb c < 128 := by decide +kernel
theorem bk_pc : ∀ h, h ≤ 8 → ∀ c, c < 2 ^ h → 0 < c → pc7 (lwb c) ≤ h := by decide +kernel
theorem bk_0 : ∀ h, h < 8 → ∀ c, c < 2 ^ h → bkN (h + 1) c (h + 1) = 2 * bkN h c h ∧ bkN (h + 1) (2 ^ h + c) (h + 1) = 2 * bkN h c h + 1 := by decide +kernel
theorem smN_bk : ∀ (h : Nat) (F : Nat → Nat), h ≤ 8 → smN (fun c => F (bkN h c h)) (2 ^ h) = smN F (2 ^ h)
  | 0, F, _ => rfl
  | h + 1, F, hh => by
    rw [show 2 ^ (h + 1) = 2 ^ h + 2 ^ h by rw [Nat.pow_succ]; omega, smN_app]
    rw [smN_c (k := 2 ^ h) (F := fun c => F (bkN (h + 1) c (h + 1))) (G := fun c => (fun s => F (2 * s)) (bkN h c h)) (fun c hc => by show F _ = F _; rw [(bk_0 h (by omega) c hc).1])]
    rw [smN_c (k := 2 ^ h) (F := fun c => F (bkN (h + 1) (2 ^ h + c) (h + 1))) (G := fun c => (fun s => F (2 * s + 1)) (bkN h c h)) (fun c hc => by show F _ = F _; rw [(bk_0 h (by omega) c hc).2])]
    rw [smN_bk h (fun s => F (2 * s)) (by omega), smN_bk h (fun s => F (2 * s + 1)) (by omega), ← smN_add, ← smN_dbl, show 2 ^ h + 2 ^ h = 2 * 2 ^ h by omega]
/-- how likely -/
def wtS (o s : Nat) : Nat → Nat
  | 0 => 1
  | t + 1 => wtS o s t * (if s / 2 ^ t % 2 = 1 then o else 10 - o)
theorem bitsF_le (s : Nat) : ∀ t, bitsF s t ≤ t
  | 0 => Nat.le_refl _
  | t + 1 => by
    have := bitsF_le s t
    show bitsF s t + s / 2 ^ t % 2 ≤ t + 1
    omega
theorem wtS_pow (o s : Nat) : ∀ t, wtS o s t = o ^ bitsF s t * (10 - o) ^ (t - bitsF s t)
  | 0 => by simp [wtS, bitsF]
  | t + 1 => by
    have hl := bitsF_le s t
    show wtS o s t * (if s / 2 ^ t % 2 = 1 then o else 10 - o) = o ^ (bitsF s t + s / 2 ^ t % 2) * (10 - o) ^ (t + 1 - (bitsF s t + s / 2 ^ t % 2))
    rw [wtS_pow o s t]
    by_cases e : s / 2 ^ t % 2 = 1
    · rw [if_pos e, e, show t + 1 - (bitsF s t + 1) = t - bitsF s t by omega, Nat.pow_succ, Nat.mul_right_comm]
    · rw [if_neg e, show s / 2 ^ t % 2 = 0 by omega, show t + 1 - (bitsF s t + 0) = (t - bitsF s t) + 1 by omega, Nat.pow_succ, Nat.add_zero, Nat.mul_assoc]
theorem wtS_all : ∀ o, o ≤ 10 → ∀ h, h ≤ 8 → smN (fun s => wtS o s h) (2 ^ h) = 10 ^ h := by decide +kernel
theorem pow10 {b e : Nat} (hb : b ≤ 10) (he : e ≤ 8) : b ^ e ≤ 100000000 := Nat.le_trans (Nat.pow_le_pow_left hb e) (show 10 ^ e ≤ 10 ^ 8 from Nat.pow_le_pow_right (by decide) he)
theorem wtS_le {o s t : Nat} (ho : o ≤ 10) (ht : t ≤ 8) : wtS o s t ≤ 100000000 := by
  have h : ∀ t, wtS o s t ≤ 10 ^ t := by
    intro t
    induction t with
    | zero => exact Nat.le_refl _
    | succ t ih =>
      show wtS o s t * (if s / 2 ^ t % 2 = 1 then o else 10 - o) ≤ 10 ^ (t + 1)
      rw [Nat.pow_succ]
      exact Nat.mul_le_mul ih (by by_cases e : s / 2 ^ t % 2 = 1
                                  · rw [if_pos e]; exact ho
                                  · rw [if_neg e]; omega)
  exact Nat.le_trans (h t) (show 10 ^ t ≤ 10 ^ 8 from Nat.pow_le_pow_right (by decide) ht)
theorem bcF_8 : ∀ a, a < 256 → bcF (nI a) = nI (bitsF a 8) := by decide +kernel
def vlP (A : Nt) (h p s : Nat) : Nat := if (rows A (Psl A s) h p).1 = [] then 0 else 1
def vlM (A : Nt) (h s : Nat) : Nat := sumL (rows A (Psl A s) h) (A.1 0 3)
section CH
variable {A : Nt} {I : Nat → Nat → Int32} {L : Nat → Nat → Int64}
theorem ct_bitCount8 {a : Nat} (ha : a < 256) : q_C kJ6_bitCount_0f7a4 [.int (nI a)] I L (some (.int (nI (bitsF a 8)))) I L := by
  rw [← bcF_8 a ha]
  refine c0_J6_bitCount_0f7a4 (vc_J6_bitCount_0f7a4_0 ?_)
  intro z1 h1 z2 h2 z3 h3 z4 h4 z5 h5
  subst h1; subst h2; subst h3; subst h4; subst h5
  exact ⟨rfl, rfl, rfl⟩
theorem ct_power {b e : Nat} (hb : b ≤ 10) (he : e ≤ 8) : q_C kX1_power [.int (nI b), .int (nI e)] I L (some (.long (lN (b ^ e)))) I L := by
  refine c0_X1_power (vc_X1_power_0 ?_)
  refine down (P := fun k => v_X1_power_5 (some (.long (lN (b ^ e)))) I L I L (nI b) (nI e) (lN (b ^ k)) (nI k)) (n := e) ?_ ?_
  · exact vc_X1_power_5 ⟨fun _ => ⟨rfl, rfl, rfl⟩, fun z => absurd (nI_le (Nat.le_refl _) (by omega)) z⟩
  · intro k hk ih
    refine vc_X1_power_5 ⟨fun z => absurd z (nI_ge hk (by omega)), fun _ => ?_⟩
    rw [nI_l (by omega), lN_mul, nI_1, ← Nat.pow_succ]
    exact ih
theorem ct_backwards {h c : Nat} (hh : h ≤ 8) (hc : c < 2 ^ h) : q_C kX1_backwards [.int (nI c), .int (nI h)] I L (some (.int (nI (bkN h c h)))) I L := by
  have hp : 2 ^ h ≤ 2 ^ 8 := Nat.pow_le_pow_right (by decide) hh
  refine c0_X1_backwards (vc_X1_backwards_0 ?_)
  refine down (P := fun k => v_X1_backwards_4 (some (.int (nI (bkN h c h)))) I L I L (nI c) (nI h) (nI (bkN h c k)) (nI k)) (n := h) ?_ ?_
  · exact vc_X1_backwards_4 ⟨fun _ => ⟨rfl, rfl, rfl⟩, fun z => absurd (nI_le (Nat.le_refl _) (by omega)) z⟩
  · intro k hk ih
    refine vc_X1_backwards_4 ⟨fun z => absurd z (nI_ge hk (by omega)), fun _ z1 h1 => ?_⟩
    have hq : 2 ^ (h - 1 - k) ≤ 2 ^ 8 := Nat.pow_le_pow_right (by decide) (by omega)
    have hm : c / 2 ^ k % 2 < 2 := Nat.mod_lt _ (by decide)
    have hmul : c / 2 ^ k % 2 * 2 ^ (h - 1 - k) ≤ 1 * 2 ^ (h - 1 - k) := Nat.mul_le_mul_right _ (by omega)
    rw [u_bit (by omega) (by omega), show (1 : Int32) = nI 1 from rfl, pk_sub (by omega), pk_sub (by omega), u_shl (by omega) (by omega), u_or] at h1
    rw [h1, nI_1]
    exact ih
theorem ct_firstChanged {h c : Nat} (hh : h ≤ 8) (hc : c < 2 ^ h) : q_C kX1_firstChanged [.int (nI c), .int (nI h)] I L (some (.int (nI (if c = 0 then 0 else fcv h c)))) I L := by
  have hp : 2 ^ h ≤ 2 ^ 8 := Nat.pow_le_pow_right (by decide) hh
  refine c0_X1_firstChanged (vc_X1_firstChanged_0 ⟨fun z => ?_, fun z => ?_⟩)
  · rw [u_0 (by omega)] at z
    rw [if_pos z]
    exact ⟨rfl, rfl, rfl⟩
  · rw [u_0 (by omega)] at z
    obtain ⟨e, hl⟩ := bk_lw c (by omega) (by omega)
    rw [if_neg z, e]
    refine ⟨_, ct_bitCount hl, ?_, rfl, rfl⟩
    rw [pk_sub (bk_pc h hh c hc (by omega))]
    rfl
theorem cq_letters81 {P : Pm} {t : Nat} (hR : RC A I 12 21) (hV : NV A) (hPV : PV A P) (hr : rwE cE I 81 t (A.1 0 3) (rows A P t)) (ht : t ≤ 12) : q_C kX3_lettersSaid [.ref 81, .int (nI t)] I L (some (.int (nI (sumL (rows A P t) (A.1 0 3))))) I L := by
  have h3 := hV.1.2.2.2.1
  have e4 : I 12 4 = nI (A.1 0 3) := hR.1.2.2.2.2.1
  refine c0_X3_lettersSaid_81 (vc_X3_lettersSaid_81_0 ?_)
  refine down (P := fun k => v_X3_lettersSaid_81_4 (some (.int (nI (sumL (rows A P t) (A.1 0 3))))) I L I L (nI t) (nI (sumL (rows A P t) k)) (nI k)) (n := A.1 0 3) ?_ ?_
  · refine vc_X3_lettersSaid_81_4 ?_
    simp (disch := omega) only [l_0, l_1, l_2, l_3, l_4, l_5, l_6, l_7, l_8, l_9, l_10, l_11, l_12, l_15, l_16, l_20, l_24, l_30, l_31, l_32, l_50, l_54, l_60, l_62, l_63, l_64, l_74, l_91, l_100, l_128, l_240, l_600, l_10000, l_m1, nI_leI, nI_ltI, u_eq, u_add, u_mul, u_cl, u_in_t, pk_sub, pk_div, nI_nm1, m1_nI, m1_lt, m1_le, nI_ltm, nI_lem, up2_s_, u_31, u_one3, u_shr3, u_and1, u_or, true_and, and_true, e4]
    exact ⟨fun _ => trivial, fun z => absurd (Nat.le_refl _) z⟩
  · intro k hk ih
    have a1 : I 83 (t * 7 + k) = nI (cE (rows A P t k).1) := by rw [Nat.mul_comm]; exact (hr k hk).1
    have l1 := (RV_rows hV hPV t k hk).1
    refine vc_X3_lettersSaid_81_4 ?_
    simp (disch := omega) only [l_0, l_1, l_2, l_3, l_4, l_5, l_6, l_7, l_8, l_9, l_10, l_11, l_12, l_15, l_16, l_20, l_24, l_30, l_31, l_32, l_50, l_54, l_60, l_62, l_63, l_64, l_74, l_91, l_100, l_128, l_240, l_600, l_10000, l_m1, nI_leI, nI_ltI, u_eq, u_add, u_mul, u_cl, u_in_t, pk_sub, pk_div, nI_nm1, m1_nI, m1_lt, m1_le, nI_ltm, nI_lem, up2_s_, u_31, u_one3, u_shr3, u_and1, u_or, true_and, and_true, e4, a1]
    refine ⟨fun z => by omega, fun _ => ⟨_, ct_size l1, ?_⟩⟩
    rw [u_add]
    exact ih
/-- the class's sum: by a value of each silence -/
theorem ce_weighed (hR : RC A I 12 21) (hV : NV A) {h : Nat} (h1 : 1 ≤ h) (h8 : h ≤ 8) (hh : h ≤ A.1 0 0) (w : Int32) (val : Nat → Nat) (hval : ∀ s, s < 2 ^ h → ∀ J : Nat → Nat → Int32, RC A J 12 21 → rwE cE J 81 h (A.1 0 3) (rows A (Psl A s) h) → J 82 h = nI (litB (rows A (Psl A s) h) (A.1 0 3)) → ((w = -1 → q_C kX3_lettersSaid [.ref 81, .int (nI h)] J L (some (.int (nI (val s)))) J L) ∧ (¬ w = -1 → ((J 82 h >>> (w &&& 31)) &&& 1) = nI (val s))) ∧ val s < 2147483648) : ∃ I', q_C kX1_weighed [.ref 95, .int (nI (h - 1)), .int w] I L (some (.long (lN (smN (fun s => wtS (A.1 0 2) s h * val s) (2 ^ h))))) I' L ∧ FT I I' := by
  have ho := hV.1.2.2.1
  have h0 := hV.1.1
  have hp : 2 ^ h ≤ 2 ^ 8 := Nat.pow_le_pow_right (by decide) h8
  obtain ⟨I0, c0, hP0, hf0⟩ := ce_asNow_81 (L := L) hR
  rw [← smN_bk h (fun s => wtS (A.1 0 2) s h * val s) h8]
  have lp := mloop (V := fun k I' J => v_X1_weighed_17 (some (.long (lN (smN (fun c => wtS (A.1 0 2) (bkN h c h) h * val (bkN h c h)) (2 ^ h))))) I' L J L w (nI h) (lN (smN (fun c => wtS (A.1 0 2) (bkN h c h) h * val (bkN h c h)) k)) (nI k)) (Inv := fun k J => FT I J ∧ ∃ s, PC (Psl A s) J 81 ∧ (k = 0 ∨ s = bkN h (k - 1) h ∧ crs cE A (Psl A s) J 81 (h + 1) ∧ lts A (Psl A s) J 81 (h + 1))) (n := 2 ^ h) (Q := fun I' => FT I I') ?_ ?_ I0 ⟨fun a k z => hf0 a k (by omega), 0, hP0, Or.inl rfl⟩
  · obtain ⟨I', hw, hf⟩ := lp
    refine ⟨I', c0_X1_weighed (vc_X1_weighed_0 ⟨I0, c0, ?_⟩), hf⟩
    rw [nI_1, show h - 1 + 1 = h by omega]
    exact hw
  · rintro J ⟨hJ, -⟩
    refine ⟨J, vc_X1_weighed_17 ?_, hJ⟩
    rw [u_one (by omega)]
    exact ⟨fun _ => ⟨rfl, rfl, rfl⟩, fun z => absurd (nI_le (Nat.le_refl _) (by omega)) z⟩
  · rintro k J hk ⟨hJ, s, hPJ, hc⟩
    have hs' := bk_lt h h8 k hk h (Nat.le_refl _)
    have hP2 : PC (Psl A (bkN h k h)) (up2 J 81 9 (nI (bkN h k h))) 81 := hPJ.sil _
    have hfu : FT J (up2 J 81 9 (nI (bkN h k h))) := FT_up (by omega)
    have hR2 := (hJ.tr hfu).RC hR
    have hcr : crs cE A (Psl A (bkN h k h)) (up2 J 81 9 (nI (bkN h k h))) 81 (if k = 0 then 0 else fcv h k) ∧ lts A (Psl A (bkN h k h)) (up2 J 81 9 (nI (bkN h k h))) 81 (if k = 0 then 0 else fcv h k) := by
      by_cases e : k = 0
      · rw [if_pos e]
        exact ⟨fun t ht => absurd ht (by omega), fun t ht => absurd ht (by omega)⟩
      · rw [if_neg e]
        obtain ⟨hs, hc1, hc2⟩ := hc.resolve_left e
        have hfle : fcv h k ≤ h := by unfold fcv; omega
        have hrw : ∀ t, t < fcv h k → rows A (Psl A (bkN h k h)) t = rows A (Psl A s) t := fun t ht => by
          rw [hs]
          exact rows_sil t (fun i hi => bk_eq h h8 k hk (by omega) i (by omega) (by omega))
        constructor
        · intro t ht p hp2
          rw [hrw t ht, up2_p (by omega), up2_p (by omega), up2_p (by omega), up2_p (by omega)]
          exact hc1 t (by omega) p hp2
        · intro t ht
          rw [hrw t ht, up2_p (by omega)]
          exact hc2 t (by omega)
    have hfle : (if k = 0 then 0 else fcv h k) ≤ h := by
      by_cases e : k = 0
      · rw [if_pos e]; omega
      · rw [if_neg e]; unfold fcv; omega
    obtain ⟨I4, c4, h41, h42, hf4⟩ := ce_run_81 (L := L) (f := if k = 0 then 0 else fcv h k) (l := h) hR2 hV hP2 (PV_Psl hV (by omega)) (by omega) hfle hcr.1 hcr.2
    have hR4 := hf4.t.RC hR2
    have e3 : I4 12 3 = nI (A.1 0 2) := hR4.1.2.2.2.1
    obtain ⟨hv1, hv2⟩ := hval (bkN h k h) hs' I4 hR4 (h41 h (by omega)) (h42 h (by omega))
    have hbl := bitsF_le (bkN h k h) h
    rw [bk_cnt h h8 k hk] at hbl
    have hwt : wtS (A.1 0 2) (bkN h k h) h = (A.1 0 2) ^ bitsF k 8 * (10 - A.1 0 2) ^ (h - bitsF k 8) := by rw [wtS_pow, bk_cnt h h8 k hk]
    refine ⟨I4, ⟨hJ.tr (hfu.tr hf4.t), bkN h k h, PC_of (fun j => hf4 81 j (by omega)) hP2, Or.inr ⟨by rw [Nat.add_sub_cancel], h41, h42⟩⟩, fun I' hw => vc_X1_weighed_17 ?_⟩
    have hw : v_X1_weighed_17 (some (.long (lN (smN (fun c => wtS (A.1 0 2) (bkN h c h) h * val (bkN h c h)) (2 ^ h))))) I' L I4 L w (nI h) (lN (smN (fun c => wtS (A.1 0 2) (bkN h c h) h * val (bkN h c h)) k + wtS (A.1 0 2) (bkN h k h) h * val (bkN h k h))) (nI (k + 1)) := hw
    rw [u_one (by omega)]
    refine ⟨fun z => absurd z (nI_ge hk (by omega)), fun _ => ⟨_, ct_backwards h8 hk, _, ct_firstChanged h8 hk, _, I4, c4, _, ct_bitCount8 (by omega), lN ((A.1 0 2) ^ bitsF k 8), ?_, lN ((10 - A.1 0 2) ^ (h - bitsF k 8)), ?_, fun z => ⟨_, hv1.1 z, ?_⟩, fun z => ⟨u_in (by omega) (by decide), fun z8 h8' => ?_⟩⟩⟩
    · rw [e3]
      exact ct_power ho (by omega)
    · rw [e3, show (10 : Int32) = nI 10 from rfl, pk_sub ho, pk_sub hbl]
      exact ct_power (by omega) (by omega)
    · rw [lN_mul, ← hwt, nI_l (by omega), lN_mul, lN_add, nI_1]
      exact hw
    · rw [u_cl (by omega), hv1.2 z, lN_mul, ← hwt, nI_l (by omega), lN_mul, lN_add] at h8'
      rw [h8', nI_1]
      exact hw
theorem ct_noChanceHour (hR : RC A I 12 21) (x : Int32) : q_C kX11_noChanceHour [.ref 0, .int x] I L (some (.int (if x < 0 ∨ 7 < x ∨ nI (A.1 0 0) ≤ x then 1 else 0))) I L := by
  have e1 : I 12 1 = nI (A.1 0 0) := hR.1.2.1
  refine c0_X11_noChanceHour (vc_X11_noChanceHour_0 ?_)
  rw [e1]
  refine ⟨fun z => ?_, fun z => ⟨fun z2 => ?_, fun z2 => ⟨fun z3 => ?_, fun z3 => ?_⟩⟩⟩
  · rw [if_pos (Or.inl z)]; exact ⟨rfl, rfl, rfl⟩
  · rw [if_pos (Or.inr (Or.inl z2))]; exact ⟨rfl, rfl, rfl⟩
  · rw [if_neg (fun q => q.elim z (fun q => q.elim z2 (fun q => absurd z3 (Int32.not_lt.mpr q))))]; exact ⟨rfl, rfl, rfl⟩
  · rw [if_pos (Or.inr (Or.inr (Int32.not_lt.mp z3)))]; exact ⟨rfl, rfl, rfl⟩
theorem ct_isSilence (hR : RM A I 97 0) (hV : NV A) (x y : Int32) : q_C kX12_isSilence [.ref 96, .int x, .int y] I L (some (.int (if (x < 0 ∨ 7 < x ∨ nI (A.1 0 0) ≤ x) ∨ ib 0 1 y then 0 else 1))) I L := by
  refine c0_X12_isSilence (vc_X12_isSilence_0 ⟨_, ct_isNight hR hV, ?_⟩)
  by_cases h8 : A.1 0 8 = 0
  · have e0 : A.1 0 0 = 0 := hV.2.1 h8 0 (by decide)
    have hx : x < 0 ∨ 7 < x ∨ nI (A.1 0 0) ≤ x := by
      rw [e0, t_lt, t_lt, t_le, show (0 : Int32).toInt = 0 from rfl, show (nI 0).toInt = 0 from rfl]
      omega
    rw [if_pos (Or.inl hx : (x < 0 ∨ 7 < x ∨ nI (A.1 0 0) ≤ x) ∨ ib 0 1 y)]
    exact g0p h8 ⟨rfl, rfl, rfl⟩
  refine g0n h8 ⟨_, ct_inI x 0 7, ?_⟩
  by_cases h7 : ib 0 7 x
  · rw [if_pos (Or.inl (h7.elim Or.inl (fun z => Or.inr (Or.inl z))) : (x < 0 ∨ 7 < x ∨ nI (A.1 0 0) ≤ x) ∨ ib 0 1 y)]
    exact g0p h7 ⟨rfl, rfl, rfl⟩
  refine g0n h7 ⟨_, ct_hours hR, fun z => ?_, fun z => ⟨_, ct_inI y 0 1, ?_⟩⟩
  · rw [if_pos (Or.inl (Or.inr (Or.inr z)) : (x < 0 ∨ 7 < x ∨ nI (A.1 0 0) ≤ x) ∨ ib 0 1 y)]
    exact ⟨rfl, rfl, rfl⟩
  · by_cases hy : ib 0 1 y
    · rw [if_pos (Or.inr hy : (x < 0 ∨ 7 < x ∨ nI (A.1 0 0) ≤ x) ∨ ib 0 1 y)]
      exact g0p hy ⟨rfl, rfl, rfl⟩
    · rw [if_neg (fun q : (x < 0 ∨ 7 < x ∨ nI (A.1 0 0) ≤ x) ∨ ib 0 1 y => q.elim (fun q => q.elim (fun q => h7 (Or.inl q)) (fun q => q.elim (fun q => h7 (Or.inr q)) z)) hy)]
      exact g0n hy ⟨rfl, rfl, rfl⟩
theorem cm_saysRaw {t p : Nat} (ht : t ≤ 12) (hp : p < 7) : q_C kX12_saysOf [.ref 96, .int (nI p), .int (nI t)] I L (some (.int (I 103 (7 * t + p)))) I L := by
  refine c0_X12_saysOf (vc_X12_saysOf_0 ?_)
  rw [ix7m, u_cl (by omega)]
  exact ⟨u_in (by omega) (by decide), rfl, rfl, rfl⟩
/-- the reference's sums -/
theorem cm_laySilence (hR : RM A I 97 0) (hV : NV A) {p hour : Nat} (hp : p < 7) (h7 : hour ≤ 7) (hh : hour < A.1 0 0) : ∃ I' L', q_C kX12_laySilence [.ref 96, .int (nI p), .int (nI hour)] I L none I' L' ∧ Mq I I' ∧ (∀ a j, (a ≠ 96 ∨ j < 34 ∨ 36 < j) → L' a j = L a j) ∧ L' 96 34 = lN (10 ^ (hour + 1)) ∧ L' 96 36 = lN (smN (fun s => wtS (A.1 0 2) s (hour + 1) * vlM A (hour + 1) s) (2 ^ (hour + 1))) ∧ (p < A.1 0 3 → L' 96 35 = lN (smN (fun s => wtS (A.1 0 2) s (hour + 1) * vlP A (hour + 1) p s) (2 ^ (hour + 1)))) := by
  have ho := hV.1.2.2.1
  have h0 := hV.1.1
  have h3 := hV.1.2.2.2.1
  have hpw : 2 ^ (hour + 1) ≤ 2 ^ 8 := Nat.pow_le_pow_right (by decide) (by omega)
  have hpe : 2 * 2 ^ hour = 2 ^ (hour + 1) := by rw [Nat.pow_succ]; omega
  have hsh : (2 : Int32) <<< (nI hour &&& 31) = nI (2 ^ (hour + 1)) := by
    rw [show (2 : Int32) = nI 2 from rfl, u_shl (by omega) (by omega), hpe]
  rw [← wtS_all (A.1 0 2) ho (hour + 1) (by omega)]
  obtain ⟨I0, c0, hP0, -, hM0, hR0⟩ := cm_as (L := up2 (up2 (up2 L 96 34 0) 96 35 0) 96 36 0) hR
  have lp := mloop (α := (Nat → Nat → Int32) × (Nat → Nat → Int64)) (V := fun k X Y => v_X12_laySilence_21 none X.1 X.2 Y.1 Y.2 (nI p) (nI hour) (nI k)) (Inv := fun k Y => Mq I Y.1 ∧ (∃ s, PMd (Psl A s) Y.1) ∧ (∀ a j, (a ≠ 96 ∨ j < 34 ∨ 36 < j) → Y.2 a j = L a j) ∧ Y.2 96 34 = lN (smN (fun s => wtS (A.1 0 2) s (hour + 1)) k) ∧ Y.2 96 36 = lN (smN (fun s => wtS (A.1 0 2) s (hour + 1) * vlM A (hour + 1) s) k) ∧ (p < A.1 0 3 → Y.2 96 35 = lN (smN (fun s => wtS (A.1 0 2) s (hour + 1) * vlP A (hour + 1) p s) k))) (n := 2 ^ (hour + 1)) (Q := fun X => Mq I X.1 ∧ (∀ a j, (a ≠ 96 ∨ j < 34 ∨ 36 < j) → X.2 a j = L a j) ∧ X.2 96 34 = lN (smN (fun s => wtS (A.1 0 2) s (hour + 1)) (2 ^ (hour + 1))) ∧ X.2 96 36 = lN (smN (fun s => wtS (A.1 0 2) s (hour + 1) * vlM A (hour + 1) s) (2 ^ (hour + 1))) ∧ (p < A.1 0 3 → X.2 96 35 = lN (smN (fun s => wtS (A.1 0 2) s (hour + 1) * vlP A (hour + 1) p s) (2 ^ (hour + 1))))) ?_ ?_ (I0, up2 (up2 (up2 L 96 34 0) 96 35 0) 96 36 0) ⟨hM0, ⟨0, hP0⟩, fun a j q => by show up2 (up2 (up2 L 96 34 0) 96 35 0) 96 36 0 a j = _; rw [up2_o' (by omega), up2_o' (by omega), up2_o' (by omega)], by show up2 (up2 (up2 L 96 34 0) 96 35 0) 96 36 0 96 34 = _; rw [up2_k (by decide), up2_k (by decide), up2_s]; rfl, by show up2 (up2 (up2 L 96 34 0) 96 35 0) 96 36 0 96 36 = _; rw [up2_s]; rfl, fun _ => by show up2 (up2 (up2 L 96 34 0) 96 35 0) 96 36 0 96 35 = _; rw [up2_k (by decide), up2_s]; rfl⟩
  · obtain ⟨⟨I', L'⟩, hw, hM, hF, h34, h36, h35⟩ := lp
    exact ⟨I', L', c0_X12_laySilence (vc_X12_laySilence_0 ⟨I0, c0, hw⟩), hM, hF, h34, h36, h35⟩
  · rintro ⟨J, M⟩ ⟨hM, -, hF, h34, h36, h35⟩
    refine ⟨(J, M), vc_X12_laySilence_21 ?_, hM, hF, h34, h36, h35⟩
    rw [hsh]
    exact ⟨fun _ => ⟨rfl, rfl, rfl⟩, fun z => absurd (nI_le (Nat.le_refl _) (by omega)) z⟩
  · rintro k ⟨J, M⟩ hk ⟨hM, ⟨s, hP⟩, hF, h34, h36, h35⟩
    have h34 : M 96 34 = lN (smN (fun s => wtS (A.1 0 2) s (hour + 1)) k) := h34
    have h36 : M 96 36 = lN (smN (fun s => wtS (A.1 0 2) s (hour + 1) * vlM A (hour + 1) s) k) := h36
    have h35 : p < A.1 0 3 → M 96 35 = lN (smN (fun s => wtS (A.1 0 2) s (hour + 1) * vlP A (hour + 1) p s) k) := h35
    have hRJ : RM A J 97 0 := RM_of (fun j => hM 97 j (by omega)) hR
    have e2 : J 97 (2 : Int32).toNatClampNeg = nI (A.1 0 2) := hRJ.1 2 (by decide)
    have hwl := wtS_le (o := A.1 0 2) (s := k) (t := hour + 1) ho (by omega)
    -- from the product on
    have pre : ∀ X : (Nat → Nat → Int32) × (Nat → Nat → Int64), v_X12_laySilence_34 none X.1 X.2 J M (nI p) (nI hour) (nI k) (lN (wtS (A.1 0 2) k (hour + 1))) (nI (hour + 1)) → v_X12_laySilence_21 none X.1 X.2 J M (nI p) (nI hour) (nI k) := by
      intro X hw
      refine vc_X12_laySilence_21 ?_
      rw [hsh]
      refine ⟨fun z => absurd z (nI_ge hk (by omega)), fun _ => ?_⟩
      refine down (P := fun t => v_X12_laySilence_34 none X.1 X.2 J M (nI p) (nI hour) (nI k) (lN (wtS (A.1 0 2) k t)) (nI t)) (n := hour + 1) hw ?_
      intro t ht ih
      refine vc_X12_laySilence_34 ⟨fun z => absurd z (nI_nlt (by omega) (by omega)), fun _ => ⟨_, ct_bitN (by omega) (by omega), fun z => ⟨by unfold vp_in; decide, fun z5 h5 => ?_⟩, fun z => ⟨by unfold vp_in; decide, fun z5 h5 => ?_⟩⟩⟩
      · have hb : k / 2 ^ t % 2 = 1 := (u_eq (b := 1) (by omega) (by decide)).mp z
        rw [e2, nI_l (by omega), lN_mul] at h5
        have e : wtS (A.1 0 2) k (t + 1) = wtS (A.1 0 2) k t * A.1 0 2 := by
          show wtS (A.1 0 2) k t * (if k / 2 ^ t % 2 = 1 then A.1 0 2 else 10 - A.1 0 2) = _
          rw [if_pos hb]
        rw [e] at ih
        rw [h5, nI_1]
        exact ih
      · have hb : ¬ k / 2 ^ t % 2 = 1 := fun q => z ((u_eq (b := 1) (by omega) (by decide)).mpr q)
        rw [e2, show (10 : Int32) = nI 10 from rfl, pk_sub ho, nI_l (by omega), lN_mul] at h5
        have e : wtS (A.1 0 2) k (t + 1) = wtS (A.1 0 2) k t * (10 - A.1 0 2) := by
          show wtS (A.1 0 2) k t * (if k / 2 ^ t % 2 = 1 then A.1 0 2 else 10 - A.1 0 2) = _
          rw [if_neg hb]
        rw [e] at ih
        rw [h5, nI_1]
        exact ih
    have hgt : nI hour < nI (hour + 1) := nI_lt (by omega) (by omega)
    by_cases hz : wtS (A.1 0 2) k (hour + 1) = 0
    · refine ⟨(J, M), ⟨hM, ⟨s, hP⟩, hF, ?_, ?_, fun q => ?_⟩, fun X hw => pre X (vc_X12_laySilence_34 ⟨fun _ => ⟨fun _ => ?_, fun q => absurd ?_ q⟩, fun z => absurd hgt z⟩)⟩
      · show M 96 34 = lN (smN (fun s => wtS (A.1 0 2) s (hour + 1)) k + wtS (A.1 0 2) k (hour + 1))
        rw [hz, Nat.add_zero]; exact h34
      · show M 96 36 = lN (smN (fun s => wtS (A.1 0 2) s (hour + 1) * vlM A (hour + 1) s) k + wtS (A.1 0 2) k (hour + 1) * vlM A (hour + 1) k)
        rw [hz, Nat.zero_mul, Nat.add_zero]; exact h36
      · show M 96 35 = lN (smN (fun s => wtS (A.1 0 2) s (hour + 1) * vlP A (hour + 1) p s) k + wtS (A.1 0 2) k (hour + 1) * vlP A (hour + 1) p k)
        rw [hz, Nat.zero_mul, Nat.add_zero]; exact h35 q
      · rw [nI_1]; exact hw
      · rw [hz]; exact (lg_cmp_eq _ _).mpr rfl
    · have hP2 : PMd (Psl A k) (up2 J 96 17 (nI k)) := hP.sil k
      have hM2 : Mq J (up2 J 96 17 (nI k)) := fun a j q => up2_o' (by omega)
      obtain ⟨I1, c1, h1, hf1⟩ := tr_go (L := M) (RM_of (fun j => up2_p (by decide)) hRJ) hV hP2 (PV_Psl hV (by omega)) (fun z => absurd rfl z)
      have hM1 : Mq J I1 := hM2.tr hf1.q
      obtain ⟨W, hW⟩ : ∃ W, W = wtS (A.1 0 2) k (hour + 1) := ⟨_, rfl⟩
      have hlit : ∃ e : Nat, (p < A.1 0 3 → e = vlP A (hour + 1) p k) ∧ ∀ X : (Nat → Nat → Int32) × (Nat → Nat → Int64), v_X12_laySilence_133 none X.1 X.2 I1 (up2 M 96 34 (M 96 34 + lN W)) (nI p) (nI hour) (nI k) (lN W) (M 96 35) (lN (W * e)) → v_X12_laySilence_34 none X.1 X.2 J M (nI p) (nI hour) (nI k) (lN W) (nI (hour + 1)) := by
        have hne : ¬ lg_cmp (lN W) 0 = 0 := fun q => lN_ne (u := W) (by omega) (by omega) ((lg_cmp_eq _ _).mp q)
        by_cases hpos : I1 103 (7 * (hour + 1) + p) ≤ 0
        · refine ⟨0, fun q => ?_, fun X hw => vc_X12_laySilence_34 ⟨fun _ => ⟨fun q => absurd q hne, fun _ => ⟨I1, c1, _, by rw [nI_1]; exact cm_saysRaw (by omega) hp, fun _ => ?_, fun z => absurd hpos z⟩⟩, fun z => absurd hgt z⟩⟩
          · have e : I1 103 (7 * (hour + 1) + p) = nI (mE (rows A (Psl A k) (hour + 1) p).1) := (h1.says (t := hour + 1) (by omega) q).1
            rw [e, mE_le0 (h1.cv q).1] at hpos
            unfold vlP
            rw [if_pos hpos]
          · rw [up2_k (by decide)]
            rw [Nat.mul_zero] at hw
            exact hw
        · refine ⟨1, fun q => ?_, fun X hw => vc_X12_laySilence_34 ⟨fun _ => ⟨fun q => absurd q hne, fun _ => ⟨I1, c1, _, by rw [nI_1]; exact cm_saysRaw (by omega) hp, fun z => absurd z hpos, fun _ => ?_⟩⟩, fun z => absurd hgt z⟩⟩
          · have e : I1 103 (7 * (hour + 1) + p) = nI (mE (rows A (Psl A k) (hour + 1) p).1) := (h1.says (t := hour + 1) (by omega) q).1
            rw [e, mE_le0 (h1.cv q).1] at hpos
            unfold vlP
            rw [if_neg hpos]
          · rw [up2_k (by decide)]
            rw [Nat.mul_one] at hw
            exact hw
      obtain ⟨e, he, hlit⟩ := hlit
      have hsl := sumL_le (RV_rows hV (PV_Psl hV (s := k) (by omega)) (hour + 1)) (A.1 0 3) (Nat.le_refl _)
      refine ⟨(I1, up2 (up2 (up2 M 96 34 (M 96 34 + lN W)) 96 35 (M 96 35 + lN (W * e))) 96 36 (M 96 36 + lN W * lN (vlM A (hour + 1) k))), ⟨hM.tr hM1, ⟨k, PMd_of (fun j => hf1 96 j (by omega)) hP2⟩, fun a j q => ?_, ?_, ?_, fun q => ?_⟩, fun X hw => pre X ?_⟩
      · show up2 (up2 (up2 M 96 34 (M 96 34 + lN W)) 96 35 (M 96 35 + lN (W * e))) 96 36 (M 96 36 + lN W * lN (vlM A (hour + 1) k)) a j = _
        rw [up2_o' (by omega), up2_o' (by omega), up2_o' (by omega)]
        exact hF a j q
      · show up2 (up2 (up2 M 96 34 (M 96 34 + lN W)) 96 35 (M 96 35 + lN (W * e))) 96 36 (M 96 36 + lN W * lN (vlM A (hour + 1) k)) 96 34 = lN (smN (fun s => wtS (A.1 0 2) s (hour + 1)) k + wtS (A.1 0 2) k (hour + 1))
        rw [up2_k (by decide), up2_k (by decide), up2_s, h34, lN_add, hW]
      · show up2 (up2 (up2 M 96 34 (M 96 34 + lN W)) 96 35 (M 96 35 + lN (W * e))) 96 36 (M 96 36 + lN W * lN (vlM A (hour + 1) k)) 96 36 = lN (smN (fun s => wtS (A.1 0 2) s (hour + 1) * vlM A (hour + 1) s) k + wtS (A.1 0 2) k (hour + 1) * vlM A (hour + 1) k)
        rw [up2_s, h36, lN_mul, lN_add, hW]
      · show up2 (up2 (up2 M 96 34 (M 96 34 + lN W)) 96 35 (M 96 35 + lN (W * e))) 96 36 (M 96 36 + lN W * lN (vlM A (hour + 1) k)) 96 35 = lN (smN (fun s => wtS (A.1 0 2) s (hour + 1) * vlP A (hour + 1) p s) k + wtS (A.1 0 2) k (hour + 1) * vlP A (hour + 1) p k)
        rw [up2_k (by decide), up2_s, h35 q, lN_add, hW, he q]
      · rw [← hW]
        refine hlit X (vc_X12_laySilence_133 ⟨nI (vlM A (hour + 1) k), ?_, fun L2 h2 => ?_⟩)
        · rw [nI_1]
          exact mq_wordsAt h1 (by omega)
        · have hvl : vlM A (hour + 1) k ≤ 6 * A.1 0 3 := hsl
          rw [nI_l (n := vlM A (hour + 1) k) (by omega), up2_k (b := 36) (k := 35) (by decide), up2_k (b := 36) (k := 34) (by decide)] at h2
          rw [h2, nI_1]
          exact hw
end CH
theorem q_chance (Z : St) (x y u : Int32) : ∃ v, Q2 Z Z kX11_chance kX12_chance [.int x, .int y, .int u] (.long v) := by
  by_cases hx : bp Z.1 x
  · exact ⟨-2, QC_q fun I L hr => ⟨I, c0_X11_chance (vc_X11_chance_0 ⟨_, ct_noPew hr.1.1.1 x, g1p hx ⟨rfl, rfl, rfl⟩⟩), Fq.rf, hr.2.1, hr.2.2⟩, QM_q fun I L hr => ⟨I, c0_X12_chance (vc_X12_chance_0 ⟨_, ct_isPew hr.1.1 hr.1.2 x, g0p hx ⟨rfl, rfl, rfl⟩⟩), Mq.rf⟩⟩
  by_cases hy : (y < 0 ∨ 7 < y ∨ nI (Z.1.1 0 0) ≤ y) ∨ ib 0 1 u
  · refine ⟨-2, QC_q fun I L hr => ⟨I, c0_X11_chance (vc_X11_chance_0 ⟨_, ct_noPew hr.1.1.1 x, g1n hx ⟨_, ct_noChanceHour hr.1.1.1 y, ?_⟩⟩), Fq.rf, hr.2.1, hr.2.2⟩, QM_q fun I L hr => ⟨I, c0_X12_chance (vc_X12_chance_0 ⟨_, ct_isPew hr.1.1 hr.1.2 x, g0n hx ⟨_, ct_isSilence hr.1.1 hr.1.2 y u, g0p hy ⟨rfl, rfl, rfl⟩⟩⟩), Mq.rf⟩⟩
    by_cases h1 : y < 0 ∨ 7 < y ∨ nI (Z.1.1 0 0) ≤ y
    · exact g1p h1 ⟨rfl, rfl, rfl⟩
    · exact g1n h1 ⟨_, ct_noPart u, g1p (hy.resolve_left h1) ⟨rfl, rfl, rfl⟩⟩
  have hy1 : ¬ (y < 0 ∨ 7 < y ∨ nI (Z.1.1 0 0) ≤ y) := fun z => hy (Or.inl z)
  have hu : ¬ ib 0 1 u := fun z => hy (Or.inr z)
  obtain ⟨hour, -, h7, hyh⟩ := xIn (a := 0) (b := 7) (x := y) (by decide) (by decide) (fun z => hy1 (z.elim Or.inl (fun q => Or.inr (Or.inl q))))
  have fin : ∀ {A : Nt} {p : Nat}, NV A → smN (fun s => wtS (A.1 0 2) s (hour + 1) * vlP A (hour + 1) p s) (2 ^ (hour + 1)) < 2 ^ 49 ∧ 10 ^ (hour + 1) < 2 ^ 49 ∧ 0 < 10 ^ (hour + 1) := by
    intro A p hV
    have hl := smN_le (F := fun s => wtS (A.1 0 2) s (hour + 1) * vlP A (hour + 1) p s) (G := fun s => wtS (A.1 0 2) s (hour + 1)) (m := 1) (k := 2 ^ (hour + 1)) (fun i _ => by
      show wtS (A.1 0 2) i (hour + 1) * vlP A (hour + 1) p i ≤ 1 * wtS (A.1 0 2) i (hour + 1)
      rw [Nat.mul_comm]
      refine Nat.mul_le_mul_right _ ?_
      unfold vlP
      by_cases e : (rows A (Psl A i) (hour + 1) p).1 = []
      · rw [if_pos e]; omega
      · rw [if_neg e]; omega)
    rw [wtS_all (A.1 0 2) hV.1.2.2.1 (hour + 1) (by omega)] at hl
    have h10 : 10 ^ (hour + 1) ≤ 10 ^ 8 := Nat.pow_le_pow_right (by decide) (by omega)
    exact ⟨by omega, by omega, Nat.pos_of_ne_zero (by simp)⟩
  refine ⟨(if u = 0 then lN (smN (fun s => wtS (Z.1.1 0 2) s (hour + 1) * vlP Z.1 (hour + 1) x.toNatClampNeg s) (2 ^ (hour + 1))) else lN (10 ^ (hour + 1))) / lN (Nat.gcd (10 ^ (hour + 1)) (smN (fun s => wtS (Z.1.1 0 2) s (hour + 1) * vlP Z.1 (hour + 1) x.toNatClampNeg s) (2 ^ (hour + 1)))), QC_q fun I L hr => ?_, fun I L hr => ?_⟩
  · have hV := hr.1.1.2
    have h3 := hV.1.2.2.2.1
    have h0 := hV.1.1
    obtain ⟨p, hp, hxp⟩ := xPew hV hx
    subst hxp
    subst hyh
    rw [u_cl (n := p) (by omega)]
    have hh : hour < Z.1.1 0 0 := by
      have : ¬ nI (Z.1.1 0 0) ≤ nI hour := fun q => hy1 (Or.inr (Or.inr q))
      rw [nI_leI (by omega) (by omega)] at this
      omega
    obtain ⟨f1, f2, f3⟩ := fin (p := p) hV
    obtain ⟨I1, c1, hf1⟩ := ce_weighed (L := L) hr.1.1.1 hV (h := hour + 1) (by omega) (by omega) (by omega) (nI p) (vlP Z.1 (hour + 1) p) (fun s hs J hRJ hrJ hJ => by
      have hlb := litB_lt (rows Z.1 (Psl Z.1 s) (hour + 1)) h3
      refine ⟨⟨fun z => ((nI_nm1 (n := p) (by omega)).mp z).elim, fun _ => ?_⟩, ?_⟩
      · rw [hJ, u_bit (by omega) (by omega)]
        have htb := litB_tb (rows Z.1 (Psl Z.1 s) (hour + 1)) (Z.1.1 0 3) p
        unfold vlP
        by_cases e : (rows Z.1 (Psl Z.1 s) (hour + 1) p).1 = []
        · rw [if_pos e]
          rw [e] at htb
          rw [(tb0 _ _).mpr (by rw [htb]; simp)]
        · rw [if_neg e]
          rw [(tb1 _ _).mpr (by rw [htb]; simp [hp, e])]
      · unfold vlP
        by_cases e : (rows Z.1 (Psl Z.1 s) (hour + 1) p).1 = []
        · rw [if_pos e]; omega
        · rw [if_neg e]; omega)
    have ha : (if 0 < lN (smN (fun s => wtS (Z.1.1 0 2) s (hour + 1) * vlP Z.1 (hour + 1) p s) (2 ^ (hour + 1))) then lN (smN (fun s => wtS (Z.1.1 0 2) s (hour + 1) * vlP Z.1 (hour + 1) p s) (2 ^ (hour + 1))) else -lN (smN (fun s => wtS (Z.1.1 0 2) s (hour + 1) * vlP Z.1 (hour + 1) p s) (2 ^ (hour + 1)))) = lN (smN (fun s => wtS (Z.1.1 0 2) s (hour + 1) * vlP Z.1 (hour + 1) p s) (2 ^ (hour + 1))) := by
      have := lI_abs (z := (smN (fun s => wtS (Z.1.1 0 2) s (hour + 1) * vlP Z.1 (hour + 1) p s) (2 ^ (hour + 1)) : Nat)) (by omega) (by omega)
      rw [lI_n] at this
      exact this
    exact ⟨I1, c0_X11_chance (vc_X11_chance_0 ⟨_, ct_noPew hr.1.1.1 _, g1n hx ⟨_, ct_noChanceHour hr.1.1.1 _, g1n hy1 ⟨_, ct_noPart u, g1n hu ⟨_, I1, c1, lN (10 ^ (hour + 1)), by rw [nI_1]; exact ct_power (by decide) (by omega), _, ct_lowest u ha f1 f3 f2, rfl, rfl, rfl⟩⟩⟩⟩), hf1.rel hr⟩
  · have hV := hr.1.2
    have h3 := hV.1.2.2.2.1
    have h0 := hV.1.1
    obtain ⟨p, hp, hxp⟩ := xPew hV hx
    subst hxp
    subst hyh
    rw [u_cl (n := p) (by omega)]
    have hh : hour < Z.1.1 0 0 := by
      have : ¬ nI (Z.1.1 0 0) ≤ nI hour := fun q => hy1 (Or.inr (Or.inr q))
      rw [nI_leI (by omega) (by omega)] at this
      omega
    obtain ⟨f1, f2, f3⟩ := fin (p := p) hV
    obtain ⟨I1, L1, c1, hM1, hF1, h34, -, h35⟩ := cm_laySilence (L := L) hr.1.1 hV (p := p) (by omega) h7 hh
    have ha : (if 0 < lN (smN (fun s => wtS (Z.1.1 0 2) s (hour + 1) * vlP Z.1 (hour + 1) p s) (2 ^ (hour + 1))) then lN (smN (fun s => wtS (Z.1.1 0 2) s (hour + 1) * vlP Z.1 (hour + 1) p s) (2 ^ (hour + 1))) else -lN (smN (fun s => wtS (Z.1.1 0 2) s (hour + 1) * vlP Z.1 (hour + 1) p s) (2 ^ (hour + 1)))) = lN (smN (fun s => wtS (Z.1.1 0 2) s (hour + 1) * vlP Z.1 (hour + 1) p s) (2 ^ (hour + 1))) := by
      have := lI_abs (z := (smN (fun s => wtS (Z.1.1 0 2) s (hour + 1) * vlP Z.1 (hour + 1) p s) (2 ^ (hour + 1)) : Nat)) (by omega) (by omega)
      rw [lI_n] at this
      exact this
    refine ⟨I1, L1, c0_X12_chance (vc_X12_chance_0 ⟨_, ct_isPew hr.1.1 hV _, g0n hx ⟨_, ct_isSilence hr.1.1 hV _ u, g0n hy ⟨I1, L1, c1, _, ?_, rfl, rfl, rfl⟩⟩⟩), RelM_of hM1 (fun a k q => hF1 a k (by omega)) hr, fun a k q => ⟨hM1 a k (by omega), hF1 a k (by omega)⟩⟩
    rw [h34, h35 hp]
    exact ct_part u ha f1 f3 f2
theorem q_mean (Z : St) (y u : Int32) : ∃ v, Q2 Z Z kX11_mean kX12_mean [.int y, .int u] (.long v) := by
  by_cases hy : (y < 0 ∨ 7 < y ∨ nI (Z.1.1 0 0) ≤ y) ∨ ib 0 1 u
  · refine ⟨-2, QC_q fun I L hr => ⟨I, c0_X11_mean (vc_X11_mean_0 ⟨_, ct_noChanceHour hr.1.1.1 y, ?_⟩), Fq.rf, hr.2.1, hr.2.2⟩, QM_q fun I L hr => ⟨I, c0_X12_mean (vc_X12_mean_0 ⟨_, ct_isSilence hr.1.1 hr.1.2 y u, g0p hy ⟨rfl, rfl, rfl⟩⟩), Mq.rf⟩⟩
    by_cases h1 : y < 0 ∨ 7 < y ∨ nI (Z.1.1 0 0) ≤ y
    · exact g1p h1 ⟨rfl, rfl, rfl⟩
    · exact g1n h1 ⟨_, ct_noPart u, g1p (hy.resolve_left h1) ⟨rfl, rfl, rfl⟩⟩
  have hy1 : ¬ (y < 0 ∨ 7 < y ∨ nI (Z.1.1 0 0) ≤ y) := fun z => hy (Or.inl z)
  have hu : ¬ ib 0 1 u := fun z => hy (Or.inr z)
  obtain ⟨hour, -, h7, hyh⟩ := xIn (a := 0) (b := 7) (x := y) (by decide) (by decide) (fun z => hy1 (z.elim Or.inl (fun q => Or.inr (Or.inl q))))
  have hpw : 2 ^ (hour + 1) ≤ 2 ^ 8 := Nat.pow_le_pow_right (by decide) (by omega)
  have fin : ∀ {A : Nt}, NV A → smN (fun s => wtS (A.1 0 2) s (hour + 1) * vlM A (hour + 1) s) (2 ^ (hour + 1)) < 2 ^ 49 ∧ 10 ^ (hour + 1) < 2 ^ 49 ∧ 0 < 10 ^ (hour + 1) := by
    intro A hV
    have h3 := hV.1.2.2.2.1
    have hl := smN_le (F := fun s => wtS (A.1 0 2) s (hour + 1) * vlM A (hour + 1) s) (G := fun s => wtS (A.1 0 2) s (hour + 1)) (m := 42) (k := 2 ^ (hour + 1)) (fun i hi => by
      show wtS (A.1 0 2) i (hour + 1) * vlM A (hour + 1) i ≤ 42 * wtS (A.1 0 2) i (hour + 1)
      rw [Nat.mul_comm]
      refine Nat.mul_le_mul_right _ ?_
      have hsl := sumL_le (RV_rows hV (PV_Psl hV (s := i) (by omega)) (hour + 1)) (A.1 0 3) (Nat.le_refl _)
      show sumL _ _ ≤ 42
      omega)
    rw [wtS_all (A.1 0 2) hV.1.2.2.1 (hour + 1) (by omega)] at hl
    have h10 : 10 ^ (hour + 1) ≤ 10 ^ 8 := Nat.pow_le_pow_right (by decide) (by omega)
    exact ⟨by omega, by omega, Nat.pos_of_ne_zero (by simp)⟩
  have habs : ∀ {A : Nt}, NV A → (if 0 < lN (smN (fun s => wtS (A.1 0 2) s (hour + 1) * vlM A (hour + 1) s) (2 ^ (hour + 1))) then lN (smN (fun s => wtS (A.1 0 2) s (hour + 1) * vlM A (hour + 1) s) (2 ^ (hour + 1))) else -lN (smN (fun s => wtS (A.1 0 2) s (hour + 1) * vlM A (hour + 1) s) (2 ^ (hour + 1)))) = lN (smN (fun s => wtS (A.1 0 2) s (hour + 1) * vlM A (hour + 1) s) (2 ^ (hour + 1))) := by
    intro A hV
    obtain ⟨f1, -, -⟩ := fin hV
    have := lI_abs (z := (smN (fun s => wtS (A.1 0 2) s (hour + 1) * vlM A (hour + 1) s) (2 ^ (hour + 1)) : Nat)) (by omega) (by omega)
    rw [lI_n] at this
    exact this
  refine ⟨(if u = 0 then lN (smN (fun s => wtS (Z.1.1 0 2) s (hour + 1) * vlM Z.1 (hour + 1) s) (2 ^ (hour + 1))) else lN (10 ^ (hour + 1))) / lN (Nat.gcd (10 ^ (hour + 1)) (smN (fun s => wtS (Z.1.1 0 2) s (hour + 1) * vlM Z.1 (hour + 1) s) (2 ^ (hour + 1)))), QC_q fun I L hr => ?_, fun I L hr => ?_⟩
  · have hV := hr.1.1.2
    have h3 := hV.1.2.2.2.1
    have h0 := hV.1.1
    subst hyh
    have hh : hour < Z.1.1 0 0 := by
      have : ¬ nI (Z.1.1 0 0) ≤ nI hour := fun q => hy1 (Or.inr (Or.inr q))
      rw [nI_leI (by omega) (by omega)] at this
      omega
    obtain ⟨f1, f2, f3⟩ := fin hV
    obtain ⟨I1, c1, hf1⟩ := ce_weighed (L := L) hr.1.1.1 hV (h := hour + 1) (by omega) (by omega) (by omega) (-1) (vlM Z.1 (hour + 1)) (fun s hs J hRJ hrJ hJ => by
      have hsl := sumL_le (RV_rows hV (PV_Psl hV (s := s) (by omega)) (hour + 1)) (Z.1.1 0 3) (Nat.le_refl _)
      exact ⟨⟨fun _ => cq_letters81 hRJ hV (PV_Psl hV (s := s) (by omega)) hrJ (by omega), fun z => absurd rfl z⟩, by show sumL _ _ < _; omega⟩)
    exact ⟨I1, c0_X11_mean (vc_X11_mean_0 ⟨_, ct_noChanceHour hr.1.1.1 _, g1n hy1 ⟨_, ct_noPart u, g1n hu ⟨_, I1, c1, lN (10 ^ (hour + 1)), by rw [nI_1]; exact ct_power (by decide) (by omega), _, ct_lowest u (habs hV) f1 f3 f2, rfl, rfl, rfl⟩⟩⟩), hf1.rel hr⟩
  · have hV := hr.1.2
    have h0 := hV.1.1
    subst hyh
    have hh : hour < Z.1.1 0 0 := by
      have : ¬ nI (Z.1.1 0 0) ≤ nI hour := fun q => hy1 (Or.inr (Or.inr q))
      rw [nI_leI (by omega) (by omega)] at this
      omega
    obtain ⟨f1, f2, f3⟩ := fin hV
    obtain ⟨I1, L1, c1, hM1, hF1, h34, h36, -⟩ := cm_laySilence (L := L) hr.1.1 hV (p := 0) (by omega) h7 hh
    refine ⟨I1, L1, c0_X12_mean (vc_X12_mean_0 ⟨_, ct_isSilence hr.1.1 hV _ u, g0n hy ⟨I1, L1, c1, _, ?_, rfl, rfl, rfl⟩⟩), RelM_of hM1 (fun a k q => hF1 a k (by omega)) hr, fun a k q => ⟨hM1 a k (by omega), hF1 a k (by omega)⟩⟩
    rw [h34, h36]
    exact ct_part u (habs hV) f1 f3 f2
