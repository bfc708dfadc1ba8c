/-! TWO THAT ARE SHUT. -/
def Psh (A : Nt) (s : Nat) : Pm := ((A.1 0 1, s, 0), (-1, -1, -1, -1), (false, 0, [1]))
theorem PV_Psh {A : Nt} (hV : NV A) {s : Nat} (hs : s < 128) : PV A (Psh A s) := ⟨⟨hV.1.2.1, hs, (PV_P0 hV).1.2.2⟩, (PV_P0 hV).2.1, (PV_P0 hV).2.2⟩
def shN (x a y b : Nat) : Nat := x * 2 ^ a ||| y * 2 ^ b
def gnN (A : Nt) (s p x : Nat) : Nat := (rows A (Psh A s) (A.1 0 0) p).1.length + 2 * x
theorem sh1 {x a : Nat} (hx : x ≤ 1) (ha : a < 7) : x * 2 ^ a < 2 ^ 7 := by
  have h1 : 2 ^ a ≤ 2 ^ 6 := Nat.pow_le_pow_right (by decide) (by omega)
  have h2 : x * 2 ^ a ≤ 1 * 2 ^ a := Nat.mul_le_mul_right _ hx
  omega
theorem shN_lt {x a y b : Nat} (hx : x ≤ 1) (ha : a < 7) (hy : y ≤ 1) (hb : b < 7) : shN x a y b < 128 := show _ < 2 ^ 7 from Nat.or_lt_two_pow (sh1 hx ha) (sh1 hy hb)
theorem shN_I {x a y b : Nat} (hx : x ≤ 1) (ha : a < 7) (hy : y ≤ 1) (hb : b < 7) : (nI x <<< (nI a &&& 31)) ||| (nI y <<< (nI b &&& 31)) = nI (shN x a y b) := by
  have h1 := sh1 hx ha
  have h2 := sh1 hy hb
  rw [u_shl (by omega) (by omega), u_shl (by omega) (by omega), u_or]
  rfl
section GA
variable {A : Nt} {I : Nat → Nat → Int32} {L : Nat → Nat → Int64}
theorem gnN_r (hV : NV A) {s p x : Nat} (hs : s < 128) (hp : p < A.1 0 3) (hx : x ≤ 1) : gnN A s p x ≤ 8 := by
  have := (RV_rows hV (PV_Psh hV hs) (A.1 0 0) p hp).1.1
  unfold gnN
  omega
theorem cq_gain (hR : RC A I 12 21) (hV : NV A) {a b x y : Nat} (ha : a < A.1 0 3) (hb : b < A.1 0 3) (hx : x ≤ 1) (hy : y ≤ 1) : ∃ I', q_C kX10_gain [.ref 87, .int (nI a), .int (nI b), .int (nI x), .int (nI y)] I L (some (.int (nI (gnN A (shN x a y b) a x)))) I' L ∧ FT I I' := by
  have h0 := hV.1.1
  have h3 := hV.1.2.2.2.1
  obtain ⟨I1, c1, hP1, hf1⟩ := ce_asNow_81 (L := L) hR
  have hs := shN_lt hx (show a < 7 by omega) hy (show b < 7 by omega)
  have hft1 : FT I (up2 I1 81 8 (nI (shN x a y b))) := FT.tr (fun a k z => hf1 a k (by omega)) (FT_up (by omega))
  obtain ⟨I3, c3, h3', hf3⟩ := tr_run (L := L) (hft1.RC hR) hV (show PC (Psh A (shN x a y b)) _ 81 from hP1.shut _) (PV_Psh hV hs)
  have hft := hft1.tr hf3.t
  have e1 : I3 12 1 = nI (A.1 0 0) := (hft.RC hR).1.2.1
  have es : I3 83 (A.1 0 0 * 7 + a) = nI (cE (rows A (Psh A (shN x a y b)) (A.1 0 0) a).1) := (h3'.says (Nat.le_refl _) ha).1
  refine ⟨I3, c0_X10_gain (vc_X10_gain_0 ⟨I1, c1, ?_⟩), hft⟩
  rw [shN_I hx (by omega) hy (by omega)]
  refine ⟨_, I3, c3, ?_⟩
  rw [e1, show nI (A.1 0 0) * 7 + nI a = nI (A.1 0 0 * 7 + a) by simp (disch := omega) only [l_0, l_1, l_2, l_3, l_4, l_5, l_6, l_7, l_8, l_9, l_10, l_11, l_12, l_15, l_16, l_20, l_24, l_30, l_31, l_32, l_50, l_54, l_60, l_62, l_63, l_64, l_74, l_91, l_100, l_128, l_240, l_600, l_10000, l_m1, nI_leI, nI_ltI, u_eq, u_add, u_mul, u_cl, u_in_t, pk_sub, pk_div, nI_nm1, m1_nI, m1_lt, m1_le, nI_ltm, nI_lem, up2_s_, u_31, u_one3, u_shr3, u_and1, u_or, true_and, and_true], u_cl (by omega), es]
  refine ⟨u_in (by omega) (by decide), _, ct_size (h3'.cv ha).1, ?_⟩
  unfold gnN
  simp (disch := omega) only [l_0, l_1, l_2, l_3, l_4, l_5, l_6, l_7, l_8, l_9, l_10, l_11, l_12, l_15, l_16, l_20, l_24, l_30, l_31, l_32, l_50, l_54, l_60, l_62, l_63, l_64, l_74, l_91, l_100, l_128, l_240, l_600, l_10000, l_m1, nI_leI, nI_ltI, u_eq, u_add, u_mul, u_cl, u_in_t, pk_sub, pk_div, nI_nm1, m1_nI, m1_lt, m1_le, nI_ltm, nI_lem, up2_s_, u_31, u_one3, u_shr3, u_and1, u_or, true_and, and_true]
  refine ⟨fun z => ?_, fun z => ?_⟩
  · rw [z]
  · rw [show x = 0 by omega]
theorem cm_getsBy (hR : RM A I 97 0) (hV : NV A) {a b x y : Nat} (ha : a < A.1 0 3) (hb : b < A.1 0 3) (hx : x ≤ 1) (hy : y ≤ 1) : (∃ I', q_C kX12_getsBy [.ref 96, .int (nI a), .int (nI b), .int (nI x), .int (nI y), .int 0] I L (some (.int (nI (gnN A (shN x a y b) a x)))) I' L ∧ RM A I' 97 0 ∧ Mq I I') ∧ ∃ I', q_C kX12_getsBy [.ref 96, .int (nI a), .int (nI b), .int (nI x), .int (nI y), .int 1] I L (some (.int (nI (gnN A (shN x a y b) b y)))) I' L ∧ RM A I' 97 0 ∧ Mq I I' := by
  have h0 := hV.1.1
  have h3 := hV.1.2.2.2.1
  obtain ⟨I1, c1, hP1, -, hM1, hR1⟩ := cm_as (L := L) hR
  have hs := shN_lt hx (show a < 7 by omega) hy (show b < 7 by omega)
  have hM2 : Mq I1 (up2 I1 96 15 (nI (shN x a y b))) := fun a k q => up2_o' (by omega)
  obtain ⟨I3, c3, h3', hf3⟩ := tr_go (L := L) (RM_of (fun k => hM2 97 k (by omega)) hR1) hV (show PMd (Psh A (shN x a y b)) _ from hP1.shut _) (PV_Psh hV hs) (fun z => absurd rfl z)
  have hM := hM1.tr (hM2.tr hf3.q)
  refine ⟨⟨I3, c0_X12_getsBy (vc_X12_getsBy_0 ⟨I1, c1, I3, ?_, fun _ => vc_X12_getsBy_31 ⟨_, ct_hours h3'.1.1, _, mq_says h3' (Nat.le_refl _) ha, _, ct_longOf (h3'.cv ha).1, fun _ => ⟨?_, rfl, rfl⟩, fun z => absurd rfl z⟩, fun z => absurd rfl z⟩), h3'.1.1, hM⟩, ⟨I3, c0_X12_getsBy (vc_X12_getsBy_0 ⟨I1, c1, I3, ?_, fun z => absurd z (by decide), fun _ => vc_X12_getsBy_31 ⟨_, ct_hours h3'.1.1, _, mq_says h3' (Nat.le_refl _) hb, _, ct_longOf (h3'.cv hb).1, fun z => absurd z (by decide), fun _ => ⟨?_, rfl, rfl⟩⟩⟩), h3'.1.1, hM⟩⟩
  · rw [shN_I hx (by omega) hy (by omega)]; exact c3
  · unfold gnN
    simp (disch := omega) only [l_0, l_1, l_2, l_3, l_4, l_5, l_6, l_7, l_8, l_9, l_10, l_11, l_12, l_15, l_16, l_20, l_24, l_30, l_31, l_32, l_50, l_54, l_60, l_62, l_63, l_64, l_74, l_91, l_100, l_128, l_240, l_600, l_10000, l_m1, nI_leI, nI_ltI, u_eq, u_add, u_mul, u_cl, u_in_t, pk_sub, pk_div, nI_nm1, m1_nI, m1_lt, m1_le, nI_ltm, nI_lem, up2_s_, u_31, u_one3, u_shr3, u_and1, u_or, true_and, and_true]
  · rw [shN_I hx (by omega) hy (by omega)]; exact c3
  · unfold gnN
    simp (disch := omega) only [l_0, l_1, l_2, l_3, l_4, l_5, l_6, l_7, l_8, l_9, l_10, l_11, l_12, l_15, l_16, l_20, l_24, l_30, l_31, l_32, l_50, l_54, l_60, l_62, l_63, l_64, l_74, l_91, l_100, l_128, l_240, l_600, l_10000, l_m1, nI_leI, nI_ltI, u_eq, u_add, u_mul, u_cl, u_in_t, pk_sub, pk_div, nI_nm1, m1_nI, m1_lt, m1_le, nI_ltm, nI_lem, up2_s_, u_31, u_one3, u_shr3, u_and1, u_or, true_and, and_true]
theorem cm_areTwo (hR : RM A I 97 0) (hV : NV A) (x y : Int32) : q_C kX12_areTwo [.ref 96, .int x, .int y] I L (some (.int (if bp A x ∨ bp A y ∨ x = y then 0 else 1))) I L := by
  refine c0_X12_areTwo (vc_X12_areTwo_0 ⟨_, ct_isPew hR hV x, ?_⟩)
  by_cases h1 : bp A x
  · rw [if_pos (Or.inl h1 : bp A x ∨ bp A y ∨ x = y)]
    exact g0p h1 ⟨rfl, rfl, rfl⟩
  · refine g0n h1 ⟨_, ct_isPew hR hV y, ?_⟩
    by_cases h2 : bp A y
    · rw [if_pos (Or.inr (Or.inl h2) : bp A x ∨ bp A y ∨ x = y)]
      exact g0p h2 ⟨rfl, rfl, rfl⟩
    · refine g0n h2 ⟨fun z => ?_, fun z => ?_⟩
      · rw [if_pos (Or.inr (Or.inr z) : bp A x ∨ bp A y ∨ x = y)]
        exact ⟨rfl, rfl, rfl⟩
      · rw [if_neg (fun q : bp A x ∨ bp A y ∨ x = y => q.elim h1 (fun q => q.elim h2 z))]
        exact ⟨rfl, rfl, rfl⟩
end GA
theorem q_gets (Z : St) (a b x y : Int32) : ∃ v, Q2 Z Z kX11_gets kX12_gets [.int a, .int b, .int x, .int y] (.int v) := by
  have gate : ∀ (I : Nat → Nat → Int32) (L : Nat → Nat → Int64) (r I'), (∀ s0 : Int32, (s0 = 0 ↔ ¬ (ib 0 1 x ∨ ib 0 1 y)) → v_X11_gets_25 r I' L I L a b x y s0) → q_C kX11_gets [.ref 0, .int a, .int b, .int x, .int y] I L r I' L := by
    intro I L r I' h
    have n1 : (ib 0 1 x ∨ ib 0 1 y) → v_X11_gets_25 r I' L I L a b x y 1 := fun q => h 1 ⟨fun z => absurd z (by decide), fun z => absurd q z⟩
    refine c0_X11_gets (vc_X11_gets_0 ⟨fun z => n1 (Or.inl (Or.inl z)), fun z1 => ⟨fun z => n1 (Or.inl (Or.inr z)), fun z2 => ⟨fun z => n1 (Or.inr (Or.inl z)), fun z3 => ⟨fun z => ?_, fun z => n1 (Or.inr (Or.inr (Int32.not_le.mp z)))⟩⟩⟩⟩)
    exact h 0 ⟨fun _ q => q.elim (fun q => q.elim z1 z2) (fun q => q.elim z3 (fun q => absurd z (Int32.not_le.mpr q))), fun _ => rfl⟩
  by_cases hh : bp Z.1 a ∨ bp Z.1 b ∨ a = b
  · refine ⟨-1000, QC_q fun I L hr => ⟨I, gate I L _ I (fun s0 hs => vc_X11_gets_25 ⟨_, ct_noPew hr.1.1.1 a, ?_⟩), Fq.rf, hr.2.1, hr.2.2⟩, QM_q fun I L hr => ⟨I, c0_X12_gets (vc_X12_gets_0 ⟨_, cm_areTwo hr.1.1 hr.1.2 a b, g0p hh ⟨rfl, rfl, rfl⟩⟩), Mq.rf⟩⟩
    by_cases h1 : bp Z.1 a
    · exact g1p h1 ⟨rfl, rfl, rfl⟩
    · refine g1n h1 ⟨_, ct_noPew hr.1.1.1 b, ?_⟩
      by_cases h2 : bp Z.1 b
      · exact g1p h2 ⟨rfl, rfl, rfl⟩
      · exact g1n h2 ⟨fun _ => ⟨rfl, rfl, rfl⟩, fun z => absurd ((hh.resolve_left h1).resolve_left h2) z⟩
  have h1 : ¬ bp Z.1 a := fun z => hh (Or.inl z)
  have h2 : ¬ bp Z.1 b := fun z => hh (Or.inr (Or.inl z))
  have h3 : ¬ a = b := fun z => hh (Or.inr (Or.inr z))
  by_cases hxy : ib 0 1 x ∨ ib 0 1 y
  · refine ⟨-1000, QC_q fun I L hr => ⟨I, gate I L _ I (fun s0 hs => vc_X11_gets_25 ⟨_, ct_noPew hr.1.1.1 a, g1n h1 ⟨_, ct_noPew hr.1.1.1 b, g1n h2 ⟨fun z => absurd z h3, fun _ => ⟨fun z => absurd hxy (hs.mp z), fun _ => ⟨rfl, rfl, rfl⟩⟩⟩⟩⟩), Fq.rf, hr.2.1, hr.2.2⟩, QM_q fun I L hr => ⟨I, c0_X12_gets (vc_X12_gets_0 ⟨_, cm_areTwo hr.1.1 hr.1.2 a b, g0n hh ⟨_, ct_inI x 0 1, ?_⟩⟩), Mq.rf⟩⟩
    by_cases h4 : ib 0 1 x
    · exact g0p h4 ⟨rfl, rfl, rfl⟩
    · exact g0n h4 ⟨_, ct_inI y 0 1, g0p (hxy.resolve_left h4) ⟨rfl, rfl, rfl⟩⟩
  have h4 : ¬ ib 0 1 x := fun z => hxy (Or.inl z)
  have h5 : ¬ ib 0 1 y := fun z => hxy (Or.inr z)
  obtain ⟨x', -, hx, ex⟩ := xIn (a := 0) (b := 1) (by decide) (by decide) h4
  obtain ⟨y', -, hy, ey⟩ := xIn (a := 0) (b := 1) (by decide) (by decide) h5
  subst ex
  subst ey
  refine ⟨nI (gnN Z.1 (shN x' a.toNatClampNeg y' b.toNatClampNeg) a.toNatClampNeg x'), QC_q fun I L hr => ?_, QM_q fun I L hr => ?_⟩
  · have hV := hr.1.1.2
    have h3' := hV.1.2.2.2.1
    obtain ⟨p, hp, ea⟩ := xPew hV h1
    obtain ⟨q, hq, eb⟩ := xPew hV h2
    subst ea
    subst eb
    rw [u_cl (n := p) (by omega), u_cl (n := q) (by omega)]
    obtain ⟨I1, c1, hf1⟩ := cq_gain (L := L) hr.1.1.1 hV hp hq hx hy
    exact ⟨I1, gate I L _ I1 (fun s0 hs => vc_X11_gets_25 ⟨_, ct_noPew hr.1.1.1 _, g1n h1 ⟨_, ct_noPew hr.1.1.1 _, g1n h2 ⟨fun z => absurd z h3, fun _ => ⟨fun _ => ⟨_, I1, c1, rfl, rfl, rfl⟩, fun z => absurd (hs.mpr hxy) z⟩⟩⟩⟩), hf1.rel hr⟩
  · have hV := hr.1.2
    have h3' := hV.1.2.2.2.1
    obtain ⟨p, hp, ea⟩ := xPew hV h1
    obtain ⟨q, hq, eb⟩ := xPew hV h2
    subst ea
    subst eb
    rw [u_cl (n := p) (by omega), u_cl (n := q) (by omega)]
    obtain ⟨⟨I1, c1, -, hM1⟩, -⟩ := cm_getsBy (L := L) hr.1.1 hV hp hq hx hy
    exact ⟨I1, c0_X12_gets (vc_X12_gets_0 ⟨_, cm_areTwo hr.1.1 hV _ _, g0n hh ⟨_, ct_inI _ 0 1, g0n h4 ⟨_, ct_inI _ 0 1, g0n h5 ⟨_, I1, c1, rfl, rfl, rfl⟩⟩⟩⟩), hM1⟩
def rstF (A : Nt) (a b : Nat) (k : Nat) : Bool := decide (¬ gnN A (shN (k % 2) a (k / 2) b) a (k % 2) < gnN A (shN (1 - k % 2) a (k / 2) b) a (1 - k % 2)) && decide (¬ gnN A (shN (k % 2) a (k / 2) b) b (k / 2) < gnN A (shN (k % 2) a (1 - k / 2) b) b (1 - k / 2))
theorem q_rests (Z : St) (a b : Int32) : ∃ v, Q2 Z Z kX11_rests kX12_rests [.int a, .int b] (.int v) := by
  by_cases hh : bp Z.1 a ∨ bp Z.1 b ∨ a = b
  · refine ⟨-2, QC_q fun I L hr => ⟨I, c0_X11_rests (vc_X11_rests_0 ⟨_, ct_noPew hr.1.1.1 a, ?_⟩), Fq.rf, hr.2.1, hr.2.2⟩, QM_q fun I L hr => ⟨I, c0_X12_rests (vc_X12_rests_0 ⟨_, cm_areTwo hr.1.1 hr.1.2 a b, g0p hh ⟨rfl, rfl, rfl⟩⟩), Mq.rf⟩⟩
    by_cases h1 : bp Z.1 a
    · exact g1p h1 ⟨rfl, rfl, rfl⟩
    · refine g1n h1 ⟨_, ct_noPew hr.1.1.1 b, ?_⟩
      by_cases h2 : bp Z.1 b
      · exact g1p h2 ⟨rfl, rfl, rfl⟩
      · exact g1n h2 ⟨fun _ => ⟨rfl, rfl, rfl⟩, fun z => absurd ((hh.resolve_left h1).resolve_left h2) z⟩
  have h1 : ¬ bp Z.1 a := fun z => hh (Or.inl z)
  have h2 : ¬ bp Z.1 b := fun z => hh (Or.inr (Or.inl z))
  have h3 : ¬ a = b := fun z => hh (Or.inr (Or.inr z))
  refine ⟨nI (setF (rstF Z.1 a.toNatClampNeg b.toNatClampNeg) 4), QC_q fun I L hr => ?_, QM_q fun I L hr => ?_⟩
  · have hV := hr.1.1.2
    have h3' := hV.1.2.2.2.1
    obtain ⟨p, hp, ea⟩ := xPew hV h1
    obtain ⟨q, hq, eb⟩ := xPew hV h2
    subst ea
    subst eb
    rw [u_cl (n := p) (by omega), u_cl (n := q) (by omega)]
    have step : ∀ (y x : Nat) (J : Nat → Nat → Int32), y ≤ 1 → x ≤ 1 → FT I J → ∃ J1, FT I J1 ∧ ∀ I', v_X11_rests_38 (some (.int (nI (setF (rstF Z.1 p q) 4)))) I' L J1 L (nI p) (nI q) (nI (setF (rstF Z.1 p q) (2 * y + x + 1))) (nI y) (nI (x + 1)) → v_X11_rests_38 (some (.int (nI (setF (rstF Z.1 p q) 4)))) I' L J L (nI p) (nI q) (nI (setF (rstF Z.1 p q) (2 * y + x))) (nI y) (nI x) := by
      intro y x J hy hx hJ
      obtain ⟨J1, c1, f1⟩ := cq_gain (L := L) (hJ.RC hr.1.1.1) hV hp hq hx hy
      obtain ⟨J2, c2, f2⟩ := cq_gain (L := L) ((hJ.tr f1).RC hr.1.1.1) hV hp hq (x := 1 - x) (by omega) hy
      obtain ⟨J3, c3, f3⟩ := cq_gain (L := L) (((hJ.tr f1).tr f2).RC hr.1.1.1) hV hq hp hy hx
      obtain ⟨J4, c4, f4⟩ := cq_gain (L := L) ((((hJ.tr f1).tr f2).tr f3).RC hr.1.1.1) hV hq hp (x := 1 - y) (by omega) hx
      refine ⟨J4, (((hJ.tr f1).tr f2).tr f3).tr f4, fun I' hw => ?_⟩
      have eor : ∀ u v : Nat, shN u q v p = shN v p u q := fun u v => Nat.or_comm _ _
      rw [eor] at c3 c4
      have ek2 : (2 * y + x) % 2 = x := by omega
      have ekd : (2 * y + x) / 2 = y := by omega
      have er : rstF Z.1 p q (2 * y + x) = (decide (¬ gnN Z.1 (shN x p y q) p x < gnN Z.1 (shN (1 - x) p y q) p (1 - x)) && decide (¬ gnN Z.1 (shN x p y q) q y < gnN Z.1 (shN x p (1 - y) q) q (1 - y))) := by
        unfold rstF
        rw [ek2, ekd]
      have b1 := gnN_r hV (shN_lt hx (show p < 7 by omega) hy (show q < 7 by omega)) hp hx
      have b2 := gnN_r hV (shN_lt (show 1 - x ≤ 1 by omega) (show p < 7 by omega) hy (show q < 7 by omega)) hp (show 1 - x ≤ 1 by omega)
      have b3 := gnN_r hV (shN_lt hx (show p < 7 by omega) hy (show q < 7 by omega)) hq hy
      have b4 := gnN_r hV (shN_lt hx (show p < 7 by omega) (show 1 - y ≤ 1 by omega) (show q < 7 by omega)) hq (show 1 - y ≤ 1 by omega)
      have e1x : (1 : Int32) - nI x = nI (1 - x) := pk_sub (a := 1) hx
      have e1y : (1 : Int32) - nI y = nI (1 - y) := pk_sub (a := 1) hy
      have hn1 : ¬ (1 : Int32) < nI x := by rw [show (1 : Int32) = nI 1 from rfl]; exact nI_nlt hx (by omega)
      have w118 : ∀ x6 s0 : Int32, ((¬ x6 = 0 ∧ ¬ s0 = 0) ↔ rstF Z.1 p q (2 * y + x) = true) → v_X11_rests_118 (some (.int (nI (setF (rstF Z.1 p q) 4)))) I' L J4 L (nI p) (nI q) (nI (setF (rstF Z.1 p q) (2 * y + x))) (nI y) (nI x) x6 s0 := by
        intro x6 s0 hiff
        refine vc_X11_rests_118 ?_
        rw [nI_1]
        have keep : ¬ (¬ x6 = 0 ∧ ¬ s0 = 0) → v_X11_rests_38 (some (.int (nI (setF (rstF Z.1 p q) 4)))) I' L J4 L (nI p) (nI q) (nI (setF (rstF Z.1 p q) (2 * y + x))) (nI y) (nI (x + 1)) := fun z => by
          rw [hiff] at z
          rw [setF_n (k := 2 * y + x) (by simpa using z)] at hw
          exact hw
        refine ⟨fun z => keep (fun w => w.1 z), fun z => ⟨fun z2 => keep (fun w => w.2 z2), fun z2 z1 hz1 => ?_⟩⟩
        rw [hz1, show nI x + 2 * nI y = nI (2 * y + x) by rw [show (2 : Int32) = nI 2 from rfl, u_mul, u_add, Nat.add_comm], u_one (by omega), u_or]
        rw [setF_y (k := 2 * y + x) (hiff.mp ⟨z, z2⟩)] at hw
        exact hw
      have w80 : ∀ s0 : Int32, (¬ s0 = 0 ↔ ¬ gnN Z.1 (shN x p y q) p x < gnN Z.1 (shN (1 - x) p y q) p (1 - x)) → v_X11_rests_80 (some (.int (nI (setF (rstF Z.1 p q) 4)))) I' L J2 L (nI p) (nI q) (nI (setF (rstF Z.1 p q) (2 * y + x))) (nI y) (nI x) s0 := by
        intro s0 hs
        refine vc_X11_rests_80 ⟨_, J3, c3, _, J4, by rw [e1y]; exact c4, ?_⟩
        rw [nI_ltI (by omega) (by omega)]
        refine ⟨fun z => w118 _ _ ?_, fun z => w118 _ _ ?_⟩
        · rw [er]
          simp [z]
        · rw [er]
          rw [hs]
          simp [z]
      refine vc_X11_rests_38 ⟨fun z => absurd z hn1, fun _ => ⟨_, J1, c1, _, J2, by rw [e1x]; exact c2, ?_⟩⟩
      rw [nI_ltI (by omega) (by omega)]
      exact ⟨fun z => w80 _ ⟨fun w => absurd rfl w, fun w => absurd z w⟩, fun z => w80 _ ⟨fun _ => z, fun _ => by decide⟩⟩
    obtain ⟨J1, f1, k1⟩ := step 0 0 I (by omega) (by omega) FT.rf
    obtain ⟨J2, f2, k2⟩ := step 0 1 J1 (by omega) (by omega) f1
    obtain ⟨J3, f3, k3⟩ := step 1 0 J2 (by omega) (by omega) f2
    obtain ⟨J4, f4, k4⟩ := step 1 1 J3 (by omega) (by omega) f3
    refine ⟨J4, c0_X11_rests (vc_X11_rests_0 ⟨_, ct_noPew hr.1.1.1 _, g1n h1 ⟨_, ct_noPew hr.1.1.1 _, g1n h2 ⟨fun z => absurd z h3, fun _ => ?_⟩⟩⟩), f4.rel hr⟩
    refine vc_X11_rests_29 ⟨fun z => absurd z (by decide), fun _ => k1 _ (k2 _ (vc_X11_rests_38 ⟨fun _ => ?_, fun z => absurd (by decide) z⟩))⟩
    refine vc_X11_rests_29 ⟨fun z => absurd z (by decide), fun _ => k3 _ (k4 _ (vc_X11_rests_38 ⟨fun _ => ?_, fun z => absurd (by decide) z⟩))⟩
    exact vc_X11_rests_29 ⟨fun _ => ⟨rfl, rfl, rfl⟩, fun z => absurd (by decide) z⟩
  · have hV := hr.1.2
    have h3' := hV.1.2.2.2.1
    obtain ⟨p, hp, ea⟩ := xPew hV h1
    obtain ⟨q, hq, eb⟩ := xPew hV h2
    subst ea
    subst eb
    rw [u_cl (n := p) (by omega), u_cl (n := q) (by omega)]
    have h := mloop (V := fun k I' J => v_X12_rests_17 (some (.int (nI (setF (rstF Z.1 p q) 4)))) I' L J L (nI p) (nI q) (nI (setF (rstF Z.1 p q) k)) (nI k)) (Inv := fun k J => RM Z.1 J 97 0 ∧ Mq I J) (n := 4) (Q := fun I' => Mq I I') (fun J hJ => ⟨J, vc_X12_rests_17 ⟨fun _ => ⟨rfl, rfl, rfl⟩, fun z => absurd (by decide) z⟩, hJ.2⟩) ?_ I ⟨hr.1.1, Mq.rf⟩
    · obtain ⟨I', hw, hf⟩ := h
      exact ⟨I', c0_X12_rests (vc_X12_rests_0 ⟨_, cm_areTwo hr.1.1 hV _ _, g0n hh hw⟩), hf⟩
    · rintro k J hk ⟨hRJ, hMJ⟩
      have hx : k % 2 ≤ 1 := by omega
      have hy : k / 2 ≤ 1 := by omega
      obtain ⟨⟨J1, c1, hR1, f1⟩, -⟩ := cm_getsBy (L := L) hRJ hV hp hq hx hy
      obtain ⟨⟨J2, c2, hR2, f2⟩, -⟩ := cm_getsBy (L := L) hR1 hV hp hq (x := 1 - k % 2) (by omega) hy
      obtain ⟨-, ⟨J3, c3, hR3, f3⟩⟩ := cm_getsBy (L := L) hR2 hV hp hq hx hy
      obtain ⟨-, ⟨J4, c4, hR4, f4⟩⟩ := cm_getsBy (L := L) hR3 hV hp hq hx (y := 1 - k / 2) (by omega)
      have b1 := gnN_r hV (shN_lt hx (show p < 7 by omega) hy (show q < 7 by omega)) hp hx
      have b2 := gnN_r hV (shN_lt (show 1 - k % 2 ≤ 1 by omega) (show p < 7 by omega) hy (show q < 7 by omega)) hp (show 1 - k % 2 ≤ 1 by omega)
      have b3 := gnN_r hV (shN_lt hx (show p < 7 by omega) hy (show q < 7 by omega)) hq hy
      have b4 := gnN_r hV (shN_lt hx (show p < 7 by omega) (show 1 - k / 2 ≤ 1 by omega) (show q < 7 by omega)) hq (show 1 - k / 2 ≤ 1 by omega)
      have e1 : nI k &&& 1 = nI (k % 2) := u_and1 k
      have e2 : nI k >>> ((1 : Int32) &&& 31) = nI (k / 2) := by
        have := u_shr (a := k) (k := 1) (by omega) (by decide)
        exact this
      have e3 : (1 : Int32) - nI (k % 2) = nI (1 - k % 2) := pk_sub (a := 1) hx
      have e4 : (1 : Int32) - nI (k / 2) = nI (1 - k / 2) := pk_sub (a := 1) hy
      have w94 : ∀ (I' J' : Nat → Nat → Int32) (s0 : Int32), (¬ s0 = 0 ↔ rstF Z.1 p q k = true) → v_X12_rests_17 (some (.int (nI (setF (rstF Z.1 p q) 4)))) I' L J' L (nI p) (nI q) (nI (setF (rstF Z.1 p q) (k + 1))) (nI (k + 1)) → v_X12_rests_94 (some (.int (nI (setF (rstF Z.1 p q) 4)))) I' L J' L (nI p) (nI q) (nI (setF (rstF Z.1 p q) k)) (nI k) s0 := by
        intro I' J' s0 hs hw
        refine vc_X12_rests_94 ?_
        simp (disch := omega) only [l_0, l_1, l_2, l_3, l_4, l_5, l_6, l_7, l_8, l_9, l_10, l_11, l_12, l_15, l_16, l_20, l_24, l_30, l_31, l_32, l_50, l_54, l_60, l_62, l_63, l_64, l_74, l_91, l_100, l_128, l_240, l_600, l_10000, l_m1, nI_leI, nI_ltI, u_eq, u_add, u_mul, u_cl, u_in_t, pk_sub, pk_div, nI_nm1, m1_nI, m1_lt, m1_le, nI_ltm, nI_lem, up2_s_, u_31, u_one3, u_shr3, u_and1, u_or, true_and, and_true]
        refine ⟨fun z => ?_, fun z => ?_⟩
        · rw [setF_n0 (k := k) (by
            cases hq2 : rstF Z.1 p q k with
            | false => rfl
            | true => exact absurd z (hs.mpr hq2))] at hw
          exact hw
        · rw [setF_y (k := k) (hs.mp z)] at hw
          exact hw
      by_cases hl : gnN Z.1 (shN (k % 2) p (k / 2) q) p (k % 2) < gnN Z.1 (shN (1 - k % 2) p (k / 2) q) p (1 - k % 2)
      · refine ⟨J2, ⟨hR2, hMJ.tr (f1.tr f2)⟩, fun I' hw => vc_X12_rests_17 ?_⟩
        rw [e1, e2, e3, e4, show (4 : Int32) = nI 4 from rfl, nI_leI (by omega) (by omega)]
        refine ⟨fun z => by omega, fun _ => ⟨_, J1, c1, _, J2, c2, ?_⟩⟩
        rw [nI_ltI (by omega) (by omega)]
        refine ⟨fun _ => w94 _ _ _ ⟨fun z => absurd rfl z, fun z => ?_⟩ hw, fun z => absurd hl z⟩
        unfold rstF at z
        simp [hl] at z
      · refine ⟨J4, ⟨hR4, hMJ.tr (f1.tr (f2.tr (f3.tr f4)))⟩, fun I' hw => vc_X12_rests_17 ?_⟩
        rw [e1, e2, e3, e4, show (4 : Int32) = nI 4 from rfl, nI_leI (by omega) (by omega)]
        refine ⟨fun z => by omega, fun _ => ⟨_, J1, c1, _, J2, c2, ?_⟩⟩
        rw [nI_ltI (by omega) (by omega)]
        refine ⟨fun z => absurd z hl, fun _ => ⟨_, J3, c3, _, J4, c4, ?_⟩⟩
        rw [nI_ltI (by omega) (by omega)]
        refine ⟨fun z => w94 _ _ _ ⟨fun z => absurd rfl z, fun z2 => ?_⟩ hw, fun z => w94 _ _ _ ⟨fun _ => ?_, fun _ => by decide⟩ hw⟩
        · unfold rstF at z2
          simp [z] at z2
        · unfold rstF
          simp [hl, z]
