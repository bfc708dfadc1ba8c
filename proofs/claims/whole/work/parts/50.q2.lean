/-! CALLS THAT ASK OF THE COURSE AS IT IS. -/
theorem q_lit (Z : St) (x : Int32) : ∃ v, Q2 Z Z kX11_lit kX12_lit [.int x] (.int v) := by
  by_cases hh : bh Z.1 x
  · refine ⟨-2, QC_q fun I L hr => ⟨I, c0_X11_lit (vc_X11_lit_0 ⟨_, ct_noHour hr.1.1.1 hr.1.1.2 x, g1p hh ⟨rfl, rfl, rfl⟩⟩), Fq.rf, hr.2.1, hr.2.2⟩, QM_q fun I L hr => ?_⟩
    obtain ⟨I1, c1, hc1, hf1, -, -⟩ := ce_asksHour (L := L) hr.1.1 hr.1.2 x
    exact ⟨I1, c0_X12_lit (vc_X12_lit_0 ⟨_, I1, c1, g0p hh ⟨rfl, rfl, rfl⟩⟩), hf1⟩
  · refine ⟨(fun t : Nat => nI (litB (rows Z.1 (P0 Z.1) t) (Z.1.1 0 3))) x.toNatClampNeg, QC_q fun I L hr => ?_, QM_q fun I L hr => ?_⟩
    · have hV := hr.1.1.2
      have h0 := hV.1.1
      have h3 := hV.1.2.2.2.1
      obtain ⟨t, ht, hx, h8⟩ := xHour hr.1.1.2 hh
      obtain ⟨I1, c1, hf1, hs1, hse, hw⟩ := ce_settled hr
      have hR := (Bc_of hf1 hr.1).1.1
      have hS : SCo Z.1 (P0 Z.1) 75 I1 := ⟨⟨hR, hV, PV_P0 hV⟩, hs1.1, hs1.2⟩
      refine ⟨I1, c0_X11_lit (vc_X11_lit_0 ⟨_, ct_noHour hr.1.1.1 hr.1.1.2 x, g1n hh ⟨I1, c1, ?_⟩⟩), hf1, hse, hw⟩
      subst hx
      rw [u_cl (by omega)]
      exact ⟨u_in (by omega) (by decide), congrArg (fun z => some (Value.int z)) (hS.lit ht).symm, rfl, rfl⟩
    · have hV := hr.1.2
      have h0 := hV.1.1
      have h3 := hV.1.2.2.2.1
      obtain ⟨t, ht, hx, h8⟩ := xHour hr.1.2 hh
      obtain ⟨I1, c1, hc1, hf1, -, -⟩ := ce_asksHour (L := L) hr.1.1 hr.1.2 x
      have hR : RM Z.1 I1 97 0 := RM_of (fun k => hf1 97 k (by omega)) hr.1.1
      have hS : SMo Z.1 (P0 Z.1) I1 := ⟨⟨hR, hV, PV_P0 hV⟩, hc1⟩
      refine ⟨I1, c0_X12_lit (vc_X12_lit_0 ⟨_, I1, c1, g0n hh ?_⟩), hf1⟩
      subst hx
      rw [u_cl (by omega)]
      exact ⟨_, mq_litAt hS ht, rfl, rfl, rfl⟩
theorem q_letters (Z : St) (x y : Int32) : ∃ v, Q2 Z Z kX11_letters kX12_letters [.int x, .int y] (.int v) := by
  by_cases hh : bp Z.1 x ∨ bh Z.1 y
  · refine ⟨-2, QC_q fun I L hr => ⟨I, c0_X11_letters (vc_X11_letters_0 ⟨_, ct_noPew hr.1.1.1 x, ?_⟩), Fq.rf, hr.2.1, hr.2.2⟩, QM_q fun I L hr => ?_⟩
    · by_cases h1 : bp Z.1 x
      · exact g1p h1 ⟨rfl, rfl, rfl⟩
      · exact g1n h1 ⟨_, ct_noHour hr.1.1.1 hr.1.1.2 y, g1p (hh.resolve_left h1) ⟨rfl, rfl, rfl⟩⟩
    · obtain ⟨I1, c1, hc1, hf1, -, -⟩ := ce_asksHour (L := L) hr.1.1 hr.1.2 y
      have hR : RM Z.1 I1 97 0 := RM_of (fun k => hf1 97 k (by omega)) hr.1.1
      refine ⟨I1, c0_X12_letters (vc_X12_letters_0 ⟨_, I1, c1, ?_⟩), hf1⟩
      by_cases h1 : bh Z.1 y
      · exact g0p h1 ⟨rfl, rfl, rfl⟩
      · exact g0n h1 ⟨_, ct_isPew hR hr.1.2 x, g0p (hh.resolve_right h1) ⟨rfl, rfl, rfl⟩⟩
  · refine ⟨(fun p t : Nat => nI ((rows Z.1 (P0 Z.1) t) p).1.length) x.toNatClampNeg y.toNatClampNeg, QC_q fun I L hr => ?_, QM_q fun I L hr => ?_⟩
    · have hV := hr.1.1.2
      have h0 := hV.1.1
      have h3 := hV.1.2.2.2.1
      obtain ⟨p, hp, hx⟩ := xPew hV (fun z => hh (Or.inl z))
      obtain ⟨t, ht, hy, h8⟩ := xHour hV (fun z => hh (Or.inr z))
      obtain ⟨I1, c1, hf1, hs1, hse, hw⟩ := ce_settled hr
      have hR := (Bc_of hf1 hr.1).1.1
      have hS : SCo Z.1 (P0 Z.1) 75 I1 := ⟨⟨hR, hV, PV_P0 hV⟩, hs1.1, hs1.2⟩
      refine ⟨I1, c0_X11_letters (vc_X11_letters_0 ⟨_, ct_noPew hr.1.1.1 x, g1n (fun z => hh (Or.inl z)) ⟨_, ct_noHour hr.1.1.1 hV y, g1n (fun z => hh (Or.inr z)) ⟨I1, c1, ?_⟩⟩⟩), hf1, hse, hw⟩
      subst hx
      subst hy
      rw [u_cl (n := p) (by omega), u_cl (n := t) (by omega)]
      refine ⟨_, ct_cell _ _, ?_⟩
      rw [show nI t * 7 + nI p = nI (t * 7 + p) by simp (disch := omega) only [l_0, l_1, l_2, l_3, l_4, l_5, l_6, l_7, l_8, l_9, l_10, l_11, l_12, l_15, l_16, l_20, l_24, l_30, l_31, l_32, l_50, l_54, l_60, l_62, l_63, l_64, l_74, l_91, l_100, l_128, l_240, l_600, l_10000, l_m1, nI_leI, nI_ltI, u_eq, u_add, u_mul, u_cl, u_in_t, pk_sub, pk_div, nI_nm1, m1_nI, m1_lt, m1_le, nI_ltm, nI_lem, up2_s_, u_31, u_one3, u_shr3, u_and1, u_or, true_and, and_true], u_cl (n := t * 7 + p) (by omega)]
      refine ⟨u_in (by omega) (by decide), ?_⟩

      have e : I1 77 (t * 7 + p) = _ := (hS.says ht hp).1
      rw [e]
      exact ⟨_, ct_size (hS.cv hp).1, rfl, rfl, rfl⟩
    · have hV := hr.1.2
      have h0 := hV.1.1
      have h3 := hV.1.2.2.2.1
      obtain ⟨p, hp, hx⟩ := xPew hV (fun z => hh (Or.inl z))
      obtain ⟨t, ht, hy, h8⟩ := xHour hV (fun z => hh (Or.inr z))
      obtain ⟨I1, c1, hc1, hf1, -, -⟩ := ce_asksHour (L := L) hr.1.1 hr.1.2 y
      have hR : RM Z.1 I1 97 0 := RM_of (fun k => hf1 97 k (by omega)) hr.1.1
      have hS : SMo Z.1 (P0 Z.1) I1 := ⟨⟨hR, hV, PV_P0 hV⟩, hc1⟩
      refine ⟨I1, c0_X12_letters (vc_X12_letters_0 ⟨_, I1, c1, g0n (fun z => hh (Or.inr z)) ⟨_, ct_isPew hR hV x, g0n (fun z => hh (Or.inl z)) ?_⟩⟩), hf1⟩
      subst hx
      subst hy
      rw [u_cl (n := p) (by omega), u_cl (n := t) (by omega)]
      exact ⟨_, mq_says hS ht hp, _, ct_longOf (hS.cv hp).1, rfl, rfl, rfl⟩
theorem q_from (Z : St) (x y : Int32) : ∃ v, Q2 Z Z kX11_from kX12_from [.int x, .int y] (.int v) := by
  by_cases hh : bp Z.1 x ∨ bh Z.1 y
  · refine ⟨-2, QC_q fun I L hr => ⟨I, c0_X11_from (vc_X11_from_0 ⟨_, ct_noPew hr.1.1.1 x, ?_⟩), Fq.rf, hr.2.1, hr.2.2⟩, QM_q fun I L hr => ?_⟩
    · by_cases h1 : bp Z.1 x
      · exact g1p h1 ⟨rfl, rfl, rfl⟩
      · exact g1n h1 ⟨_, ct_noHour hr.1.1.1 hr.1.1.2 y, g1p (hh.resolve_left h1) ⟨rfl, rfl, rfl⟩⟩
    · obtain ⟨I1, c1, hc1, hf1, -, -⟩ := ce_asksHour (L := L) hr.1.1 hr.1.2 y
      have hR : RM Z.1 I1 97 0 := RM_of (fun k => hf1 97 k (by omega)) hr.1.1
      refine ⟨I1, c0_X12_from (vc_X12_from_0 ⟨_, I1, c1, ?_⟩), hf1⟩
      by_cases h1 : bh Z.1 y
      · exact g0p h1 ⟨rfl, rfl, rfl⟩
      · exact g0n h1 ⟨_, ct_isPew hR hr.1.2 x, g0p (hh.resolve_right h1) ⟨rfl, rfl, rfl⟩⟩
  · refine ⟨(fun p t : Nat => iI ((rows Z.1 (P0 Z.1) t) p).2.1) x.toNatClampNeg y.toNatClampNeg, QC_q fun I L hr => ?_, QM_q fun I L hr => ?_⟩
    · have hV := hr.1.1.2
      have h0 := hV.1.1
      have h3 := hV.1.2.2.2.1
      obtain ⟨p, hp, hx⟩ := xPew hV (fun z => hh (Or.inl z))
      obtain ⟨t, ht, hy, h8⟩ := xHour hV (fun z => hh (Or.inr z))
      obtain ⟨I1, c1, hf1, hs1, hse, hw⟩ := ce_settled hr
      have hR := (Bc_of hf1 hr.1).1.1
      have hS : SCo Z.1 (P0 Z.1) 75 I1 := ⟨⟨hR, hV, PV_P0 hV⟩, hs1.1, hs1.2⟩
      refine ⟨I1, c0_X11_from (vc_X11_from_0 ⟨_, ct_noPew hr.1.1.1 x, g1n (fun z => hh (Or.inl z)) ⟨_, ct_noHour hr.1.1.1 hV y, g1n (fun z => hh (Or.inr z)) ⟨I1, c1, ?_⟩⟩⟩), hf1, hse, hw⟩
      subst hx
      subst hy
      rw [u_cl (n := p) (by omega), u_cl (n := t) (by omega)]
      refine ⟨_, ct_cell _ _, ?_⟩
      rw [show nI t * 7 + nI p = nI (t * 7 + p) by simp (disch := omega) only [l_0, l_1, l_2, l_3, l_4, l_5, l_6, l_7, l_8, l_9, l_10, l_11, l_12, l_15, l_16, l_20, l_24, l_30, l_31, l_32, l_50, l_54, l_60, l_62, l_63, l_64, l_74, l_91, l_100, l_128, l_240, l_600, l_10000, l_m1, nI_leI, nI_ltI, u_eq, u_add, u_mul, u_cl, u_in_t, pk_sub, pk_div, nI_nm1, m1_nI, m1_lt, m1_le, nI_ltm, nI_lem, up2_s_, u_31, u_one3, u_shr3, u_and1, u_or, true_and, and_true], u_cl (n := t * 7 + p) (by omega)]
      refine ⟨u_in (by omega) (by decide), ?_⟩

      have e : I1 78 (t * 7 + p) = _ := (hS.says ht hp).2.1
      rw [e]
      exact ⟨rfl, rfl, rfl⟩
    · have hV := hr.1.2
      have h0 := hV.1.1
      have h3 := hV.1.2.2.2.1
      obtain ⟨p, hp, hx⟩ := xPew hV (fun z => hh (Or.inl z))
      obtain ⟨t, ht, hy, h8⟩ := xHour hV (fun z => hh (Or.inr z))
      obtain ⟨I1, c1, hc1, hf1, -, -⟩ := ce_asksHour (L := L) hr.1.1 hr.1.2 y
      have hR : RM Z.1 I1 97 0 := RM_of (fun k => hf1 97 k (by omega)) hr.1.1
      have hS : SMo Z.1 (P0 Z.1) I1 := ⟨⟨hR, hV, PV_P0 hV⟩, hc1⟩
      refine ⟨I1, c0_X12_from (vc_X12_from_0 ⟨_, I1, c1, g0n (fun z => hh (Or.inr z)) ⟨_, ct_isPew hR hV x, g0n (fun z => hh (Or.inl z)) ?_⟩⟩), hf1⟩
      subst hx
      subst hy
      rw [u_cl (n := p) (by omega), u_cl (n := t) (by omega)]
      have e : I1 104 (7 * t + p) = _ := (hS.says ht hp).2.1
      simp (disch := omega) only [l_0, l_1, l_2, l_3, l_4, l_5, l_6, l_7, l_8, l_9, l_10, l_11, l_12, l_15, l_16, l_20, l_24, l_30, l_31, l_32, l_50, l_54, l_60, l_62, l_63, l_64, l_74, l_91, l_100, l_128, l_240, l_600, l_10000, l_m1, nI_leI, nI_ltI, u_eq, u_add, u_mul, u_cl, u_in_t, pk_sub, pk_div, nI_nm1, m1_nI, m1_lt, m1_le, nI_ltm, nI_lem, up2_s_, u_31, u_one3, u_shr3, u_and1, u_or, true_and, and_true, e]
theorem q_since (Z : St) (x y : Int32) : ∃ v, Q2 Z Z kX11_since kX12_since [.int x, .int y] (.int v) := by
  by_cases hh : bp Z.1 x ∨ bh Z.1 y
  · refine ⟨-2, QC_q fun I L hr => ⟨I, c0_X11_since (vc_X11_since_0 ⟨_, ct_noPew hr.1.1.1 x, ?_⟩), Fq.rf, hr.2.1, hr.2.2⟩, QM_q fun I L hr => ?_⟩
    · by_cases h1 : bp Z.1 x
      · exact g1p h1 ⟨rfl, rfl, rfl⟩
      · exact g1n h1 ⟨_, ct_noHour hr.1.1.1 hr.1.1.2 y, g1p (hh.resolve_left h1) ⟨rfl, rfl, rfl⟩⟩
    · obtain ⟨I1, c1, hc1, hf1, -, -⟩ := ce_asksHour (L := L) hr.1.1 hr.1.2 y
      have hR : RM Z.1 I1 97 0 := RM_of (fun k => hf1 97 k (by omega)) hr.1.1
      refine ⟨I1, c0_X12_since (vc_X12_since_0 ⟨_, I1, c1, ?_⟩), hf1⟩
      by_cases h1 : bh Z.1 y
      · exact g0p h1 ⟨rfl, rfl, rfl⟩
      · exact g0n h1 ⟨_, ct_isPew hR hr.1.2 x, g0p (hh.resolve_right h1) ⟨rfl, rfl, rfl⟩⟩
  · refine ⟨(fun p t : Nat => iI ((rows Z.1 (P0 Z.1) t) p).2.2.1) x.toNatClampNeg y.toNatClampNeg, QC_q fun I L hr => ?_, QM_q fun I L hr => ?_⟩
    · have hV := hr.1.1.2
      have h0 := hV.1.1
      have h3 := hV.1.2.2.2.1
      obtain ⟨p, hp, hx⟩ := xPew hV (fun z => hh (Or.inl z))
      obtain ⟨t, ht, hy, h8⟩ := xHour hV (fun z => hh (Or.inr z))
      obtain ⟨I1, c1, hf1, hs1, hse, hw⟩ := ce_settled hr
      have hR := (Bc_of hf1 hr.1).1.1
      have hS : SCo Z.1 (P0 Z.1) 75 I1 := ⟨⟨hR, hV, PV_P0 hV⟩, hs1.1, hs1.2⟩
      refine ⟨I1, c0_X11_since (vc_X11_since_0 ⟨_, ct_noPew hr.1.1.1 x, g1n (fun z => hh (Or.inl z)) ⟨_, ct_noHour hr.1.1.1 hV y, g1n (fun z => hh (Or.inr z)) ⟨I1, c1, ?_⟩⟩⟩), hf1, hse, hw⟩
      subst hx
      subst hy
      rw [u_cl (n := p) (by omega), u_cl (n := t) (by omega)]
      refine ⟨_, ct_cell _ _, ?_⟩
      rw [show nI t * 7 + nI p = nI (t * 7 + p) by simp (disch := omega) only [l_0, l_1, l_2, l_3, l_4, l_5, l_6, l_7, l_8, l_9, l_10, l_11, l_12, l_15, l_16, l_20, l_24, l_30, l_31, l_32, l_50, l_54, l_60, l_62, l_63, l_64, l_74, l_91, l_100, l_128, l_240, l_600, l_10000, l_m1, nI_leI, nI_ltI, u_eq, u_add, u_mul, u_cl, u_in_t, pk_sub, pk_div, nI_nm1, m1_nI, m1_lt, m1_le, nI_ltm, nI_lem, up2_s_, u_31, u_one3, u_shr3, u_and1, u_or, true_and, and_true], u_cl (n := t * 7 + p) (by omega)]
      refine ⟨u_in (by omega) (by decide), ?_⟩

      have e : I1 79 (t * 7 + p) = _ := (hS.says ht hp).2.2.1
      rw [e]
      exact ⟨rfl, rfl, rfl⟩
    · have hV := hr.1.2
      have h0 := hV.1.1
      have h3 := hV.1.2.2.2.1
      obtain ⟨p, hp, hx⟩ := xPew hV (fun z => hh (Or.inl z))
      obtain ⟨t, ht, hy, h8⟩ := xHour hV (fun z => hh (Or.inr z))
      obtain ⟨I1, c1, hc1, hf1, -, -⟩ := ce_asksHour (L := L) hr.1.1 hr.1.2 y
      have hR : RM Z.1 I1 97 0 := RM_of (fun k => hf1 97 k (by omega)) hr.1.1
      have hS : SMo Z.1 (P0 Z.1) I1 := ⟨⟨hR, hV, PV_P0 hV⟩, hc1⟩
      refine ⟨I1, c0_X12_since (vc_X12_since_0 ⟨_, I1, c1, g0n (fun z => hh (Or.inr z)) ⟨_, ct_isPew hR hV x, g0n (fun z => hh (Or.inl z)) ?_⟩⟩), hf1⟩
      subst hx
      subst hy
      rw [u_cl (n := p) (by omega), u_cl (n := t) (by omega)]
      have e : I1 105 (7 * t + p) = _ := (hS.says ht hp).2.2.1
      simp (disch := omega) only [l_0, l_1, l_2, l_3, l_4, l_5, l_6, l_7, l_8, l_9, l_10, l_11, l_12, l_15, l_16, l_20, l_24, l_30, l_31, l_32, l_50, l_54, l_60, l_62, l_63, l_64, l_74, l_91, l_100, l_128, l_240, l_600, l_10000, l_m1, nI_leI, nI_ltI, u_eq, u_add, u_mul, u_cl, u_in_t, pk_sub, pk_div, nI_nm1, m1_nI, m1_lt, m1_le, nI_ltm, nI_lem, up2_s_, u_31, u_one3, u_shr3, u_and1, u_or, true_and, and_true, e]
theorem q_depth (Z : St) (x y : Int32) : ∃ v, Q2 Z Z kX11_depth kX12_depth [.int x, .int y] (.int v) := by
  by_cases hh : bp Z.1 x ∨ bh Z.1 y
  · refine ⟨-2, QC_q fun I L hr => ⟨I, c0_X11_depth (vc_X11_depth_0 ⟨_, ct_noPew hr.1.1.1 x, ?_⟩), Fq.rf, hr.2.1, hr.2.2⟩, QM_q fun I L hr => ?_⟩
    · by_cases h1 : bp Z.1 x
      · exact g1p h1 ⟨rfl, rfl, rfl⟩
      · exact g1n h1 ⟨_, ct_noHour hr.1.1.1 hr.1.1.2 y, g1p (hh.resolve_left h1) ⟨rfl, rfl, rfl⟩⟩
    · obtain ⟨I1, c1, hc1, hf1, -, -⟩ := ce_asksHour (L := L) hr.1.1 hr.1.2 y
      have hR : RM Z.1 I1 97 0 := RM_of (fun k => hf1 97 k (by omega)) hr.1.1
      refine ⟨I1, c0_X12_depth (vc_X12_depth_0 ⟨_, I1, c1, ?_⟩), hf1⟩
      by_cases h1 : bh Z.1 y
      · exact g0p h1 ⟨rfl, rfl, rfl⟩
      · exact g0n h1 ⟨_, ct_isPew hR hr.1.2 x, g0p (hh.resolve_right h1) ⟨rfl, rfl, rfl⟩⟩
  · refine ⟨(fun p t : Nat => iI ((rows Z.1 (P0 Z.1) t) p).2.2.2) x.toNatClampNeg y.toNatClampNeg, QC_q fun I L hr => ?_, QM_q fun I L hr => ?_⟩
    · have hV := hr.1.1.2
      have h0 := hV.1.1
      have h3 := hV.1.2.2.2.1
      obtain ⟨p, hp, hx⟩ := xPew hV (fun z => hh (Or.inl z))
      obtain ⟨t, ht, hy, h8⟩ := xHour hV (fun z => hh (Or.inr z))
      obtain ⟨I1, c1, hf1, hs1, hse, hw⟩ := ce_settled hr
      have hR := (Bc_of hf1 hr.1).1.1
      have hS : SCo Z.1 (P0 Z.1) 75 I1 := ⟨⟨hR, hV, PV_P0 hV⟩, hs1.1, hs1.2⟩
      refine ⟨I1, c0_X11_depth (vc_X11_depth_0 ⟨_, ct_noPew hr.1.1.1 x, g1n (fun z => hh (Or.inl z)) ⟨_, ct_noHour hr.1.1.1 hV y, g1n (fun z => hh (Or.inr z)) ⟨I1, c1, ?_⟩⟩⟩), hf1, hse, hw⟩
      subst hx
      subst hy
      rw [u_cl (n := p) (by omega), u_cl (n := t) (by omega)]
      refine ⟨_, ct_cell _ _, ?_⟩
      rw [show nI t * 7 + nI p = nI (t * 7 + p) by simp (disch := omega) only [l_0, l_1, l_2, l_3, l_4, l_5, l_6, l_7, l_8, l_9, l_10, l_11, l_12, l_15, l_16, l_20, l_24, l_30, l_31, l_32, l_50, l_54, l_60, l_62, l_63, l_64, l_74, l_91, l_100, l_128, l_240, l_600, l_10000, l_m1, nI_leI, nI_ltI, u_eq, u_add, u_mul, u_cl, u_in_t, pk_sub, pk_div, nI_nm1, m1_nI, m1_lt, m1_le, nI_ltm, nI_lem, up2_s_, u_31, u_one3, u_shr3, u_and1, u_or, true_and, and_true], u_cl (n := t * 7 + p) (by omega)]
      refine ⟨u_in (by omega) (by decide), ?_⟩

      have e : I1 80 (t * 7 + p) = _ := (hS.says ht hp).2.2.2
      rw [e]
      exact ⟨rfl, rfl, rfl⟩
    · have hV := hr.1.2
      have h0 := hV.1.1
      have h3 := hV.1.2.2.2.1
      obtain ⟨p, hp, hx⟩ := xPew hV (fun z => hh (Or.inl z))
      obtain ⟨t, ht, hy, h8⟩ := xHour hV (fun z => hh (Or.inr z))
      obtain ⟨I1, c1, hc1, hf1, -, -⟩ := ce_asksHour (L := L) hr.1.1 hr.1.2 y
      have hR : RM Z.1 I1 97 0 := RM_of (fun k => hf1 97 k (by omega)) hr.1.1
      have hS : SMo Z.1 (P0 Z.1) I1 := ⟨⟨hR, hV, PV_P0 hV⟩, hc1⟩
      refine ⟨I1, c0_X12_depth (vc_X12_depth_0 ⟨_, I1, c1, g0n (fun z => hh (Or.inr z)) ⟨_, ct_isPew hR hV x, g0n (fun z => hh (Or.inl z)) ?_⟩⟩), hf1⟩
      subst hx
      subst hy
      rw [u_cl (n := p) (by omega), u_cl (n := t) (by omega)]
      have e : I1 106 (7 * t + p) = _ := (hS.says ht hp).2.2.2
      simp (disch := omega) only [l_0, l_1, l_2, l_3, l_4, l_5, l_6, l_7, l_8, l_9, l_10, l_11, l_12, l_15, l_16, l_20, l_24, l_30, l_31, l_32, l_50, l_54, l_60, l_62, l_63, l_64, l_74, l_91, l_100, l_128, l_240, l_600, l_10000, l_m1, nI_leI, nI_ltI, u_eq, u_add, u_mul, u_cl, u_in_t, pk_sub, pk_div, nI_nm1, m1_nI, m1_lt, m1_le, nI_ltm, nI_lem, up2_s_, u_31, u_one3, u_shr3, u_and1, u_or, true_and, and_true, e]
theorem q_alike (Z : St) (x y : Int32) : ∃ v, Q2 Z Z kX11_alike kX12_alike [.int x, .int y] (.int v) := by
  by_cases hh : bp Z.1 x ∨ bh Z.1 y
  · refine ⟨-2, QC_q fun I L hr => ⟨I, c0_X11_alike (vc_X11_alike_0 ⟨_, ct_noPew hr.1.1.1 x, ?_⟩), Fq.rf, hr.2.1, hr.2.2⟩, QM_q fun I L hr => ?_⟩
    · by_cases h1 : bp Z.1 x
      · exact g1p h1 ⟨rfl, rfl, rfl⟩
      · exact g1n h1 ⟨_, ct_noHour hr.1.1.1 hr.1.1.2 y, g1p (hh.resolve_left h1) ⟨rfl, rfl, rfl⟩⟩
    · obtain ⟨I1, c1, hc1, hf1, -, -⟩ := ce_asksHour (L := L) hr.1.1 hr.1.2 y
      have hR : RM Z.1 I1 97 0 := RM_of (fun k => hf1 97 k (by omega)) hr.1.1
      refine ⟨I1, c0_X12_alike (vc_X12_alike_0 ⟨_, I1, c1, ?_⟩), hf1⟩
      by_cases h1 : bh Z.1 y
      · exact g0p h1 ⟨rfl, rfl, rfl⟩
      · exact g0n h1 ⟨_, ct_isPew hR hr.1.2 x, g0p (hh.resolve_right h1) ⟨rfl, rfl, rfl⟩⟩
  · refine ⟨(fun p t : Nat => nI (setF (fun o => decide (((rows Z.1 (P0 Z.1) t) p).1 ≠ [] ∧ ((rows Z.1 (P0 Z.1) t) o).1 = ((rows Z.1 (P0 Z.1) t) p).1)) (Z.1.1 0 3))) x.toNatClampNeg y.toNatClampNeg, QC_q fun I L hr => ?_, QM_q fun I L hr => ?_⟩
    · have hV := hr.1.1.2
      have h0 := hV.1.1
      have h3 := hV.1.2.2.2.1
      obtain ⟨p, hp, hx⟩ := xPew hV (fun z => hh (Or.inl z))
      obtain ⟨t, ht, hy, h8⟩ := xHour hV (fun z => hh (Or.inr z))
      obtain ⟨I1, c1, hf1, hs1, hse, hw⟩ := ce_settled hr
      have hR := (Bc_of hf1 hr.1).1.1
      have hS : SCo Z.1 (P0 Z.1) 75 I1 := ⟨⟨hR, hV, PV_P0 hV⟩, hs1.1, hs1.2⟩
      refine ⟨I1, c0_X11_alike (vc_X11_alike_0 ⟨_, ct_noPew hr.1.1.1 x, g1n (fun z => hh (Or.inl z)) ⟨_, ct_noHour hr.1.1.1 hV y, g1n (fun z => hh (Or.inr z)) ⟨I1, c1, ?_⟩⟩⟩), hf1, hse, hw⟩
      subst hx
      subst hy
      rw [u_cl (n := p) (by omega), u_cl (n := t) (by omega)]
      exact ⟨_, cq_sayingSame hS ht hp, rfl, rfl, rfl⟩
    · have hV := hr.1.2
      have h0 := hV.1.1
      have h3 := hV.1.2.2.2.1
      obtain ⟨p, hp, hx⟩ := xPew hV (fun z => hh (Or.inl z))
      obtain ⟨t, ht, hy, h8⟩ := xHour hV (fun z => hh (Or.inr z))
      obtain ⟨I1, c1, hc1, hf1, -, -⟩ := ce_asksHour (L := L) hr.1.1 hr.1.2 y
      have hR : RM Z.1 I1 97 0 := RM_of (fun k => hf1 97 k (by omega)) hr.1.1
      have hS : SMo Z.1 (P0 Z.1) I1 := ⟨⟨hR, hV, PV_P0 hV⟩, hc1⟩
      refine ⟨I1, c0_X12_alike (vc_X12_alike_0 ⟨_, I1, c1, g0n (fun z => hh (Or.inr z)) ⟨_, ct_isPew hR hV x, g0n (fun z => hh (Or.inl z)) ?_⟩⟩), hf1⟩
      subst hx
      subst hy
      rw [u_cl (n := p) (by omega), u_cl (n := t) (by omega)]
      exact ⟨_, mq_alikeTo hS ht hp, rfl, rfl, rfl⟩
theorem q_words (Z : St) (x : Int32) : ∃ v, Q2 Z Z kX11_words kX12_words [.int x] (.int v) := by
  by_cases hh : bh Z.1 x
  · refine ⟨-2, QC_q fun I L hr => ⟨I, c0_X11_words (vc_X11_words_0 ⟨_, ct_noHour hr.1.1.1 hr.1.1.2 x, g1p hh ⟨rfl, rfl, rfl⟩⟩), Fq.rf, hr.2.1, hr.2.2⟩, QM_q fun I L hr => ?_⟩
    obtain ⟨I1, c1, hc1, hf1, -, -⟩ := ce_asksHour (L := L) hr.1.1 hr.1.2 x
    exact ⟨I1, c0_X12_words (vc_X12_words_0 ⟨_, I1, c1, g0p hh ⟨rfl, rfl, rfl⟩⟩), hf1⟩
  · refine ⟨(fun t : Nat => nI (sumL (rows Z.1 (P0 Z.1) t) (Z.1.1 0 3))) x.toNatClampNeg, QC_q fun I L hr => ?_, QM_q fun I L hr => ?_⟩
    · have hV := hr.1.1.2
      have h0 := hV.1.1
      have h3 := hV.1.2.2.2.1
      obtain ⟨t, ht, hx, h8⟩ := xHour hr.1.1.2 hh
      obtain ⟨I1, c1, hf1, hs1, hse, hw⟩ := ce_settled hr
      have hR := (Bc_of hf1 hr.1).1.1
      have hS : SCo Z.1 (P0 Z.1) 75 I1 := ⟨⟨hR, hV, PV_P0 hV⟩, hs1.1, hs1.2⟩
      refine ⟨I1, c0_X11_words (vc_X11_words_0 ⟨_, ct_noHour hr.1.1.1 hr.1.1.2 x, g1n hh ⟨I1, c1, ?_⟩⟩), hf1, hse, hw⟩
      subst hx
      rw [u_cl (by omega)]
      exact ⟨_, cq_lettersSaid hS ht, rfl, rfl, rfl⟩
    · have hV := hr.1.2
      have h0 := hV.1.1
      have h3 := hV.1.2.2.2.1
      obtain ⟨t, ht, hx, h8⟩ := xHour hr.1.2 hh
      obtain ⟨I1, c1, hc1, hf1, -, -⟩ := ce_asksHour (L := L) hr.1.1 hr.1.2 x
      have hR : RM Z.1 I1 97 0 := RM_of (fun k => hf1 97 k (by omega)) hr.1.1
      have hS : SMo Z.1 (P0 Z.1) I1 := ⟨⟨hR, hV, PV_P0 hV⟩, hc1⟩
      refine ⟨I1, c0_X12_words (vc_X12_words_0 ⟨_, I1, c1, g0n hh ?_⟩), hf1⟩
      subst hx
      rw [u_cl (by omega)]
      exact ⟨_, mq_wordsAt hS ht, rfl, rfl, rfl⟩
theorem q_when (Z : St) (x : Int32) : ∃ v, Q2 Z Z kX11_when kX12_when [.int x] (.int v) := by
  by_cases hh : bp Z.1 x
  · refine ⟨-2, QC_q fun I L hr => ⟨I, c0_X11_when (vc_X11_when_0 ⟨_, ct_noPew hr.1.1.1 x, g1p hh ⟨rfl, rfl, rfl⟩⟩), Fq.rf, hr.2.1, hr.2.2⟩, QM_q fun I L hr => ?_⟩
    obtain ⟨I1, c1, hc1, hf1, -, -⟩ := ce_asksPew (L := L) hr.1.1 hr.1.2 x
    exact ⟨I1, c0_X12_when (vc_X12_when_0 ⟨_, I1, c1, g0p hh ⟨rfl, rfl, rfl⟩⟩), hf1⟩
  · refine ⟨(fun p : Nat => fstF (fun k => !(rows Z.1 (P0 Z.1) k p).1.isEmpty) 0 (Z.1.1 0 0 + 1)) x.toNatClampNeg, QC_q fun I L hr => ?_, QM_q fun I L hr => ?_⟩
    · have hV := hr.1.1.2
      have h0 := hV.1.1
      have h3 := hV.1.2.2.2.1
      obtain ⟨p, hp, hx⟩ := xPew hr.1.1.2 hh
      obtain ⟨I1, c1, hf1, hs1, hse, hw⟩ := ce_settled hr
      have hR := (Bc_of hf1 hr.1).1.1
      have hS : SCo Z.1 (P0 Z.1) 75 I1 := ⟨⟨hR, hV, PV_P0 hV⟩, hs1.1, hs1.2⟩
      have e1 : I1 12 1 = nI (Z.1.1 0 0) := hR.1.2.1
      have e4 : I1 12 4 = nI (Z.1.1 0 3) := hR.1.2.2.2.2.1
      refine ⟨I1, c0_X11_when (vc_X11_when_0 ⟨_, ct_noPew hr.1.1.1 x, g1n hh ⟨I1, c1, ?_⟩⟩), hf1, hse, hw⟩
      subst hx
      rw [u_cl (by omega)]
      refine downF (f := (fun k => !(rows Z.1 (P0 Z.1) k p).1.isEmpty)) (V := fun v k => v_X11_when_18 (some (.int v)) I1 L I1 L (nI p) (nI k)) (n := Z.1.1 0 0 + 1) ?_ ?_ ?_
      · refine vc_X11_when_18 ?_
        rw [e1]
        exact ⟨fun _ => ⟨rfl, rfl, rfl⟩, fun z => absurd (nI_lt (Nat.lt_succ_self _) (by omega)) z⟩
      · intro k hk hy
        refine vc_X11_when_18 ?_
        rw [e1]
        refine ⟨fun z => absurd z (nI_nlt (by omega) (by omega)), fun _ => ⟨_, cq_isLit hS (t := k) (by omega) hp, g0n (by simpa using hy) ⟨rfl, rfl, rfl⟩⟩⟩
      · intro k v hk hn ih
        refine vc_X11_when_18 ?_
        rw [e1, nI_1]
        refine ⟨fun z => absurd z (nI_nlt (by omega) (by omega)), fun _ => ⟨_, cq_isLit hS (t := k) (by omega) hp, g0p (by simpa using hn) ih⟩⟩
    · have hV := hr.1.2
      have h0 := hV.1.1
      have h3 := hV.1.2.2.2.1
      obtain ⟨p, hp, hx⟩ := xPew hr.1.2 hh
      obtain ⟨I1, c1, hc1, hf1, -, -⟩ := ce_asksPew (L := L) hr.1.1 hr.1.2 x
      have hR : RM Z.1 I1 97 0 := RM_of (fun k => hf1 97 k (by omega)) hr.1.1
      have hS : SMo Z.1 (P0 Z.1) I1 := ⟨⟨hR, hV, PV_P0 hV⟩, hc1⟩
      refine ⟨I1, c0_X12_when (vc_X12_when_0 ⟨_, I1, c1, g0n hh ?_⟩), hf1⟩
      subst hx
      rw [u_cl (by omega)]
      refine downF (f := (fun k => !(rows Z.1 (P0 Z.1) k p).1.isEmpty)) (V := fun v k => v_X12_when_13 (some (.int v)) I1 L I1 L (nI p) (nI k)) (n := Z.1.1 0 0 + 1) ?_ ?_ ?_
      · exact vc_X12_when_13 ⟨_, ct_hours hR, fun _ => ⟨rfl, rfl, rfl⟩, fun z => absurd (nI_lt (Nat.lt_succ_self _) (by omega)) z⟩
      · intro k hk hy
        refine vc_X12_when_13 ⟨_, ct_hours hR, fun z => absurd z (nI_nlt (by omega) (by omega)), fun _ => ⟨_, mq_says hS (t := k) (by omega) hp, ?_⟩⟩
        rw [mE_le0 (hS.cv hp).1]
        exact ⟨fun z => absurd z (by simpa using hy), fun _ => ⟨rfl, rfl, rfl⟩⟩
      · intro k v hk hn ih
        refine vc_X12_when_13 ⟨_, ct_hours hR, fun z => absurd z (nI_nlt (by omega) (by omega)), fun _ => ⟨_, mq_says hS (t := k) (by omega) hp, ?_⟩⟩
        rw [mE_le0 (hS.cv hp).1, nI_1]
        exact ⟨fun _ => ih, fun z => absurd (by simpa using hn) z⟩
theorem q_often (Z : St) (x : Int32) : ∃ v, Q2 Z Z kX11_often kX12_often [.int x] (.int v) := by
  by_cases hh : bp Z.1 x
  · refine ⟨-2, QC_q fun I L hr => ⟨I, c0_X11_often (vc_X11_often_0 ⟨_, ct_noPew hr.1.1.1 x, g1p hh ⟨rfl, rfl, rfl⟩⟩), Fq.rf, hr.2.1, hr.2.2⟩, QM_q fun I L hr => ?_⟩
    obtain ⟨I1, c1, hc1, hf1, -, -⟩ := ce_asksPew (L := L) hr.1.1 hr.1.2 x
    exact ⟨I1, c0_X12_often (vc_X12_often_0 ⟨_, I1, c1, g0p hh ⟨rfl, rfl, rfl⟩⟩), hf1⟩
  · refine ⟨(fun p : Nat => nI (cntF (fun k => !(rows Z.1 (P0 Z.1) k p).1.isEmpty) (Z.1.1 0 0 + 1))) x.toNatClampNeg, QC_q fun I L hr => ?_, QM_q fun I L hr => ?_⟩
    · have hV := hr.1.1.2
      have h0 := hV.1.1
      have h3 := hV.1.2.2.2.1
      obtain ⟨p, hp, hx⟩ := xPew hr.1.1.2 hh
      obtain ⟨I1, c1, hf1, hs1, hse, hw⟩ := ce_settled hr
      have hR := (Bc_of hf1 hr.1).1.1
      have hS : SCo Z.1 (P0 Z.1) 75 I1 := ⟨⟨hR, hV, PV_P0 hV⟩, hs1.1, hs1.2⟩
      have e1 : I1 12 1 = nI (Z.1.1 0 0) := hR.1.2.1
      have e4 : I1 12 4 = nI (Z.1.1 0 3) := hR.1.2.2.2.2.1
      refine ⟨I1, c0_X11_often (vc_X11_often_0 ⟨_, ct_noPew hr.1.1.1 x, g1n hh ⟨I1, c1, ?_⟩⟩), hf1, hse, hw⟩
      subst hx
      rw [u_cl (by omega)]
      refine down (P := fun k => v_X11_often_21 (some (.int (nI (cntF (fun k => !(rows Z.1 (P0 Z.1) k p).1.isEmpty) (Z.1.1 0 0 + 1))))) I1 L I1 L (nI p) (nI (cntF (fun k => !(rows Z.1 (P0 Z.1) k p).1.isEmpty) k)) (nI k)) (n := Z.1.1 0 0 + 1) ?_ ?_
      · refine vc_X11_often_21 ?_
        rw [e1]
        exact ⟨fun _ => ⟨rfl, rfl, rfl⟩, fun z => absurd (nI_lt (Nat.lt_succ_self _) (by omega)) z⟩
      · intro k hk ih
        refine vc_X11_often_21 ?_
        rw [e1, nI_1, nI_1]
        refine ⟨fun z => absurd z (nI_nlt (by omega) (by omega)), fun _ => ⟨_, cq_isLit hS (t := k) (by omega) hp, ?_⟩⟩
        by_cases hl : (rows Z.1 (P0 Z.1) k p).1 = []
        · rw [cntF_n (k := k) (by simpa using hl)] at ih
          exact g0p hl ih
        · rw [cntF_y (k := k) (by simpa using hl)] at ih
          exact g0n hl ih
    · have hV := hr.1.2
      have h0 := hV.1.1
      have h3 := hV.1.2.2.2.1
      obtain ⟨p, hp, hx⟩ := xPew hr.1.2 hh
      obtain ⟨I1, c1, hc1, hf1, -, -⟩ := ce_asksPew (L := L) hr.1.1 hr.1.2 x
      have hR : RM Z.1 I1 97 0 := RM_of (fun k => hf1 97 k (by omega)) hr.1.1
      have hS : SMo Z.1 (P0 Z.1) I1 := ⟨⟨hR, hV, PV_P0 hV⟩, hc1⟩
      refine ⟨I1, c0_X12_often (vc_X12_often_0 ⟨_, I1, c1, g0n hh ?_⟩), hf1⟩
      subst hx
      rw [u_cl (by omega)]
      refine down (P := fun k => v_X12_often_15 (some (.int (nI (cntF (fun k => !(rows Z.1 (P0 Z.1) k p).1.isEmpty) (Z.1.1 0 0 + 1))))) I1 L I1 L (nI p) (nI (cntF (fun k => !(rows Z.1 (P0 Z.1) k p).1.isEmpty) k)) (nI k)) (n := Z.1.1 0 0 + 1) ?_ ?_
      · exact vc_X12_often_15 ⟨_, ct_hours hR, fun _ => ⟨rfl, rfl, rfl⟩, fun z => absurd (nI_lt (Nat.lt_succ_self _) (by omega)) z⟩
      · intro k hk ih
        refine vc_X12_often_15 ⟨_, ct_hours hR, fun z => absurd z (nI_nlt (by omega) (by omega)), fun _ => ⟨_, mq_says hS (t := k) (by omega) hp, ?_⟩⟩
        rw [mE_le0 (hS.cv hp).1]
        simp (disch := omega) only [l_0, l_1, l_2, l_3, l_4, l_5, l_6, l_7, l_8, l_9, l_10, l_11, l_12, l_15, l_16, l_20, l_24, l_30, l_31, l_32, l_50, l_54, l_60, l_62, l_63, l_64, l_74, l_91, l_100, l_128, l_240, l_600, l_10000, l_m1, nI_leI, nI_ltI, u_eq, u_add, u_mul, u_cl, u_in_t, pk_sub, pk_div, nI_nm1, m1_nI, m1_lt, m1_le, nI_ltm, nI_lem, up2_s_, u_31, u_one3, u_shr3, u_and1, u_or, true_and, and_true]
        refine ⟨fun hl => ?_, fun hl => ?_⟩
        · rw [cntF_n (k := k) (by simpa using hl)] at ih
          exact ih
        · rw [cntF_y (k := k) (by simpa using hl)] at ih
          exact ih
theorem q_full (Z : St) : ∃ v, Q2 Z Z kX11_full kX12_full [] (.int v) := by
  by_cases hh : Z.1.1 0 8 = 0
  · refine ⟨-2, QC_q fun I L hr => ⟨I, c0_X11_full (vc_X11_full_0 ⟨_, ct_noNight hr.1.1.1 hr.1.1.2, g1p hh ⟨rfl, rfl, rfl⟩⟩), Fq.rf, hr.2.1, hr.2.2⟩, QM_q fun I L hr => ?_⟩
    obtain ⟨I1, c1, hc1, hf1, -, -⟩ := ce_asksNight (L := L) hr.1.1 hr.1.2
    exact ⟨I1, c0_X12_full (vc_X12_full_0 ⟨_, I1, c1, g0p hh ⟨rfl, rfl, rfl⟩⟩), hf1⟩
  · refine ⟨fstF (fun k => decide (0 < Z.1.1 0 3 ∧ litB (rows Z.1 (P0 Z.1) k) (Z.1.1 0 3) = 2 ^ Z.1.1 0 3 - 1)) 0 (Z.1.1 0 0 + 1), QC_q fun I L hr => ?_, QM_q fun I L hr => ?_⟩
    · have hV := hr.1.1.2
      have h0 := hV.1.1
      have h3 := hV.1.2.2.2.1
      obtain ⟨I1, c1, hf1, hs1, hse, hw⟩ := ce_settled hr
      have hR := (Bc_of hf1 hr.1).1.1
      have hS : SCo Z.1 (P0 Z.1) 75 I1 := ⟨⟨hR, hV, PV_P0 hV⟩, hs1.1, hs1.2⟩
      have e1 : I1 12 1 = nI (Z.1.1 0 0) := hR.1.2.1
      have e4 : I1 12 4 = nI (Z.1.1 0 3) := hR.1.2.2.2.2.1
      refine ⟨I1, c0_X11_full (vc_X11_full_0 ⟨_, ct_noNight hr.1.1.1 hr.1.1.2, g1n hh ⟨I1, c1, ?_⟩⟩), hf1, hse, hw⟩
      have hp1 : 1 ≤ 2 ^ Z.1.1 0 3 := Nat.one_le_two_pow
      have hp7 : 2 ^ Z.1.1 0 3 ≤ 2 ^ 7 := Nat.pow_le_pow_right (by decide) h3
      have hll : ∀ k, litB (rows Z.1 (P0 Z.1) k) (Z.1.1 0 3) < 128 := fun k => litB_lt _ h3

      refine downF (f := (fun k => decide (0 < Z.1.1 0 3 ∧ litB (rows Z.1 (P0 Z.1) k) (Z.1.1 0 3) = 2 ^ Z.1.1 0 3 - 1))) (V := fun v k => v_X11_full_17 (some (.int v)) I1 L I1 L (nI k)) (n := Z.1.1 0 0 + 1) ?_ ?_ ?_
      · refine vc_X11_full_17 ?_
        rw [e1]
        exact ⟨fun _ => ⟨rfl, rfl, rfl⟩, fun z => absurd (nI_lt (Nat.lt_succ_self _) (by omega)) z⟩
      · intro k hk hy
        have hy : 0 < Z.1.1 0 3 ∧ litB (rows Z.1 (P0 Z.1) k) (Z.1.1 0 3) = 2 ^ Z.1.1 0 3 - 1 := by simpa using hy
        have e76 : I1 76 k = nI (litB (rows Z.1 (P0 Z.1) k) (Z.1.1 0 3)) := hS.lit (by omega)
        refine vc_X11_full_17 ?_
        rw [e1, e4, u_cl (by omega), e76]
        refine ⟨fun z => absurd z (nI_nlt (by omega) (by omega)), fun _ => ⟨fun z => absurd z (nI_nle hy.1 (by omega)), fun _ => ⟨u_in (by omega) (by decide), _, ct_allPewsC hR hV, ?_⟩⟩⟩
        rw [hy.2]
        exact ⟨fun _ => ⟨rfl, rfl, rfl⟩, fun z => absurd rfl z⟩
      · intro k v hk hn ih
        have hn : ¬ (0 < Z.1.1 0 3 ∧ litB (rows Z.1 (P0 Z.1) k) (Z.1.1 0 3) = 2 ^ Z.1.1 0 3 - 1) := of_decide_eq_false hn
        have e76 : I1 76 k = nI (litB (rows Z.1 (P0 Z.1) k) (Z.1.1 0 3)) := hS.lit (by omega)
        have hlk := hll k
        refine vc_X11_full_17 ?_
        rw [e1, e4, u_cl (by omega), e76, nI_1]
        refine ⟨fun z => absurd z (nI_nlt (by omega) (by omega)), fun _ => ⟨fun _ => ih, fun z => ⟨u_in (by omega) (by decide), _, ct_allPewsC hR hV, fun z2 => ?_, fun _ => ih⟩⟩⟩
        rw [u_eq (by omega) (by omega)] at z2
        refine absurd ⟨?_, z2⟩ hn
        rcases Nat.eq_zero_or_pos (Z.1.1 0 3) with q | q
        · rw [q] at z; exact absurd (by decide) z
        · exact q
    · have hV := hr.1.2
      have h0 := hV.1.1
      have h3 := hV.1.2.2.2.1
      obtain ⟨I1, c1, hc1, hf1, -, -⟩ := ce_asksNight (L := L) hr.1.1 hr.1.2
      have hR : RM Z.1 I1 97 0 := RM_of (fun k => hf1 97 k (by omega)) hr.1.1
      have hS : SMo Z.1 (P0 Z.1) I1 := ⟨⟨hR, hV, PV_P0 hV⟩, hc1⟩
      refine ⟨I1, c0_X12_full (vc_X12_full_0 ⟨_, I1, c1, g0n hh ?_⟩), hf1⟩
      have hp1 : 1 ≤ 2 ^ Z.1.1 0 3 := Nat.one_le_two_pow
      have hp7 : 2 ^ Z.1.1 0 3 ≤ 2 ^ 7 := Nat.pow_le_pow_right (by decide) h3
      have hll : ∀ k, litB (rows Z.1 (P0 Z.1) k) (Z.1.1 0 3) < 128 := fun k => litB_lt _ h3

      by_cases hpos : 0 < Z.1.1 0 3
      · refine downF (f := (fun k => decide (0 < Z.1.1 0 3 ∧ litB (rows Z.1 (P0 Z.1) k) (Z.1.1 0 3) = 2 ^ Z.1.1 0 3 - 1))) (V := fun v k => v_X12_full_12 (some (.int v)) I1 L I1 L (nI k)) (n := Z.1.1 0 0 + 1) ?_ ?_ ?_
        · exact vc_X12_full_12 ⟨_, ct_hours hR, fun _ => ⟨rfl, rfl, rfl⟩, fun z => absurd (nI_lt (Nat.lt_succ_self _) (by omega)) z⟩
        · intro k hk hy
          have hy : 0 < Z.1.1 0 3 ∧ litB (rows Z.1 (P0 Z.1) k) (Z.1.1 0 3) = 2 ^ Z.1.1 0 3 - 1 := by simpa using hy
          refine vc_X12_full_12 ⟨_, ct_hours hR, fun z => absurd z (nI_nlt (by omega) (by omega)), fun _ => ⟨_, ct_pews hR, fun z => absurd z (nI_nle hy.1 (by omega)), fun _ => ⟨_, mq_litAt hS (t := k) (by omega), _, ct_allPewsM hR hV, ?_⟩⟩⟩
          rw [hy.2]
          exact ⟨fun _ => ⟨rfl, rfl, rfl⟩, fun z => absurd rfl z⟩
        · intro k v hk hn ih
          have hn : ¬ (0 < Z.1.1 0 3 ∧ litB (rows Z.1 (P0 Z.1) k) (Z.1.1 0 3) = 2 ^ Z.1.1 0 3 - 1) := of_decide_eq_false hn
          have hlk := hll k
          refine vc_X12_full_12 ⟨_, ct_hours hR, fun z => absurd z (nI_nlt (by omega) (by omega)), fun _ => ⟨_, ct_pews hR, fun z => absurd z (nI_nle hpos (by omega)), fun _ => ⟨_, mq_litAt hS (t := k) (by omega), _, ct_allPewsM hR hV, fun z2 => ?_, fun _ => ?_⟩⟩⟩
          · rw [u_eq (by omega) (by omega)] at z2
            exact absurd ⟨hpos, z2⟩ hn
          · rw [nI_1]; exact ih
      · have e3 : Z.1.1 0 3 = 0 := by omega
        have ev : ∀ m k, fstF (fun k => decide (0 < Z.1.1 0 3 ∧ litB (rows Z.1 (P0 Z.1) k) (Z.1.1 0 3) = 2 ^ Z.1.1 0 3 - 1)) k m = -1 := by
          intro m
          induction m with
          | zero => intro k; rfl
          | succ m ih =>
            intro k
            show (if decide (0 < Z.1.1 0 3 ∧ litB (rows Z.1 (P0 Z.1) k) (Z.1.1 0 3) = 2 ^ Z.1.1 0 3 - 1) = true then nI k else _) = -1
            rw [if_neg (by rw [e3]; simp)]
            exact ih (k + 1)
        rw [ev]
        refine vc_X12_full_12 ⟨_, ct_hours hR, fun z => absurd z (nI_nlt (Nat.zero_le _) (by omega)), fun _ => ⟨_, ct_pews hR, fun _ => ⟨rfl, rfl, rfl⟩, fun z => ?_⟩⟩
        rw [e3] at z
        exact absurd (by decide) z
def unlF (A : Nt) (P : Pm) : Nat → Nat
  | 0 => 0
  | k + 1 => unlF A P k ||| litB (rows A P k) (A.1 0 3)
theorem unl_and {a : Nat} (ha : a < 2 ^ 32) (b c : Nat) : (a &&& (b ^^^ 4294967295)) &&& (c ^^^ 4294967295) = a &&& ((b ||| c) ^^^ 4294967295) := by
  apply Nat.eq_of_testBit_eq
  intro i
  simp only [Nat.testBit_and, Nat.testBit_xor, Nat.testBit_or]
  by_cases hi : i < 32
  · have h1 : (4294967295 : Nat).testBit i = true := by rw [show (4294967295 : Nat) = 2 ^ 32 - 1 from rfl, Nat.testBit_two_pow_sub_one]; simpa using hi
    rw [h1]
    cases a.testBit i <;> cases b.testBit i <;> cases c.testBit i <;> rfl
  · have h1 : a.testBit i = false := Nat.testBit_lt_two_pow (Nat.lt_of_lt_of_le ha (Nat.pow_le_pow_right (by decide) (by omega)))
    rw [h1]
    simp
theorem q_dark (Z : St) : ∃ v, Q2 Z Z kX11_dark kX12_dark [] (.int v) := by
  by_cases hh : Z.1.1 0 8 = 0
  · refine ⟨-2, QC_q fun I L hr => ⟨I, c0_X11_dark (vc_X11_dark_0 ⟨_, ct_noNight hr.1.1.1 hr.1.1.2, g1p hh ⟨rfl, rfl, rfl⟩⟩), Fq.rf, hr.2.1, hr.2.2⟩, QM_q fun I L hr => ?_⟩
    obtain ⟨I1, c1, hc1, hf1, -, -⟩ := ce_asksNight (L := L) hr.1.1 hr.1.2
    exact ⟨I1, c0_X12_dark (vc_X12_dark_0 ⟨_, I1, c1, g0p hh ⟨rfl, rfl, rfl⟩⟩), hf1⟩
  · refine ⟨nI ((2 ^ Z.1.1 0 3 - 1) &&& (unlF Z.1 (P0 Z.1) (Z.1.1 0 0 + 1) ^^^ 4294967295)), QC_q fun I L hr => ?_, QM_q fun I L hr => ?_⟩
    · have hV := hr.1.1.2
      have h0 := hV.1.1
      have h3 := hV.1.2.2.2.1
      obtain ⟨I1, c1, hf1, hs1, hse, hw⟩ := ce_settled hr
      have hR := (Bc_of hf1 hr.1).1.1
      have hS : SCo Z.1 (P0 Z.1) 75 I1 := ⟨⟨hR, hV, PV_P0 hV⟩, hs1.1, hs1.2⟩
      have e1 : I1 12 1 = nI (Z.1.1 0 0) := hR.1.2.1
      have e4 : I1 12 4 = nI (Z.1.1 0 3) := hR.1.2.2.2.2.1
      refine ⟨I1, c0_X11_dark (vc_X11_dark_0 ⟨_, ct_noNight hr.1.1.1 hr.1.1.2, g1n hh ⟨I1, c1, ?_⟩⟩), hf1, hse, hw⟩
      have em : (-1 : Int32) = nI 4294967295 := by decide
      have hp1 : 1 ≤ 2 ^ Z.1.1 0 3 := Nat.one_le_two_pow
      have hp7 : 2 ^ Z.1.1 0 3 ≤ 2 ^ 7 := Nat.pow_le_pow_right (by decide) h3
      have hll : ∀ k, litB (rows Z.1 (P0 Z.1) k) (Z.1.1 0 3) < 128 := fun k => litB_lt _ h3

      refine ⟨_, ct_allPewsC hR hV, ?_⟩
      have e0 : nI (2 ^ Z.1.1 0 3 - 1) = nI ((2 ^ Z.1.1 0 3 - 1) &&& (unlF Z.1 (P0 Z.1) 0 ^^^ 4294967295)) := by
        show _ = nI ((2 ^ Z.1.1 0 3 - 1) &&& (0 ^^^ 4294967295))
        rw [Nat.zero_xor, show (4294967295 : Nat) = 2 ^ 32 - 1 from rfl, Nat.and_two_pow_sub_one_of_lt_two_pow (by omega)]
      rw [e0]
      refine down (P := fun k => v_X11_dark_25 (some (.int (nI ((2 ^ Z.1.1 0 3 - 1) &&& (unlF Z.1 (P0 Z.1) (Z.1.1 0 0 + 1) ^^^ 4294967295))))) I1 L I1 L (nI ((2 ^ Z.1.1 0 3 - 1) &&& (unlF Z.1 (P0 Z.1) k ^^^ 4294967295))) (nI k)) (n := Z.1.1 0 0 + 1) ?_ ?_
      · refine vc_X11_dark_25 ?_
        rw [e1]
        exact ⟨fun _ => ⟨rfl, rfl, rfl⟩, fun z => absurd (nI_lt (Nat.lt_succ_self _) (by omega)) z⟩
      · intro k hk ih
        have e76 : I1 76 k = nI (litB (rows Z.1 (P0 Z.1) k) (Z.1.1 0 3)) := hS.lit (by omega)
        refine vc_X11_dark_25 ?_
        rw [e1, u_cl (by omega), e76, em, u_xor, u_and, unl_and (by omega), nI_1]
        exact ⟨fun z => absurd z (nI_nlt (by omega) (by omega)), fun _ => ⟨u_in (by omega) (by decide), ih⟩⟩
    · have hV := hr.1.2
      have h0 := hV.1.1
      have h3 := hV.1.2.2.2.1
      obtain ⟨I1, c1, hc1, hf1, -, -⟩ := ce_asksNight (L := L) hr.1.1 hr.1.2
      have hR : RM Z.1 I1 97 0 := RM_of (fun k => hf1 97 k (by omega)) hr.1.1
      have hS : SMo Z.1 (P0 Z.1) I1 := ⟨⟨hR, hV, PV_P0 hV⟩, hc1⟩
      refine ⟨I1, c0_X12_dark (vc_X12_dark_0 ⟨_, I1, c1, g0n hh ?_⟩), hf1⟩
      have em : (-1 : Int32) = nI 4294967295 := by decide
      refine down (P := fun k => v_X12_dark_14 (some (.int (nI ((2 ^ Z.1.1 0 3 - 1) &&& (unlF Z.1 (P0 Z.1) (Z.1.1 0 0 + 1) ^^^ 4294967295))))) I1 L I1 L (nI (unlF Z.1 (P0 Z.1) k)) (nI k)) (n := Z.1.1 0 0 + 1) ?_ ?_
      · refine vc_X12_dark_14 ⟨_, ct_hours hR, fun _ => ⟨_, ct_allPewsM hR hV, ?_, rfl, rfl⟩, fun z => absurd (nI_lt (Nat.lt_succ_self _) (by omega)) z⟩
        rw [em, u_xor, u_and]
      · intro k hk ih
        refine vc_X12_dark_14 ⟨_, ct_hours hR, fun z => absurd z (nI_nlt (by omega) (by omega)), fun _ => ⟨_, mq_litAt hS (t := k) (by omega), ?_⟩⟩
        rw [u_or, nI_1]
        exact ih
def othF (A : Nt) (P : Pm) (t : Nat) : Nat := setF (fun p => decide ((rows A P t p).1 ≠ (rows A P (t - 1) p).1)) (A.1 0 3)
def stlF (A : Nt) (P : Pm) : Nat → Nat
  | 0 => 0
  | t + 1 => if othF A P (t + 1) = 0 then stlF A P t else t + 1
theorem q_still (Z : St) : ∃ v, Q2 Z Z kX11_still kX12_still [] (.int v) := by
  by_cases hh : Z.1.1 0 8 = 0
  · refine ⟨-2, QC_q fun I L hr => ⟨I, c0_X11_still (vc_X11_still_0 ⟨_, ct_noNight hr.1.1.1 hr.1.1.2, g1p hh ⟨rfl, rfl, rfl⟩⟩), Fq.rf, hr.2.1, hr.2.2⟩, QM_q fun I L hr => ?_⟩
    obtain ⟨I1, c1, hc1, hf1, -, -⟩ := ce_asksNight (L := L) hr.1.1 hr.1.2
    exact ⟨I1, c0_X12_still (vc_X12_still_0 ⟨_, I1, c1, g0p hh ⟨rfl, rfl, rfl⟩⟩), hf1⟩
  · refine ⟨nI (stlF Z.1 (P0 Z.1) (Z.1.1 0 0)), QC_q fun I L hr => ?_, QM_q fun I L hr => ?_⟩
    · have hV := hr.1.1.2
      have h0 := hV.1.1
      have h3 := hV.1.2.2.2.1
      obtain ⟨I1, c1, hf1, hs1, hse, hw⟩ := ce_settled hr
      have hR := (Bc_of hf1 hr.1).1.1
      have hS : SCo Z.1 (P0 Z.1) 75 I1 := ⟨⟨hR, hV, PV_P0 hV⟩, hs1.1, hs1.2⟩
      have e1 : I1 12 1 = nI (Z.1.1 0 0) := hR.1.2.1
      have e4 : I1 12 4 = nI (Z.1.1 0 3) := hR.1.2.2.2.2.1
      refine ⟨I1, c0_X11_still (vc_X11_still_0 ⟨_, ct_noNight hr.1.1.1 hr.1.1.2, g1n hh ⟨I1, c1, ?_⟩⟩), hf1, hse, hw⟩
      rw [e1]
      have go : ∀ t, t ≤ Z.1.1 0 0 → v_X11_still_23 (some (.int (nI (stlF Z.1 (P0 Z.1) t)))) I1 L I1 L (nI t) := by
        intro t
        induction t with
        | zero => intro _; exact vc_X11_still_23 ⟨fun _ => ⟨rfl, rfl, rfl⟩, fun z => absurd (by decide) z⟩
        | succ t ih =>
          intro ht
          have hlt : othF Z.1 (P0 Z.1) (t + 1) < 128 := setF_lt _ h3
          refine vc_X11_still_23 ⟨fun z => absurd z (nI_nle (by omega) (by omega)), fun _ => ⟨nI (othF Z.1 (P0 Z.1) (t + 1)), ?_, ?_⟩⟩
          · rw [nI_pred]
            exact cq_otherwise hS (t := t + 1) (s := t) ht (by omega)
          · rw [u_0 (by omega), pk_m1]
            show (_ → v_X11_still_23 (some (.int (nI (if othF Z.1 (P0 Z.1) (t + 1) = 0 then stlF Z.1 (P0 Z.1) t else t + 1)))) I1 L I1 L (nI t)) ∧ (_ → (some (Value.int (nI (if othF Z.1 (P0 Z.1) (t + 1) = 0 then stlF Z.1 (P0 Z.1) t else t + 1))) = _ ∧ _))
            refine ⟨fun z => ?_, fun z => ?_⟩
            · rw [if_pos z]; exact ih (by omega)
            · rw [if_neg z]; exact ⟨rfl, rfl, rfl⟩
      exact go _ (Nat.le_refl _)
    · have hV := hr.1.2
      have h0 := hV.1.1
      have h3 := hV.1.2.2.2.1
      obtain ⟨I1, c1, hc1, hf1, -, -⟩ := ce_asksNight (L := L) hr.1.1 hr.1.2
      have hR : RM Z.1 I1 97 0 := RM_of (fun k => hf1 97 k (by omega)) hr.1.1
      have hS : SMo Z.1 (P0 Z.1) I1 := ⟨⟨hR, hV, PV_P0 hV⟩, hc1⟩
      refine ⟨I1, c0_X12_still (vc_X12_still_0 ⟨_, I1, c1, g0n hh ?_⟩), hf1⟩
      refine ⟨_, ct_hours hR, ?_⟩
      have go : ∀ t, t ≤ Z.1.1 0 0 → v_X12_still_15 (some (.int (nI (stlF Z.1 (P0 Z.1) t)))) I1 L I1 L (nI t) := by
        intro t
        induction t with
        | zero => intro _; exact vc_X12_still_15 ⟨fun _ => ⟨rfl, rfl, rfl⟩, fun z => absurd (by decide) z⟩
        | succ t ih =>
          intro ht
          have hlt : othF Z.1 (P0 Z.1) (t + 1) < 128 := setF_lt _ h3
          refine vc_X12_still_15 ⟨fun z => absurd z (nI_nle (by omega) (by omega)), fun _ => ⟨_, mq_turnedAt hS ht (by omega), ?_⟩⟩
          rw [u_0 (a := setF (fun p => decide ((rows Z.1 (P0 Z.1) (t + 1) p).1 ≠ (rows Z.1 (P0 Z.1) (t + 1 - 1) p).1)) (Z.1.1 0 3)) (by have : setF (fun p => decide ((rows Z.1 (P0 Z.1) (t + 1) p).1 ≠ (rows Z.1 (P0 Z.1) (t + 1 - 1) p).1)) (Z.1.1 0 3) < 128 := hlt; omega), pk_m1]
          show (othF Z.1 (P0 Z.1) (t + 1) = 0 → v_X12_still_15 (some (.int (nI (if othF Z.1 (P0 Z.1) (t + 1) = 0 then stlF Z.1 (P0 Z.1) t else t + 1)))) I1 L I1 L (nI t)) ∧ (¬ othF Z.1 (P0 Z.1) (t + 1) = 0 → (some (Value.int (nI (if othF Z.1 (P0 Z.1) (t + 1) = 0 then stlF Z.1 (P0 Z.1) t else t + 1))) = _ ∧ _))
          refine ⟨fun z => ?_, fun z => ?_⟩
          · rw [if_pos z]; exact ih (by omega)
          · rw [if_neg z]; exact ⟨rfl, rfl, rfl⟩
      exact go _ (Nat.le_refl _)
theorem q_turned (Z : St) (x : Int32) : ∃ v, Q2 Z Z kX11_turned kX12_turned [.int x] (.int v) := by
  by_cases hh : bh Z.1 x
  · refine ⟨-2, QC_q fun I L hr => ⟨I, c0_X11_turned (vc_X11_turned_0 ⟨_, ct_noHour hr.1.1.1 hr.1.1.2 x, g1p hh ⟨rfl, rfl, rfl⟩⟩), Fq.rf, hr.2.1, hr.2.2⟩, QM_q fun I L hr => ?_⟩
    obtain ⟨I1, c1, hc1, hf1, -, -⟩ := ce_asksHour (L := L) hr.1.1 hr.1.2 x
    exact ⟨I1, c0_X12_turned (vc_X12_turned_0 ⟨_, I1, c1, g0p hh ⟨rfl, rfl, rfl⟩⟩), hf1⟩
  · refine ⟨(fun t : Nat => if t = 0 then nI (litB (rows Z.1 (P0 Z.1) 0) (Z.1.1 0 3)) else nI (othF Z.1 (P0 Z.1) t)) x.toNatClampNeg, QC_q fun I L hr => ?_, QM_q fun I L hr => ?_⟩
    · have hV := hr.1.1.2
      have h0 := hV.1.1
      have h3 := hV.1.2.2.2.1
      obtain ⟨t, ht, hx, h8⟩ := xHour hr.1.1.2 hh
      obtain ⟨I1, c1, hf1, hs1, hse, hw⟩ := ce_settled hr
      have hR := (Bc_of hf1 hr.1).1.1
      have hS : SCo Z.1 (P0 Z.1) 75 I1 := ⟨⟨hR, hV, PV_P0 hV⟩, hs1.1, hs1.2⟩
      refine ⟨I1, c0_X11_turned (vc_X11_turned_0 ⟨_, ct_noHour hr.1.1.1 hr.1.1.2 x, g1n hh ⟨I1, c1, ?_⟩⟩), hf1, hse, hw⟩
      subst hx
      rw [u_cl (by omega)]
      by_cases e : t = 0
      · subst e
        have el : I1 76 0 = nI (litB (rows Z.1 (P0 Z.1) 0) (Z.1.1 0 3)) := hS.lit (by omega)
        refine ⟨fun _ => ⟨by unfold vp_in; decide, ?_, rfl, rfl⟩, fun z => absurd rfl z⟩
        rw [show (0 : Int32).toNatClampNeg = 0 by decide, el]
        rfl
      · refine ⟨fun z => absurd ((u_0 (by omega)).mp z) e, fun _ => ⟨nI (othF Z.1 (P0 Z.1) t), ?_, ?_, rfl, rfl⟩⟩
        · rw [show nI t - 1 = nI (t - 1) from pk_sub (b := 1) (by omega)]
          exact cq_otherwise hS ht (by omega)
        · show some (Value.int (if t = 0 then _ else _)) = _
          rw [if_neg e]
    · have hV := hr.1.2
      have h0 := hV.1.1
      have h3 := hV.1.2.2.2.1
      obtain ⟨t, ht, hx, h8⟩ := xHour hr.1.2 hh
      obtain ⟨I1, c1, hc1, hf1, -, -⟩ := ce_asksHour (L := L) hr.1.1 hr.1.2 x
      have hR : RM Z.1 I1 97 0 := RM_of (fun k => hf1 97 k (by omega)) hr.1.1
      have hS : SMo Z.1 (P0 Z.1) I1 := ⟨⟨hR, hV, PV_P0 hV⟩, hc1⟩
      refine ⟨I1, c0_X12_turned (vc_X12_turned_0 ⟨_, I1, c1, g0n hh ?_⟩), hf1⟩
      subst hx
      rw [u_cl (by omega)]
      by_cases e : t = 0
      · subst e
        exact ⟨_, mq_turnedAt0 hS, rfl, rfl, rfl⟩
      · refine ⟨nI (othF Z.1 (P0 Z.1) t), mq_turnedAt hS ht (by omega), ?_, rfl, rfl⟩
        show some (Value.int (if t = 0 then _ else _)) = _
        rw [if_neg e]
theorem q_gone (Z : St) (x : Int32) : ∃ v, Q2 Z Z kX11_gone kX12_gone [.int x] (.int v) := by
  by_cases hh : bh Z.1 x
  · refine ⟨-2, QC_q fun I L hr => ⟨I, c0_X11_gone (vc_X11_gone_0 ⟨_, ct_noHour hr.1.1.1 hr.1.1.2 x, g1p hh ⟨rfl, rfl, rfl⟩⟩), Fq.rf, hr.2.1, hr.2.2⟩, QM_q fun I L hr => ?_⟩
    obtain ⟨I1, c1, hc1, hf1, -, -⟩ := ce_asksHour (L := L) hr.1.1 hr.1.2 x
    exact ⟨I1, c0_X12_gone (vc_X12_gone_0 ⟨_, I1, c1, g0p hh ⟨rfl, rfl, rfl⟩⟩), hf1⟩
  · refine ⟨(fun t : Nat => if t = 0 then 0 else nI (litB (rows Z.1 (P0 Z.1) (t - 1)) (Z.1.1 0 3)) &&& (nI (litB (rows Z.1 (P0 Z.1) t) (Z.1.1 0 3)) ^^^ -1)) x.toNatClampNeg, QC_q fun I L hr => ?_, QM_q fun I L hr => ?_⟩
    · have hV := hr.1.1.2
      have h0 := hV.1.1
      have h3 := hV.1.2.2.2.1
      obtain ⟨t, ht, hx, h8⟩ := xHour hr.1.1.2 hh
      obtain ⟨I1, c1, hf1, hs1, hse, hw⟩ := ce_settled hr
      have hR := (Bc_of hf1 hr.1).1.1
      have hS : SCo Z.1 (P0 Z.1) 75 I1 := ⟨⟨hR, hV, PV_P0 hV⟩, hs1.1, hs1.2⟩
      refine ⟨I1, c0_X11_gone (vc_X11_gone_0 ⟨_, ct_noHour hr.1.1.1 hr.1.1.2 x, g1n hh ⟨I1, c1, ?_⟩⟩), hf1, hse, hw⟩
      subst hx
      rw [u_cl (by omega)]
      by_cases e : t = 0
      · subst e
        exact ⟨fun _ => ⟨rfl, rfl, rfl⟩, fun z => absurd rfl z⟩
      · have el : I1 76 t = nI (litB (rows Z.1 (P0 Z.1) t) (Z.1.1 0 3)) := hS.lit (by omega)
        have el2 : I1 76 (t - 1) = nI (litB (rows Z.1 (P0 Z.1) (t - 1)) (Z.1.1 0 3)) := hS.lit (by omega)
        refine ⟨fun z => absurd ((u_0 (by omega)).mp z) e, fun _ => ?_⟩
        rw [show nI t - 1 = nI (t - 1) from pk_sub (b := 1) (by omega), u_cl (n := t - 1) (by omega), el, el2]
        refine ⟨u_in (by omega) (by decide), u_in (by omega) (by decide), ?_, rfl, rfl⟩
        show some (Value.int (if t = 0 then _ else _)) = _
        rw [if_neg e]
    · have hV := hr.1.2
      have h0 := hV.1.1
      have h3 := hV.1.2.2.2.1
      obtain ⟨t, ht, hx, h8⟩ := xHour hr.1.2 hh
      obtain ⟨I1, c1, hc1, hf1, -, -⟩ := ce_asksHour (L := L) hr.1.1 hr.1.2 x
      have hR : RM Z.1 I1 97 0 := RM_of (fun k => hf1 97 k (by omega)) hr.1.1
      have hS : SMo Z.1 (P0 Z.1) I1 := ⟨⟨hR, hV, PV_P0 hV⟩, hc1⟩
      refine ⟨I1, c0_X12_gone (vc_X12_gone_0 ⟨_, I1, c1, g0n hh ?_⟩), hf1⟩
      subst hx
      rw [u_cl (by omega)]
      by_cases e : t = 0
      · subst e
        exact ⟨fun _ => ⟨rfl, rfl, rfl⟩, fun z => absurd rfl z⟩
      · refine ⟨fun z => absurd ((u_0 (by omega)).mp z) e, fun _ => ?_⟩
        rw [show nI t - 1 = nI (t - 1) from pk_sub (b := 1) (by omega)]
        refine ⟨_, mq_litAt hS (by omega), _, mq_litAt hS ht, ?_, rfl, rfl⟩
        show some (Value.int (if t = 0 then _ else _)) = _
        rw [if_neg e]
theorem q_fresh (Z : St) (x : Int32) : ∃ v, Q2 Z Z kX11_fresh kX12_fresh [.int x] (.int v) := by
  by_cases hh : bh Z.1 x
  · refine ⟨-2, QC_q fun I L hr => ⟨I, c0_X11_fresh (vc_X11_fresh_0 ⟨_, ct_noHour hr.1.1.1 hr.1.1.2 x, g1p hh ⟨rfl, rfl, rfl⟩⟩), Fq.rf, hr.2.1, hr.2.2⟩, QM_q fun I L hr => ?_⟩
    obtain ⟨I1, c1, hc1, hf1, -, -⟩ := ce_asksHour (L := L) hr.1.1 hr.1.2 x
    exact ⟨I1, c0_X12_fresh (vc_X12_fresh_0 ⟨_, I1, c1, g0p hh ⟨rfl, rfl, rfl⟩⟩), hf1⟩
  · refine ⟨(fun t : Nat => nI (setF (fun p => decide ((rows Z.1 (P0 Z.1) t p).2.2.1 = (t : Int))) (Z.1.1 0 3))) x.toNatClampNeg, QC_q fun I L hr => ?_, QM_q fun I L hr => ?_⟩
    · have hV := hr.1.1.2
      have h0 := hV.1.1
      have h3 := hV.1.2.2.2.1
      obtain ⟨t, ht, hx, h8⟩ := xHour hr.1.1.2 hh
      obtain ⟨I1, c1, hf1, hs1, hse, hw⟩ := ce_settled hr
      have hR := (Bc_of hf1 hr.1).1.1
      have hS : SCo Z.1 (P0 Z.1) 75 I1 := ⟨⟨hR, hV, PV_P0 hV⟩, hs1.1, hs1.2⟩
      refine ⟨I1, c0_X11_fresh (vc_X11_fresh_0 ⟨_, ct_noHour hr.1.1.1 hr.1.1.2 x, g1n hh ⟨I1, c1, ?_⟩⟩), hf1, hse, hw⟩
      subst hx
      rw [u_cl (by omega)]
      have e4 : I1 12 4 = nI (Z.1.1 0 3) := hR.1.2.2.2.2.1
      refine down (P := fun k => v_X11_fresh_21 (some (.int (nI (setF (fun p => decide ((rows Z.1 (P0 Z.1) t p).2.2.1 = (t : Int))) (Z.1.1 0 3))))) I1 L I1 L (nI t) (nI (setF (fun p => decide ((rows Z.1 (P0 Z.1) t p).2.2.1 = (t : Int))) k)) (nI k)) (n := Z.1.1 0 3) ?_ ?_
      · refine vc_X11_fresh_21 ?_
        rw [e4]
        exact ⟨fun _ => ⟨rfl, rfl, rfl⟩, fun z => absurd (nI_le (Nat.le_refl _) (by omega)) z⟩
      · intro k hk ih
        have hv := hS.cv (t := t) hk
        have hrg : -1 ≤ (rows Z.1 (P0 Z.1) t k).2.2.1 ∧ (rows Z.1 (P0 Z.1) t k).2.2.1 ≤ 12 := by
          by_cases q : (rows Z.1 (P0 Z.1) t k).1 = []
          · rw [hv.2.1 q]; exact ⟨by decide, by decide⟩
          · have := (hv.2.2 q).2.1; omega
        have es : I1 79 (t * 7 + k) = iI (rows Z.1 (P0 Z.1) t k).2.2.1 := (hS.says ht hk).2.2.1
        have ei : iI (rows Z.1 (P0 Z.1) t k).2.2.1 = nI t ↔ (rows Z.1 (P0 Z.1) t k).2.2.1 = (t : Int) := by rw [← iI_n, iI_eq (by omega) (by omega)]
        refine vc_X11_fresh_21 ?_
        rw [e4]
        refine ⟨fun z => absurd z (nI_ge hk (by omega)), fun _ => ⟨_, ct_cell _ _, ?_⟩⟩
        simp (disch := omega) only [l_0, l_1, l_2, l_3, l_4, l_5, l_6, l_7, l_8, l_9, l_10, l_11, l_12, l_15, l_16, l_20, l_24, l_30, l_31, l_32, l_50, l_54, l_60, l_62, l_63, l_64, l_74, l_91, l_100, l_128, l_240, l_600, l_10000, l_m1, nI_leI, nI_ltI, u_eq, u_add, u_mul, u_cl, u_in_t, pk_sub, pk_div, nI_nm1, m1_nI, m1_lt, m1_le, nI_ltm, nI_lem, up2_s_, u_31, u_one3, u_shr3, u_and1, u_or, true_and, and_true, es, ei]
        refine ⟨fun z => ?_, fun z => ?_⟩
        · rw [setF_y (by simpa using z)] at ih; exact ih
        · rw [setF_n (by simpa using z)] at ih; exact ih
    · have hV := hr.1.2
      have h0 := hV.1.1
      have h3 := hV.1.2.2.2.1
      obtain ⟨t, ht, hx, h8⟩ := xHour hr.1.2 hh
      obtain ⟨I1, c1, hc1, hf1, -, -⟩ := ce_asksHour (L := L) hr.1.1 hr.1.2 x
      have hR : RM Z.1 I1 97 0 := RM_of (fun k => hf1 97 k (by omega)) hr.1.1
      have hS : SMo Z.1 (P0 Z.1) I1 := ⟨⟨hR, hV, PV_P0 hV⟩, hc1⟩
      refine ⟨I1, c0_X12_fresh (vc_X12_fresh_0 ⟨_, I1, c1, g0n hh ?_⟩), hf1⟩
      subst hx
      rw [u_cl (by omega)]
      refine down (P := fun k => v_X12_fresh_15 (some (.int (nI (setF (fun p => decide ((rows Z.1 (P0 Z.1) t p).2.2.1 = (t : Int))) (Z.1.1 0 3))))) I1 L I1 L (nI t) (nI (setF (fun p => decide ((rows Z.1 (P0 Z.1) t p).2.2.1 = (t : Int))) k)) (nI k)) (n := Z.1.1 0 3) ?_ ?_
      · exact vc_X12_fresh_15 ⟨_, ct_pews hR, fun _ => ⟨rfl, rfl, rfl⟩, fun z => absurd (nI_le (Nat.le_refl _) (by omega)) z⟩
      · intro k hk ih
        have hv := hS.cv (t := t) hk
        have hrg : -1 ≤ (rows Z.1 (P0 Z.1) t k).2.2.1 ∧ (rows Z.1 (P0 Z.1) t k).2.2.1 ≤ 12 := by
          by_cases q : (rows Z.1 (P0 Z.1) t k).1 = []
          · rw [hv.2.1 q]; exact ⟨by decide, by decide⟩
          · have := (hv.2.2 q).2.1; omega
        have es : I1 105 (7 * t + k) = iI (rows Z.1 (P0 Z.1) t k).2.2.1 := (hS.says ht hk).2.2.1
        have ei : iI (rows Z.1 (P0 Z.1) t k).2.2.1 = nI t ↔ (rows Z.1 (P0 Z.1) t k).2.2.1 = (t : Int) := by rw [← iI_n, iI_eq (by omega) (by omega)]
        refine vc_X12_fresh_15 ⟨_, ct_pews hR, fun z => absurd z (nI_ge hk (by omega)), fun _ => ?_⟩
        simp (disch := omega) only [l_0, l_1, l_2, l_3, l_4, l_5, l_6, l_7, l_8, l_9, l_10, l_11, l_12, l_15, l_16, l_20, l_24, l_30, l_31, l_32, l_50, l_54, l_60, l_62, l_63, l_64, l_74, l_91, l_100, l_128, l_240, l_600, l_10000, l_m1, nI_leI, nI_ltI, u_eq, u_add, u_mul, u_cl, u_in_t, pk_sub, pk_div, nI_nm1, m1_nI, m1_lt, m1_le, nI_ltm, nI_lem, up2_s_, u_31, u_one3, u_shr3, u_and1, u_or, true_and, and_true, es, ei]
        refine ⟨fun z => ?_, fun z => ?_⟩
        · rw [setF_y (by simpa using z)] at ih; exact ih
        · rw [setF_n0 (by simpa using z)] at ih; exact ih
