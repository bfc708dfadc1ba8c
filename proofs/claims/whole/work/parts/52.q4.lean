/-! CALLS THAT ASK OF THE NIGHT AS IT IS TOLD. -/
abbrev ib (lo hi x : Int32) : Prop := x < lo ∨ hi < x
theorem xIn {a b : Nat} {x : Int32} (hb : b < 2147483648) (ha : a < 2147483648) (h : ¬ ib (nI a) (nI b) x) : ∃ n, a ≤ n ∧ n ≤ b ∧ x = nI n := by
  have hr := t_rng x
  unfold ib at h
  rw [t_lt, t_lt, t_n hb, t_n ha] at h
  refine ⟨x.toInt.toNat, by omega, by omega, ?_⟩
  rw [t_eq, t_n (by omega)]
  omega
section QN
variable {I : Nat → Nat → Int32} {L : Nat → Nat → Int64}
theorem ct_inI (x lo hi : Int32) : q_C kX12_in [.long x.toInt64, .long lo.toInt64, .long hi.toInt64] I L (some (.int (if ib lo hi x then 0 else 1))) I L := by
  have c := ct_in (I := I) (L := L) x.toInt64 lo.toInt64 hi.toInt64
  have e : (lo.toInt64 ≤ x.toInt64 ∧ x.toInt64 ≤ hi.toInt64) ↔ ¬ ib lo hi x := by
    unfold ib
    rw [t_wle, t_wle, t_le, t_le, t_lt, t_lt]
    omega
  by_cases q : ib lo hi x
  · rw [if_pos q]
    rw [if_neg (fun z => e.mp z q)] at c
    exact c
  · rw [if_neg q]
    rw [if_pos (e.mpr q)] at c
    exact c
theorem ct_noLetter (x : Int32) : q_C kX11_noLetter [.int x] I L (some (.int (if ib 1 4 x then 1 else 0))) I L := by
  refine c0_X11_noLetter (vc_X11_noLetter_0 ⟨fun h => ?_, fun h => ⟨fun h2 => ?_, fun h2 => ?_⟩⟩)
  · rw [if_pos (Or.inl h)]; exact ⟨rfl, rfl, rfl⟩
  · rw [if_neg (fun z => z.elim h (fun q => absurd h2 (Int32.not_le.mpr q)))]; exact ⟨rfl, rfl, rfl⟩
  · rw [if_pos (Or.inr (Int32.not_le.mp h2))]; exact ⟨rfl, rfl, rfl⟩
theorem ct_noPart (x : Int32) : q_C kX11_noPart [.int x] I L (some (.int (if ib 0 1 x then 1 else 0))) I L := by
  refine c0_X11_noPart (vc_X11_noPart_0 ⟨fun h => ?_, fun h => ⟨fun h2 => ?_, fun h2 => ?_⟩⟩)
  · rw [if_pos (Or.inl h)]; exact ⟨rfl, rfl, rfl⟩
  · rw [if_neg (fun z => z.elim h (fun q => absurd h2 (Int32.not_le.mpr q)))]; exact ⟨rfl, rfl, rfl⟩
  · rw [if_pos (Or.inr (Int32.not_le.mp h2))]; exact ⟨rfl, rfl, rfl⟩
theorem ct_noSeed (x : Int32) : q_C kX11_noSeed [.int x] I L (some (.int (if ib 0 2000000000 x then 1 else 0))) I L := by
  refine c0_X11_noSeed (vc_X11_noSeed_0 ⟨fun h => ?_, fun h => ⟨fun h2 => ?_, fun h2 => ?_⟩⟩)
  · rw [if_pos (Or.inl h)]; exact ⟨rfl, rfl, rfl⟩
  · rw [if_neg (fun z => z.elim h (fun q => absurd h2 (Int32.not_le.mpr q)))]; exact ⟨rfl, rfl, rfl⟩
  · rw [if_pos (Or.inr (Int32.not_le.mp h2))]; exact ⟨rfl, rfl, rfl⟩
theorem lt4 (x : Int32) : x < 4 ↔ ¬ 3 < x := by
  rw [t_lt, t_lt, show (4 : Int32).toInt = 4 by decide, show (3 : Int32).toInt = 3 by decide]
  omega
theorem ct_noSlot (x : Int32) : q_C kX9_noSlot [.int x] I L (some (.int (if ib 0 3 x then 1 else 0))) I L := by
  refine c0_X9_noSlot (vc_X9_noSlot_0 ⟨fun h => ?_, fun h => ⟨fun h2 => ?_, fun h2 => ?_⟩⟩)
  · rw [if_pos (Or.inl h)]; exact ⟨rfl, rfl, rfl⟩
  · rw [if_neg (fun z => z.elim h (fun q => absurd q ((lt4 x).mp h2)))]; exact ⟨rfl, rfl, rfl⟩
  · rw [lt4] at h2
    rw [if_pos (Or.inr (Classical.not_not.mp h2))]; exact ⟨rfl, rfl, rfl⟩
theorem ct_isSlot (x : Int32) : q_C kX12_isSlot [.int x] I L (some (.int (if ib 0 3 x then 0 else 1))) I L := by
  refine c0_X12_isSlot (vc_X12_isSlot_0 ⟨_, ct_inI x 0 3, ?_, rfl, rfl, rfl⟩)
  by_cases q : ib 0 3 x
  · rw [if_pos q]; exact Or.inl rfl
  · rw [if_neg q]; exact Or.inr rfl
end QN
def spF (r : Rw) (a : Nat) : Nat → Nat
  | 0 => 0
  | k + 1 => spF r a k + (r k).1.count a
theorem q_spoken (Z : St) (x y : Int32) : ∃ v, Q2 Z Z kX11_spoken kX12_spoken [.int x, .int y] (.int v) := by
  by_cases hh : ib 1 4 x ∨ bh Z.1 y
  · refine ⟨-2, QC_q fun I L hr => ⟨I, c0_X11_spoken (vc_X11_spoken_0 ⟨_, ct_noLetter x, ?_⟩), Fq.rf, hr.2.1, hr.2.2⟩, QM_q fun I L hr => ?_⟩
    · by_cases h1 : ib 1 4 x
      · exact g1p h1 ⟨rfl, rfl, rfl⟩
      · exact g1n h1 ⟨_, ct_noHour hr.1.1.1 hr.1.1.2 y, g1p (hh.resolve_left h1) ⟨rfl, rfl, rfl⟩⟩
    · obtain ⟨I1, c1, hc1, hf1, -, -⟩ := ce_asksHour (L := L) hr.1.1 hr.1.2 y
      refine ⟨I1, c0_X12_spoken (vc_X12_spoken_0 ⟨_, I1, c1, ?_⟩), hf1⟩
      by_cases h1 : bh Z.1 y
      · exact g0p h1 ⟨rfl, rfl, rfl⟩
      · exact g0n h1 ⟨_, ct_inI x 1 4, g0p (hh.resolve_right h1) ⟨rfl, rfl, rfl⟩⟩
  · have hx' : ¬ ib 1 4 x := fun z => hh (Or.inl z)
    have hy' : ¬ bh Z.1 y := fun z => hh (Or.inr z)
    obtain ⟨a, ha1, ha4, hx⟩ := xIn (a := 1) (b := 4) (by decide) (by decide) hx'
    refine ⟨nI (spF (rows Z.1 (P0 Z.1) y.toNatClampNeg) a (Z.1.1 0 3)), QC_q fun I L hr => ?_, QM_q fun I L hr => ?_⟩
    · have hV := hr.1.1.2
      have h0 := hV.1.1
      have h3 := hV.1.2.2.2.1
      obtain ⟨t, ht, hy, h8⟩ := xHour hV hy'
      obtain ⟨I1, c1, hf1, hs1, hse, hw⟩ := ce_settled hr
      have hR := (Bc_of hf1 hr.1).1.1
      have hS : SCo Z.1 (P0 Z.1) 75 I1 := ⟨⟨hR, hV, PV_P0 hV⟩, hs1.1, hs1.2⟩
      have e4 : I1 12 4 = nI (Z.1.1 0 3) := hR.1.2.2.2.2.1
      refine ⟨I1, c0_X11_spoken (vc_X11_spoken_0 ⟨_, ct_noLetter x, g1n hx' ⟨_, ct_noHour hr.1.1.1 hV y, g1n hy' ⟨I1, c1, ?_⟩⟩⟩), hf1, hse, hw⟩
      subst hx
      subst hy
      rw [u_cl (n := t) (by omega)]
      refine down (P := fun k => v_X11_spoken_29 (some (.int (nI (spF (rows Z.1 (P0 Z.1) t) a (Z.1.1 0 3))))) I1 L I1 L (nI a) (nI t) (nI (spF (rows Z.1 (P0 Z.1) t) a k)) (nI k)) (n := Z.1.1 0 3) ?_ ?_
      · refine vc_X11_spoken_29 ?_
        rw [e4]
        exact ⟨fun _ => ⟨rfl, rfl, rfl⟩, fun z => absurd (nI_le (Nat.le_refl _) (by omega)) z⟩
      · intro k hk ih
        have es : I1 77 (t * 7 + k) = nI (cE (rows Z.1 (P0 Z.1) t k).1) := (hS.says ht hk).1
        have hl := (hS.cv (t := t) hk).1
        have hl6 := hl.1
        have ih : v_X11_spoken_29 _ I1 L I1 L (nI a) (nI t) (nI (spF (rows Z.1 (P0 Z.1) t) a k + (rows Z.1 (P0 Z.1) t k).1.count a)) (nI (k + 1)) := ih
        refine vc_X11_spoken_29 ?_
        rw [e4]
        refine ⟨fun z => absurd z (nI_ge hk (by omega)), fun _ => ?_⟩
        refine down (P := fun i => v_X11_spoken_44 (some (.int (nI (spF (rows Z.1 (P0 Z.1) t) a (Z.1.1 0 3))))) I1 L I1 L (nI a) (nI t) (nI (spF (rows Z.1 (P0 Z.1) t) a k + ((rows Z.1 (P0 Z.1) t k).1.take i).count a)) (nI k) (nI i)) (n := 6) ?_ ?_
        · rw [List.take_of_length_le (by omega)]
          refine vc_X11_spoken_44 ⟨fun _ => ?_, fun z => absurd (by decide) z⟩
          rw [nI_1]
          exact ih
        · intro i hi ih2
          refine vc_X11_spoken_44 ⟨fun z => ?_, fun _ => ⟨_, ct_cell _ _, ?_⟩⟩
          · rw [show (6 : Int32) = nI 6 from rfl, nI_leI (by omega) (by omega)] at z
            omega
          · rw [show nI t * 7 + nI k = nI (t * 7 + k) by simp (disch := omega) only [l_0, l_1, l_2, l_3, l_4, l_5, l_6, l_7, l_8, l_9, l_10, l_11, l_12, l_15, l_16, l_20, l_24, l_30, l_31, l_32, l_50, l_54, l_60, l_62, l_63, l_64, l_74, l_91, l_100, l_128, l_240, l_600, l_10000, l_m1, nI_leI, nI_ltI, u_eq, u_add, u_mul, u_cl, u_in_t, pk_sub, pk_div, nI_nm1, m1_nI, m1_lt, m1_le, nI_ltm, nI_lem, up2_s_, u_31, u_one3, u_shr3, u_and1, u_or, true_and, and_true], u_cl (n := t * 7 + k) (by omega), es]
            refine ⟨u_in (by omega) (by decide), _, ct_letterAt hl (nI i), ?_⟩
            rw [if_neg (nI_pos (by omega)), u_cl (by omega), nI_1, nI_1]
            by_cases q : i < (rows Z.1 (P0 Z.1) t k).1.length
            · have hg : (rows Z.1 (P0 Z.1) t k).1.getD i 0 = (rows Z.1 (P0 Z.1) t k).1[i] := by simp [q]
              have hg4 := hl.2 _ (List.getElem_mem q)
              rw [List.take_succ_eq_append_getElem q, List.count_append, ← Nat.add_assoc] at ih2
              rw [hg, u_eq (by omega) (by omega)]
              refine ⟨fun z => ?_, fun z => ?_⟩
              · rw [z, List.count_singleton_self] at ih2
                exact ih2
              · rw [List.count_singleton, if_neg (by simpa using z)] at ih2
                exact ih2
            · have hg : (rows Z.1 (P0 Z.1) t k).1.getD i 0 = 0 := by simp [List.getD, List.getElem?_eq_none (Nat.le_of_not_lt q)]
              rw [hg, u_eq (by omega) (by omega)]
              rw [List.take_of_length_le (by omega)] at ih2
              rw [List.take_of_length_le (by omega)]
              exact ⟨fun z => by omega, fun _ => ih2⟩
    · have hV := hr.1.2
      have h0 := hV.1.1
      have h3 := hV.1.2.2.2.1
      obtain ⟨t, ht, hy, h8⟩ := xHour hV hy'
      obtain ⟨I1, c1, hc1, hf1, -, -⟩ := ce_asksHour (L := L) hr.1.1 hr.1.2 y
      have hR : RM Z.1 I1 97 0 := RM_of (fun k => hf1 97 k (by omega)) hr.1.1
      have hS : SMo Z.1 (P0 Z.1) I1 := ⟨⟨hR, hV, PV_P0 hV⟩, hc1⟩
      refine ⟨I1, c0_X12_spoken (vc_X12_spoken_0 ⟨_, I1, c1, g0n hy' ⟨_, ct_inI x 1 4, g0n hx' ?_⟩⟩), hf1⟩
      subst hx
      subst hy
      rw [u_cl (n := t) (by omega)]
      refine down (P := fun k => v_X12_spoken_28 (some (.int (nI (spF (rows Z.1 (P0 Z.1) t) a (Z.1.1 0 3))))) I1 L I1 L (nI a) (nI t) (nI (spF (rows Z.1 (P0 Z.1) t) a k)) (nI k)) (n := Z.1.1 0 3) ?_ ?_
      · exact vc_X12_spoken_28 ⟨_, ct_pews hR, fun _ => ⟨rfl, rfl, rfl⟩, fun z => absurd (nI_le (Nat.le_refl _) (by omega)) z⟩
      · intro k hk ih
        have hl := (hS.cv (t := t) hk).1
        have hl6 := hl.1
        have ih : v_X12_spoken_28 _ I1 L I1 L (nI a) (nI t) (nI (spF (rows Z.1 (P0 Z.1) t) a k + (rows Z.1 (P0 Z.1) t k).1.count a)) (nI (k + 1)) := ih
        refine vc_X12_spoken_28 ⟨_, ct_pews hR, fun z => absurd z (nI_ge hk (by omega)), fun _ => ⟨_, mq_says hS ht hk, ?_⟩⟩
        have go : ∀ j, j ≤ (rows Z.1 (P0 Z.1) t k).1.length → v_X12_spoken_46 (some (.int (nI (spF (rows Z.1 (P0 Z.1) t) a (Z.1.1 0 3))))) I1 L I1 L (nI a) (nI t) (nI (spF (rows Z.1 (P0 Z.1) t) a k + ((rows Z.1 (P0 Z.1) t k).1.drop j).count a)) (nI k) (nI (mE ((rows Z.1 (P0 Z.1) t k).1.take j))) := by
          intro j
          induction j with
          | zero =>
            intro _
            rw [List.drop_zero, List.take_zero]
            refine vc_X12_spoken_46 ⟨fun _ => ?_, fun z => absurd (by decide) z⟩
            rw [nI_1]
            exact ih
          | succ j ihj =>
            intro hj
            have hlt : j < (rows Z.1 (P0 Z.1) t k).1.length := by omega
            have hg4 := hl.2 _ (List.getElem_mem hlt)
            have hm := (hl.take j).mlt
            have ihj := ihj (by omega)
            rw [List.drop_eq_getElem_cons hlt, List.count_cons, ← Nat.add_assoc] at ihj
            rw [mE_take hlt]
            refine vc_X12_spoken_46 ⟨fun z => ?_, fun _ => ?_⟩
            · rw [show (0 : Int32) = nI 0 from rfl, nI_leI (by omega) (by omega)] at z
              omega
            · rw [u_rem5 (by omega), u_div5 (by omega), show (5 * mE ((rows Z.1 (P0 Z.1) t k).1.take j) + (rows Z.1 (P0 Z.1) t k).1[j]) % 5 = (rows Z.1 (P0 Z.1) t k).1[j] by omega, show (5 * mE ((rows Z.1 (P0 Z.1) t k).1.take j) + (rows Z.1 (P0 Z.1) t k).1[j]) / 5 = mE ((rows Z.1 (P0 Z.1) t k).1.take j) by omega, u_eq (by omega) (by omega), nI_1]
              refine ⟨fun z => ?_, fun z => ?_⟩
              · rw [if_pos (by simpa using z)] at ihj
                exact ihj
              · rw [if_neg (by simpa using z)] at ihj
                rw [show (0 : Int32) = nI 0 from rfl, u_add]
                exact ihj
        have h := go _ (Nat.le_refl _)
        rw [List.drop_length, List.take_length] at h
        exact h
theorem q_pew (Z : St) (x y : Int32) : ∃ v, Q2 Z Z kX11_pew kX12_pew [.int x, .int y] (.int v) := by
  by_cases hh : bp Z.1 x ∨ ib 0 2 y
  · refine ⟨-2, QC_q fun I L hr => ⟨I, c0_X11_pew (vc_X11_pew_0 ⟨_, ct_noPew hr.1.1.1 x, ?_⟩), Fq.rf, hr.2.1, hr.2.2⟩, QM_q fun I L hr => ⟨I, c0_X12_pew (vc_X12_pew_0 ⟨_, ct_isPew hr.1.1 hr.1.2 x, ?_⟩), Mq.rf⟩⟩
    · by_cases h1 : bp Z.1 x
      · exact g1p h1 ⟨rfl, rfl, rfl⟩
      · have h2 := hh.resolve_left h1
        refine g1n h1 ⟨fun _ => ⟨rfl, rfl, rfl⟩, fun z => ⟨fun z2 => ?_, fun _ => ⟨rfl, rfl, rfl⟩⟩⟩
        exact (h2.elim z (fun q => absurd z2 (Int32.not_le.mpr q))).elim
    · by_cases h1 : bp Z.1 x
      · exact g0p h1 ⟨rfl, rfl, rfl⟩
      · exact g0n h1 ⟨_, ct_inI y 0 2, g0p (hh.resolve_left h1) ⟨rfl, rfl, rfl⟩⟩
  · have hx' : ¬ bp Z.1 x := fun z => hh (Or.inl z)
    have hy' : ¬ ib 0 2 y := fun z => hh (Or.inr z)
    obtain ⟨a, ha1, ha4, hy⟩ := xIn (a := 0) (b := 2) (by decide) (by decide) hy'
    refine ⟨nI (Z.1.1 (1 + a) x.toNatClampNeg), QC_q fun I L hr => ⟨I, c0_X11_pew (vc_X11_pew_0 ⟨_, ct_noPew hr.1.1.1 x, g1n hx' ?_⟩), Fq.rf, hr.2.1, hr.2.2⟩, QM_q fun I L hr => ⟨I, c0_X12_pew (vc_X12_pew_0 ⟨_, ct_isPew hr.1.1 hr.1.2 x, g0n hx' ⟨_, ct_inI y 0 2, g0n hy' ?_⟩⟩), Mq.rf⟩⟩
    · have hV := hr.1.1.2
      have h3 := hV.1.2.2.2.1
      obtain ⟨p, hp, hx⟩ := xPew hV hx'
      subst hx
      subst hy
      have hru := hr.1.1.1.2.1 p hp
      have r1 : I 13 p = nI (Z.1.1 1 p) := hru.1
      have r2 : I 14 p = nI (Z.1.1 2 p) := hru.2.1
      have r3 : I 15 p = nI (Z.1.1 3 p) := hru.2.2.1
      simp (disch := omega) only [l_0, l_1, l_2, l_3, l_4, l_5, l_6, l_7, l_8, l_9, l_10, l_11, l_12, l_15, l_16, l_20, l_24, l_30, l_31, l_32, l_50, l_54, l_60, l_62, l_63, l_64, l_74, l_91, l_100, l_128, l_240, l_600, l_10000, l_m1, nI_leI, nI_ltI, u_eq, u_add, u_mul, u_cl, u_in_t, pk_sub, pk_div, nI_nm1, m1_nI, m1_lt, m1_le, nI_ltm, nI_lem, up2_s_, u_31, u_one3, u_shr3, u_and1, u_or, true_and, and_true, r1, r2, r3]
      refine ⟨fun z => by omega, fun _ => ⟨fun _ => ⟨fun z => ?_, fun z => ⟨fun z2 => ?_, fun z2 => ?_⟩⟩, fun z => by omega⟩⟩
      · subst z; rfl
      · subst z2; rfl
      · have : a = 2 := by omega
        subst this; rfl
    · have hV := hr.1.2
      have h3 := hV.1.2.2.2.1
      obtain ⟨p, hp, hx⟩ := xPew hV hx'
      subst hx
      subst hy
      rw [u_cl (n := p) (by omega)]
      exact ⟨_, ct_ruleOf hr.1.1 hV hp (by omega), rfl, rfl, rfl⟩
theorem mnr_0 {A : Nt} (hV : NV A) (p : Nat) : mnr A 0 p = nearB A p := by
  unfold mnr
  rw [if_neg (by simp), Nat.zero_xor, show (4294967295 : Nat) = 2 ^ 32 - 1 from rfl, Nat.and_two_pow_sub_one_of_lt_two_pow]
  have := nearB_lt hV p
  omega
theorem Mq_15 {I : Nat → Nat → Int32} : Mq I (up2 I 96 15 0) := fun a k q => up2_o' (by omega)
theorem q_near (Z : St) (x : Int32) : ∃ v, Q2 Z Z kX11_near kX12_near [.int x] (.int v) := by
  by_cases hh : bp Z.1 x
  · exact ⟨-2, QC_q fun I L hr => ⟨I, c0_X11_near (vc_X11_near_0 ⟨_, ct_noPew hr.1.1.1 x, g1p hh ⟨rfl, rfl, rfl⟩⟩), Fq.rf, hr.2.1, hr.2.2⟩, QM_q fun I L hr => ⟨_, c0_X12_near (vc_X12_near_0 ⟨_, ct_isPew (RM_of (fun k => up2_p (by omega)) hr.1.1) hr.1.2 x, g0p hh ⟨rfl, rfl, rfl⟩⟩), Mq_15⟩⟩
  · refine ⟨nI (nearB Z.1 x.toNatClampNeg), QC_q fun I L hr => ⟨I, c0_X11_near (vc_X11_near_0 ⟨_, ct_noPew hr.1.1.1 x, g1n hh ?_⟩), Fq.rf, hr.2.1, hr.2.2⟩, QM_q fun I L hr => ⟨_, c0_X12_near (vc_X12_near_0 ⟨_, ct_isPew (RM_of (fun k => up2_p (by omega)) hr.1.1) hr.1.2 x, g0n hh ?_⟩), Mq_15⟩⟩
    · have hV := hr.1.1.2
      have h3 := hV.1.2.2.2.1
      obtain ⟨p, hp, hx⟩ := xPew hV hh
      subst hx
      have r1 : I 16 p = nI (nearB Z.1 p) := (hr.1.1.1.2.1 p hp).2.2.2
      simp (disch := omega) only [l_0, l_1, l_2, l_3, l_4, l_5, l_6, l_7, l_8, l_9, l_10, l_11, l_12, l_15, l_16, l_20, l_24, l_30, l_31, l_32, l_50, l_54, l_60, l_62, l_63, l_64, l_74, l_91, l_100, l_128, l_240, l_600, l_10000, l_m1, nI_leI, nI_ltI, u_eq, u_add, u_mul, u_cl, u_in_t, pk_sub, pk_div, nI_nm1, m1_nI, m1_lt, m1_le, nI_ltm, nI_lem, up2_s_, u_31, u_one3, u_shr3, u_and1, u_or, true_and, and_true, r1]
    · have hV := hr.1.2
      have h3 := hV.1.2.2.2.1
      obtain ⟨p, hp, hx⟩ := xPew hV hh
      subst hx
      have c := cm_nearOf (I := up2 I 96 15 0) (L := L) (s := 0) (RM_of (fun k => up2_p (by omega)) hr.1.1) hV (up2_s _ _ _ _) (by decide) hp
      rw [mnr_0 hV] at c
      rw [u_cl (n := p) (by omega)]
      exact ⟨_, c, rfl, rfl, rfl⟩
def naF (A : Nt) (s : Nat) : Nat → Nat
  | 0 => 0
  | k + 1 => naF A s k ||| (if s.testBit k = true then nearB A k else 0)
theorem naF_lt {A : Nt} (hV : NV A) (s : Nat) : ∀ k, naF A s k < 128
  | 0 => by show 0 < 128; decide
  | k + 1 => by
    show naF A s k ||| (if s.testBit k = true then nearB A k else 0) < 2 ^ 7
    apply Nat.or_lt_two_pow
    · exact naF_lt hV s k
    · by_cases e : s.testBit k = true
      · rw [if_pos e]; exact nearB_lt hV k
      · rw [if_neg e]; decide
def farF (A : Nt) (b : Nat) : Nat → Nat → Nat → Int32
  | 0, _, _ => -1
  | m + 1, s, n => if s.testBit b = true then nI n else farF A b m (s ||| naF A s (A.1 0 3)) (n + 1)
theorem ct_nearAny {A : Nt} {I : Nat → Nat → Int32} {L : Nat → Nat → Int64} (hR : RC A I 12 21) (hV : NV A) {s : Nat} (hs : s < 128) : q_C kX5_nearAny [.ref 12, .int (nI s)] I L (some (.int (nI (naF A s (A.1 0 3))))) I L := by
  have h3 := hV.1.2.2.2.1
  have e4 : I 12 4 = nI (A.1 0 3) := hR.1.2.2.2.2.1
  refine c0_X5_nearAny (vc_X5_nearAny_0 ?_)
  refine down (P := fun k => v_X5_nearAny_4 (some (.int (nI (naF A s (A.1 0 3))))) I L I L (nI s) (nI (naF A s k)) (nI k)) (n := A.1 0 3) ?_ ?_
  · refine vc_X5_nearAny_4 ?_
    rw [e4]
    exact ⟨fun _ => ⟨rfl, rfl, rfl⟩, fun z => absurd (nI_le (Nat.le_refl _) (by omega)) z⟩
  · intro k hk ih
    have r1 : I 16 k = nI (nearB A k) := (hR.2.1 k hk).2.2.2
    have ih : v_X5_nearAny_4 _ I L I L (nI s) (nI (naF A s k ||| (if s.testBit k = true then nearB A k else 0))) (nI (k + 1)) := ih
    refine vc_X5_nearAny_4 ?_
    rw [e4, bz _ (by omega), u_cl (by omega), r1, u_or, nI_1]
    refine ⟨fun z => absurd z (nI_ge hk (by omega)), fun _ => ⟨fun z => ?_, fun z => ⟨u_in (by omega) (by decide), ?_⟩⟩⟩
    · rw [z, if_neg (by decide), Nat.or_zero] at ih; exact ih
    · rw [if_pos (by simpa using z)] at ih; exact ih
theorem q_far (Z : St) (x y : Int32) : ∃ v, Q2 Z Z kX11_far kX12_far [.int x, .int y] (.int v) := by
  by_cases hh : bp Z.1 x ∨ bp Z.1 y
  · refine ⟨-2, QC_q fun I L hr => ⟨I, c0_X11_far (vc_X11_far_0 ⟨_, ct_noPew hr.1.1.1 x, ?_⟩), Fq.rf, hr.2.1, hr.2.2⟩, QM_q fun I L hr => ⟨I, c0_X12_far (vc_X12_far_0 ⟨_, ct_isPew hr.1.1 hr.1.2 x, ?_⟩), Mq.rf⟩⟩
    · by_cases h1 : bp Z.1 x
      · exact g1p h1 ⟨rfl, rfl, rfl⟩
      · exact g1n h1 ⟨_, ct_noPew hr.1.1.1 y, g1p (hh.resolve_left h1) ⟨rfl, rfl, rfl⟩⟩
    · by_cases h1 : bp Z.1 x
      · exact g0p h1 ⟨rfl, rfl, rfl⟩
      · exact g0n h1 ⟨_, ct_isPew hr.1.1 hr.1.2 y, g0p (hh.resolve_left h1) ⟨rfl, rfl, rfl⟩⟩
  · have hx' : ¬ bp Z.1 x := fun z => hh (Or.inl z)
    have hy' : ¬ bp Z.1 y := fun z => hh (Or.inr z)
    refine ⟨farF Z.1 y.toNatClampNeg 7 (2 ^ x.toNatClampNeg) 0, QC_q fun I L hr => ⟨I, c0_X11_far (vc_X11_far_0 ⟨_, ct_noPew hr.1.1.1 x, g1n hx' ⟨_, ct_noPew hr.1.1.1 y, g1n hy' ?_⟩⟩), Fq.rf, hr.2.1, hr.2.2⟩, QM_q fun I L hr => ⟨_, c0_X12_far (vc_X12_far_0 ⟨_, ct_isPew hr.1.1 hr.1.2 x, g0n hx' ⟨_, ct_isPew hr.1.1 hr.1.2 y, g0n hy' ?_⟩⟩), Mq_15⟩⟩
    · have hV := hr.1.1.2
      have hR := hr.1.1.1
      have h3 := hV.1.2.2.2.1
      obtain ⟨p, hp, hx⟩ := xPew hV hx'
      obtain ⟨b, hb, hy⟩ := xPew hV hy'
      subst hx
      subst hy
      rw [u_cl (n := p) (by omega), u_cl (n := b) (by omega), u_one (by omega)]
      have go : ∀ m s n, n + m = 7 → s < 128 → v_X11_far_26 (some (.int (farF Z.1 b m s n))) I L I L (nI b) (nI s) (nI n) := by
        intro m
        induction m with
        | zero =>
          intro s n hn hs
          rw [show n = 7 by omega]
          exact vc_X11_far_26 ⟨fun _ => ⟨rfl, rfl, rfl⟩, fun z => absurd (by decide) z⟩
        | succ m ih =>
          intro s n hn hs
          have hna := naF_lt hV s (Z.1.1 0 3)
          refine vc_X11_far_26 ?_
          rw [bz _ (by omega), show (7 : Int32) = nI 7 from rfl, nI_leI (by omega) (by omega)]
          show _ ∧ (_ → (_ → _) ∧ (_ → (some (Value.int (if s.testBit b = true then nI n else _)) = _ ∧ _)))
          refine ⟨fun z => by omega, fun _ => ⟨fun z => ⟨_, ct_nearAny hR hV hs, ?_⟩, fun z => ?_⟩⟩
          · rw [u_or, nI_1]
            show v_X11_far_26 (some (.int (if s.testBit b = true then nI n else farF Z.1 b m (s ||| naF Z.1 s (Z.1.1 0 3)) (n + 1)))) I L I L _ _ _
            rw [z, if_neg (by decide)]
            exact ih _ _ (by omega) (show _ < 2 ^ 7 from Nat.or_lt_two_pow hs hna)
          · rw [if_pos (by simpa using z)]
            exact ⟨rfl, rfl, rfl⟩
      exact go 7 (2 ^ p) 0 rfl (show _ < 2 ^ 7 from Nat.pow_lt_pow_right (by decide) (by omega))
    · have hV := hr.1.2
      have h3 := hV.1.2.2.2.1
      have hR : RM Z.1 (up2 I 96 15 0) 97 0 := RM_of (fun k => up2_p (by omega)) hr.1.1
      obtain ⟨p, hp, hx⟩ := xPew hV hx'
      obtain ⟨b, hb, hy⟩ := xPew hV hy'
      subst hx
      subst hy
      rw [u_cl (n := p) (by omega), u_cl (n := b) (by omega), u_one (by omega)]
      have go : ∀ m s n, n + m = 7 → s < 128 → v_X12_far_33 (some (.int (farF Z.1 b m s n))) (up2 I 96 15 0) L (up2 I 96 15 0) L (nI b) (nI s) (nI n) := by
        intro m
        induction m with
        | zero =>
          intro s n hn hs
          rw [show n = 7 by omega]
          exact vc_X12_far_33 ⟨fun _ => ⟨rfl, rfl, rfl⟩, fun z => absurd (by decide) z⟩
        | succ m ih =>
          intro s n hn hs
          have hmd : s / 2 ^ b % 2 < 2 := Nat.mod_lt _ (by decide)
          refine vc_X12_far_33 ?_
          rw [show (7 : Int32) = nI 7 from rfl, nI_leI (by omega) (by omega)]
          refine ⟨fun z => by omega, fun _ => ⟨_, ct_bitN (by omega) (by omega), ?_⟩⟩
          rw [show (1 : Int32) = nI 1 from rfl, u_eq (by omega) (by omega), tb1]
          by_cases z : s.testBit b = true
          · refine ⟨fun _ => ?_, fun q => absurd z q⟩
            show some (Value.int (if s.testBit b = true then nI n else _)) = _ ∧ _
            rw [if_pos z]
            exact ⟨rfl, rfl, rfl⟩
          · refine ⟨fun q => absurd q z, fun _ => ?_⟩
            have hfe : farF Z.1 b (m + 1) s n = farF Z.1 b m (s ||| naF Z.1 s (Z.1.1 0 3)) (n + 1) := by
              show (if s.testBit b = true then nI n else _) = _
              rw [if_neg z]
            rw [hfe]
            have h := down (P := fun k => v_X12_far_58 (some (.int (farF Z.1 b m (s ||| naF Z.1 s (Z.1.1 0 3)) (n + 1)))) (up2 I 96 15 0) L (up2 I 96 15 0) L (nI b) (nI s) (nI n) (nI (s ||| naF Z.1 s k)) (nI k)) (n := Z.1.1 0 3) ?_ ?_
            · rw [show s ||| naF Z.1 s 0 = s from Nat.or_zero _] at h
              exact h
            · refine vc_X12_far_58 ⟨_, ct_pews hR, fun _ => ?_, fun q => absurd (nI_le (Nat.le_refl _) (by omega)) q⟩
              rw [nI_1]
              exact ih _ _ (by omega) (show _ < 2 ^ 7 from Nat.or_lt_two_pow hs (naF_lt hV s _))
            · intro k hk ih2
              have hmk : s / 2 ^ k % 2 < 2 := Nat.mod_lt _ (by decide)
              have ih2 : v_X12_far_58 _ (up2 I 96 15 0) L (up2 I 96 15 0) L (nI b) (nI s) (nI n) (nI (s ||| (naF Z.1 s k ||| (if s.testBit k = true then nearB Z.1 k else 0)))) (nI (k + 1)) := ih2
              have c := cm_nearOf (I := up2 I 96 15 0) (L := L) (s := 0) hR hV (up2_s _ _ _ _) (by decide) hk
              rw [mnr_0 hV] at c
              refine vc_X12_far_58 ⟨_, ct_pews hR, fun q => absurd q (nI_ge hk (by omega)), fun _ => ⟨_, ct_bitN (by omega) (by omega), ?_⟩⟩
              rw [show (1 : Int32) = nI 1 from rfl, u_eq (by omega) (by omega), tb1, show (0 : Int32) = nI 0 from rfl, u_or, u_add]
              refine ⟨fun q => ⟨_, c, ?_⟩, fun q => ?_⟩
              · rw [if_pos q, ← Nat.or_assoc] at ih2
                rw [u_or]
                exact ih2
              · rw [if_neg q, ← Nat.or_assoc] at ih2
                exact ih2
      exact go 7 (2 ^ p) 0 rfl (show _ < 2 ^ 7 from Nat.pow_lt_pow_right (by decide) (by omega))
theorem q_told (Z : St) (x i : Int32) : ∃ v, Q2 Z Z kX11_told kX12_told [.int x, .int i] (.int v) := by
  by_cases hh : x < 0 ∨ nI (Z.1.1 0 5) ≤ x
  · refine ⟨-2, QC_q fun I L hr => ⟨I, c0_X11_told (vc_X11_told_0 ?_), Fq.rf, hr.2.1, hr.2.2⟩, QM_q fun I L hr => ⟨I, c0_X12_told (vc_X12_told_0 ?_), Mq.rf⟩⟩
    · have e6 : I 12 6 = nI (Z.1.1 0 5) := hr.1.1.1.1.2.2.2.2.2.2.1
      rw [e6]
      exact ⟨fun _ => ⟨rfl, rfl, rfl⟩, fun z => ⟨fun z2 => (hh.elim z (fun q => absurd z2 (Int32.not_lt.mpr q))).elim, fun _ => ⟨rfl, rfl, rfl⟩⟩⟩
    · have h5 := hr.1.2.1.2.2.2.2.2.1
      have e5 : I 97 5 = nI (Z.1.1 0 5) := hr.1.1.1 5 (by decide)
      have hb : ib 0 (nI (Z.1.1 0 5) - 1) x := by
        rcases hh with q | q
        · exact Or.inl q
        · refine Or.inr ?_
          rw [t_le, t_n (by omega)] at q
          rw [t_lt, t_n1 (by omega)]
          omega
      refine ⟨by unfold vp_in; decide, _, ct_inI x 0 _, ?_⟩
      rw [show (5 : Int32).toNatClampNeg = 5 by decide, e5]
      exact g0p hb ⟨rfl, rfl, rfl⟩
  · have hx : ∀ A : Nt, Z.1 = A → NV A → ∃ k, k < A.1 0 5 ∧ x = nI k := fun A hA hV => by
      have h5 := hV.1.2.2.2.2.2.1
      have hr := t_rng x
      subst hA
      rw [t_lt, t_le, t_n (by omega), show (0 : Int32).toInt = 0 from rfl] at hh
      refine ⟨x.toInt.toNat, by omega, ?_⟩
      rw [t_eq, t_n (by omega)]
      omega
    refine ⟨letN (Z.1.2 x.toNatClampNeg) i, QC_q fun I L hr => ⟨I, c0_X11_told (vc_X11_told_0 ?_), Fq.rf, hr.2.1, hr.2.2⟩, QM_q fun I L hr => ⟨I, c0_X12_told (vc_X12_told_0 ?_), Mq.rf⟩⟩
    · have hV := hr.1.1.2
      have h5 := hV.1.2.2.2.2.2.1
      have e6 : I 12 6 = nI (Z.1.1 0 5) := hr.1.1.1.1.2.2.2.2.2.2.1
      obtain ⟨k, hk, hxk⟩ := hx _ rfl hV
      subst hxk
      have e18 : I 18 k = nI (cE (Z.1.2 k)) := (hr.1.1.1.2.2.1 k hk).2
      rw [e6, u_cl (by omega), e18]
      exact ⟨fun z => absurd z (nI_pos (by omega)), fun _ => ⟨fun _ => ⟨u_in (by omega) (by decide), _, ct_letC (hV.2.2.2.2.2.1 k hk).2.1 i, rfl, rfl, rfl⟩, fun z => absurd (nI_lt hk (by omega)) z⟩⟩
    · have hV := hr.1.2
      have h5 := hV.1.2.2.2.2.2.1
      have e5 : I 97 5 = nI (Z.1.1 0 5) := hr.1.1.1 5 (by decide)
      obtain ⟨k, hk, hxk⟩ := hx _ rfl hV
      subst hxk
      have e55 : I 97 (54 + 2 * k + 1) = nI (mE (Z.1.2 k)) := by rw [← (hr.1.1.2.2.2.1 k hk).2]; congr 1; omega
      have hb : ¬ ib 0 (nI (Z.1.1 0 5) - 1) (nI k) := by
        unfold ib
        rw [t_lt, t_lt, t_n (by omega), t_n1 (by omega), show (0 : Int32).toInt = 0 from rfl]
        omega
      refine ⟨by unfold vp_in; decide, _, ct_inI _ 0 _, ?_⟩
      rw [show (5 : Int32).toNatClampNeg = 5 by decide, e5]
      refine g0n hb ⟨fun hi => ?_, fun hi => ⟨?_, rfl, rfl⟩⟩
      · rw [ix54, nI_1, u_cl (n := k) (by omega), u_cl (n := 54 + 2 * k + 1) (by omega), e55]
        exact ⟨u_in (by omega) (by decide), _, ct_letM (hV.2.2.2.2.2.1 k hk).2.1 hi, rfl, rfl, rfl⟩
      · unfold letN
        rw [if_neg (fun z => z.1 (Int32.not_le.mp hi))]
theorem q_fault (Z : St) (x : Int32) : ∃ v, Q2 Z Z kX11_fault kX12_fault [.int x] (.int v) := by
  refine ⟨if x = 0 then Z.2.2.1.1 else if x = 1 then Z.2.2.1.2 else -1, QC_q fun I L hr => ⟨I, c0_X11_fault (vc_X11_fault_0 ?_), Fq.rf, hr.2.1, hr.2.2⟩, QM_q fun I L hr => ⟨I, c0_X12_fault (vc_X12_fault_0 ?_), Mq.rf⟩⟩
  · rw [hr.1.2.2.1.1, hr.1.2.2.1.2]
    refine ⟨fun z => ?_, fun z => ⟨fun z2 => ?_, fun z2 => ?_⟩⟩
    · rw [if_pos z]; exact ⟨rfl, rfl, rfl⟩
    · rw [if_neg z, if_pos z2]; exact ⟨rfl, rfl, rfl⟩
    · rw [if_neg z, if_neg z2]; exact ⟨rfl, rfl, rfl⟩
  · rw [hr.2.2.1.1, hr.2.2.1.2]
    refine ⟨fun z => ?_, fun z => ⟨fun z2 => ?_, fun z2 => ?_⟩⟩
    · rw [if_pos z]; exact ⟨rfl, rfl, rfl⟩
    · rw [if_neg z, if_pos z2]; exact ⟨rfl, rfl, rfl⟩
    · rw [if_neg z, if_neg z2]; exact ⟨rfl, rfl, rfl⟩
theorem ct_hasRow {Z : St} {I : Nat → Nat → Int32} {L : Nat → Nat → Int64} (hr : Bc Z I L) {s : Nat} (hs : s < 4) : q_C kX9_hasRow [.ref 25, .int (nI s)] I L (some (.int (if Z.2.2.2.2 s = none then 0 else 1))) I L := by
  refine c0_X9_hasRow (vc_X9_hasRow_0 ?_)
  rw [u_cl (by omega)]
  have h := hr.2.2.2.2 s hs
  refine ⟨u_in hs (by decide), ?_⟩
  cases hz : Z.2.2.2.2 s with
  | none =>
    rw [h.1 hz]
    exact ⟨fun _ => ⟨rfl, rfl, rfl⟩, fun z => absurd rfl z⟩
  | some t =>
    obtain ⟨w, n, f⟩ := t
    have h2 := h.2 w n f hz
    rw [h2.2.2.1]
    exact ⟨fun z => ((nI_nm1 (by omega)).mp z).elim, fun _ => ⟨rfl, rfl, rfl⟩⟩
theorem md_none {Z : St} {I : Nat → Nat → Int32} {L : Nat → Nat → Int64} (hr : RelM Z I L) {s : Nat} (hs : s < 4) : I 109 s = -1 ↔ Z.2.2.2.2 s = none := by
  have h := hr.2.2.2.2 s hs
  cases hz : Z.2.2.2.2 s with
  | none => exact ⟨fun _ => rfl, fun _ => h.1 hz⟩
  | some t =>
    obtain ⟨w, n, f⟩ := t
    have h2 := h.2 w n f hz
    rw [h2.2.2.1]
    exact ⟨fun z => ((nI_nm1 (by omega)).mp z).elim, fun z => by cases z⟩
def heldF (Z : St) (s : Nat) : Bool := (Z.2.2.2.2 s).isSome
theorem q_count (Z : St) (x : Int32) : ∃ v, Q2 Z Z kX11_count kX12_count [.int x] (.int v) := by
  refine ⟨if ib 0 8 x then (if x = 9 then nI Z.2.1.1 else if x = 10 then nI (cntF (heldF Z) 4) else -1) else nI (Z.1.1 0 x.toNatClampNeg), QC_q fun I L hr => ⟨I, c0_X11_count (vc_X11_count_0 ?_), Fq.rf, hr.2.1, hr.2.2⟩, QM_q fun I L hr => ⟨I, c0_X12_count (vc_X12_count_0 ⟨_, ct_inI x 0 8, ?_⟩), Mq.rf⟩⟩
  · have hR := hr.1.1.1
    have held : q_C kX9_rowsHeld [.ref 25] I L (some (.int (nI (cntF (heldF Z) 4)))) I L := by
      refine c0_X9_rowsHeld (vc_X9_rowsHeld_0 ?_)
      refine down (P := fun k => v_X9_rowsHeld_4 (some (.int (nI (cntF (heldF Z) 4)))) I L I L (nI (cntF (heldF Z) k)) (nI k)) (n := 4) ?_ ?_
      · exact vc_X9_rowsHeld_4 ⟨fun _ => ⟨rfl, rfl, rfl⟩, fun z => absurd (by decide) z⟩
      · intro k hk ih
        refine vc_X9_rowsHeld_4 ?_
        rw [show (4 : Int32) = nI 4 from rfl, nI_leI (by omega) (by omega), nI_1, nI_1]
        refine ⟨fun z => by omega, fun _ => ⟨_, ct_hasRow hr.1 hk, ?_⟩⟩
        by_cases hz : Z.2.2.2.2 k = none
        · rw [cntF_n (k := k) (by unfold heldF; rw [hz]; rfl)] at ih
          exact g0p hz ih
        · rw [cntF_y (k := k) (by unfold heldF; cases hq : Z.2.2.2.2 k with | none => exact absurd hq hz | some t => rfl)] at ih
          exact g0n hz ih
    rw [hR.1.1, hR.1.2.1, hR.1.2.2.1, hR.1.2.2.2.1, hR.1.2.2.2.2.1, hR.1.2.2.2.2.2.1, hR.1.2.2.2.2.2.2.1, hR.1.2.2.2.2.2.2.2, hR.2.2.2.2.1, hr.1.2.1.2.1]
    have num : ∀ k : Nat, k < 9 → x = nI k → (if ib 0 8 x then (if x = 9 then nI Z.2.1.1 else if x = 10 then nI (cntF (heldF Z) 4) else -1) else nI (Z.1.1 0 x.toNatClampNeg)) = nI (Z.1.1 0 k) := fun k hk e => by
      subst e
      rw [if_neg, u_cl (by omega)]
      unfold ib
      rw [t_lt, t_lt, t_n (by omega), show (8 : Int32).toInt = 8 by decide, show (0 : Int32).toInt = 0 by decide]
      omega
    have fin : ∀ v : Int32, (if ib 0 8 x then (if x = 9 then nI Z.2.1.1 else if x = 10 then nI (cntF (heldF Z) 4) else -1) else nI (Z.1.1 0 x.toNatClampNeg)) = v → (some (Value.int (if ib 0 8 x then (if x = 9 then nI Z.2.1.1 else if x = 10 then nI (cntF (heldF Z) 4) else -1) else nI (Z.1.1 0 x.toNatClampNeg))) = some (Value.int v) ∧ I = I ∧ L = L) := fun v h => ⟨by rw [h], rfl, rfl⟩
    refine ⟨fun z => fin _ (num 0 (by decide) z), fun z0 => ⟨fun z => fin _ (num 1 (by decide) z), fun z1 => ⟨fun z => fin _ (num 2 (by decide) z), fun z2 => ⟨fun z => fin _ (num 3 (by decide) z), fun z3 => ⟨fun z => fin _ (num 4 (by decide) z), fun z4 => ⟨fun z => fin _ (num 5 (by decide) z), fun z5 => ⟨fun z => fin _ (num 6 (by decide) z), fun z6 => ⟨fun z => fin _ (num 7 (by decide) z), fun z7 => ⟨fun z => fin _ (num 8 (by decide) z), fun z8 => ⟨fun z => fin _ ?_, fun z9 => ⟨fun z => ⟨_, held, fin _ ?_⟩, fun z10 => fin _ ?_⟩⟩⟩⟩⟩⟩⟩⟩⟩⟩⟩
    · rw [if_pos (by rw [z]; decide), if_pos z]
    · rw [if_pos (by rw [z]; decide), if_neg z9, if_pos z]
    · rw [if_pos, if_neg z9, if_neg z10]
      by_cases q : ib 0 8 x
      · exact q
      · obtain ⟨n, -, hn, hx⟩ := xIn (a := 0) (b := 8) (by decide) (by decide) q
        have hcase : n = 0 ∨ n = 1 ∨ n = 2 ∨ n = 3 ∨ n = 4 ∨ n = 5 ∨ n = 6 ∨ n = 7 ∨ n = 8 := by omega
        rcases hcase with h | h | h | h | h | h | h | h | h <;> rw [h] at hx
        · exact absurd hx z0
        · exact absurd hx z1
        · exact absurd hx z2
        · exact absurd hx z3
        · exact absurd hx z4
        · exact absurd hx z5
        · exact absurd hx z6
        · exact absurd hx z7
        · exact absurd hx z8
  · by_cases q : ib 0 8 x
    · refine g0p q ?_
      rw [if_pos q]
      refine ⟨fun z => ?_, fun z => ⟨fun z2 => ?_, fun z2 => ?_⟩⟩
      · rw [if_pos z, hr.2.1.2.1]; exact ⟨rfl, rfl, rfl⟩
      · rw [if_neg z, if_pos z2]
        refine down (P := fun k => v_X12_count_42 (some (.int (nI (cntF (heldF Z) 4)))) I L I L (nI (cntF (heldF Z) k)) (nI k)) (n := 4) ?_ ?_
        · exact vc_X12_count_42 ⟨fun _ => ⟨rfl, rfl, rfl⟩, fun z => absurd (by decide) z⟩
        · intro k hk ih
          refine vc_X12_count_42 ?_
          rw [show (4 : Int32) = nI 4 from rfl, nI_leI (by omega) (by omega), nI_1, nI_1, u_cl (by omega), md_none hr hk, show (0 : Int32) = nI 0 from rfl, u_add]
          refine ⟨fun z => by omega, fun _ => ⟨u_in hk (by decide), fun hz => ?_, fun hz => ?_⟩⟩
          · rw [cntF_n (k := k) (by unfold heldF; rw [hz]; rfl)] at ih
            exact ih
          · rw [cntF_y (k := k) (by unfold heldF; cases hq : Z.2.2.2.2 k with | none => exact absurd hq hz | some t => rfl)] at ih
            exact ih
      · rw [if_neg z, if_neg z2]; exact ⟨rfl, rfl, rfl⟩
    · refine g0n q ?_
      rw [if_neg q]
      obtain ⟨n, -, hn, hx⟩ := xIn (a := 0) (b := 8) (by decide) (by decide) q
      have e : I 97 n = nI (Z.1.1 0 n) := by have := hr.1.1.1 n (by omega); rw [Nat.zero_add] at this; exact this
      subst hx
      rw [u_cl (by omega), e]
      exact ⟨u_in (by omega) (by decide), rfl, rfl, rfl⟩
