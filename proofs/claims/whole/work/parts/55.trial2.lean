/-! GUSTS, GUARDS; RECTOR AND DRAUGHT; TWO THAT ARE SHUT. -/
def Pgg (A : Nt) (a b c d : Int) : Pm := ((A.1 0 1, 0, 0), (a, b, c, d), (false, 0, [1]))
theorem PV_Pgg {A : Nt} (hV : NV A) {a b c d : Int} (h1 : a = -1 ∨ 0 ≤ a ∧ a < A.1 0 3) (h2 : b = -1 ∨ 0 ≤ b ∧ b < A.1 0 3) (h3 : -1 ≤ c ∧ c ≤ 12) (h4 : -1 ≤ d ∧ d ≤ 6) : PV A (Pgg A a b c d) := ⟨(PV_P0 hV).1, ⟨h1, h2, h3, h4⟩, (PV_P0 hV).2.2⟩
def lmI (A : Nt) (P : Pm) : Int := (pc7 (lastL A P) : Nat)
theorem lmI_r (A : Nt) (P : Pm) : 0 ≤ lmI A P ∧ lmI A P ≤ 7 := by have := pc7_le (lastL A P); unfold lmI; omega
theorem lmI_n (A : Nt) (P : Pm) : nI (pc7 (lastL A P)) = iI (lmI A P) := (iI_n _).symm
theorem nI_iI (k : Nat) : nI k = iI (k : Int) := (iI_n k).symm
theorem bst_inv {f : Nat → Int} {b : Int → Int → Bool} {s0 : Int × Int} (h0 : b (f 0) s0.2 = true) : ∀ k : Nat, ∃ c : Nat, c < k + 1 ∧ bstF f b s0 (k + 1) = ((c : Int), f c)
  | 0 => ⟨0, by omega, bstF_y h0⟩
  | k + 1 => by
    obtain ⟨c, hc, h⟩ := bst_inv (f := f) h0 k
    by_cases e : b (f (k + 1)) (bstF f b s0 (k + 1)).2 = true
    · exact ⟨k + 1, by omega, bstF_y e⟩
    · exact ⟨c, by omega, by rw [bstF_n e]; exact h⟩
theorem q_gust (Z : St) (x : Int32) : ∃ v, Q2 Z Z kX11_gust kX12_gust [.int x] (.int v) := by
  by_cases hh : bh Z.1 x
  · refine ⟨-2, QC_q fun I L hr => ⟨I, c0_X11_gust (vc_X11_gust_0 ⟨_, ct_noHour hr.1.1.1 hr.1.1.2 x, g1p hh ⟨rfl, rfl, rfl⟩⟩), Fq.rf, hr.2.1, hr.2.2⟩, QM_q fun I L hr => ?_⟩
    obtain ⟨I1, c1, hc1, hf1, -, -⟩ := ce_asksHour (L := L) hr.1.1 hr.1.2 x
    exact ⟨I1, c0_X12_gust (vc_X12_gust_0 ⟨_, I1, c1, g0p hh ⟨rfl, rfl, rfl⟩⟩), hf1⟩
  refine ⟨iI (bstF (fun k => lmI Z.1 (Pgg Z.1 (-1) k (x.toNatClampNeg : Int) (-1))) ltB (-1, lmI Z.1 (P0 Z.1)) (Z.1.1 0 3)).1, QC_q fun I L hr => ?_, QM_q fun I L hr => ?_⟩
  · have hV := hr.1.1.2
    have h0 := hV.1.1
    have h3 := hV.1.2.2.2.1
    obtain ⟨t, ht, hx, h8⟩ := xHour hV hh
    subst hx
    rw [u_cl (n := t) (by omega)]
    obtain ⟨I1, c1, hf1, hs1, hw1⟩ := cq_litAtLast hr
    have hr1 : RelC Z I1 L := ⟨Bc_of hf1 hr.1, hs1, hw1⟩
    obtain ⟨I2, c2, hP2, hf2⟩ := ce_asNow_81 (L := L) hr1.1.1.1
    have hft2 : FT I1 (up2 I2 81 12 (nI t)) := FT.tr (fun a k z => hf2 a k (by omega)) (FT_up (by omega))
    have h := mloop (V := fun k I' J => v_X10_strongestGust_23 (some (.int (iI (bstF (fun k => lmI Z.1 (Pgg Z.1 (-1) k t (-1))) ltB (-1, lmI Z.1 (P0 Z.1)) (Z.1.1 0 3)).1))) I' L J L (iI (bstF (fun k => lmI Z.1 (Pgg Z.1 (-1) k t (-1))) ltB (-1, lmI Z.1 (P0 Z.1)) k).1) (iI (bstF (fun k => lmI Z.1 (Pgg Z.1 (-1) k t (-1))) ltB (-1, lmI Z.1 (P0 Z.1)) k).2) (nI k)) (Inv := fun k J => FT I1 J ∧ ∃ g, PC (Pgg Z.1 (-1) g t (-1)) J 81) (n := Z.1.1 0 3) (Q := fun I' => FT I1 I') ?_ ?_ (up2 I2 81 12 (nI t)) ⟨hft2, -1, by rw [nI_iI]; exact hP2.gh t⟩
    · obtain ⟨I', hw, hf⟩ := h
      have cg : q_C kX10_strongestGust [.ref 87, .int (nI t), .int (nI (pc7 (lastL Z.1 (P0 Z.1))))] I1 L _ I' L := c0_X10_strongestGust (vc_X10_strongestGust_0 ⟨I2, c2, by rw [lmI_n]; exact hw⟩)
      obtain ⟨r1, r2, r3⟩ := hf.rel hr1
      exact ⟨I', c0_X11_gust (vc_X11_gust_0 ⟨_, ct_noHour hr.1.1.1 hV (nI t), g1n hh ⟨_, I1, c1, _, I', cg, rfl, rfl, rfl⟩⟩), hf1.tr r1, r2, r3⟩
    · intro J hJ
      have e4 : J 12 4 = nI (Z.1.1 0 3) := (hJ.1.RC hr1.1.1.1).1.2.2.2.2.1
      refine ⟨J, vc_X10_strongestGust_23 ?_, hJ.1⟩
      rw [e4]
      exact ⟨fun _ => ⟨rfl, rfl, rfl⟩, fun z => absurd (nI_le (Nat.le_refl _) (by omega)) z⟩
    · rintro k J hk ⟨hJ, g, hP⟩
      have hRJ := hJ.RC hr1.1.1.1
      have e4 : J 12 4 = nI (Z.1.1 0 3) := hRJ.1.2.2.2.2.1
      have hP3 : PC (Pgg Z.1 (-1) k t (-1)) (up2 J 81 11 (nI k)) 81 := by rw [nI_iI]; exact hP.gp k
      have hfu : FT J (up2 J 81 11 (nI k)) := FT_up (by omega)
      obtain ⟨I3, c3, h3', hf3⟩ := tr_run (L := L) (hfu.RC hRJ) hV hP3 (PV_Pgg hV (Or.inl rfl) (Or.inr ⟨by omega, by omega⟩) ⟨by omega, by omega⟩ ⟨by omega, by omega⟩)
      refine ⟨I3, ⟨hJ.tr (hfu.tr hf3.t), k, PC_of (fun j => hf3 81 j (by omega)) hP3⟩, fun I' hw => vc_X10_strongestGust_23 ?_⟩
      have hb := bstF_rng (f := fun k => lmI Z.1 (Pgg Z.1 (-1) k t (-1))) (b := ltB) (s0 := (-1, lmI Z.1 (P0 Z.1))) (fun k => by have := lmI_r Z.1 (Pgg Z.1 (-1) k t (-1)); omega) (by have := lmI_r Z.1 (P0 Z.1); exact ⟨⟨by show (-1 : Int) ≤ -1; omega, by show (-1 : Int) ≤ 0; omega⟩, by show -1 ≤ lmI _ _; omega, by show lmI _ _ ≤ 100; omega⟩) k
      have hl := lmI_r Z.1 (Pgg Z.1 (-1) k t (-1))
      rw [e4]
      refine ⟨fun z => absurd z (nI_ge hk (by omega)), fun _ => ⟨_, I3, c3, ?_⟩⟩
      rw [nI_1, lmI_n, iI_le (by omega) (by omega)]
      refine ⟨fun z => ?_, fun z => ?_⟩
      · rw [bstF_n (k := k) (by rw [ltB_t]; omega)] at hw; exact hw
      · rw [bstF_y (k := k) (by rw [ltB_t]; omega)] at hw
        rw [nI_iI k]
        exact hw
  · have hV := hr.1.2
    have h0 := hV.1.1
    have h3 := hV.1.2.2.2.1
    obtain ⟨t, ht, hx, h8⟩ := xHour hV hh
    subst hx
    rw [u_cl (n := t) (by omega)]
    obtain ⟨I1, c1, hc1, hf1, hP1, -⟩ := ce_asksHour (L := L) hr.1.1 hr.1.2 (nI t)
    have hR1 : RM Z.1 I1 97 0 := RM_of (fun k => hf1 97 k (by omega)) hr.1.1
    have hS1 : SMo Z.1 (P0 Z.1) I1 := ⟨⟨hR1, hV, PV_P0 hV⟩, hc1⟩
    have h := mloop (V := fun k I' J => v_X12_gust_28 (some (.int (iI (bstF (fun k => lmI Z.1 (Pgg Z.1 (-1) k t (-1))) ltB (-1, lmI Z.1 (P0 Z.1)) (Z.1.1 0 3)).1))) I' L J L (iI (bstF (fun k => lmI Z.1 (Pgg Z.1 (-1) k t (-1))) ltB (-1, lmI Z.1 (P0 Z.1)) k).2) (iI (bstF (fun k => lmI Z.1 (Pgg Z.1 (-1) k t (-1))) ltB (-1, lmI Z.1 (P0 Z.1)) k).1)) (Inv := fun k J => Mq I J ∧ PMd (Pgg Z.1 (-1) k t (-1)) J) (n := Z.1.1 0 3) (Q := fun I' => Mq I I') ?_ ?_ (up2 (up2 I1 96 22 (nI t)) 96 21 0) ⟨hf1.tr (fun a k q => by rw [up2_o' (by omega), up2_o' (by omega)]), by rw [nI_iI]; exact (hP1.gh t).gp ((0 : Nat) : Int)⟩
    · obtain ⟨I', hw, hf⟩ := h
      refine ⟨I', c0_X12_gust (vc_X12_gust_0 ⟨_, I1, c1, g0n hh ⟨_, mq_lastMany hS1, ?_⟩⟩), hf⟩
      rw [lmI_n]
      exact hw
    · rintro J ⟨hJ, hP⟩
      have e21 : J 96 21 = nI (Z.1.1 0 3) := by rw [nI_iI]; exact hP.2.2.2.2.1
      refine ⟨J, vc_X12_gust_28 ⟨_, ct_pews (RM_of (fun k => hJ 97 k (by omega)) hr.1.1), ?_⟩, hJ⟩
      rw [e21]
      exact ⟨fun _ => ⟨rfl, rfl, rfl⟩, fun z => absurd (nI_le (Nat.le_refl _) (by omega)) z⟩
    · rintro k J hk ⟨hJ, hP⟩
      have hRJ : RM Z.1 J 97 0 := RM_of (fun k => hJ 97 k (by omega)) hr.1.1
      have e21 : J 96 21 = nI k := by rw [nI_iI]; exact hP.2.2.2.2.1
      obtain ⟨I3, c3, h3', hf3⟩ := tr_go (L := L) hRJ hV hP (PV_Pgg hV (Or.inl rfl) (Or.inr ⟨by omega, by omega⟩) ⟨by omega, by omega⟩ ⟨by omega, by omega⟩) (fun _ => by show (k : Int) ≠ -1; omega)
      have hP3 : PMd (Pgg Z.1 (-1) k t (-1)) I3 := PMd_of (fun j => hf3 96 j (by omega)) hP
      have e21' : I3 96 21 = nI k := by rw [hf3 96 21 (by omega)]; exact e21
      have hlm := mq_lastMany (L := L) h3'
      refine ⟨up2 I3 96 21 (I3 96 21 + 1), ⟨(hJ.tr hf3.q).tr (fun a k q => up2_o' (by omega)), ?_⟩, fun I' hw => vc_X12_gust_28 ⟨_, ct_pews hRJ, ?_⟩⟩
      · rw [e21', nI_1, nI_iI]
        exact hP3.gp ((k + 1 : Nat) : Int)
      · have hb := bstF_rng (f := fun k => lmI Z.1 (Pgg Z.1 (-1) k t (-1))) (b := ltB) (s0 := (-1, lmI Z.1 (P0 Z.1))) (fun k => by have := lmI_r Z.1 (Pgg Z.1 (-1) k t (-1)); omega) (by have := lmI_r Z.1 (P0 Z.1); exact ⟨⟨by show (-1 : Int) ≤ -1; omega, by show (-1 : Int) ≤ 0; omega⟩, by show -1 ≤ lmI _ _; omega, by show lmI _ _ ≤ 100; omega⟩) k
        have hl := lmI_r Z.1 (Pgg Z.1 (-1) k t (-1))
        rw [e21]
        rw [lmI_n] at hlm
        refine ⟨fun z => absurd z (nI_ge hk (by omega)), fun _ => ⟨I3, c3, _, hlm, ?_⟩⟩
        rw [iI_lt (by omega) (by omega)]
        refine ⟨fun z => ⟨_, hlm, ?_⟩, fun z => ?_⟩
        · rw [bstF_y (k := k) (by rw [ltB_t]; omega)] at hw
          rw [e21'] at hw ⊢
          rw [nI_iI k] at hw ⊢
          exact hw
        · rw [bstF_n (k := k) (by rw [ltB_t]; omega)] at hw; exact hw
theorem q_guard (Z : St) : ∃ v, Q2 Z Z kX11_guard kX12_guard [] (.int v) := by
  by_cases hh : Z.1.1 0 8 = 0
  · refine ⟨-2, QC_q fun I L hr => ⟨I, c0_X11_guard (vc_X11_guard_0 ⟨_, ct_noNight hr.1.1.1 hr.1.1.2, g1p hh ⟨rfl, rfl, rfl⟩⟩), Fq.rf, hr.2.1, hr.2.2⟩, QM_q fun I L hr => ?_⟩
    obtain ⟨I1, c1, hc1, hf1, -, -⟩ := ce_asksNight (L := L) hr.1.1 hr.1.2
    exact ⟨I1, c0_X12_guard (vc_X12_guard_0 ⟨_, I1, c1, g0p hh ⟨rfl, rfl, rfl⟩⟩), hf1⟩
  refine ⟨iI (bstF (fun k => lmI Z.1 (Pgg Z.1 (-1) (-1) (-1) k)) gtB (-1, lmI Z.1 (P0 Z.1)) (Z.1.1 0 6)).1, QC_q fun I L hr => ?_, QM_q fun I L hr => ?_⟩
  · have hV := hr.1.1.2
    have h0 := hV.1.1
    have h6 := hV.1.2.2.2.2.2.2.1
    obtain ⟨I1, c1, hf1, hs1, hw1⟩ := cq_litAtLast hr
    have hr1 : RelC Z I1 L := ⟨Bc_of hf1 hr.1, hs1, hw1⟩
    obtain ⟨I2, c2, hP2, hf2⟩ := ce_asNow_81 (L := L) hr1.1.1.1
    have hft2 : FT I1 I2 := fun a k z => hf2 a k (by omega)
    have h := mloop (V := fun k I' J => v_X10_heaviestDraught_14 (some (.int (iI (bstF (fun k => lmI Z.1 (Pgg Z.1 (-1) (-1) (-1) k)) gtB (-1, lmI Z.1 (P0 Z.1)) (Z.1.1 0 6)).1))) I' L J L (iI (bstF (fun k => lmI Z.1 (Pgg Z.1 (-1) (-1) (-1) k)) gtB (-1, lmI Z.1 (P0 Z.1)) k).1) (iI (bstF (fun k => lmI Z.1 (Pgg Z.1 (-1) (-1) (-1) k)) gtB (-1, lmI Z.1 (P0 Z.1)) k).2) (nI k)) (Inv := fun k J => FT I1 J ∧ ∃ g, PC (Pgg Z.1 (-1) (-1) (-1) g) J 81) (n := Z.1.1 0 6) (Q := fun I' => FT I1 I') ?_ ?_ I2 ⟨hft2, -1, hP2⟩
    · obtain ⟨I', hw, hf⟩ := h
      have cg : q_C kX10_heaviestDraught [.ref 87, .int (nI (pc7 (lastL Z.1 (P0 Z.1))))] I1 L _ I' L := c0_X10_heaviestDraught (vc_X10_heaviestDraught_0 ⟨I2, c2, by rw [lmI_n]; exact hw⟩)
      obtain ⟨r1, r2, r3⟩ := hf.rel hr1
      exact ⟨I', c0_X11_guard (vc_X11_guard_0 ⟨_, ct_noNight hr.1.1.1 hV, g1n hh ⟨_, I1, c1, _, I', cg, rfl, rfl, rfl⟩⟩), hf1.tr r1, r2, r3⟩
    · intro J hJ
      have e4 : J 12 7 = nI (Z.1.1 0 6) := (hJ.1.RC hr1.1.1.1).1.2.2.2.2.2.2.2
      refine ⟨J, vc_X10_heaviestDraught_14 ?_, hJ.1⟩
      rw [e4]
      exact ⟨fun _ => ⟨rfl, rfl, rfl⟩, fun z => absurd (nI_le (Nat.le_refl _) (by omega)) z⟩
    · rintro k J hk ⟨hJ, g, hP⟩
      have hRJ := hJ.RC hr1.1.1.1
      have e4 : J 12 7 = nI (Z.1.1 0 6) := hRJ.1.2.2.2.2.2.2.2
      have hP3 : PC (Pgg Z.1 (-1) (-1) (-1) k) (up2 J 81 13 (nI k)) 81 := by rw [nI_iI]; exact hP.lo k
      have hfu : FT J (up2 J 81 13 (nI k)) := FT_up (by omega)
      obtain ⟨I3, c3, h3', hf3⟩ := tr_run (L := L) (hfu.RC hRJ) hV hP3 (PV_Pgg hV (Or.inl rfl) (Or.inl rfl) ⟨by omega, by omega⟩ ⟨by omega, by omega⟩)
      refine ⟨I3, ⟨hJ.tr (hfu.tr hf3.t), k, PC_of (fun j => hf3 81 j (by omega)) hP3⟩, fun I' hw => vc_X10_heaviestDraught_14 ?_⟩
      have hb := bstF_rng (f := fun k => lmI Z.1 (Pgg Z.1 (-1) (-1) (-1) k)) (b := gtB) (s0 := (-1, lmI Z.1 (P0 Z.1))) (fun k => by have := lmI_r Z.1 (Pgg Z.1 (-1) (-1) (-1) k); omega) (by have := lmI_r Z.1 (P0 Z.1); exact ⟨⟨by show (-1 : Int) ≤ -1; omega, by show (-1 : Int) ≤ 0; omega⟩, by show -1 ≤ lmI _ _; omega, by show lmI _ _ ≤ 100; omega⟩) k
      have hl := lmI_r Z.1 (Pgg Z.1 (-1) (-1) (-1) k)
      rw [e4]
      refine ⟨fun z => absurd z (nI_ge hk (by omega)), fun _ => ⟨_, I3, c3, ?_⟩⟩
      rw [nI_1, lmI_n, iI_le (by omega) (by omega)]
      refine ⟨fun z => ?_, fun z => ?_⟩
      · rw [bstF_n (k := k) (by rw [gtB_t]; omega)] at hw; exact hw
      · rw [bstF_y (k := k) (by rw [gtB_t]; omega)] at hw
        rw [nI_iI k]
        exact hw
  · have hV := hr.1.2
    have h0 := hV.1.1
    have h6 := hV.1.2.2.2.2.2.2.1
    obtain ⟨I1, c1, hc1, hf1, hP1, -⟩ := ce_asksNight (L := L) hr.1.1 hr.1.2
    have hR1 : RM Z.1 I1 97 0 := RM_of (fun k => hf1 97 k (by omega)) hr.1.1
    have hS1 : SMo Z.1 (P0 Z.1) I1 := ⟨⟨hR1, hV, PV_P0 hV⟩, hc1⟩
    have e6 : ∀ J, Mq I J → J 97 (6 : Int32).toNatClampNeg = nI (Z.1.1 0 6) := fun J hJ => by rw [show (6 : Int32).toNatClampNeg = 6 by decide, hJ 97 6 (by omega)]; exact hr.1.1.1 6 (by decide)
    have h := mloop (V := fun k I' J => v_X12_guard_22 (some (.int (iI (bstF (fun k => lmI Z.1 (Pgg Z.1 (-1) (-1) (-1) k)) gtB (-1, lmI Z.1 (P0 Z.1)) (Z.1.1 0 6)).1))) I' L J L (iI (bstF (fun k => lmI Z.1 (Pgg Z.1 (-1) (-1) (-1) k)) gtB (-1, lmI Z.1 (P0 Z.1)) k).2) (iI (bstF (fun k => lmI Z.1 (Pgg Z.1 (-1) (-1) (-1) k)) gtB (-1, lmI Z.1 (P0 Z.1)) k).1)) (Inv := fun k J => Mq I J ∧ PMd (Pgg Z.1 (-1) (-1) (-1) k) J) (n := Z.1.1 0 6) (Q := fun I' => Mq I I') ?_ ?_ (up2 I1 96 23 0) ⟨hf1.tr (fun a k q => by rw [up2_o' (by omega)]), hP1.lo ((0 : Nat) : Int)⟩
    · obtain ⟨I', hw, hf⟩ := h
      refine ⟨I', c0_X12_guard (vc_X12_guard_0 ⟨_, I1, c1, g0n hh ⟨_, mq_lastMany hS1, ?_⟩⟩), hf⟩
      rw [lmI_n]
      exact hw
    · rintro J ⟨hJ, hP⟩
      have e23 : J 96 23 = nI (Z.1.1 0 6) := by rw [nI_iI]; exact hP.2.2.2.2.2.2.1
      refine ⟨J, vc_X12_guard_22 ⟨by unfold vp_in; decide, ?_⟩, hJ⟩
      rw [e23, e6 J hJ]
      exact ⟨fun _ => ⟨rfl, rfl, rfl⟩, fun z => absurd (nI_le (Nat.le_refl _) (by omega)) z⟩
    · rintro k J hk ⟨hJ, hP⟩
      have hRJ : RM Z.1 J 97 0 := RM_of (fun k => hJ 97 k (by omega)) hr.1.1
      have e23 : J 96 23 = nI k := by rw [nI_iI]; exact hP.2.2.2.2.2.2.1
      obtain ⟨I3, c3, h3', hf3⟩ := tr_go (L := L) hRJ hV hP (PV_Pgg hV (Or.inl rfl) (Or.inl rfl) ⟨by omega, by omega⟩ ⟨by omega, by omega⟩) (fun z => absurd rfl z)
      have hP3 : PMd (Pgg Z.1 (-1) (-1) (-1) k) I3 := PMd_of (fun j => hf3 96 j (by omega)) hP
      have e23' : I3 96 23 = nI k := by rw [hf3 96 23 (by omega)]; exact e23
      have hlm := mq_lastMany (L := L) h3'
      refine ⟨up2 I3 96 23 (I3 96 23 + 1), ⟨(hJ.tr hf3.q).tr (fun a k q => up2_o' (by omega)), ?_⟩, fun I' hw => vc_X12_guard_22 ⟨by unfold vp_in; decide, ?_⟩⟩
      · rw [e23', nI_1, nI_iI]
        exact hP3.lo ((k + 1 : Nat) : Int)
      · have hb := bstF_rng (f := fun k => lmI Z.1 (Pgg Z.1 (-1) (-1) (-1) k)) (b := gtB) (s0 := (-1, lmI Z.1 (P0 Z.1))) (fun k => by have := lmI_r Z.1 (Pgg Z.1 (-1) (-1) (-1) k); omega) (by have := lmI_r Z.1 (P0 Z.1); exact ⟨⟨by show (-1 : Int) ≤ -1; omega, by show (-1 : Int) ≤ 0; omega⟩, by show -1 ≤ lmI _ _; omega, by show lmI _ _ ≤ 100; omega⟩) k
        have hl := lmI_r Z.1 (Pgg Z.1 (-1) (-1) (-1) k)
        rw [e23, e6 J hJ]
        rw [lmI_n] at hlm
        refine ⟨fun z => absurd z (nI_ge hk (by omega)), fun _ => ⟨I3, c3, _, hlm, ?_⟩⟩
        rw [iI_lt (by omega) (by omega)]
        refine ⟨fun z => ⟨_, hlm, ?_⟩, fun z => ?_⟩
        · rw [bstF_y (k := k) (by rw [gtB_t]; omega)] at hw
          rw [e23'] at hw ⊢
          rw [nI_iI k] at hw ⊢
          exact hw
        · rw [bstF_n (k := k) (by rw [gtB_t]; omega)] at hw; exact hw
/-- the rector opens, the draught replies -/
def rpI (A : Nt) (o p : Nat) : Int := lmI A (Pgg A o p 1 (-1))
abbrev rpB (A : Nt) (o k : Nat) : Int × Int := bstF (rpI A o) ltB (-1, 8) k
abbrev opB (A : Nt) (k : Nat) : Int × Int := bstF (fun o => (rpB A o (A.1 0 3)).2) gtB (-1, -1) k
theorem rpI_r (A : Nt) (o p : Nat) : 0 ≤ rpI A o p ∧ rpI A o p ≤ 7 := lmI_r _ _
theorem rpB_r (A : Nt) (o k : Nat) : (-1 ≤ (rpB A o k).1 ∧ (rpB A o k).1 ≤ k) ∧ -1 ≤ (rpB A o k).2 ∧ (rpB A o k).2 ≤ 100 := bstF_rng (fun k => by have := rpI_r A o k; omega) ⟨⟨by decide, by decide⟩, by decide, by decide⟩ k
theorem rpB_0 (A : Nt) (o k : Nat) : ∃ c : Nat, c < k + 1 ∧ rpB A o (k + 1) = ((c : Int), rpI A o c) := bst_inv (by rw [ltB_t]; have := rpI_r A o 0; show rpI A o 0 < 8; omega) k
theorem opB_r (A : Nt) (k : Nat) : (-1 ≤ (opB A k).1 ∧ (opB A k).1 ≤ k) ∧ -1 ≤ (opB A k).2 ∧ (opB A k).2 ≤ 100 := bstF_rng (fun k => (rpB_r A k (A.1 0 3)).2) ⟨⟨by decide, by decide⟩, by decide, by decide⟩ k
theorem opB_0 {A : Nt} (h : 0 < A.1 0 3) (k : Nat) : ∃ c : Nat, c < k + 1 ∧ opB A (k + 1) = ((c : Int), (rpB A c (A.1 0 3)).2) := bst_inv (by
  rw [gtB_t]
  obtain ⟨c, hc, e⟩ := rpB_0 A 0 (A.1 0 3 - 1)
  rw [show A.1 0 3 - 1 + 1 = A.1 0 3 by omega] at e
  show -1 < (rpB A 0 (A.1 0 3)).2
  rw [e]
  have := rpI_r A 0 c
  show -1 < rpI A 0 c
  omega) k
section RE
variable {A : Nt} {I : Nat → Nat → Int32} {L : Nat → Nat → Int64}
theorem ce_chooseReply (hR : RC A I 12 21) (hV : NV A) {o : Nat} (ho : o < A.1 0 3) : ∃ I', q_C kX10_chooseReply [.ref 87, .int (nI o)] I L none I' L ∧ I' 87 0 = iI (rpB A o (A.1 0 3)).2 ∧ I' 87 2 = iI (rpB A o (A.1 0 3)).1 ∧ I' 87 1 = I 87 1 ∧ FT I I' := by
  have h3 := hV.1.2.2.2.1
  have hfa : FT I (up2 (up2 I 87 2 (-1)) 87 0 8) := (FT_up (by omega)).tr (FT_up (by omega))
  obtain ⟨I1, c1, hP1, hf1⟩ := ce_asNow_81 (L := L) (hfa.RC hR)
  have hft1 : FT I (up2 (up2 I1 81 10 (nI o)) 81 12 1) := (hfa.tr (fun a k z => hf1 a k (by omega))).tr ((FT_up (by omega)).tr (FT_up (by omega)))
  have e87 : ∀ j, up2 (up2 I1 81 10 (nI o)) 81 12 1 87 j = up2 (up2 I 87 2 (-1)) 87 0 8 87 j := fun j => by rw [up2_p (by decide), up2_p (by decide), hf1 87 j (by decide)]
  have h := mloop (V := fun k I' J => v_X10_chooseReply_36 none I' L J L (nI k)) (Inv := fun k J => FT I J ∧ (∃ g, PC (Pgg A o g 1 (-1)) J 81) ∧ J 87 0 = iI (rpB A o k).2 ∧ J 87 2 = iI (rpB A o k).1 ∧ J 87 1 = I 87 1) (n := A.1 0 3) (Q := fun I' => I' 87 0 = iI (rpB A o (A.1 0 3)).2 ∧ I' 87 2 = iI (rpB A o (A.1 0 3)).1 ∧ I' 87 1 = I 87 1 ∧ FT I I') ?_ ?_ (up2 (up2 I1 81 10 (nI o)) 81 12 1) ⟨hft1, ⟨-1, by rw [nI_iI]; exact (hP1.more o).gh 1⟩, ?_, ?_, ?_⟩
  · obtain ⟨I', hw, hq⟩ := h
    exact ⟨I', c0_X10_chooseReply (vc_X10_chooseReply_0 ⟨I1, c1, hw⟩), hq⟩
  · rintro J ⟨hJ, hP, h1, h2, h4⟩
    have e4 : J 12 4 = nI (A.1 0 3) := (hJ.RC hR).1.2.2.2.2.1
    refine ⟨J, vc_X10_chooseReply_36 ?_, h1, h2, h4, hJ⟩
    rw [e4]
    exact ⟨fun _ => ⟨rfl, rfl, rfl⟩, fun z => absurd (nI_le (Nat.le_refl _) (by omega)) z⟩
  · rintro k J hk ⟨hJ, ⟨g, hP⟩, h1, h2, h4⟩
    have hRJ := hJ.RC hR
    have e4 : J 12 4 = nI (A.1 0 3) := hRJ.1.2.2.2.2.1
    have hP3 : PC (Pgg A o k 1 (-1)) (up2 J 81 11 (nI k)) 81 := by rw [nI_iI]; exact hP.gp k
    have hfu : FT J (up2 J 81 11 (nI k)) := FT_up (by omega)
    obtain ⟨I3, c3, h3', hf3⟩ := tr_run (L := L) (hfu.RC hRJ) hV hP3 (PV_Pgg hV (Or.inr ⟨by omega, by omega⟩) (Or.inr ⟨by omega, by omega⟩) ⟨by omega, by omega⟩ ⟨by omega, by omega⟩)
    have hP4 : PC (Pgg A o k 1 (-1)) I3 81 := PC_of (fun j => hf3 81 j (by omega)) hP3
    have hft3 : FT I I3 := hJ.tr (hfu.tr hf3.t)
    have g1 : I3 87 0 = iI (rpB A o k).2 := by rw [hf3 87 0 (by omega), up2_p (by decide)]; exact h1
    have g2 : I3 87 2 = iI (rpB A o k).1 := by rw [hf3 87 2 (by omega), up2_p (by decide)]; exact h2
    have g4 : I3 87 1 = I 87 1 := by rw [hf3 87 1 (by omega), up2_p (by decide)]; exact h4
    have hb := rpB_r A o k
    have hl := rpI_r A o k
    have hcmp : iI (rpB A o k).2 ≤ nI (pc7 (lastL A (Pgg A o k 1 (-1)))) ↔ (rpB A o k).2 ≤ rpI A o k := by rw [lmI_n]; exact iI_le (by omega) (by show _ ≤ rpI A o k ∧ rpI A o k < _; omega)
    by_cases z : (rpB A o k).2 ≤ rpI A o k
    · have e : rpB A o (k + 1) = rpB A o k := bstF_n (by rw [ltB_t]; exact Int.not_lt.mpr z)
      refine ⟨I3, ⟨hft3, ⟨k, hP4⟩, by rw [e]; exact g1, by rw [e]; exact g2, g4⟩, fun I' hw => vc_X10_chooseReply_36 ?_⟩
      rw [e4]
      refine ⟨fun q => absurd q (nI_ge hk (by omega)), fun _ => ⟨_, I3, c3, ?_⟩⟩
      rw [g1, hcmp, nI_1]
      exact ⟨fun _ => hw, fun q => absurd z q⟩
    · have e : rpB A o (k + 1) = ((k : Int), rpI A o k) := bstF_y (by rw [ltB_t]; exact Int.not_le.mp z)
      refine ⟨up2 (up2 I3 87 0 (nI (pc7 (lastL A (Pgg A o k 1 (-1)))))) 87 2 (nI k), ⟨(hft3.tr (FT_up (by omega))).tr (FT_up (by omega)), ⟨k, PC_of (fun j => by rw [up2_p (by decide), up2_p (by decide)]) hP4⟩, ?_, ?_, ?_⟩, fun I' hw => vc_X10_chooseReply_36 ?_⟩
      · rw [up2_k (by decide), up2_s, e, lmI_n]; rfl
      · rw [up2_s, e, nI_iI]
      · rw [up2_k (by decide), up2_k (by decide)]; exact g4
      · rw [e4]
        refine ⟨fun q => absurd q (nI_ge hk (by omega)), fun _ => ⟨_, I3, c3, ?_⟩⟩
        rw [g1, hcmp, nI_1]
        exact ⟨fun q => absurd q z, fun _ => hw⟩
  · rw [e87, up2_s]; rfl
  · rw [e87, up2_k (by decide), up2_s]; rfl
  · rw [e87, up2_k (by decide), up2_k (by decide)]
theorem ce_chooseOpening (hR : RC A I 12 21) (hV : NV A) : ∃ I', q_C kX10_chooseOpening [.ref 87] I L none I' L ∧ I' 87 0 = iI (opB A (A.1 0 3)).2 ∧ I' 87 1 = iI (opB A (A.1 0 3)).1 ∧ FT I I' := by
  have h3 := hV.1.2.2.2.1
  have h := mloop (V := fun k I' J => v_X10_chooseOpening_9 none I' L J L (iI (opB A k).2) (nI k)) (Inv := fun k J => FT I J ∧ J 87 1 = iI (opB A k).1) (n := A.1 0 3) (Q := fun I' => I' 87 0 = iI (opB A (A.1 0 3)).2 ∧ I' 87 1 = iI (opB A (A.1 0 3)).1 ∧ FT I I') ?_ ?_ (up2 I 87 1 (-1)) ⟨FT_up (by omega), by rw [up2_s]; rfl⟩
  · obtain ⟨I', hw, hq⟩ := h
    exact ⟨I', c0_X10_chooseOpening (vc_X10_chooseOpening_0 hw), hq⟩
  · rintro J ⟨hJ, h1⟩
    have e4 : J 12 4 = nI (A.1 0 3) := (hJ.RC hR).1.2.2.2.2.1
    refine ⟨_, vc_X10_chooseOpening_9 ?_, up2_s _ _ _ _, by rw [up2_k (by decide)]; exact h1, hJ.tr (FT_up (by omega))⟩
    rw [e4]
    exact ⟨fun _ => ⟨rfl, rfl, rfl⟩, fun z => absurd (nI_le (Nat.le_refl _) (by omega)) z⟩
  · rintro k J hk ⟨hJ, h1⟩
    have hRJ := hJ.RC hR
    have e4 : J 12 4 = nI (A.1 0 3) := hRJ.1.2.2.2.2.1
    obtain ⟨I1, c1, g0, g2, g1, hf1⟩ := ce_chooseReply (L := L) hRJ hV hk
    have hb := opB_r A k
    have hl := rpB_r A k (A.1 0 3)
    have hcmp : iI (rpB A k (A.1 0 3)).2 ≤ iI (opB A k).2 ↔ (rpB A k (A.1 0 3)).2 ≤ (opB A k).2 := iI_le (by omega) (by omega)
    by_cases z : (rpB A k (A.1 0 3)).2 ≤ (opB A k).2
    · have e : opB A (k + 1) = opB A k := bstF_n (by rw [gtB_t]; exact Int.not_lt.mpr z)
      refine ⟨I1, ⟨hJ.tr hf1, by rw [g1, h1, e]⟩, fun I' hw => vc_X10_chooseOpening_9 ?_⟩
      rw [e4]
      rw [e] at hw
      refine ⟨fun q => absurd q (nI_ge hk (by omega)), fun _ => ⟨I1, c1, ?_⟩⟩
      rw [g0, hcmp, nI_1]
      exact ⟨fun _ => hw, fun q => absurd z q⟩
    · have e : opB A (k + 1) = ((k : Int), (rpB A k (A.1 0 3)).2) := bstF_y (by rw [gtB_t]; exact Int.not_le.mp z)
      refine ⟨up2 I1 87 1 (nI k), ⟨(hJ.tr hf1).tr (FT_up (by omega)), by rw [up2_s, e, nI_iI]⟩, fun I' hw => vc_X10_chooseOpening_9 ?_⟩
      rw [e4]
      rw [e] at hw
      refine ⟨fun q => absurd q (nI_ge hk (by omega)), fun _ => ⟨I1, c1, ?_⟩⟩
      rw [g0, hcmp, nI_1]
      exact ⟨fun q => absurd q z, fun _ => hw⟩
/-- the reference's -/
def PMx (A : Nt) (J : Nat → Nat → Int32) : Prop := ∃ a b c, PMd (Pgg A a b c (-1)) J
theorem cm_turns (hR : RM A I 97 0) (hV : NV A) (hP : PMx A I) {o p : Nat} (ho : o < A.1 0 3) (hp : p < A.1 0 3) : ∃ I', q_C kX12_litByTurns [.ref 96, .int (nI o), .int (nI p)] I L (some (.int (iI (rpI A o p)))) I' L ∧ RM A I' 97 0 ∧ PMx A I' ∧ Mq I I' := by
  obtain ⟨a, b, c, hP⟩ := hP
  have hP1 : PMd (Pgg A o p 1 (-1)) (up2 (up2 (up2 I 96 20 (nI o)) 96 21 (nI p)) 96 22 1) := by
    rw [nI_iI o, nI_iI p]
    exact ((hP.more o).gp p).gh 1
  have hf0 : Mq I (up2 (up2 (up2 I 96 20 (nI o)) 96 21 (nI p)) 96 22 1) := fun a k q => by rw [up2_o' (by omega), up2_o' (by omega), up2_o' (by omega)]
  obtain ⟨I1, c1, h1, hf1⟩ := tr_go (L := L) (RM_of (fun k => hf0 97 k (by omega)) hR) hV hP1 (PV_Pgg hV (Or.inr ⟨by omega, by omega⟩) (Or.inr ⟨by omega, by omega⟩) ⟨by omega, by omega⟩ ⟨by omega, by omega⟩) (fun _ => by show (p : Int) ≠ -1; omega)
  have hl := mq_lastMany (L := L) h1
  rw [lmI_n] at hl
  exact ⟨I1, c0_X12_litByTurns (vc_X12_litByTurns_0 ⟨I1, c1, _, hl, rfl, rfl, rfl⟩), h1.1.1, ⟨_, _, _, PMd_of (fun k => hf1 96 k (by omega)) hP1⟩, hf0.tr hf1.q⟩
theorem cm_repliesTo (hR : RM A I 97 0) (hV : NV A) (hP : PMx A I) {o : Nat} (ho : o < A.1 0 3) : ∃ I', q_C kX12_repliesTo [.ref 96, .int (nI o)] I L (some (.int (iI (rpB A o (A.1 0 3)).1))) I' L ∧ RM A I' 97 0 ∧ PMx A I' ∧ Mq I I' := by
  have h3 := hV.1.2.2.2.1
  have e1 : A.1 0 3 - 1 + 1 = A.1 0 3 := by omega
  have h := mloop (V := fun k I' J => v_X12_repliesTo_4 (some (.int (iI (rpB A o (A.1 0 3)).1))) I' L J L (nI o) (iI (rpB A o (k + 1)).1) (nI (k + 1))) (Inv := fun k J => RM A J 97 0 ∧ PMx A J ∧ Mq I J) (n := A.1 0 3 - 1) (Q := fun I' => RM A I' 97 0 ∧ PMx A I' ∧ Mq I I') ?_ ?_ I ⟨hR, hP, Mq.rf⟩
  · obtain ⟨I', hw, hq⟩ := h
    refine ⟨I', c0_X12_repliesTo (vc_X12_repliesTo_0 ?_), hq⟩
    obtain ⟨c, hc, e⟩ := rpB_0 A o 0
    have : c = 0 := by omega
    subst this
    rw [e] at hw
    exact hw
  · rintro J ⟨hJ, hq⟩
    rw [e1]
    exact ⟨J, vc_X12_repliesTo_4 ⟨_, ct_pews hJ, fun _ => ⟨rfl, rfl, rfl⟩, fun z => absurd (nI_le (Nat.le_refl _) (by omega)) z⟩, hJ, hq⟩
  · rintro k J hk ⟨hRJ, hPJ, hMJ⟩
    obtain ⟨c, hc, e⟩ := rpB_0 A o k
    obtain ⟨I1, c1, hR1, hP1, hM1⟩ := cm_turns (L := L) hRJ hV hPJ ho (p := k + 1) (by omega)
    obtain ⟨I2, c2, hR2, hP2, hM2⟩ := cm_turns (L := L) hR1 hV hP1 ho (p := c) (by omega)
    refine ⟨I2, ⟨hR2, hP2, hMJ.tr (hM1.tr hM2)⟩, fun I' hw => vc_X12_repliesTo_4 ⟨_, ct_pews hRJ, fun z => absurd z (nI_ge (by omega) (by omega)), fun _ => ⟨_, I1, c1, iI (rpI A o c), I2, ?_, ?_⟩⟩⟩
    · rw [e]; rw [nI_iI c] at c2; exact c2
    · have r1 := rpI_r A o c
      have r2 := rpI_r A o (k + 1)
      rw [iI_le (by omega) (by omega), nI_1]
      refine ⟨fun z => ?_, fun z => ?_⟩
      · have e2 : rpB A o (k + 1 + 1) = rpB A o (k + 1) := bstF_n (by rw [ltB_t]; show ¬ rpI A o (k + 1) < (rpB A o (k + 1)).2; rw [e]; show ¬ rpI A o (k + 1) < rpI A o c; omega)
        rw [e2] at hw
        exact hw
      · have e2 : rpB A o (k + 1 + 1) = (((k + 1 : Nat) : Int), rpI A o (k + 1)) := bstF_y (by rw [ltB_t]; show rpI A o (k + 1) < (rpB A o (k + 1)).2; rw [e]; show rpI A o (k + 1) < rpI A o c; omega)
        rw [e2] at hw
        rw [nI_iI (k + 1)]
        exact hw
/-- the rector's turn as a whole -/
theorem cm_both (hR : RM A I 97 0) (hV : NV A) (hP : PMx A I) {o : Nat} (ho : o < A.1 0 3) : ∃ r2 I3, q_C kX12_repliesTo [.ref 96, .int (nI o)] I L (some (.int r2)) I3 L ∧ ∃ I5, q_C kX12_litByTurns [.ref 96, .int (nI o), .int r2] I3 L (some (.int (iI (rpB A o (A.1 0 3)).2))) I5 L ∧ RM A I5 97 0 ∧ PMx A I5 ∧ Mq I I5 := by
  obtain ⟨I1, c1, hR1, hP1, hM1⟩ := cm_repliesTo (L := L) hR hV hP ho
  obtain ⟨c, hc, e⟩ := rpB_0 A o (A.1 0 3 - 1)
  rw [show A.1 0 3 - 1 + 1 = A.1 0 3 by omega] at e
  obtain ⟨I2, c2, hR2, hP2, hM2⟩ := cm_turns (L := L) hR1 hV hP1 ho (p := c) (by omega)
  refine ⟨_, I1, c1, I2, ?_, hR2, hP2, hM1.tr hM2⟩
  rw [e]
  rw [nI_iI c] at c2
  exact c2
theorem cm_opensOf (hR : RM A I 97 0) (hV : NV A) (hP : PMx A I) : ∃ I', q_C kX12_opensOf [.ref 96] I L (some (.int (iI (opB A (A.1 0 3)).1))) I' L ∧ RM A I' 97 0 ∧ PMx A I' ∧ Mq I I' := by
  have h3 := hV.1.2.2.2.1
  have h := mloop (V := fun k I' J => v_X12_opensOf_6 (some (.int (iI (opB A (A.1 0 3)).1))) I' L J L (iI (opB A k).1) (iI (opB A k).2) (nI k)) (Inv := fun k J => RM A J 97 0 ∧ PMx A J ∧ Mq I J) (n := A.1 0 3) (Q := fun I' => RM A I' 97 0 ∧ PMx A I' ∧ Mq I I') ?_ ?_ I ⟨hR, hP, Mq.rf⟩
  · obtain ⟨I', hw, hq⟩ := h
    exact ⟨I', c0_X12_opensOf (vc_X12_opensOf_0 hw), hq⟩
  · rintro J ⟨hJ, hq⟩
    exact ⟨J, vc_X12_opensOf_6 ⟨_, ct_pews hJ, fun _ => ⟨rfl, rfl, rfl⟩, fun z => absurd (nI_le (Nat.le_refl _) (by omega)) z⟩, hJ, hq⟩
  · rintro k J hk ⟨hRJ, hPJ, hMJ⟩
    obtain ⟨r2, I3, c3, I5, c5, hR5, hP5, hM5⟩ := cm_both (L := L) hRJ hV hPJ hk
    refine ⟨I5, ⟨hR5, hP5, hMJ.tr hM5⟩, fun I' hw => vc_X12_opensOf_6 ⟨_, ct_pews hRJ, fun z => absurd z (nI_ge hk (by omega)), fun _ => ⟨r2, I3, c3, _, I5, c5, ?_⟩⟩⟩
    have hb := opB_r A k
    have hl := rpB_r A k (A.1 0 3)
    rw [iI_lt (by omega) (by omega), nI_1]
    refine ⟨fun z => ?_, fun z => ?_⟩
    · have e : opB A (k + 1) = ((k : Int), (rpB A k (A.1 0 3)).2) := bstF_y (by rw [gtB_t]; exact z)
      rw [e] at hw
      rw [nI_iI k]
      exact hw
    · have e : opB A (k + 1) = opB A k := bstF_n (by rw [gtB_t]; exact z)
      rw [e] at hw
      exact hw
end RE
theorem cm_as {A : Nt} {I : Nat → Nat → Int32} {L : Nat → Nat → Int64} (hR : RM A I 97 0) : ∃ I', q_C kX12_asItIs [.ref 96] I L none I' L ∧ PMd (P0 A) I' ∧ I' 96 19 = 1 ∧ Mq I I' ∧ RM A I' 97 0 := by
  obtain ⟨I1, c1, hP1, h19, hf1⟩ := ce_asItIs (L := L) hR
  exact ⟨I1, c1, hP1, h19, fun a k q => hf1 a k (by omega), RM_of (fun k => hf1 97 k (by omega)) hR⟩
theorem PMx_0 {A : Nt} {J : Nat → Nat → Int32} (h : PMd (P0 A) J) : PMx A J := ⟨-1, -1, -1, h⟩
theorem q_replies (Z : St) (x : Int32) : ∃ v, Q2 Z Z kX11_replies kX12_replies [.int x] (.int v) := by
  by_cases hh : bp Z.1 x
  · refine ⟨-2, QC_q fun I L hr => ⟨I, c0_X11_replies (vc_X11_replies_0 ⟨_, ct_noPew hr.1.1.1 x, g1p hh ⟨rfl, rfl, rfl⟩⟩), Fq.rf, hr.2.1, hr.2.2⟩, QM_q fun I L hr => ?_⟩
    obtain ⟨I1, c1, -, -, hM1, hR1⟩ := cm_as (L := L) hr.1.1
    exact ⟨I1, c0_X12_replies (vc_X12_replies_0 ⟨I1, c1, _, ct_isPew hR1 hr.1.2 x, g0p hh ⟨rfl, rfl, rfl⟩⟩), hM1⟩
  refine ⟨iI (rpB Z.1 x.toNatClampNeg (Z.1.1 0 3)).1, QC_q fun I L hr => ?_, QM_q fun I L hr => ?_⟩
  · have hV := hr.1.1.2
    have h3 := hV.1.2.2.2.1
    obtain ⟨p, hp, hx⟩ := xPew hV hh
    subst hx
    rw [u_cl (n := p) (by omega)]
    obtain ⟨I1, c1, g0, g2, g1, hf1⟩ := ce_chooseReply (L := L) hr.1.1.1 hV hp
    exact ⟨I1, c0_X11_replies (vc_X11_replies_0 ⟨_, ct_noPew hr.1.1.1 _, g1n hh ⟨I1, c1, by rw [g2], rfl, rfl⟩⟩), hf1.rel hr⟩
  · have hV := hr.1.2
    have h3 := hV.1.2.2.2.1
    obtain ⟨p, hp, hx⟩ := xPew hV hh
    subst hx
    rw [u_cl (n := p) (by omega)]
    obtain ⟨I1, c1, hP1, -, hM1, hR1⟩ := cm_as (L := L) hr.1.1
    obtain ⟨I2, c2, hR2, hP2, hM2⟩ := cm_repliesTo (L := L) hR1 hV (PMx_0 hP1) hp
    exact ⟨I2, c0_X12_replies (vc_X12_replies_0 ⟨I1, c1, _, ct_isPew hR1 hr.1.2 _, g0n hh ⟨_, I2, c2, rfl, rfl, rfl⟩⟩), hM1.tr hM2⟩
theorem q_opens (Z : St) : ∃ v, Q2 Z Z kX11_opens kX12_opens [] (.int v) := by
  by_cases hh : Z.1.1 0 8 = 0
  · refine ⟨-2, QC_q fun I L hr => ⟨I, c0_X11_opens (vc_X11_opens_0 ⟨_, ct_noNight hr.1.1.1 hr.1.1.2, g1p hh ⟨rfl, rfl, rfl⟩⟩), Fq.rf, hr.2.1, hr.2.2⟩, QM_q fun I L hr => ?_⟩
    obtain ⟨I1, c1, -, -, hM1, hR1⟩ := cm_as (L := L) hr.1.1
    exact ⟨I1, c0_X12_opens (vc_X12_opens_0 ⟨I1, c1, _, ct_isNight hR1 hr.1.2, g0p hh ⟨rfl, rfl, rfl⟩⟩), hM1⟩
  refine ⟨iI (opB Z.1 (Z.1.1 0 3)).1, QC_q fun I L hr => ?_, QM_q fun I L hr => ?_⟩
  · obtain ⟨I1, c1, g0, g1, hf1⟩ := ce_chooseOpening (L := L) hr.1.1.1 hr.1.1.2
    exact ⟨I1, c0_X11_opens (vc_X11_opens_0 ⟨_, ct_noNight hr.1.1.1 hr.1.1.2, g1n hh ⟨I1, c1, by rw [g1], rfl, rfl⟩⟩), hf1.rel hr⟩
  · obtain ⟨I1, c1, hP1, -, hM1, hR1⟩ := cm_as (L := L) hr.1.1
    obtain ⟨I2, c2, hR2, hP2, hM2⟩ := cm_opensOf (L := L) hR1 hr.1.2 (PMx_0 hP1)
    exact ⟨I2, c0_X12_opens (vc_X12_opens_0 ⟨I1, c1, _, ct_isNight hR1 hr.1.2, g0n hh ⟨_, I2, c2, rfl, rfl, rfl⟩⟩), hM1.tr hM2⟩
theorem q_rector (Z : St) : ∃ v, Q2 Z Z kX11_rector kX12_rector [] (.int v) := by
  by_cases hh : Z.1.1 0 3 = 0
  · refine ⟨-1000, QC_q fun I L hr => ⟨I, c0_X11_rector (vc_X11_rector_0 ?_), Fq.rf, hr.2.1, hr.2.2⟩, QM_q fun I L hr => ?_⟩
    · have e4 : I 12 4 = nI (Z.1.1 0 3) := hr.1.1.1.1.2.2.2.2.1
      rw [e4, hh]
      exact ⟨fun _ => ⟨rfl, rfl, rfl⟩, fun z => absurd rfl z⟩
    · obtain ⟨I1, c1, -, -, hM1, hR1⟩ := cm_as (L := L) hr.1.1
      refine ⟨I1, c0_X12_rector (vc_X12_rector_0 ⟨I1, c1, _, ct_pews hR1, ?_⟩), hM1⟩
      rw [hh]
      exact ⟨fun _ => ⟨rfl, rfl, rfl⟩, fun z => absurd rfl z⟩
  refine ⟨iI (opB Z.1 (Z.1.1 0 3)).2, QC_q fun I L hr => ?_, QM_q fun I L hr => ?_⟩
  · have h3 := hr.1.1.2.1.2.2.2.1
    obtain ⟨I1, c1, g0, g1, hf1⟩ := ce_chooseOpening (L := L) hr.1.1.1 hr.1.1.2
    refine ⟨I1, c0_X11_rector (vc_X11_rector_0 ?_), hf1.rel hr⟩
    have e4 : I 12 4 = nI (Z.1.1 0 3) := hr.1.1.1.1.2.2.2.2.1
    rw [e4, u_0 (by omega)]
    exact ⟨fun z => absurd z hh, fun _ => ⟨I1, c1, by rw [g0], rfl, rfl⟩⟩
  · have hV := hr.1.2
    have h3 := hr.1.2.1.2.2.2.1
    obtain ⟨I1, c1, hP1, -, hM1, hR1⟩ := cm_as (L := L) hr.1.1
    obtain ⟨I2, c2, hR2, hP2, hM2⟩ := cm_opensOf (L := L) hR1 hr.1.2 (PMx_0 hP1)
    obtain ⟨c, hc, e⟩ := opB_0 (A := Z.1) (by omega) (Z.1.1 0 3 - 1)
    rw [show Z.1.1 0 3 - 1 + 1 = Z.1.1 0 3 by omega] at e
    obtain ⟨r2, I3, c3, I5, c5, hR5, hP5, hM5⟩ := cm_both (L := L) hR2 hV hP2 (o := c) (by omega)
    refine ⟨I5, c0_X12_rector (vc_X12_rector_0 ⟨I1, c1, _, ct_pews hR1, ?_⟩), hM1.tr (hM2.tr hM5)⟩
    rw [u_0 (by omega)]
    refine ⟨fun z => absurd z hh, fun _ => ⟨_, I2, c2, r2, I3, ?_, iI (rpB Z.1 c (Z.1.1 0 3)).2, I5, ?_, ?_, rfl, rfl⟩⟩
    · rw [e]; rw [nI_iI c] at c3; exact c3
    · rw [e]; rw [nI_iI c] at c5; exact c5
    · rw [e]
