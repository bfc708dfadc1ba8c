/-! NIGHTS DRAWN. -/
def Psl (A : Nt) (s : Nat) : Pm := ((A.1 0 1, 0, s), (-1, -1, -1, -1), (false, 0, [1]))
theorem PV_Psl {A : Nt} (hV : NV A) {s : Nat} (hs : s < 65536) : PV A (Psl A s) := ⟨⟨hV.1.2.1, (PV_P0 hV).1.2.1, hs⟩, (PV_P0 hV).2.1, (PV_P0 hV).2.2⟩
def drX (x : Int64) : Int64 := ((1103515245 * x) + 12345) - ((1103515245 * x) + 12345) / 2147483648 * 2147483648
def drH (o : Nat) (z : Int64) : Bool := decide (¬ 0 ≤ (lg_cmp ((z / 65536) - (z / 65536) / 10 * 10) ((nI o) : Int32).toInt64))
def drF (o : Nat) (x : Int64) : Nat → Int64 × Nat
  | 0 => (x, 0)
  | k + 1 => (drX (drF o x k).1, (drF o x k).2 ||| (if drH o (drX (drF o x k).1) = true then 2 ^ k else 0))
theorem drF_lt (o : Nat) (x : Int64) : ∀ k, (drF o x k).2 < 2 ^ k
  | 0 => by show 0 < 2 ^ 0; decide
  | k + 1 => by
    show (drF o x k).2 ||| (if drH o (drX (drF o x k).1) = true then 2 ^ k else 0) < 2 ^ (k + 1)
    apply Nat.or_lt_two_pow
    · exact Nat.lt_of_lt_of_le (drF_lt o x k) (Nat.pow_le_pow_right (by decide) (by omega))
    · by_cases e : drH o (drX (drF o x k).1) = true
      · rw [if_pos e]; exact Nat.pow_lt_pow_right (by decide) (by omega)
      · rw [if_neg e]; exact Nat.two_pow_pos _
theorem drF_16 (o : Nat) (x : Int64) {k : Nat} (hk : k ≤ 12) : (drF o x k).2 < 4096 := Nat.lt_of_lt_of_le (drF_lt o x k) (show 2 ^ k ≤ 2 ^ 12 from Nat.pow_le_pow_right (by decide) hk)
theorem drF_y {o : Nat} {x : Int64} {k : Nat} (h : ¬ 0 ≤ (lg_cmp ((drX (drF o x k).1 / 65536) - (drX (drF o x k).1 / 65536) / 10 * 10) ((nI o) : Int32).toInt64)) : (drF o x (k + 1)).2 = (drF o x k).2 ||| 2 ^ k := by
  show (drF o x k).2 ||| (if drH o (drX (drF o x k).1) = true then 2 ^ k else 0) = _
  rw [if_pos (by unfold drH; exact decide_eq_true h)]
theorem drF_n {o : Nat} {x : Int64} {k : Nat} (h : 0 ≤ (lg_cmp ((drX (drF o x k).1 / 65536) - (drX (drF o x k).1 / 65536) / 10 * 10) ((nI o) : Int32).toInt64)) : (drF o x (k + 1)).2 = (drF o x k).2 := by
  show (drF o x k).2 ||| (if drH o (drX (drF o x k).1) = true then 2 ^ k else 0) = _
  rw [if_neg (by unfold drH; rw [decide_eq_true_iff]; exact fun z => z h)]
  simp
section DR
variable {A : Nt} {I : Nat → Nat → Int32} {L : Nat → Nat → Int64}
theorem ct_silenceDrawn (hR : RC A I 12 21) (hV : NV A) (x : Int64) : q_C kX1_silenceDrawn [.ref 95, .long x] I L (some (.int (nI (drF (A.1 0 2) x (A.1 0 0)).2))) I L := by
  have h0 := hV.1.1
  have e1 : I 12 1 = nI (A.1 0 0) := hR.1.2.1
  have e3 : I 12 3 = nI (A.1 0 2) := hR.1.2.2.2.1
  refine c0_X1_silenceDrawn (vc_X1_silenceDrawn_0 ?_)
  refine down (P := fun k => v_X1_silenceDrawn_8 (some (.int (nI (drF (A.1 0 2) x (A.1 0 0)).2))) I L I L (drF (A.1 0 2) x k).1 (nI (drF (A.1 0 2) x k).2) (nI k)) (n := A.1 0 0) ?_ ?_
  · refine vc_X1_silenceDrawn_8 ?_
    rw [e1]
    exact ⟨fun _ => ⟨rfl, rfl, rfl⟩, fun z => absurd (nI_le (Nat.le_refl _) (by omega)) z⟩
  · intro k hk ih
    refine vc_X1_silenceDrawn_8 ?_
    rw [e1, e3]
    refine ⟨fun z => absurd z (nI_ge hk (by omega)), fun _ z1 h1 => ?_⟩
    have h1 : z1 = drX (drF (A.1 0 2) x k).1 := h1
    subst h1
    refine ⟨fun z => ?_, fun z => ?_⟩
    · rw [nI_1]
      rw [drF_n z] at ih
      exact ih
    · rw [nI_1, u_one (by omega), u_or]
      rw [drF_y z] at ih
      exact ih
theorem ce_litAfter (hR : RC A I 12 21) (hV : NV A) {s : Nat} (hs : s < 65536) : ∃ I', q_C kX1_litAfter [.ref 95, .int (nI s)] I L (some (.int (nI (lastL A (Psl A s))))) I' L ∧ FT I I' := by
  have h0 := hV.1.1
  obtain ⟨I1, c1, h1, hf1⟩ := ce_asNow_81 (L := L) hR
  have h2 : PC (Psl A s) (up2 I1 81 9 (nI s)) 81 := h1.sil s
  have hfu : FT I (up2 I1 81 9 (nI s)) := FT.tr (fun a k z => hf1 a k (by omega)) (FT_up (by omega))
  obtain ⟨I2, c2, h3, hf2⟩ := tr_run (L := L) (hfu.RC hR) hV h2 (PV_Psl hV hs)
  have hft := hfu.tr hf2.t
  have e1 : I2 12 1 = nI (A.1 0 0) := (hft.RC hR).1.2.1
  have e2 : I2 82 (A.1 0 0) = nI (lastL A (Psl A s)) := h3.lit (Nat.le_refl _)
  refine ⟨I2, c0_X1_litAfter (vc_X1_litAfter_0 ⟨I1, c1, _, I2, c2, ?_⟩), hft⟩
  rw [e1, u_cl (by omega), e2]
  exact ⟨u_in (by omega) (by decide), rfl, rfl, rfl⟩
theorem cm_goDrawn (hR : RM A I 97 0) (hV : NV A) (x : Int64) : ∃ I', q_C kX12_goDrawn [.ref 96, .long x] I L none I' L ∧ SMo A (Psl A (drF (A.1 0 2) x (A.1 0 0)).2) I' ∧ Mq I I' ∧ I' 96 17 = nI (drF (A.1 0 2) x (A.1 0 0)).2 := by
  have h0 := hV.1.1
  have hlt := fun k (hk : k ≤ 12) => drF_16 (A.1 0 2) x hk
  obtain ⟨I0, c0, hP0, -, hM0, hR0⟩ := cm_as (L := L) hR
  have h := mloop (V := fun k I' J => v_X12_goDrawn_9 none I' L J L (drF (A.1 0 2) x k).1 (nI k)) (Inv := fun k J => Mq I J ∧ PMd (Psl A (drF (A.1 0 2) x k).2) J) (n := A.1 0 0) (Q := fun I' => SMo A (Psl A (drF (A.1 0 2) x (A.1 0 0)).2) I' ∧ Mq I I' ∧ I' 96 17 = nI (drF (A.1 0 2) x (A.1 0 0)).2) ?_ ?_ I0 ⟨hM0, hP0⟩
  · obtain ⟨I', hw, hq⟩ := h
    exact ⟨I', c0_X12_goDrawn (vc_X12_goDrawn_0 ⟨I0, c0, hw⟩), hq⟩
  · rintro J ⟨hJ, hP⟩
    have hRJ : RM A J 97 0 := RM_of (fun k => hJ 97 k (by omega)) hR
    have hl := hlt (A.1 0 0) h0
    obtain ⟨I1, c1, h1, hf1⟩ := tr_go (L := L) hRJ hV hP (PV_Psl hV (by omega)) (fun z => absurd rfl z)
    refine ⟨I1, vc_X12_goDrawn_9 ⟨_, ct_hours hRJ, fun _ => ⟨I1, c1, rfl, rfl, rfl⟩, fun z => absurd (nI_le (Nat.le_refl _) (by omega)) z⟩, h1, hJ.tr hf1.q, ?_⟩
    rw [hf1 96 17 (by omega)]
    exact hP.2.2.1
  · rintro k J hk ⟨hJ, hP⟩
    have hRJ : RM A J 97 0 := RM_of (fun k => hJ 97 k (by omega)) hR
    have e2 : J 97 (2 : Int32).toNatClampNeg = nI (A.1 0 2) := hRJ.1 2 (by decide)
    have e17 : J 96 17 = nI (drF (A.1 0 2) x k).2 := hP.2.2.1
    refine ⟨up2 J 96 17 (nI (drF (A.1 0 2) x (k + 1)).2), ⟨hJ.tr (fun a j q => up2_o' (by omega)), hP.sil _⟩, fun I' hw => vc_X12_goDrawn_9 ⟨_, ct_hours hRJ, fun z => absurd z (nI_ge hk (by omega)), fun _ z1 h1 => ?_⟩⟩
    have h1 : z1 = drX (drF (A.1 0 2) x k).1 := h1
    subst h1
    rw [e2, e17]
    refine ⟨by unfold vp_in; decide, fun z => ?_, fun z => ?_⟩
    · rw [nI_1, show (0 : Int32) = nI 0 from rfl, u_or, Nat.or_zero]
      rw [drF_n z] at hw
      exact hw
    · rw [nI_1, u_one (by omega), u_or]
      rw [drF_y z] at hw
      exact hw
theorem ct_isSeed (x : Int32) : q_C kX12_isSeed [.int x] I L (some (.int (if ib 0 2000000000 x then 0 else 1))) I L := by
  refine c0_X12_isSeed (vc_X12_isSeed_0 ⟨_, ct_inI x 0 2000000000, ?_, rfl, rfl, rfl⟩)
  by_cases q : ib 0 2000000000 x
  · rw [if_pos q]; exact Or.inl rfl
  · rw [if_neg q]; exact Or.inr rfl
end DR
theorem q_drawn (Z : St) (x y : Int32) : ∃ v, Q2 Z Z kX11_drawn kX12_drawn [.int x, .int y] (.int v) := by
  by_cases h8 : Z.1.1 0 8 = 0
  · exact ⟨-2, QC_q fun I L hr => ⟨I, c0_X11_drawn (vc_X11_drawn_0 ⟨_, ct_noNight hr.1.1.1 hr.1.1.2, g1p h8 ⟨rfl, rfl, rfl⟩⟩), Fq.rf, hr.2.1, hr.2.2⟩, QM_q fun I L hr => ⟨I, c0_X12_drawn (vc_X12_drawn_0 ⟨_, ct_isNight hr.1.1 hr.1.2, g0p h8 ⟨rfl, rfl, rfl⟩⟩), Mq.rf⟩⟩
  by_cases hx : ib 0 2000000000 x
  · exact ⟨-2, QC_q fun I L hr => ⟨I, c0_X11_drawn (vc_X11_drawn_0 ⟨_, ct_noNight hr.1.1.1 hr.1.1.2, g1n h8 ⟨_, ct_noSeed x, g1p hx ⟨rfl, rfl, rfl⟩⟩⟩), Fq.rf, hr.2.1, hr.2.2⟩, QM_q fun I L hr => ⟨I, c0_X12_drawn (vc_X12_drawn_0 ⟨_, ct_isNight hr.1.1 hr.1.2, g0n h8 ⟨_, ct_isSeed x, g0p hx ⟨rfl, rfl, rfl⟩⟩⟩), Mq.rf⟩⟩
  by_cases hy : ib 0 1 y
  · exact ⟨-2, QC_q fun I L hr => ⟨I, c0_X11_drawn (vc_X11_drawn_0 ⟨_, ct_noNight hr.1.1.1 hr.1.1.2, g1n h8 ⟨_, ct_noSeed x, g1n hx ⟨_, ct_noPart y, g1p hy ⟨rfl, rfl, rfl⟩⟩⟩⟩), Fq.rf, hr.2.1, hr.2.2⟩, QM_q fun I L hr => ⟨I, c0_X12_drawn (vc_X12_drawn_0 ⟨_, ct_isNight hr.1.1 hr.1.2, g0n h8 ⟨_, ct_isSeed x, g0n hx ⟨_, ct_inI y 0 1, g0p hy ⟨rfl, rfl, rfl⟩⟩⟩⟩), Mq.rf⟩⟩
  refine ⟨if y = 0 then nI (drF (Z.1.1 0 2) x.toInt64 (Z.1.1 0 0)).2 else nI (lastL Z.1 (Psl Z.1 (drF (Z.1.1 0 2) x.toInt64 (Z.1.1 0 0)).2)), QC_q fun I L hr => ?_, QM_q fun I L hr => ?_⟩
  · have hV := hr.1.1.2
    have hl := drF_16 (Z.1.1 0 2) x.toInt64 hV.1.1
    have cs := ct_silenceDrawn (L := L) hr.1.1.1 hV x.toInt64
    by_cases hy0 : y = 0
    · rw [if_pos hy0]
      exact ⟨I, c0_X11_drawn (vc_X11_drawn_0 ⟨_, ct_noNight hr.1.1.1 hV, g1n h8 ⟨_, ct_noSeed x, g1n hx ⟨_, ct_noPart y, g1n hy ⟨_, cs, fun _ => ⟨rfl, rfl, rfl⟩, fun z => absurd hy0 z⟩⟩⟩⟩), Fq.rf, hr.2.1, hr.2.2⟩
    · rw [if_neg hy0]
      obtain ⟨I1, c1, hf1⟩ := ce_litAfter (L := L) hr.1.1.1 hV (s := (drF (Z.1.1 0 2) x.toInt64 (Z.1.1 0 0)).2) (by omega)
      exact ⟨I1, c0_X11_drawn (vc_X11_drawn_0 ⟨_, ct_noNight hr.1.1.1 hV, g1n h8 ⟨_, ct_noSeed x, g1n hx ⟨_, ct_noPart y, g1n hy ⟨_, cs, fun z => absurd z hy0, fun _ => ⟨_, I1, c1, rfl, rfl, rfl⟩⟩⟩⟩⟩), hf1.rel hr⟩
  · have hV := hr.1.2
    obtain ⟨I1, c1, h1, hM1, h17⟩ := cm_goDrawn (L := L) hr.1.1 hV x.toInt64
    refine ⟨I1, c0_X12_drawn (vc_X12_drawn_0 ⟨_, ct_isNight hr.1.1 hV, g0n h8 ⟨_, ct_isSeed x, g0n hx ⟨_, ct_inI y 0 1, g0n hy ⟨I1, c1, fun z => ?_, fun z => ?_⟩⟩⟩⟩), hM1⟩
    · rw [if_pos z, h17]; exact ⟨rfl, rfl, rfl⟩
    · rw [if_neg z]; exact ⟨_, mq_litLast h1, rfl, rfl, rfl⟩
def lkB (A : Nt) (x : Int64) (p : Nat) (i : Nat) : Bool := !(rows A (Psl A (drF (A.1 0 2) (x + ((nI i) : Int32).toInt64) (A.1 0 0)).2) (A.1 0 0) p).1.isEmpty
theorem q_luck (Z : St) (x y u : Int32) : ∃ v, Q2 Z Z kX11_luck kX12_luck [.int x, .int y, .int u] (.int v) := by
  by_cases hu : bp Z.1 u
  · refine ⟨-2, QC_q fun I L hr => ⟨I, c0_X11_luck (vc_X11_luck_0 ⟨_, ct_noPew hr.1.1.1 u, g1p hu ⟨rfl, rfl, rfl⟩⟩), Fq.rf, hr.2.1, hr.2.2⟩, QM_q fun I L hr => ⟨I, c0_X12_luck (vc_X12_luck_0 ⟨_, ct_isSeed x, ?_⟩), Mq.rf⟩⟩
    by_cases hx : ib 0 2000000000 x
    · exact g0p hx ⟨rfl, rfl, rfl⟩
    · refine g0n hx ⟨_, ct_inI y 1 20, ?_⟩
      by_cases hy : ib 1 20 y
      · exact g0p hy ⟨rfl, rfl, rfl⟩
      · exact g0n hy ⟨_, ct_isPew hr.1.1 hr.1.2 u, g0p hu ⟨rfl, rfl, rfl⟩⟩
  by_cases hx : ib 0 2000000000 x
  · exact ⟨-2, QC_q fun I L hr => ⟨I, c0_X11_luck (vc_X11_luck_0 ⟨_, ct_noPew hr.1.1.1 u, g1n hu ⟨_, ct_noSeed x, g1p hx ⟨rfl, rfl, rfl⟩⟩⟩), Fq.rf, hr.2.1, hr.2.2⟩, QM_q fun I L hr => ⟨I, c0_X12_luck (vc_X12_luck_0 ⟨_, ct_isSeed x, g0p hx ⟨rfl, rfl, rfl⟩⟩), Mq.rf⟩⟩
  by_cases hy : ib 1 20 y
  · refine ⟨-2, QC_q fun I L hr => ⟨I, c0_X11_luck (vc_X11_luck_0 ⟨_, ct_noPew hr.1.1.1 u, g1n hu ⟨_, ct_noSeed x, g1n hx ⟨fun _ => ⟨rfl, rfl, rfl⟩, fun z => ⟨fun z2 => ?_, fun _ => ⟨rfl, rfl, rfl⟩⟩⟩⟩⟩), Fq.rf, hr.2.1, hr.2.2⟩, QM_q fun I L hr => ⟨I, c0_X12_luck (vc_X12_luck_0 ⟨_, ct_isSeed x, g0n hx ⟨_, ct_inI y 1 20, g0p hy ⟨rfl, rfl, rfl⟩⟩⟩), Mq.rf⟩⟩
    exact (hy.elim z (fun q => absurd z2 (Int32.not_le.mpr q))).elim
  obtain ⟨n, hn1, hn, hyn⟩ := xIn (a := 1) (b := 20) (by decide) (by decide) hy
  refine ⟨nI (cntF (lkB Z.1 x.toInt64 u.toNatClampNeg) n), QC_q fun I L hr => ?_, QM_q fun I L hr => ?_⟩
  · have hV := hr.1.1.2
    have h0 := hV.1.1
    have h3 := hV.1.2.2.2.1
    obtain ⟨p, hp, hup⟩ := xPew hV hu
    subst hup
    rw [u_cl (n := p) (by omega)]
    have h := mloop (V := fun k I' J => v_X11_luck_35 (some (.int (nI (cntF (lkB Z.1 x.toInt64 p) n)))) I' L J L x y (nI p) (nI (cntF (lkB Z.1 x.toInt64 p) k)) (nI k)) (Inv := fun k J => FT I J) (n := n) (Q := fun I' => FT I I') ?_ ?_ I FT.rf
    · obtain ⟨I', hw, hf⟩ := h
      refine ⟨I', c0_X11_luck (vc_X11_luck_0 ⟨_, ct_noPew hr.1.1.1 _, g1n hu ⟨_, ct_noSeed x, g1n hx ⟨fun z => absurd (Or.inl z) hy, fun _ => ⟨fun _ => hw, fun z => absurd (Or.inr (Int32.not_le.mp z)) hy⟩⟩⟩⟩), hf.rel hr⟩
    · intro J hJ
      refine ⟨J, vc_X11_luck_35 ?_, hJ⟩
      rw [hyn]
      exact ⟨fun _ => ⟨rfl, rfl, rfl⟩, fun z => absurd (nI_le (Nat.le_refl _) (by omega)) z⟩
    · intro k J hk hJ
      have hRJ := hJ.RC hr.1.1.1
      have hl := drF_16 (Z.1.1 0 2) (x.toInt64 + ((nI k) : Int32).toInt64) hV.1.1
      obtain ⟨I1, c1, hf1⟩ := ce_litAfter (L := L) hRJ hV (s := (drF (Z.1.1 0 2) (x.toInt64 + ((nI k) : Int32).toInt64) (Z.1.1 0 0)).2) (by omega)
      refine ⟨I1, hJ.tr hf1, fun I' hw => vc_X11_luck_35 ?_⟩
      rw [hyn] at hw ⊢
      refine ⟨fun z => absurd z (nI_ge hk (by omega)), fun _ => ⟨_, ct_silenceDrawn hRJ hV _, _, I1, c1, ?_⟩⟩
      have hll := lastL_lt hV (Psl Z.1 (drF (Z.1.1 0 2) (x.toInt64 + ((nI k) : Int32).toInt64) (Z.1.1 0 0)).2)
      have htb : (lastL Z.1 (Psl Z.1 (drF (Z.1.1 0 2) (x.toInt64 + ((nI k) : Int32).toInt64) (Z.1.1 0 0)).2)).testBit p = lkB Z.1 x.toInt64 p k := by
        unfold lastL lkB
        rw [litB_tb]
        simp [hp]
      rw [nI_1, u_bit (by omega) (by omega), u_add]
      cases hb : lkB Z.1 x.toInt64 p k with
      | true =>
        rw [hb] at htb
        rw [(tb1 _ _).mpr htb]
        rw [cntF_y hb] at hw
        exact hw
      | false =>
        rw [hb] at htb
        rw [(tb0 _ _).mpr htb]
        rw [cntF_n hb] at hw
        exact hw
  · have hV := hr.1.2
    have h0 := hV.1.1
    have h3 := hV.1.2.2.2.1
    obtain ⟨p, hp, hup⟩ := xPew hV hu
    subst hup
    rw [u_cl (n := p) (by omega)]
    have h := mloop (V := fun k I' J => v_X12_luck_37 (some (.int (nI (cntF (lkB Z.1 x.toInt64 p) n)))) I' L J L x y (nI p) (nI (cntF (lkB Z.1 x.toInt64 p) k)) (nI k)) (Inv := fun k J => Mq I J) (n := n) (Q := fun I' => Mq I I') ?_ ?_ I Mq.rf
    · obtain ⟨I', hw, hf⟩ := h
      exact ⟨I', c0_X12_luck (vc_X12_luck_0 ⟨_, ct_isSeed x, g0n hx ⟨_, ct_inI y 1 20, g0n hy ⟨_, ct_isPew hr.1.1 hV _, g0n hu hw⟩⟩⟩), hf⟩
    · intro J hJ
      refine ⟨J, vc_X12_luck_37 ?_, hJ⟩
      rw [hyn]
      exact ⟨fun _ => ⟨rfl, rfl, rfl⟩, fun z => absurd (nI_le (Nat.le_refl _) (by omega)) z⟩
    · intro k J hk hJ
      have hRJ : RM Z.1 J 97 0 := RM_of (fun k => hJ 97 k (by omega)) hr.1.1
      obtain ⟨I1, c1, h1, hM1, -⟩ := cm_goDrawn (L := L) hRJ hV (x.toInt64 + ((nI k) : Int32).toInt64)
      refine ⟨I1, hJ.tr hM1, fun I' hw => vc_X12_luck_37 ?_⟩
      rw [hyn] at hw ⊢
      refine ⟨fun z => absurd z (nI_ge hk (by omega)), fun _ => ⟨I1, c1, _, ct_hours h1.1.1, _, mq_says h1 (Nat.le_refl _) hp, ?_⟩⟩
      rw [mE_le0 (h1.cv hp).1, nI_1, show (0 : Int32) = nI 0 from rfl, u_add, nI_1]
      refine ⟨fun z => ?_, fun z => ?_⟩
      · rw [cntF_n (show lkB Z.1 x.toInt64 p k = false by unfold lkB; rw [z]; rfl)] at hw
        exact hw
      · rw [cntF_y (show lkB Z.1 x.toInt64 p k = true by unfold lkB; simpa using z)] at hw
        exact hw
