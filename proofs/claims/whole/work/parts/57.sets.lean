/-! SETS OF PEWS LIT ALONE. -/
def FW (I I' : Nat → Nat → Int32) : Prop := ∀ a k, (a < 81 ∨ 87 < a ∧ a ≠ 89) → I' a k = I a k
theorem FW.rf {I : Nat → Nat → Int32} : FW I I := fun _ _ _ => rfl
theorem FW.tr {I I1 I2 : Nat → Nat → Int32} (h : FW I I1) (h2 : FW I1 I2) : FW I I2 := fun a k q => (h2 a k q).trans (h a k q)
theorem FT.w {I I' : Nat → Nat → Int32} (h : FT I I') : FW I I' := fun a k q => h a k (by omega)
theorem FW.RC {A : Nt} {I I' : Nat → Nat → Int32} (h : FW I I') (hR : RC A I 12 21) : RC A I' 12 21 := RC_of (fun a k q => h a k (by omega)) hR
theorem FW.rel {Z : St} {I I' : Nat → Nat → Int32} {L : Nat → Nat → Int64} (h : FW I I') (hr : RelC Z I L) (hw : Wo Z.1 I') : Fq I I' ∧ Se Z.1 I' ∧ Wo Z.1 I' := ⟨fun a k q _ => h a k (by omega), Se_of (fun a k q => h a k (by omega)) hr.2.1, hw⟩
theorem wrt_le (A : Nt) (s : Nat) : wrt A s ≤ 7 := pc7_le _
section SE
variable {A : Nt} {I : Nat → Nat → Int32} {L : Nat → Nat → Int64}
theorem ce_worthOf (hR : RC A I 12 21) (hV : NV A) (hW : Wo A I) {s : Nat} (hs : s < 128) : ∃ I', q_C kX8_worthOf [.ref 88, .int (nI s)] I L (some (.int (nI (wrt A s)))) I' L ∧ FW I I' ∧ Wo A I' := by
  have hi : vp_in (nI s) 128 := u_in hs (by decide)
  have hwl := wrt_le A s
  by_cases h1 : I 89 s = -1
  · obtain ⟨I1, c1, hP1, hf1⟩ := ce_tellAlone (L := L) hR s [1]
    obtain ⟨I2, c2, h2, hf2⟩ := tr_run (L := L) (hf1.RC hR) hV hP1 (PV_Pal hV hs (Sg_one ⟨by decide, by decide⟩) (by simp))
    refine ⟨up2 I2 89 s (nI (wrt A s)), c0_X8_worthOf (vc_X8_worthOf_0 ?_), fun a k q => ?_, fun t ht => ?_⟩
    · rw [u_cl (by omega)]
      exact ⟨hi, fun _ => ⟨I1, c1, _, I2, c2, hi, hi, by rw [up2_s]; rfl, rfl, rfl⟩, fun z => absurd h1 z⟩
    · rw [up2_p (by omega), hf2 a k (by omega), hf1 a k (by omega)]
    · by_cases e : t = s
      · subst e; rw [up2_s]; exact Or.inr rfl
      · rw [up2_k e, hf2 89 t (by omega), hf1 89 t (by omega)]; exact hW t ht
  · have h2 : I 89 s = nI (wrt A s) := (hW s hs).resolve_left h1
    refine ⟨I, c0_X8_worthOf (vc_X8_worthOf_0 ?_), FW.rf, hW⟩
    rw [u_cl (by omega)]
    exact ⟨hi, fun z => absurd z h1, fun _ => ⟨hi, by rw [h2], rfl, rfl⟩⟩
/-- the reference, but for who is lit alone -/
def PMw (A : Nt) (w : List Nat) (J : Nat → Nat → Int32) : Prop := J 96 16 = nI (A.1 0 1) ∧ J 96 15 = nI 0 ∧ J 96 17 = nI 0 ∧ J 96 20 = iI (-1) ∧ J 96 21 = iI (-1) ∧ J 96 22 = iI (-1) ∧ J 96 23 = iI (-1) ∧ J 96 19 = nI (mE w)
theorem PMw_of {w : List Nat} {J J' : Nat → Nat → Int32} (h : ∀ k, k ≠ 18 → J' 96 k = J 96 k) (hP : PMw A w J) : PMw A w J' := by
  unfold PMw
  rw [h 16 (by decide), h 15 (by decide), h 17 (by decide), h 20 (by decide), h 21 (by decide), h 22 (by decide), h 23 (by decide), h 19 (by decide)]
  exact hP
theorem PMw_0 {J : Nat → Nat → Int32} (h : PMd (P0 A) J) {w : List Nat} (h2 : J 96 19 = nI (mE w)) : PMw A w J := ⟨h.1, h.2.1, h.2.2.1, h.2.2.2.1, h.2.2.2.2.1, h.2.2.2.2.2.1, h.2.2.2.2.2.2.1, h2⟩
theorem PMw_al {w : List Nat} {J : Nat → Nat → Int32} (h : PMw A w J) (s : Nat) : PMd (Pal A s w) (up2 J 96 18 (nI s)) := ⟨(up2_k (by decide)).trans h.1, (up2_k (by decide)).trans h.2.1, (up2_k (by decide)).trans h.2.2.1, (up2_k (by decide)).trans h.2.2.2.1, (up2_k (by decide)).trans h.2.2.2.2.1, (up2_k (by decide)).trans h.2.2.2.2.2.1, (up2_k (by decide)).trans h.2.2.2.2.2.2.1, fun z => absurd z (by show ¬ true = false; decide), fun _ => ⟨up2_s _ _ _ _, (up2_k (by decide)).trans h.2.2.2.2.2.2.2⟩⟩
theorem cm_alone {w : List Nat} (hw : Sg w) (hne : w ≠ []) (hR : RM A I 97 0) (hV : NV A) (hP : PMw A w I) {s : Nat} (hs : s < 128) : ∃ I', q_C kX12_goAll [.ref 96] (up2 I 96 18 (nI s)) L none I' L ∧ SMo A (Pal A s w) I' ∧ PMw A w I' ∧ Mq I I' ∧ FrM (up2 I 96 18 (nI s)) I' := by
  have hM : Mq I (up2 I 96 18 (nI s)) := fun a k q => up2_o' (by omega)
  obtain ⟨I1, c1, h1, hf1⟩ := tr_go (L := L) (RM_of (fun k => hM 97 k (by omega)) hR) hV (PMw_al hP s) (PV_Pal hV hs hw hne) (fun z => absurd rfl z)
  exact ⟨I1, c1, h1, PMw_of (fun k hk => by rw [hf1 96 k (by omega), up2_k hk]) hP, hM.tr hf1.q, hf1⟩
theorem cm_worthOf (hR : RM A I 97 0) (hV : NV A) (hP : PMw A [1] I) {s : Nat} (hs : s < 128) : ∃ I', q_C kX12_worthOf [.ref 96, .int (nI s)] I L (some (.int (nI (wrt A s)))) I' L ∧ RM A I' 97 0 ∧ PMw A [1] I' ∧ Mq I I' ∧ (∀ k, I' 107 k = I 107 k) := by
  obtain ⟨I1, c1, h1, hP1, hM1, hf1⟩ := cm_alone (L := L) (w := [1]) (Sg_one ⟨by decide, by decide⟩) (by simp) hR hV hP hs
  exact ⟨I1, c0_X12_worthOf (vc_X12_worthOf_0 ⟨I1, c1, _, mq_lastMany h1, rfl, rfl, rfl⟩), h1.1.1, hP1, hM1, fun k => by rw [hf1 107 k (by omega), up2_p (by decide)]⟩
end SE
theorem q_best (Z : St) : ∃ v, Q2 Z Z kX11_best kX12_best [] (.int v) := by
  by_cases hh : Z.1.1 0 8 = 0
  · refine ⟨-2, QC_q fun I L hr => ⟨I, c0_X11_best (vc_X11_best_0 ⟨_, ct_noNight hr.1.1.1 hr.1.1.2, g1p hh ⟨rfl, rfl, rfl⟩⟩), Fq.rf, hr.2.1, hr.2.2⟩, QM_q fun I L hr => ?_⟩
    obtain ⟨I1, c1, -, -, hM1, hR1⟩ := cm_as (L := L) hr.1.1
    exact ⟨I1, c0_X12_best (vc_X12_best_0 ⟨I1, c1, _, ct_isNight hR1 hr.1.2, g0p hh ⟨rfl, rfl, rfl⟩⟩), hM1⟩
  have rng : ∀ k, -1 ≤ (bstF (fun p => (wrt Z.1 (2 ^ p) : Int)) gtB (-1, -1) k).2 ∧ (bstF (fun p => (wrt Z.1 (2 ^ p) : Int)) gtB (-1, -1) k).2 ≤ 100 := fun k => (bstF_rng (fun k => by have := wrt_le Z.1 (2 ^ k); omega) ⟨⟨by decide, by decide⟩, by decide, by decide⟩ k).2
  have p128 : ∀ k, k < 7 → 2 ^ k < 128 := fun k hk => show 2 ^ k < 2 ^ 7 from Nat.pow_lt_pow_right (by decide) hk
  refine ⟨iI (bstF (fun p => (wrt Z.1 (2 ^ p) : Int)) gtB (-1, -1) (Z.1.1 0 3)).1, QC_q fun I L hr => ?_, QM_q fun I L hr => ?_⟩
  · have hV := hr.1.1.2
    have h3 := hV.1.2.2.2.1
    have h := mloop (V := fun k I' J => v_X11_best_16 (some (.int (iI (bstF (fun p => (wrt Z.1 (2 ^ p) : Int)) gtB (-1, -1) (Z.1.1 0 3)).1))) I' L J L (iI (bstF (fun p => (wrt Z.1 (2 ^ p) : Int)) gtB (-1, -1) k).1) (iI (bstF (fun p => (wrt Z.1 (2 ^ p) : Int)) gtB (-1, -1) k).2) (nI k)) (Inv := fun k J => FW I J ∧ Wo Z.1 J) (n := Z.1.1 0 3) (Q := fun I' => FW I I' ∧ Wo Z.1 I') ?_ ?_ I ⟨FW.rf, hr.2.2⟩
    · obtain ⟨I', hw, hf, hw2⟩ := h
      exact ⟨I', c0_X11_best (vc_X11_best_0 ⟨_, ct_noNight hr.1.1.1 hV, g1n hh hw⟩), hf.rel hr hw2⟩
    · rintro J ⟨hJ, hWJ⟩
      have e4 : J 12 4 = nI (Z.1.1 0 3) := (hJ.RC hr.1.1.1).1.2.2.2.2.1
      refine ⟨J, vc_X11_best_16 ?_, hJ, hWJ⟩
      rw [e4]
      exact ⟨fun _ => ⟨rfl, rfl, rfl⟩, fun z => absurd (nI_le (Nat.le_refl _) (by omega)) z⟩
    · rintro k J hk ⟨hJ, hWJ⟩
      have hRJ := hJ.RC hr.1.1.1
      have e4 : J 12 4 = nI (Z.1.1 0 3) := hRJ.1.2.2.2.2.1
      obtain ⟨I1, c1, hf1, hW1⟩ := ce_worthOf (L := L) hRJ hV hWJ (p128 k (by omega))
      refine ⟨I1, ⟨hJ.tr hf1, hW1⟩, fun I' hw => vc_X11_best_16 ?_⟩
      have hb := rng k
      have hl := wrt_le Z.1 (2 ^ k)
      rw [e4, u_one (by omega)]
      refine ⟨fun z => absurd z (nI_ge hk (by omega)), fun _ => ⟨_, I1, c1, ?_⟩⟩
      rw [nI_1, nI_iI (wrt _ _), iI_le (by omega) (by omega)]
      refine ⟨fun z => ?_, fun z => ?_⟩
      · rw [bstF_n (k := k) (by rw [gtB_t]; omega)] at hw; exact hw
      · rw [bstF_y (k := k) (by rw [gtB_t]; omega)] at hw
        rw [nI_iI k]
        exact hw
  · have hV := hr.1.2
    have h3 := hV.1.2.2.2.1
    obtain ⟨I0, c0, hP0, h19, hM0, hR0⟩ := cm_as (L := L) hr.1.1
    have h := mloop (V := fun k I' J => v_X12_best_20 (some (.int (iI (bstF (fun p => (wrt Z.1 (2 ^ p) : Int)) gtB (-1, -1) (Z.1.1 0 3)).1))) I' L J L (iI (bstF (fun p => (wrt Z.1 (2 ^ p) : Int)) gtB (-1, -1) k).1) (iI (bstF (fun p => (wrt Z.1 (2 ^ p) : Int)) gtB (-1, -1) k).2) (nI k)) (Inv := fun k J => RM Z.1 J 97 0 ∧ PMw Z.1 [1] J ∧ Mq I J) (n := Z.1.1 0 3) (Q := fun I' => Mq I I') ?_ ?_ I0 ⟨hR0, PMw_0 hP0 (by rw [h19]; rfl), hM0⟩
    · obtain ⟨I', hw, hf⟩ := h
      exact ⟨I', c0_X12_best (vc_X12_best_0 ⟨I0, c0, _, ct_isNight hR0 hV, g0n hh hw⟩), hf⟩
    · rintro J ⟨hRJ, hPJ, hMJ⟩
      exact ⟨J, vc_X12_best_20 ⟨_, ct_pews hRJ, fun _ => ⟨rfl, rfl, rfl⟩, fun z => absurd (nI_le (Nat.le_refl _) (by omega)) z⟩, hMJ⟩
    · rintro k J hk ⟨hRJ, hPJ, hMJ⟩
      obtain ⟨I1, c1, hR1, hP1, hM1, -⟩ := cm_worthOf (L := L) hRJ hV hPJ (p128 k (by omega))
      refine ⟨I1, ⟨hR1, hP1, hMJ.tr hM1⟩, fun I' hw => vc_X12_best_20 ⟨_, ct_pews hRJ, fun z => absurd z (nI_ge hk (by omega)), fun _ => ⟨nI (wrt Z.1 (2 ^ k)), I1, by rw [u_one (by omega)]; exact c1, ?_⟩⟩⟩
      have hb := rng k
      have hl := wrt_le Z.1 (2 ^ k)
      rw [nI_1, nI_iI (wrt _ _), iI_lt (by omega) (by omega)]
      refine ⟨fun z => ?_, fun z => ?_⟩
      · rw [bstF_y (k := k) (by rw [gtB_t]; omega)] at hw
        rw [nI_iI k]
        exact hw
      · rw [bstF_n (k := k) (by rw [gtB_t]; omega)] at hw; exact hw
theorem x32 (x : Int32) : ∃ u, u < 4294967296 ∧ x = nI u := by
  refine ⟨x.toBitVec.toNat, x.toBitVec.isLt, ?_⟩
  apply Int32.toBitVec_inj.mp
  show x.toBitVec = BitVec.ofNat 32 x.toBitVec.toNat
  rw [BitVec.ofNat_toNat, BitVec.setWidth_eq]
theorem in_all (x : Int32) {n : Nat} (hn : n ≤ 7) : (x &&& (nI (2 ^ n - 1) ^^^ -1)) = 0 ↔ ¬ ib 0 (nI (2 ^ n - 1)) x := by
  have hp1 : 1 ≤ 2 ^ n := Nat.one_le_two_pow
  have hp7 : 2 ^ n ≤ 2 ^ 7 := Nat.pow_le_pow_right (by decide) hn
  obtain ⟨u, hu, hx⟩ := x32 x
  have hlt : u &&& ((2 ^ n - 1) ^^^ 4294967295) < 4294967296 := Nat.lt_of_le_of_lt Nat.and_le_left hu
  have e1 : (x &&& (nI (2 ^ n - 1) ^^^ -1)) = 0 ↔ u < 2 ^ n := by
    rw [hx, show (-1 : Int32) = nI 4294967295 by decide, u_xor, u_and, u_0 hlt]
    constructor
    · intro h
      apply Nat.lt_pow_two_of_testBit
      intro i hi
      by_cases h32 : i < 32
      · have hb : (u &&& ((2 ^ n - 1) ^^^ 4294967295)).testBit i = false := by rw [h]; simp
        rw [Nat.testBit_and, Nat.testBit_xor, Nat.testBit_two_pow_sub_one, show (4294967295 : Nat) = 2 ^ 32 - 1 from rfl, Nat.testBit_two_pow_sub_one] at hb
        simp [h32, Nat.not_lt.mpr hi] at hb
        exact hb
      · exact Nat.testBit_lt_two_pow (Nat.lt_of_lt_of_le (show u < 2 ^ 32 from hu) (Nat.pow_le_pow_right (by decide) (by omega)))
    · intro h
      apply Nat.eq_of_testBit_eq
      intro i
      rw [Nat.testBit_and, Nat.testBit_xor, Nat.testBit_two_pow_sub_one]
      by_cases hi : i < n
      · rw [show (4294967295 : Nat) = 2 ^ 32 - 1 from rfl, Nat.testBit_two_pow_sub_one]
        simp [hi, show i < 32 by omega]
      · rw [Nat.testBit_lt_two_pow (Nat.lt_of_lt_of_le h (Nat.pow_le_pow_right (by decide) (by omega)))]
        simp
  rw [e1]
  constructor
  · intro h
    unfold ib
    rw [hx, t_lt, t_lt, t_n (by omega), t_n (by omega), show (0 : Int32).toInt = 0 from rfl]
    omega
  · intro h
    obtain ⟨m, -, hm, hxm⟩ := xIn (a := 0) (b := 2 ^ n - 1) (by omega) (by decide) h
    rw [hxm, u_eq (by omega) (by omega)] at hx
    omega
theorem q_worth (Z : St) (x : Int32) : ∃ v, Q2 Z Z kX11_worth kX12_worth [.int x] (.int v) := by
  by_cases hh : Z.1.1 0 8 = 0
  · refine ⟨-2, QC_q fun I L hr => ⟨I, c0_X11_worth (vc_X11_worth_0 ⟨_, ct_noNight hr.1.1.1 hr.1.1.2, g1p hh ⟨rfl, rfl, rfl⟩⟩), Fq.rf, hr.2.1, hr.2.2⟩, QM_q fun I L hr => ?_⟩
    obtain ⟨I1, c1, -, -, hM1, hR1⟩ := cm_as (L := L) hr.1.1
    exact ⟨I1, c0_X12_worth (vc_X12_worth_0 ⟨I1, c1, _, ct_isNight hR1 hr.1.2, g0p hh ⟨rfl, rfl, rfl⟩⟩), hM1⟩
  by_cases hx : ib 0 (nI (2 ^ Z.1.1 0 3 - 1)) x
  · refine ⟨-2, QC_q fun I L hr => ⟨I, c0_X11_worth (vc_X11_worth_0 ⟨_, ct_noNight hr.1.1.1 hr.1.1.2, g1n hh ⟨_, ct_allPewsC hr.1.1.1 hr.1.1.2, ?_⟩⟩), Fq.rf, hr.2.1, hr.2.2⟩, QM_q fun I L hr => ?_⟩
    · rw [in_all x hr.1.1.2.1.2.2.2.1]
      exact ⟨fun z => absurd hx z, fun _ => ⟨rfl, rfl, rfl⟩⟩
    · obtain ⟨I1, c1, -, -, hM1, hR1⟩ := cm_as (L := L) hr.1.1
      exact ⟨I1, c0_X12_worth (vc_X12_worth_0 ⟨I1, c1, _, ct_isNight hR1 hr.1.2, g0n hh ⟨_, ct_allPewsM hR1 hr.1.2, _, ct_inI x 0 _, g0p hx ⟨rfl, rfl, rfl⟩⟩⟩), hM1⟩
  refine ⟨nI (wrt Z.1 x.toNatClampNeg), QC_q fun I L hr => ?_, QM_q fun I L hr => ?_⟩
  · have hV := hr.1.1.2
    have h3 := hV.1.2.2.2.1
    have hp7 : 2 ^ Z.1.1 0 3 ≤ 2 ^ 7 := Nat.pow_le_pow_right (by decide) h3
    obtain ⟨s, -, hs, hxs⟩ := xIn (a := 0) (b := 2 ^ Z.1.1 0 3 - 1) (by omega) (by decide) hx
    have hin := (in_all x h3).mpr hx
    subst hxs
    rw [u_cl (n := s) (by omega)]
    obtain ⟨I1, c1, hf1, hW1⟩ := ce_worthOf (L := L) hr.1.1.1 hV hr.2.2 (s := s) (by omega)
    exact ⟨I1, c0_X11_worth (vc_X11_worth_0 ⟨_, ct_noNight hr.1.1.1 hV, g1n hh ⟨_, ct_allPewsC hr.1.1.1 hV, fun _ => ⟨_, I1, c1, rfl, rfl, rfl⟩, fun z => absurd hin z⟩⟩), hf1.rel hr hW1⟩
  · have hV := hr.1.2
    have h3 := hV.1.2.2.2.1
    have hp7 : 2 ^ Z.1.1 0 3 ≤ 2 ^ 7 := Nat.pow_le_pow_right (by decide) h3
    obtain ⟨s, -, hs, hxs⟩ := xIn (a := 0) (b := 2 ^ Z.1.1 0 3 - 1) (by omega) (by decide) hx
    subst hxs
    rw [u_cl (n := s) (by omega)]
    obtain ⟨I0, c0, hP0, h19, hM0, hR0⟩ := cm_as (L := L) hr.1.1
    obtain ⟨I1, c1, hR1, hP1, hM1, -⟩ := cm_worthOf (L := L) hR0 hV (PMw_0 hP0 (by rw [h19]; rfl)) (s := s) (by omega)
    exact ⟨I1, c0_X12_worth (vc_X12_worth_0 ⟨I0, c0, _, ct_isNight hR0 hV, g0n hh ⟨_, ct_allPewsM hR0 hV, _, ct_inI _ 0 _, g0n hx ⟨_, I1, c1, rfl, rfl, rfl⟩⟩⟩), hM0.tr hM1⟩
/-- the least set that lights all, of the fewest -/
def fwB (A : Nt) (c : Option Nat) (s : Nat) : Bool := match c with
  | none => true
  | some c => decide (pc7 s < pc7 c)
def fwF (A : Nt) : Nat → Option Nat
  | 0 => none
  | s + 1 => if fwB A (fwF A s) s = true ∧ wrt A s = A.1 0 3 then some s else fwF A s
theorem fwF_lt {A : Nt} : ∀ {k c : Nat}, fwF A k = some c → c < k
  | 0, c, h => by cases h
  | k + 1, c, h => by
    have h : (if fwB A (fwF A k) k = true ∧ wrt A k = A.1 0 3 then some k else fwF A k) = some c := h
    by_cases e : fwB A (fwF A k) k = true ∧ wrt A k = A.1 0 3
    · rw [if_pos e] at h
      have : k = c := by simpa using h
      omega
    · rw [if_neg e] at h
      have := fwF_lt h
      omega
theorem fwF_y {A : Nt} {k : Nat} (h : fwB A (fwF A k) k = true ∧ wrt A k = A.1 0 3) : fwF A (k + 1) = some k := if_pos h
theorem fwF_n {A : Nt} {k : Nat} (h : ¬ (fwB A (fwF A k) k = true ∧ wrt A k = A.1 0 3)) : fwF A (k + 1) = fwF A k := if_neg h
section FE
variable {A : Nt} {I : Nat → Nat → Int32} {L : Nat → Nat → Int64}
theorem ce_least (hR : RC A I 12 21) (hV : NV A) (hW : Wo A I) : ∃ I', q_C kX8_leastLightingAll [.ref 88] I L (some (.int (spO (fwF A (2 ^ A.1 0 3))))) I' L ∧ FW I I' ∧ Wo A I' := by
  have h3 := hV.1.2.2.2.1
  have hp1 : 1 ≤ 2 ^ A.1 0 3 := Nat.one_le_two_pow
  have hp7 : 2 ^ A.1 0 3 ≤ 2 ^ 7 := Nat.pow_le_pow_right (by decide) h3
  have h := mloop (V := fun k I' J => v_X8_leastLightingAll_4 (some (.int (spO (fwF A (2 ^ A.1 0 3))))) I' L J L (spO (fwF A k)) (nI k)) (Inv := fun k J => FW I J ∧ Wo A J) (n := 2 ^ A.1 0 3) (Q := fun I' => FW I I' ∧ Wo A I') ?_ ?_ I ⟨FW.rf, hW⟩
  · obtain ⟨I', hw, hf⟩ := h
    exact ⟨I', c0_X8_leastLightingAll (vc_X8_leastLightingAll_0 hw), hf⟩
  · rintro J ⟨hJ, hWJ⟩
    exact ⟨J, vc_X8_leastLightingAll_4 ⟨_, ct_allPewsC (hJ.RC hR) hV, fun _ => ⟨rfl, rfl, rfl⟩, fun z => absurd (nI_lt (by omega) (by omega)) z⟩, hJ, hWJ⟩
  · rintro k J hk ⟨hJ, hWJ⟩
    have hRJ := hJ.RC hR
    obtain ⟨I1, c1, hf1, hW1⟩ := ce_worthOf (L := L) hRJ hV hWJ (s := k) (by omega)
    have e4 : I1 12 4 = nI (A.1 0 3) := (hf1.RC hRJ).1.2.2.2.2.1
    have hl := wrt_le A k
    have all : ∀ I' J1, (fwB A (fwF A k) k = true → v_X8_leastLightingAll_36 (some (.int (spO (fwF A (2 ^ A.1 0 3))))) I' L J L (spO (fwF A k)) (nI k) 1) → (¬ fwB A (fwF A k) k = true → v_X8_leastLightingAll_36 (some (.int (spO (fwF A (2 ^ A.1 0 3))))) I' L J L (spO (fwF A k)) (nI k) 0) → J1 = J → v_X8_leastLightingAll_4 (some (.int (spO (fwF A (2 ^ A.1 0 3))))) I' L J L (spO (fwF A k)) (nI k) := by
      intro I' J1 w1 w0 _
      refine vc_X8_leastLightingAll_4 ⟨_, ct_allPewsC hRJ hV, fun z => absurd z (nI_nlt (by omega) (by omega)), fun _ => ?_⟩
      cases hc : fwF A k with
      | none =>
        rw [hc] at w1
        exact ⟨fun _ => w1 rfl, fun z => absurd rfl z⟩
      | some c =>
        have hcl := fwF_lt hc
        rw [hc] at w1 w0
        refine ⟨fun z => ((nI_nm1 (n := c) (by omega)).mp z).elim, fun _ => ⟨_, ct_bitCount (a := k) (by omega), _, ct_bitCount (a := c) (by omega), ?_⟩⟩
        have b1 := pc7_le k
        have b2 := pc7_le c
        rw [nI_leI (by omega) (by omega)]
        refine ⟨fun z => w0 ?_, fun z => w1 ?_⟩
        · show ¬ decide (pc7 k < pc7 c) = true
          simp
          omega
        · show decide (pc7 k < pc7 c) = true
          simp
          omega
    by_cases hb : fwB A (fwF A k) k = true
    · refine ⟨I1, ⟨hJ.tr hf1, hW1⟩, fun I' hw => all I' J (fun _ => vc_X8_leastLightingAll_36 ⟨fun z => absurd z (by decide), fun _ => ⟨_, I1, c1, ?_⟩⟩) (fun z => absurd hb z) rfl⟩
      rw [e4, u_eq (by omega) (by omega), nI_1]
      refine ⟨fun z => ?_, fun z => ?_⟩
      · rw [fwF_y ⟨hb, z⟩] at hw; exact hw
      · rw [fwF_n (fun q => z q.2)] at hw; exact hw
    · refine ⟨J, ⟨hJ, hWJ⟩, fun I' hw => all I' J (fun z => absurd z hb) (fun _ => vc_X8_leastLightingAll_36 ⟨fun _ => ?_, fun z => absurd rfl z⟩) rfl⟩
      rw [fwF_n (fun q => hb q.1)] at hw
      rw [nI_1]
      exact hw
theorem cm_fewestOf (hR : RM A I 97 0) (hV : NV A) (hP : PMw A [1] I) : ∃ I', q_C kX12_fewestOf [.ref 96] I L (some (.int (spO (fwF A (2 ^ A.1 0 3))))) I' L ∧ Mq I I' := by
  have h3 := hV.1.2.2.2.1
  have hp1 : 1 ≤ 2 ^ A.1 0 3 := Nat.one_le_two_pow
  have hp7 : 2 ^ A.1 0 3 ≤ 2 ^ 7 := Nat.pow_le_pow_right (by decide) h3
  have h := mloop (V := fun k I' J => v_X12_fewestOf_4 (some (.int (spO (fwF A (2 ^ A.1 0 3))))) I' L J L (spO (fwF A k)) (nI k)) (Inv := fun k J => RM A J 97 0 ∧ PMw A [1] J ∧ Mq I J) (n := 2 ^ A.1 0 3) (Q := fun I' => Mq I I') ?_ ?_ I ⟨hR, hP, Mq.rf⟩
  · obtain ⟨I', hw, hf⟩ := h
    exact ⟨I', c0_X12_fewestOf (vc_X12_fewestOf_0 hw), hf⟩
  · rintro J ⟨hRJ, hPJ, hMJ⟩
    exact ⟨J, vc_X12_fewestOf_4 ⟨_, ct_allPewsM hRJ hV, fun _ => ⟨rfl, rfl, rfl⟩, fun z => absurd (nI_lt (by omega) (by omega)) z⟩, hMJ⟩
  · rintro k J hk ⟨hRJ, hPJ, hMJ⟩
    obtain ⟨I1, c1, hR1, hP1, hM1, -⟩ := cm_worthOf (L := L) hRJ hV hPJ (s := k) (by omega)
    have hl := wrt_le A k
    by_cases hb : fwB A (fwF A k) k = true
    · refine ⟨I1, ⟨hR1, hP1, hMJ.tr hM1⟩, fun I' hw => vc_X12_fewestOf_4 ⟨_, ct_allPewsM hRJ hV, fun z => absurd z (nI_nlt (by omega) (by omega)), fun _ => ?_⟩⟩
      have tail : (nI (wrt A k) = nI (A.1 0 3) → v_X12_fewestOf_4 (some (.int (spO (fwF A (2 ^ A.1 0 3))))) I' L I1 L (nI k) (nI k + 1)) ∧ (¬ nI (wrt A k) = nI (A.1 0 3) → v_X12_fewestOf_4 (some (.int (spO (fwF A (2 ^ A.1 0 3))))) I' L I1 L (spO (fwF A k)) (nI k + 1)) := by
        rw [u_eq (by omega) (by omega), nI_1]
        refine ⟨fun z => ?_, fun z => ?_⟩
        · rw [fwF_y ⟨hb, z⟩] at hw; exact hw
        · rw [fwF_n (fun q => z q.2)] at hw; exact hw
      cases hc : fwF A k with
      | none =>
        rw [hc] at tail
        exact ⟨fun _ => ⟨_, I1, c1, _, ct_pews hR1, tail⟩, fun z => absurd rfl z⟩
      | some c =>
        have hcl := fwF_lt hc
        rw [hc] at tail hb
        have hb : pc7 k < pc7 c := by simpa [fwB] using hb
        have b2 := pc7_le c
        exact ⟨fun z => ((nI_nm1 (n := c) (by omega)).mp z).elim, fun _ => ⟨_, ct_bits (a := k) (by omega), _, ct_bits (a := c) (by omega), fun _ => ⟨_, I1, c1, _, ct_pews hR1, tail⟩, fun z => absurd (nI_lt hb (by omega)) z⟩⟩
    · refine ⟨J, ⟨hRJ, hPJ, hMJ⟩, fun I' hw => vc_X12_fewestOf_4 ⟨_, ct_allPewsM hRJ hV, fun z => absurd z (nI_nlt (by omega) (by omega)), fun _ => ?_⟩⟩
      rw [fwF_n (fun q => hb q.1)] at hw
      cases hc : fwF A k with
      | none => rw [hc] at hb; exact absurd rfl hb
      | some c =>
        have hcl := fwF_lt hc
        rw [hc] at hw hb
        have hb : ¬ pc7 k < pc7 c := by simpa [fwB] using hb
        have b2 := pc7_le c
        have b1 := pc7_le k
        refine ⟨fun z => ((nI_nm1 (n := c) (by omega)).mp z).elim, fun _ => ⟨_, ct_bits (a := k) (by omega), _, ct_bits (a := c) (by omega), fun z => absurd z (nI_nlt (by omega) (by omega)), fun _ => ?_⟩⟩
        rw [nI_1]
        exact hw
end FE
theorem q_sets (Z : St) : ∃ v, Q2 Z Z kX11_sets kX12_sets [] (.int v) := by
  by_cases hh : Z.1.1 0 8 = 0
  · refine ⟨-2, QC_q fun I L hr => ⟨I, c0_X11_sets (vc_X11_sets_0 ⟨_, ct_noNight hr.1.1.1 hr.1.1.2, g1p hh ⟨rfl, rfl, rfl⟩⟩), Fq.rf, hr.2.1, hr.2.2⟩, QM_q fun I L hr => ?_⟩
    obtain ⟨I1, c1, -, -, hM1, hR1⟩ := cm_as (L := L) hr.1.1
    exact ⟨I1, c0_X12_sets (vc_X12_sets_0 ⟨I1, c1, _, ct_isNight hR1 hr.1.2, g0p hh ⟨rfl, rfl, rfl⟩⟩), hM1⟩
  refine ⟨spO (fwF Z.1 (2 ^ Z.1.1 0 3)), QC_q fun I L hr => ?_, QM_q fun I L hr => ?_⟩
  · obtain ⟨I1, c1, hf1, hW1⟩ := ce_least (L := L) hr.1.1.1 hr.1.1.2 hr.2.2
    exact ⟨I1, c0_X11_sets (vc_X11_sets_0 ⟨_, ct_noNight hr.1.1.1 hr.1.1.2, g1n hh ⟨_, I1, c1, rfl, rfl, rfl⟩⟩), hf1.rel hr hW1⟩
  · obtain ⟨I0, c0, hP0, h19, hM0, hR0⟩ := cm_as (L := L) hr.1.1
    obtain ⟨I1, c1, hM1⟩ := cm_fewestOf (L := L) hR0 hr.1.2 (PMw_0 hP0 (by rw [h19]; rfl))
    exact ⟨I1, c0_X12_sets (vc_X12_sets_0 ⟨I0, c0, _, ct_isNight hR0 hr.1.2, g0n hh ⟨_, I1, c1, rfl, rfl, rfl⟩⟩), hM0.tr hM1⟩
def fwV : Option Nat → Int32
  | none => -1
  | some c => nI (pc7 c)
theorem q_fewest (Z : St) : ∃ v, Q2 Z Z kX11_fewest kX12_fewest [] (.int v) := by
  by_cases hh : Z.1.1 0 8 = 0
  · refine ⟨-2, QC_q fun I L hr => ⟨I, c0_X11_fewest (vc_X11_fewest_0 ⟨_, ct_noNight hr.1.1.1 hr.1.1.2, g1p hh ⟨rfl, rfl, rfl⟩⟩), Fq.rf, hr.2.1, hr.2.2⟩, QM_q fun I L hr => ?_⟩
    obtain ⟨I1, c1, -, -, hM1, hR1⟩ := cm_as (L := L) hr.1.1
    exact ⟨I1, c0_X12_fewest (vc_X12_fewest_0 ⟨I1, c1, _, ct_isNight hR1 hr.1.2, g0p hh ⟨rfl, rfl, rfl⟩⟩), hM1⟩
  refine ⟨fwV (fwF Z.1 (2 ^ Z.1.1 0 3)), QC_q fun I L hr => ?_, QM_q fun I L hr => ?_⟩
  · have h3 := hr.1.1.2.1.2.2.2.1
    have hp7 : 2 ^ Z.1.1 0 3 ≤ 2 ^ 7 := Nat.pow_le_pow_right (by decide) h3
    obtain ⟨I1, c1, hf1, hW1⟩ := ce_least (L := L) hr.1.1.1 hr.1.1.2 hr.2.2
    refine ⟨I1, c0_X11_fewest (vc_X11_fewest_0 ⟨_, ct_noNight hr.1.1.1 hr.1.1.2, g1n hh ⟨_, I1, c1, ?_⟩⟩), hf1.rel hr hW1⟩
    cases hc : fwF Z.1 (2 ^ Z.1.1 0 3) with
    | none => exact ⟨fun _ => ⟨rfl, rfl, rfl⟩, fun z => absurd rfl z⟩
    | some c =>
      have hcl := fwF_lt hc
      exact ⟨fun z => ((nI_nm1 (n := c) (by omega)).mp z).elim, fun _ => ⟨_, ct_bitCount (a := c) (by omega), rfl, rfl, rfl⟩⟩
  · have h3 := hr.1.2.1.2.2.2.1
    have hp7 : 2 ^ Z.1.1 0 3 ≤ 2 ^ 7 := Nat.pow_le_pow_right (by decide) h3
    obtain ⟨I0, c0, hP0, h19, hM0, hR0⟩ := cm_as (L := L) hr.1.1
    obtain ⟨I1, c1, hM1⟩ := cm_fewestOf (L := L) hR0 hr.1.2 (PMw_0 hP0 (by rw [h19]; rfl))
    refine ⟨I1, c0_X12_fewest (vc_X12_fewest_0 ⟨I0, c0, _, ct_isNight hR0 hr.1.2, g0n hh ⟨_, I1, c1, ?_⟩⟩), hM0.tr hM1⟩
    cases hc : fwF Z.1 (2 ^ Z.1.1 0 3) with
    | none => exact ⟨fun _ => ⟨rfl, rfl, rfl⟩, fun z => absurd rfl z⟩
    | some c =>
      have hcl := fwF_lt hc
      exact ⟨fun z => ((nI_nm1 (n := c) (by omega)).mp z).elim, fun _ => ⟨_, ct_bits (a := c) (by omega), rfl, rfl, rfl⟩⟩
