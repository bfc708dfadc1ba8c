/-! HEARD, both sides. -/
def crf (Z : St) (x : Int32) : Int32 := if ib 0 3 x ∨ Z.1.1 0 8 = 0 then -2 else match Z.2.2.2.2 x.toNatClampNeg with
  | none => -6
  | some t => if sdT Z.1 t.2.1 t.2.2 then 0 else -2
theorem crf_1 {Z : St} {x : Int32} (h : ib 0 3 x ∨ Z.1.1 0 8 = 0) : crf Z x = -2 := if_pos h
theorem crf_2 {Z : St} {x : Int32} (h : ¬ (ib 0 3 x ∨ Z.1.1 0 8 = 0)) (h2 : Z.2.2.2.2 x.toNatClampNeg = none) : crf Z x = -6 := by
  unfold crf
  rw [if_neg h, h2]
theorem crf_3 {Z : St} {x : Int32} (h : ¬ (ib 0 3 x ∨ Z.1.1 0 8 = 0)) {w n : Nat} {f : Nat → Int64} (h2 : Z.2.2.2.2 x.toNatClampNeg = some (w, n, f)) : crf Z x = if sdT Z.1 n f then 0 else -2 := by
  unfold crf
  rw [if_neg h, h2]
theorem crf_0 {Z : St} {x : Int32} (h : crf Z x = 0) : ∃ s w n f, s < 4 ∧ x = nI s ∧ Z.2.2.2.2 s = some (w, n, f) ∧ sdT Z.1 n f ∧ Z.1.1 0 8 ≠ 0 := by
  by_cases h1 : ib 0 3 x ∨ Z.1.1 0 8 = 0
  · rw [crf_1 h1] at h; exact absurd h (by decide)
  · obtain ⟨s, -, hs, hx⟩ := xIn (a := 0) (b := 3) (by decide) (by decide) (fun z => h1 (Or.inl z))
    have ex : x.toNatClampNeg = s := by rw [hx]; exact u_cl (by omega)
    cases hz : Z.2.2.2.2 s with
    | none =>
      rw [crf_2 h1 (by rw [ex]; exact hz)] at h
      exact absurd h (by decide)
    | some t =>
      obtain ⟨w, n, f⟩ := t
      rw [crf_3 h1 (by rw [ex]; exact hz)] at h
      by_cases hd : sdT Z.1 n f
      · exact ⟨s, w, n, f, by omega, hx, hz, hd, fun q => h1 (Or.inr q)⟩
      · rw [if_neg hd] at h
        exact absurd h (by decide)
theorem crf_neg {Z : St} {x : Int32} (h : ¬ crf Z x = 0) : ¬ 0 ≤ crf Z x := by
  by_cases h1 : ib 0 3 x ∨ Z.1.1 0 8 = 0
  · rw [crf_1 h1]; decide
  · cases hz : Z.2.2.2.2 x.toNatClampNeg with
    | none => rw [crf_2 h1 hz]; decide
    | some t =>
      obtain ⟨w, n, f⟩ := t
      rw [crf_3 h1 hz] at h ⊢
      by_cases hd : sdT Z.1 n f
      · rw [if_pos hd] at h; exact absurd rfl h
      · rw [if_neg hd]; decide
def orf (Z : St) (x : Int32) : Int32 := if Z.1.1 0 5 = 0 then -2 else crf Z x
theorem orf_0 {Z : St} {x : Int32} (h : orf Z x = 0) : Z.1.1 0 5 ≠ 0 ∧ crf Z x = 0 := by
  unfold orf at h
  by_cases e : Z.1.1 0 5 = 0
  · rw [if_pos e] at h; exact absurd h (by decide)
  · rw [if_neg e] at h; exact ⟨e, h⟩
theorem orf_neg {Z : St} {x : Int32} (h : ¬ orf Z x = 0) : ¬ 0 ≤ orf Z x := by
  unfold orf at h ⊢
  by_cases e : Z.1.1 0 5 = 0
  · rw [if_pos e]; decide
  · rw [if_neg e] at h ⊢; exact crf_neg h
section RF
variable {Z : St} {I : Nat → Nat → Int32} {L : Nat → Nat → Int64}
theorem ct_clueRefusal (hr : Bc Z I L) (x : Int32) : q_C kX11_clueRefusal [.ref 0, .int x] I L (some (.int (crf Z x))) I L := by
  have hR := hr.1.1
  have hV := hr.1.2
  refine c0_X11_clueRefusal (vc_X11_clueRefusal_0 ⟨_, ct_noSlot x, ?_⟩)
  by_cases h1 : ib 0 3 x
  · rw [crf_1 (Or.inl h1)]
    exact g1p h1 ⟨rfl, rfl, rfl⟩
  refine g1n h1 ⟨_, ct_noNight hR hV, ?_⟩
  by_cases h2 : Z.1.1 0 8 = 0
  · rw [crf_1 (Or.inr h2)]
    exact g1p h2 ⟨rfl, rfl, rfl⟩
  have h12 : ¬ (ib 0 3 x ∨ Z.1.1 0 8 = 0) := fun z => z.elim h1 h2
  obtain ⟨s, -, hs, hx⟩ := xIn (a := 0) (b := 3) (by decide) (by decide) h1
  have ex : x.toNatClampNeg = s := by rw [hx]; exact u_cl (by omega)
  refine g1n h2 ⟨_, by rw [hx]; exact ct_hasRow hr (by omega), ?_⟩
  cases hz : Z.2.2.2.2 s with
  | none =>
    rw [crf_2 h12 (by rw [ex]; exact hz), if_pos rfl]
    exact ⟨fun _ => ⟨rfl, rfl, rfl⟩, fun z => absurd rfl z⟩
  | some t =>
    obtain ⟨w, n, f⟩ := t
    obtain ⟨k1, k2, k3, k4, k5⟩ := (hr.2.2.2.2 s (by omega)).2 w n f hz
    rw [crf_3 h12 (by rw [ex]; exact hz), if_neg (by simp)]
    refine ⟨fun z => absurd z (by decide), fun _ => ⟨_, by rw [hx]; exact ct_areSound hR hV (by omega) k4 k2 k5, ?_⟩⟩
    by_cases hd : sdT Z.1 n f
    · rw [if_pos (c := sdT Z.1 n f) hd, if_pos (c := sdT Z.1 n f) hd]
      exact ⟨fun z => absurd z (by decide), fun _ => ⟨rfl, rfl, rfl⟩⟩
    · rw [if_neg (c := sdT Z.1 n f) hd, if_neg (c := sdT Z.1 n f) hd]
      exact ⟨fun _ => ⟨rfl, rfl, rfl⟩, fun z => absurd rfl z⟩
theorem ct_originRefusal (hr : Bc Z I L) (x : Int32) : q_C kX11_originRefusal [.ref 0, .int x] I L (some (.int (orf Z x))) I L := by
  have h5 := hr.1.2.1.2.2.2.2.2.1
  have e6 : I 12 6 = nI (Z.1.1 0 5) := hr.1.1.1.2.2.2.2.2.2.1
  refine c0_X11_originRefusal (vc_X11_originRefusal_0 ?_)
  rw [e6, u_0 (by omega)]
  unfold orf
  refine ⟨fun z => ?_, fun z => ⟨_, ct_clueRefusal hr x, ?_⟩⟩
  · rw [if_pos z]; exact ⟨rfl, rfl, rfl⟩
  · rw [if_neg z]; exact ⟨rfl, rfl, rfl⟩
theorem cm_askHeard (hr : RelM Z I L) (x : Int32) : ∃ I', q_C kX12_askHeard [.ref 96, .int x] I L (some (.int (crf Z x))) I' L ∧ Mq I I' ∧ (crf Z x = 0 → PMd (P0 Z.1) I' ∧ I' 96 19 = 1) := by
  have hR := hr.1.1
  have hV := hr.1.2
  by_cases h1 : ib 0 3 x
  · rw [crf_1 (Or.inl h1)]
    exact ⟨I, c0_X12_askHeard (vc_X12_askHeard_0 ⟨_, ct_isSlot x, g0p h1 ⟨rfl, rfl, rfl⟩⟩), Mq.rf, fun z => absurd z (by decide)⟩
  by_cases h2 : Z.1.1 0 8 = 0
  · rw [crf_1 (Or.inr h2)]
    exact ⟨I, c0_X12_askHeard (vc_X12_askHeard_0 ⟨_, ct_isSlot x, g0n h1 ⟨_, ct_isNight hR hV, g0p h2 ⟨rfl, rfl, rfl⟩⟩⟩), Mq.rf, fun z => absurd z (by decide)⟩
  have h12 : ¬ (ib 0 3 x ∨ Z.1.1 0 8 = 0) := fun z => z.elim h1 h2
  obtain ⟨s, -, hs, hx⟩ := xIn (a := 0) (b := 3) (by decide) (by decide) h1
  have hs : s < 4 := by omega
  have ex : x.toNatClampNeg = s := by rw [hx]; exact u_cl (by omega)
  have hin : vp_in (nI s) 4 := u_in hs (by decide)
  cases hz : Z.2.2.2.2 s with
  | none =>
    rw [crf_2 h12 (by rw [ex]; exact hz)]
    refine ⟨I, c0_X12_askHeard (vc_X12_askHeard_0 ⟨_, ct_isSlot x, g0n h1 ⟨_, ct_isNight hR hV, g0n h2 ?_⟩⟩), Mq.rf, fun z => absurd z (by decide)⟩
    rw [ex, md_none hr hs, hx]
    exact ⟨hin, fun _ => ⟨rfl, rfl, rfl⟩, fun z => absurd hz z⟩
  | some t =>
    obtain ⟨w, n, f⟩ := t
    have hne : ¬ Z.2.2.2.2 s = none := by rw [hz]; exact fun c => by cases c
    obtain ⟨k1, k2, k3, k4, k5⟩ := (hr.2.2.2.2 s hs).2 w n f hz
    have ecr : crf Z x = if sdT Z.1 n f then 0 else -2 := crf_3 h12 (by rw [ex]; exact hz)
    rw [ecr]
    have wrap : ∀ I', ((n % 3 = 0 → v_X12_askHeard_46 (some (.int (if sdT Z.1 n f then 0 else -2))) I' L I L (nI s) 0) ∧ (¬ n % 3 = 0 → some (Value.int (if sdT Z.1 n f then 0 else -2)) = some (Value.int (-2)) ∧ I' = I ∧ L = L)) → q_C kX12_askHeard [.ref 96, .int x] I L (some (.int (if sdT Z.1 n f then 0 else -2))) I' L := by
      intro I' hw
      refine c0_X12_askHeard (vc_X12_askHeard_0 ⟨_, ct_isSlot x, g0n h1 ⟨_, ct_isNight hR hV, g0n h2 ?_⟩⟩)
      rw [ex, md_none hr hs, hx, k3, show (3 : Int32) = nI 3 from rfl, pk_rem (a := n) (d := 3) (by omega) (by decide) (by decide), u_0 (by omega)]
      exact ⟨hin, fun z => absurd z hne, fun _ => ⟨hin, hw⟩⟩
    by_cases h3 : n % 3 = 0
    · obtain ⟨I1, c1, hP1, h19, hM1, -⟩ := cm_as (L := L) hR
      have loop : ∀ m j, j + m = n / 3 → (∀ i, i < j → okTr Z.1 f i) → v_X12_askHeard_46 (some (.int (if sdT Z.1 n f then 0 else -2))) (if sdT Z.1 n f then I1 else I) L I L (nI s) (nI (3 * j)) := by
        intro m
        induction m with
        | zero =>
          intro j hj ha
          have e : j = n / 3 := by omega
          subst e
          have hd : sdT Z.1 n f := ⟨h3, ha⟩
          refine vc_X12_askHeard_46 ?_
          rw [u_cl (n := s) (by omega), k3, if_pos (c := sdT Z.1 n f) hd, if_pos (c := sdT Z.1 n f) hd]
          exact ⟨hin, fun _ => ⟨I1, c1, rfl, rfl, rfl⟩, fun q => absurd (nI_le (by omega) (by omega)) q⟩
        | succ m ih =>
          intro j hj ha
          have hjn : 3 * j + 2 < n := by omega
          have bad : ¬ okTr Z.1 f j → (some (Value.int (if sdT Z.1 n f then 0 else -2)) = some (Value.int (-2)) ∧ (if sdT Z.1 n f then I1 else I) = I ∧ L = L) := fun q => by
            have hd : ¬ sdT Z.1 n f := fun w => q (w.2 j (by omega))
            rw [if_neg (c := sdT Z.1 n f) hd, if_neg (c := sdT Z.1 n f) hd]
            exact ⟨rfl, rfl, rfl⟩
          refine vc_X12_askHeard_46 ?_
          rw [u_cl (n := s) (by omega), k3, n31, n32]
          refine ⟨hin, fun q => absurd q (nI_ge (by omega) (by omega)), fun _ => ⟨_, cm_numberAt hr hs hz (by omega) I, _, ct_isPewL hR _, ?_⟩⟩
          by_cases q1 : 0 ≤ f (3 * j) ∧ f (3 * j) ≤ (nI (Z.1.1 0 3) - 1).toInt64
          · refine g1p q1 ⟨_, cm_numberAt hr hs hz (by omega) I, _, ct_isHourL hR hV _, ?_⟩
            by_cases q2 : Z.1.1 0 8 ≠ 0 ∧ 0 ≤ f (3 * j + 1) ∧ f (3 * j + 1) ≤ (nI (Z.1.1 0 0)).toInt64
            · refine g1p q2 ⟨_, cm_numberAt hr hs hz (by omega) I, _, ct_in _ _ _, ?_⟩
              by_cases q3 : 0 ≤ f (3 * j + 2) ∧ f (3 * j + 2) ≤ 6
              · refine g1p q3 ?_
                rw [n3]
                refine ih (j + 1) (by omega) (fun i hi => ?_)
                by_cases e : i = j
                · rw [e]; exact ⟨(pew_l hV _).mp q1, q2.2, q3⟩
                · exact ha i (by omega)
              · exact g1n q3 (bad (fun w => q3 w.2.2))
            · exact g1n q2 (bad (fun w => q2 ⟨h2, w.2.1⟩))
          · exact g1n q1 (bad (fun w => q1 ((pew_l hV _).mpr w.1)))
      refine ⟨if sdT Z.1 n f then I1 else I, wrap _ ⟨fun _ => loop (n / 3) 0 (by omega) (fun i hi => absurd hi (by omega)), fun q => absurd h3 q⟩, ?_, fun z => ?_⟩
      · by_cases hd : sdT Z.1 n f
        · rw [if_pos (c := sdT Z.1 n f) hd]; exact hM1
        · rw [if_neg (c := sdT Z.1 n f) hd]; exact Mq.rf
      · by_cases hd : sdT Z.1 n f
        · rw [if_pos (c := sdT Z.1 n f) hd]; exact ⟨hP1, h19⟩
        · rw [if_neg (c := sdT Z.1 n f) hd] at z; exact absurd z (by decide)
    · have hd : ¬ sdT Z.1 n f := fun w => h3 w.1
      rw [if_neg (c := sdT Z.1 n f) hd] at wrap ⊢
      exact ⟨I, wrap I ⟨fun q => absurd q h3, fun _ => ⟨rfl, rfl, rfl⟩⟩, Mq.rf, fun z => absurd z (by decide)⟩
theorem cm_askWhom (hr : RelM Z I L) (x : Int32) : ∃ I', q_C kX12_askWhom [.ref 96, .int x] I L (some (.int (orf Z x))) I' L ∧ Mq I I' ∧ (orf Z x = 0 → PMd (P0 Z.1) I' ∧ I' 96 19 = 1) := by
  have h5 := hr.1.2.1.2.2.2.2.2.1
  have e5 : I 97 (5 : Int32).toNatClampNeg = nI (Z.1.1 0 5) := hr.1.1.1 5 (by decide)
  obtain ⟨I1, c1, hM1, hq⟩ := cm_askHeard hr x
  by_cases h1 : ib 0 3 x
  · have e : orf Z x = crf Z x := by
      unfold orf
      rw [crf_1 (Or.inl h1)]
      by_cases e : Z.1.1 0 5 = 0
      · rw [if_pos e]
      · rw [if_neg e]
    rw [e]
    exact ⟨I1, c0_X12_askWhom (vc_X12_askWhom_0 ⟨_, ct_isSlot x, g0p h1 ⟨_, I1, c1, rfl, rfl, rfl⟩⟩), hM1, hq⟩
  · by_cases e : Z.1.1 0 5 = 0
    · have eo : orf Z x = -2 := if_pos e
      rw [eo]
      refine ⟨I, c0_X12_askWhom (vc_X12_askWhom_0 ⟨_, ct_isSlot x, g0n h1 ?_⟩), Mq.rf, fun z => absurd z (by decide)⟩
      rw [e5, u_0 (by omega)]
      exact ⟨by unfold vp_in; decide, fun _ => ⟨rfl, rfl, rfl⟩, fun z => absurd e z⟩
    · have eo : orf Z x = crf Z x := if_neg e
      rw [eo]
      refine ⟨I1, c0_X12_askWhom (vc_X12_askWhom_0 ⟨_, ct_isSlot x, g0n h1 ?_⟩), hM1, hq⟩
      rw [e5, u_0 (by omega)]
      exact ⟨by unfold vp_in; decide, fun z => absurd z e, fun _ => ⟨_, I1, c1, rfl, rfl, rfl⟩⟩
theorem cm_isHeard (hr : RelM Z I L) {J : Nat → Nat → Int32} {P : Pm} (hRJ : RM Z.1 J 97 0) (hP : PMd P J) (hPV : PV Z.1 P) (hG : P.2.1.2.2.1 = -1) {s w n : Nat} {f : Nat → Int64} (hs : s < 4) (hz : Z.2.2.2.2 s = some (w, n, f)) (hsd : sdT Z.1 n f) (hJ : J 109 s = nI n) : ∃ I', q_C kX12_isHeard [.ref 96, .int (nI s)] J L (some (.int (if fitP Z.1 P n f then 1 else 0))) I' L ∧ SMo Z.1 P I' ∧ FrM J I' := by
  have hV := hr.1.2
  have h0 := hV.1.1
  have h3 := hV.1.2.2.2.1
  obtain ⟨k1, k2, k3, k4, k5⟩ := (hr.2.2.2.2 s hs).2 w n f hz
  have hin : vp_in (nI s) 4 := u_in hs (by decide)
  obtain ⟨I1, c1, h1, hf1⟩ := tr_go (L := L) hRJ hV hP hPV (fun z => absurd hG z)
  have e109 : I1 109 s = nI n := by rw [hf1 109 s (by omega)]; exact hJ
  refine ⟨I1, c0_X12_isHeard (vc_X12_isHeard_0 ⟨I1, c1, ?_⟩), h1, hf1⟩
  have loop : ∀ m j, j + m = n / 3 → (∀ i, i < j → ftT Z.1 P f i) → v_X12_isHeard_6 (some (.int (if fitP Z.1 P n f then 1 else 0))) I1 L I1 L (nI s) (nI (3 * j)) := by
    intro m
    induction m with
    | zero =>
      intro j hj ha
      have e : j = n / 3 := by omega
      subst e
      refine vc_X12_isHeard_6 ?_
      rw [u_cl (n := s) (by omega), e109]
      have := hsd.1
      exact ⟨hin, fun _ => ⟨by rw [if_pos (ha : fitP Z.1 P n f)], rfl, rfl⟩, fun q => absurd (nI_le (by omega) (by omega)) q⟩
    | succ m ih =>
      intro j hj ha
      have hjn : 3 * j + 2 < n := by have := hsd.1; omega
      obtain ⟨g1, g2, g3, g4⟩ := okTr_n hV (hsd.2 j (by omega))
      have hcv := (h1.cv (t := gN f (3 * j + 1)) g1).1
      have hlen := hcv.1
      refine vc_X12_isHeard_6 ?_
      rw [u_cl (n := s) (by omega), e109, n31, n32]
      refine ⟨hin, fun q => absurd q (nI_ge (by omega) (by omega)), fun _ => ⟨_, cm_numberAt hr hs hz (by omega) I1, _, cm_numberAt hr hs hz (by omega) I1, _, by rw [g3, g4]; exact mq_says h1 g2 g1, _, ct_longOf hcv, _, cm_numberAt hr hs hz (by omega) I1, ?_⟩⟩
      rw [nI_l (by omega), lg_cmp_eq]
      refine ⟨fun q => ?_, fun q => ⟨by rw [if_neg (fun w : fitP Z.1 P n f => q (w j (by omega)))], rfl, rfl⟩⟩
      rw [n3]
      refine ih (j + 1) (by omega) (fun i hi => ?_)
      by_cases e : i = j
      · rw [e]; exact q
      · exact ha i (by omega)
  exact loop (n / 3) 0 (by omega) (fun i hi => absurd hi (by omega))
end RF
def lwB (A : Nt) (n : Nat) (f : Nat → Int64) (q : Nat) : Bool := decide (fitP A (PLw A q) n f)
theorem q_laws (Z : St) (x : Int32) : ∃ v, Q2 Z Z kX11_laws kX12_laws [.int x] (.int v) := by
  by_cases hh : crf Z x = 0
  · obtain ⟨s, w, n, f, hs, hx, hz, hsd, h8⟩ := crf_0 hh
    refine ⟨nI (setF (lwB Z.1 n f) 4), QC_q fun I L hr => ?_, QM_q fun I L hr => ?_⟩
    · have hV := hr.1.1.2
      have h0 := hV.1.1
      obtain ⟨k1, k2, k3, k4, k5⟩ := (hr.1.2.2.2.2 s hs).2 w n f hz
      have h := mloop (V := fun k I' J => v_X2_fittingLaws_4 (some (.int (nI (setF (lwB Z.1 n f) 4)))) I' L J L x (nI (setF (lwB Z.1 n f) k)) (nI k)) (Inv := fun k J => FT I J) (n := 4) (Q := fun I' => FT I I') (fun J hJ => ⟨J, vc_X2_fittingLaws_4 ⟨fun _ => ⟨rfl, rfl, rfl⟩, fun z => absurd (by decide) z⟩, hJ⟩) ?_ I FT.rf
      · obtain ⟨I', hw, hf⟩ := h
        exact ⟨I', c0_X11_laws (vc_X11_laws_0 ⟨_, ct_clueRefusal hr.1 x, fun _ => ⟨_, I', c0_X2_fittingLaws (vc_X2_fittingLaws_0 hw), rfl, rfl, rfl⟩, fun z => absurd hh z⟩), hf.rel hr⟩
      · intro k J hk hJ
        have hRJ := hJ.RC hr.1.1.1
        obtain ⟨I1, c1, h1, hf1⟩ := ce_byLaw (L := L) hRJ k
        obtain ⟨I2, c2, h2, hf2⟩ := tr_run (L := L) (hf1.RC hRJ) hV h1 (PV_PLw hV (by omega))
        have hft := hf1.tr hf2.t
        have cf := ct_fit (L := L) h2 hsd hs (by rw [(hJ.tr hft) 27 s (by omega)]; exact k4) k2 k5
        refine ⟨I2, hJ.tr hft, fun I' hw => vc_X2_fittingLaws_4 ⟨fun z => ?_, fun _ => ⟨I1, c1, _, I2, c2, _, by rw [hx]; exact cf, ?_⟩⟩⟩
        · rw [show (4 : Int32) = nI 4 from rfl, nI_leI (by omega) (by omega)] at z
          omega
        · rw [nI_1, u_one (by omega), u_or]
          by_cases hb : fitP Z.1 (PLw Z.1 k) n f
          · rw [setF_y (show lwB Z.1 n f k = true from decide_eq_true hb)] at hw
            exact g1p hb hw
          · rw [setF_n (show lwB Z.1 n f k = false from decide_eq_false hb)] at hw
            exact g1n hb hw
    · have hV := hr.1.2
      obtain ⟨k1, k2, k3, k4, k5⟩ := (hr.2.2.2.2 s hs).2 w n f hz
      obtain ⟨I0, c0, hM0, hq0⟩ := cm_askHeard hr x
      obtain ⟨hP0, -⟩ := hq0 hh
      have h := mloop (V := fun k I' J => v_X12_laws_19 (some (.int (nI (setF (lwB Z.1 n f) 4)))) I' L J L x (nI (setF (lwB Z.1 n f) k))) (Inv := fun k J => Mq I J ∧ PMd (PLw Z.1 k) J) (n := 4) (Q := fun I' => Mq I I') ?_ ?_ (up2 I0 96 16 0) ⟨hM0.tr (fun a j q => up2_o' (by omega)), hP0.law 0⟩
      · obtain ⟨I', hw, hf⟩ := h
        exact ⟨I', c0_X12_laws (vc_X12_laws_0 ⟨_, I0, c0, fun _ => hw, fun z => absurd (by rw [hh]; decide) z⟩), hf⟩
      · rintro J ⟨hJ, hP⟩
        have e16 : J 96 16 = nI 4 := hP.1
        refine ⟨J, vc_X12_laws_19 ?_, hJ⟩
        rw [e16]
        exact ⟨fun _ => ⟨rfl, rfl, rfl⟩, fun z => absurd (by decide) z⟩
      · rintro k J hk ⟨hJ, hP⟩
        have e16 : J 96 16 = nI k := hP.1
        obtain ⟨I1, c1, h1, hf1⟩ := cm_isHeard (L := L) hr (RM_of (fun j => hJ 97 j (by omega)) hr.1.1) hP (PV_PLw hV (by omega)) rfl hs hz hsd (by rw [hJ 109 s (by omega)]; exact k3)
        have e16' : I1 96 16 = nI k := by rw [hf1 96 16 (by omega)]; exact e16
        have hP1 : PMd (PLw Z.1 k) I1 := PMd_of (fun j => hf1 96 j (by omega)) hP
        refine ⟨up2 I1 96 16 (nI (k + 1)), ⟨(hJ.tr hf1.q).tr (fun a j q => up2_o' (by omega)), hP1.law (k + 1)⟩, fun I' hw => vc_X12_laws_19 ?_⟩
        rw [e16]
        refine ⟨fun z => ?_, fun _ => ⟨_, I1, by rw [hx]; exact c1, ?_⟩⟩
        · rw [show (4 : Int32) = nI 4 from rfl, nI_leI (by omega) (by omega)] at z
          omega
        · rw [e16', nI_1, u_one (by omega), u_or, show (0 : Int32) = nI 0 from rfl, u_or, Nat.or_zero]
          by_cases hb : fitP Z.1 (PLw Z.1 k) n f
          · rw [setF_y (show lwB Z.1 n f k = true from decide_eq_true hb)] at hw
            exact g1p hb hw
          · rw [setF_n (show lwB Z.1 n f k = false from decide_eq_false hb)] at hw
            exact g1n hb hw
  · refine ⟨crf Z x, QC_q fun I L hr => ⟨I, c0_X11_laws (vc_X11_laws_0 ⟨_, ct_clueRefusal hr.1 x, fun z => absurd z hh, fun _ => ⟨rfl, rfl, rfl⟩⟩), Fq.rf, hr.2.1, hr.2.2⟩, QM_q fun I L hr => ?_⟩
    obtain ⟨I0, c0, hM0, -⟩ := cm_askHeard hr x
    exact ⟨I0, c0_X12_laws (vc_X12_laws_0 ⟨_, I0, c0, fun z => absurd z (crf_neg hh), fun _ => ⟨rfl, rfl, rfl⟩⟩), hM0⟩
def szM (A : Nt) (I : Nat → Nat → Int32) (m : Nat) : Prop := ∀ k, k < m → ∀ t p, t ≤ A.1 0 0 → p < A.1 0 3 → I 108 (91 * k + (7 * t + p)) = nI (szF A k t p)
theorem SMo_of {A : Nt} {P : Pm} {I I' : Nat → Nat → Int32} (h : ∀ a j, (a = 97 ∨ 103 ≤ a ∧ a ≤ 106) → I' a j = I a j) (hS : SMo A P I) : SMo A P I' := ⟨⟨RM_of (fun k => h 97 k (by omega)) hS.1.1, hS.1.2⟩, crs_of (fun a k q => h a k (by omega)) hS.2⟩
section WM
variable {Z : St} {I : Nat → Nat → Int32} {L : Nat → Nat → Int64}
theorem cm_fill {A : Nt} {k : Nat} {K : Nat → Nat → Int32} (h5 : A.1 0 5 ≠ 0) (hk : k < A.1 0 3) (h : SMo A (Por A k) K) (r : Option Value) (x z : Int32) : ∃ K', (∀ X, v_X12_whomOf_15 r X L K' L x z (nI (k + 1)) → v_X12_whomOf_51 r X L K L x z (nI k) 0) ∧ (∀ t p, t ≤ A.1 0 0 → p < A.1 0 3 → K' 108 (91 * k + (7 * t + p)) = nI (szF A k t p)) ∧ (∀ a j, (a ≠ 108 ∨ j < 91 * k ∨ 91 * k + 91 ≤ j) → K' a j = K a j) := by
  have hV := h.1.2.1
  have h0 := hV.1.1
  have h3 := hV.1.2.2.2.1
  refine mloop (V := fun t K' J => ∀ X, v_X12_whomOf_15 r X L K' L x z (nI (k + 1)) → v_X12_whomOf_51 r X L J L x z (nI k) (nI t)) (Inv := fun t J => (∀ t2 p, t2 < t → p < A.1 0 3 → J 108 (91 * k + (7 * t2 + p)) = nI (szF A k t2 p)) ∧ (∀ a j, (a ≠ 108 ∨ j < 91 * k ∨ 91 * k + 91 ≤ j) → J a j = K a j)) (n := A.1 0 0 + 1) (Q := fun K' => (∀ t p, t ≤ A.1 0 0 → p < A.1 0 3 → K' 108 (91 * k + (7 * t + p)) = nI (szF A k t p)) ∧ (∀ a j, (a ≠ 108 ∨ j < 91 * k ∨ 91 * k + 91 ≤ j) → K' a j = K a j)) ?_ ?_ K ⟨fun t2 p q => absurd q (by omega), fun _ _ _ => rfl⟩
  · rintro J ⟨g1, g2⟩
    have hS := SMo_of (fun a j q => g2 a j (by omega)) h
    refine ⟨J, fun X hw => vc_X12_whomOf_51 ⟨_, ct_hours hS.1.1, fun _ => ?_, fun q => absurd (nI_lt (by omega) (by omega)) q⟩, fun t p ht hp => g1 t p (by omega) hp, g2⟩
    rw [nI_1]
    exact hw
  · rintro t J ht ⟨g1, g2⟩
    have hS := SMo_of (fun a j q => g2 a j (by omega)) h
    have inner := mloop (V := fun p K' M => ∀ X, v_X12_whomOf_51 r X L K' L x z (nI k) (nI (t + 1)) → v_X12_whomOf_63 r X L M L x z (nI k) (nI t) (nI p)) (Inv := fun p M => (∀ t2 p2, (t2 < t ∨ t2 = t ∧ p2 < p) → p2 < A.1 0 3 → M 108 (91 * k + (7 * t2 + p2)) = nI (szF A k t2 p2)) ∧ (∀ a j, (a ≠ 108 ∨ j < 91 * k ∨ 91 * k + 91 ≤ j) → M a j = K a j)) (n := A.1 0 3) (Q := fun K' => (∀ t2 p, t2 < t + 1 → p < A.1 0 3 → K' 108 (91 * k + (7 * t2 + p)) = nI (szF A k t2 p)) ∧ (∀ a j, (a ≠ 108 ∨ j < 91 * k ∨ 91 * k + 91 ≤ j) → K' a j = K a j)) ?_ ?_ J ⟨fun t2 p2 q hp => g1 t2 p2 (by omega) hp, g2⟩
    · obtain ⟨K', hK, q1, q2⟩ := inner
      refine ⟨K', ⟨q1, q2⟩, fun X hX Y hw => vc_X12_whomOf_51 ⟨_, ct_hours hS.1.1, fun q => absurd q (nI_nlt (by omega) (by omega)), fun _ => ?_⟩⟩
      exact hK Y (hX Y hw)
    · rintro M ⟨m1, m2⟩
      have hSM := SMo_of (fun a j q => m2 a j (by omega)) h
      refine ⟨M, fun X hw => vc_X12_whomOf_63 ⟨_, ct_pews hSM.1.1, fun _ => ?_, fun q => absurd (nI_le (Nat.le_refl _) (by omega)) q⟩, fun t2 p q hp => m1 t2 p (by omega) hp, m2⟩
      rw [nI_1]
      exact hw
    · rintro p M hp ⟨m1, m2⟩
      have hSM := SMo_of (fun a j q => m2 a j (by omega)) h
      have hcv := (hSM.cv (t := t) hp).1
      refine ⟨up2 M 108 (91 * k + (7 * t + p)) (nI (szF A k t p)), ⟨fun t2 p2 q hp2 => ?_, fun a j q => ?_⟩, fun K' hK X hw => vc_X12_whomOf_63 ⟨_, ct_pews hSM.1.1, fun q => absurd q (nI_ge hp (by omega)), fun _ => ⟨_, mq_says hSM (by omega) hp, nI (szF A k t p), ct_longOf hcv, ?_⟩⟩⟩
      · by_cases e : t2 = t ∧ p2 = p
        · rw [e.1, e.2, up2_s]
        · rw [up2_k (by omega)]
          exact m1 t2 p2 (by omega) hp2
      · rw [up2_o' (by omega)]
        exact m2 a j q
      · rw [show (91 : Int32) = nI 91 from rfl, show (7 : Int32) = nI 7 from rfl, u_mul, u_mul, u_add, u_add, u_cl (by omega), nI_1, show 91 * k + 7 * t + p = 91 * k + (7 * t + p) by omega]
        exact ⟨u_in (by omega) (by decide), hK X hw⟩
theorem cm_whomOf (hr : RelM Z I L) {J0 : Nat → Nat → Int32} (hM0 : Mq I J0) (hP0 : PMd (P0 Z.1) J0) (h5 : Z.1.1 0 5 ≠ 0) {s w n : Nat} {f : Nat → Int64} (hs : s < 4) (hz : Z.2.2.2.2 s = some (w, n, f)) (hsd : sdT Z.1 n f) : ∃ I', q_C kX12_whomOf [.ref 96, .int (nI s)] J0 L (some (.int (nI (setF (orB Z.1 n f) (Z.1.1 0 3))))) I' L ∧ Mq I I' ∧ szM Z.1 I' (Z.1.1 0 3) := by
  have hV := hr.1.2
  have h0 := hV.1.1
  have h3 := hV.1.2.2.2.1
  obtain ⟨k1, k2, k3, k4, k5⟩ := (hr.2.2.2.2 s hs).2 w n f hz
  have hl := hV.2.2.2.2.2.1 0 (by omega)
  have e55 : J0 97 (55 : Int32).toNatClampNeg = nI (mE (Z.1.2 0)) := by
    rw [show (55 : Int32).toNatClampNeg = 55 by decide, hM0 97 55 (by omega)]
    exact (hr.1.1.2.2.2.1 0 (by omega)).2
  have hPw : PMw Z.1 (Z.1.2 0) (up2 J0 96 19 (nI (mE (Z.1.2 0)))) := ⟨(up2_k (by decide)).trans hP0.1, (up2_k (by decide)).trans hP0.2.1, (up2_k (by decide)).trans hP0.2.2.1, (up2_k (by decide)).trans hP0.2.2.2.1, (up2_k (by decide)).trans hP0.2.2.2.2.1, (up2_k (by decide)).trans hP0.2.2.2.2.2.1, (up2_k (by decide)).trans hP0.2.2.2.2.2.2.1, up2_s _ _ _ _⟩
  have lp := mloop (V := fun k I' J => v_X12_whomOf_15 (some (.int (nI (setF (orB Z.1 n f) (Z.1.1 0 3))))) I' L J L (nI s) (nI (setF (orB Z.1 n f) k)) (nI k)) (Inv := fun k J => Mq I J ∧ PMw Z.1 (Z.1.2 0) J ∧ szM Z.1 J k) (n := Z.1.1 0 3) (Q := fun I' => Mq I I' ∧ szM Z.1 I' (Z.1.1 0 3)) ?_ ?_ (up2 J0 96 19 (nI (mE (Z.1.2 0)))) ⟨hM0.tr (fun a j q => up2_o' (by omega)), hPw, fun k hk => absurd hk (by omega)⟩
  · obtain ⟨I', hw, hq⟩ := lp
    refine ⟨I', c0_X12_whomOf (vc_X12_whomOf_0 ⟨by unfold vp_in; decide, ?_⟩), hq⟩
    rw [e55]
    exact hw
  · rintro J ⟨hJ, hPJ, hzJ⟩
    exact ⟨J, vc_X12_whomOf_15 ⟨_, ct_pews (RM_of (fun j => hJ 97 j (by omega)) hr.1.1), fun _ => ⟨rfl, rfl, rfl⟩, fun z => absurd (nI_le (Nat.le_refl _) (by omega)) z⟩, hJ, hzJ⟩
  · rintro k J hk ⟨hJ, hPJ, hzJ⟩
    have hRJ : RM Z.1 J 97 0 := RM_of (fun j => hJ 97 j (by omega)) hr.1.1
    have hMu : Mq J (up2 J 96 18 (nI (2 ^ k))) := fun a j q => up2_o' (by omega)
    obtain ⟨I1, c1, h1, hf1⟩ := cm_isHeard (L := L) hr (RM_of (fun j => hMu 97 j (by omega)) hRJ) (PMw_al hPJ (2 ^ k)) (PV_Por hV h5 hk) rfl hs hz hsd (by rw [hMu 109 s (by omega), hJ 109 s (by omega)]; exact k3)
    have hP1 : PMw Z.1 (Z.1.2 0) I1 := PMw_of (fun j hj => by rw [hf1 96 j (by omega), up2_k hj]) hPJ
    obtain ⟨K', hK, q1, q2⟩ := cm_fill (L := L) h5 hk h1 (some (.int (nI (setF (orB Z.1 n f) (Z.1.1 0 3))))) (nI s) (nI (setF (orB Z.1 n f) (k + 1)))
    have hMK : Mq I K' := (hJ.tr (hMu.tr hf1.q)).tr (fun a j q => q2 a j (by omega))
    refine ⟨K', ⟨hMK, PMw_of (fun j hj => q2 96 j (by omega)) hP1, fun u hu t p ht hp => ?_⟩, fun I' hw => vc_X12_whomOf_15 ⟨_, ct_pews hRJ, fun z => absurd z (nI_ge hk (by omega)), fun _ => ⟨_, I1, by rw [u_one (by omega)]; exact c1, ?_⟩⟩⟩
    · by_cases e : u = k
      · subst e; exact q1 t p ht hp
      · rw [q2 108 _ (by omega), hf1 108 _ (by omega), up2_p (by decide)]
        exact hzJ u (by omega) t p ht hp
    · have hw2 := hK I' hw
      rw [u_one (by omega), u_or, show (0 : Int32) = nI 0 from rfl, u_or, Nat.or_zero]
      by_cases hb : fitP Z.1 (Por Z.1 k) n f
      · rw [setF_y (show orB Z.1 n f k = true from decide_eq_true hb)] at hw2
        exact g1p hb hw2
      · rw [setF_n (show orB Z.1 n f k = false from decide_eq_false hb)] at hw2
        exact g1n hb hw2
theorem cm_worstOf {A : Nt} (hR : RM A I 97 0) (hV : NV A) (h5 : A.1 0 5 ≠ 0) (B : Nat → Bool) (hz : szM A I (A.1 0 3)) {t p : Nat} (ht : t ≤ A.1 0 0) (hp : p < A.1 0 3) : q_C kX12_worstOf [.ref 96, .int (nI (setF B (A.1 0 3))), .int (nI (7 * t + p))] I L (some (.int (nI (wsF A B t p)))) I L := by
  have h0 := hV.1.1
  have h3 := hV.1.2.2.2.1
  have hsl := setF_lt B h3
  have tl := tlF_le A B t p
  refine c0_X12_worstOf (vc_X12_worstOf_0 ?_)
  refine down (P := fun u => v_X12_worstOf_5 (some (.int (nI (wsF A B t p)))) I L I L (nI (setF B (A.1 0 3))) (nI (7 * t + p)) (nI (mxT (tlF A B t p (A.1 0 3)) u)) (nI u)) (n := 7) ?_ ?_
  · exact vc_X12_worstOf_5 ⟨fun _ => ⟨rfl, rfl, rfl⟩, fun z => absurd (by decide) z⟩
  · intro u hu ih
    refine vc_X12_worstOf_5 ⟨fun z => ?_, fun _ => ?_⟩
    · rw [show (6 : Int32) = nI 6 from rfl, nI_ltI (by omega) (by omega)] at z
      omega
    · refine down (P := fun k => v_X12_worstOf_18 (some (.int (nI (wsF A B t p)))) I L I L (nI (setF B (A.1 0 3))) (nI (7 * t + p)) (nI (mxT (tlF A B t p (A.1 0 3)) u)) (nI u) (nI (tlF A B t p k u)) (nI k)) (n := A.1 0 3) ?_ ?_
      · refine vc_X12_worstOf_18 ⟨_, ct_pews hR, fun _ => ?_, fun z => absurd (nI_le (Nat.le_refl _) (by omega)) z⟩
        have m1 := mxT_le (T := tlF A B t p (A.1 0 3)) (b := A.1 0 3) (tl (A.1 0 3)) u
        have m2 := tl (A.1 0 3) u
        rw [mx_if _ _ (by omega) (by omega), nI_1]
        exact ih
      · intro k hk ih2
        have e108 : I 108 (91 * k + (7 * t + p)) = nI (szF A k t p) := hz k hk t p ht hp
        have hsz := szF_le hV h5 (t := t) hk hp
        have htb : (setF B (A.1 0 3)).testBit k = B k := by rw [setF_tb]; simp [hk]
        have hmod : setF B (A.1 0 3) / 2 ^ k % 2 < 2 := Nat.mod_lt _ (by decide)
        refine vc_X12_worstOf_18 ⟨_, ct_pews hR, fun z => absurd z (nI_ge hk (by omega)), fun _ => ⟨_, ct_bitN (by omega) (by omega), fun z => ?_, fun z => ?_⟩⟩
        · have hb : B k = true := by
            rw [← htb, ← tb1]
            exact (u_eq (b := 1) (by omega) (by decide)).mp z
          rw [show (91 : Int32) = nI 91 from rfl, u_mul, u_add, u_cl (by omega), e108, u_eq (by omega) (by omega), nI_1, nI_1, show (0 : Int32) = nI 0 from rfl, u_add]
          refine ⟨u_in (by omega) (by decide), fun q => ?_, fun q => ?_⟩
          · rw [show tlF A B t p (k + 1) u = tlF A B t p k u + 1 from cntF_y (by simp [hb, q])] at ih2
            exact ih2
          · rw [show tlF A B t p (k + 1) u = tlF A B t p k u + 0 from cntF_n (by simp [hb, q])] at ih2
            exact ih2
        · have hb : B k = false := by
            rw [← htb, ← tb0]
            have : ¬ setF B (A.1 0 3) / 2 ^ k % 2 = 1 := fun q => z ((u_eq (b := 1) (by omega) (by decide)).mpr q)
            omega
          rw [nI_1, show (0 : Int32) = nI 0 from rfl, u_add]
          rw [show tlF A B t p (k + 1) u = tlF A B t p k u + 0 from cntF_n (by simp [hb])] at ih2
          exact ih2
theorem cm_askOf {A : Nt} (hR : RM A I 97 0) (hV : NV A) (h5 : A.1 0 5 ≠ 0) (B : Nat → Bool) (hz : szM A I (A.1 0 3)) : ∃ I', q_C kX12_askOf [.ref 96, .int (nI (setF B (A.1 0 3)))] I L (some (.int (iI (cqP A B (A.1 0 3)).2))) I' L ∧ (∀ a j, (a ≠ 96 ∨ j ≠ 33) → I' a j = I a j) ∧ I' 96 33 = nI (cqP A B (A.1 0 3)).1 := by
  have h0 := hV.1.1
  have h3 := hV.1.2.2.2.1
  have hsl := setF_lt B h3
  have lp := mloop (V := fun p I' J => v_X12_askOf_12 (some (.int (iI (cqP A B (A.1 0 3)).2))) I' L J L (nI (setF B (A.1 0 3))) (iI (cqP A B p).2) (nI p)) (Inv := fun p J => (∀ a j, (a ≠ 96 ∨ j ≠ 33) → J a j = I a j) ∧ J 96 33 = nI (cqP A B p).1) (n := A.1 0 3) (Q := fun I' => (∀ a j, (a ≠ 96 ∨ j ≠ 33) → I' a j = I a j) ∧ I' 96 33 = nI (cqP A B (A.1 0 3)).1) ?_ ?_ (up2 I 96 33 (nI (pc7 (setF B (A.1 0 3))))) ⟨fun a j q => up2_o' q, up2_s _ _ _ _⟩
  · obtain ⟨I', hw, hq⟩ := lp
    exact ⟨I', c0_X12_askOf (vc_X12_askOf_0 ⟨_, ct_bits hsl, hw⟩), hq⟩
  · rintro J ⟨g1, g3⟩
    exact ⟨J, vc_X12_askOf_12 ⟨_, ct_pews (RM_of (fun j => g1 97 j (by omega)) hR), fun _ => ⟨rfl, rfl, rfl⟩, fun z => absurd (nI_le (Nat.le_refl _) (by omega)) z⟩, g1, g3⟩
  · rintro p J hp ⟨g1, g3⟩
    have inner := mloop (α := (Nat → Nat → Int32)) (V := fun t I' K => (∀ X, v_X12_askOf_12 (some (.int (iI (cqP A B (A.1 0 3)).2))) X L I' L (nI (setF B (A.1 0 3))) (iI (cqP A B (p + 1)).2) (nI (p + 1)) → v_X12_askOf_23 (some (.int (iI (cqP A B (A.1 0 3)).2))) X L K L (nI (setF B (A.1 0 3))) (iI (cqH A B p (cqP A B p) t).2) (nI p) (nI t))) (Inv := fun t K => (∀ a j, (a ≠ 96 ∨ j ≠ 33) → K a j = I a j) ∧ K 96 33 = nI (cqH A B p (cqP A B p) t).1) (n := A.1 0 0 + 1) (Q := fun I' => (∀ a j, (a ≠ 96 ∨ j ≠ 33) → I' a j = I a j) ∧ I' 96 33 = nI (cqP A B (p + 1)).1) ?_ ?_ J ⟨g1, g3⟩
    · obtain ⟨K, hK, hq⟩ := inner
      exact ⟨K, hq, fun I' hw => vc_X12_askOf_12 ⟨_, ct_pews (RM_of (fun j => g1 97 j (by omega)) hR), fun z => absurd z (nI_ge hp (by omega)), fun _ => hK I' hw⟩⟩
    · rintro K ⟨k1, k3⟩
      refine ⟨K, fun X hw => vc_X12_askOf_23 ⟨_, ct_hours (RM_of (fun j => k1 97 j (by omega)) hR), fun _ => ?_, fun z => absurd (nI_lt (by omega) (by omega)) z⟩, k1, k3⟩
      rw [nI_1]
      exact hw
    · rintro t K ht ⟨k1, k3⟩
      have hRK : RM A K 97 0 := RM_of (fun j => k1 97 j (by omega)) hR
      have cw := cm_worstOf (I := K) (L := L) hRK hV h5 B (fun k hk t2 p2 q1 q2 => by rw [k1 108 _ (by omega)]; exact hz k hk t2 p2 q1 q2) (t := t) (by omega) hp
      have hq7 := cqH_le hV B p (cqP_le hV B p) t
      have hw7 := wsF_le hV B t p
      by_cases hlt : wsF A B t p < (cqH A B p (cqP A B p) t).1
      · have est : cqH A B p (cqP A B p) (t + 1) = (wsF A B t p, ((100 * p + t : Nat) : Int)) := if_pos hlt
        refine ⟨up2 K 96 33 (nI (wsF A B t p)), ⟨fun a j q => by rw [up2_o' q]; exact k1 a j q, by rw [up2_s, est]⟩, fun K' hK' X hw => vc_X12_askOf_23 ⟨_, ct_hours hRK, fun z => absurd z (nI_nlt (by omega) (by omega)), fun _ => ⟨_, by rw [ix7m]; exact cw, ?_⟩⟩⟩
        have hw2 := hK' X hw
        rw [est, ← nI_iI] at hw2
        rw [k3, nI_ltI (by omega) (by omega), show (100 : Int32) = nI 100 from rfl, u_mul, u_add, nI_1]
        exact ⟨fun _ => hw2, fun z => absurd hlt z⟩
      · have est : cqH A B p (cqP A B p) (t + 1) = cqH A B p (cqP A B p) t := if_neg hlt
        refine ⟨K, ⟨k1, by rw [est]; exact k3⟩, fun K' hK' X hw => vc_X12_askOf_23 ⟨_, ct_hours hRK, fun z => absurd z (nI_nlt (by omega) (by omega)), fun _ => ⟨_, by rw [ix7m]; exact cw, ?_⟩⟩⟩
        have hw2 := hK' X hw
        rw [est] at hw2
        rw [k3, nI_ltI (by omega) (by omega), nI_1]
        exact ⟨fun z => absurd z hlt, fun _ => hw2⟩
end WM
theorem q_whom (Z : St) (x : Int32) : ∃ v, Q2 Z Z kX11_whom kX12_whom [.int x] (.int v) := by
  by_cases hh : orf Z x = 0
  · obtain ⟨h5, hc⟩ := orf_0 hh
    obtain ⟨s, w, n, f, hs, hx, hz, hsd, h8⟩ := crf_0 hc
    refine ⟨nI (setF (orB Z.1 n f) (Z.1.1 0 3)), QC_q fun I L hr => ?_, QM_q fun I L hr => ?_⟩
    · obtain ⟨k1, k2, k3, k4, k5⟩ := (hr.1.2.2.2.2 s hs).2 w n f hz
      obtain ⟨I1, c1, hf1, -⟩ := ce_origins (L := L) hr.1.1.1 hr.1.1.2 h5 hsd hs k4 k2 k5
      exact ⟨I1, c0_X11_whom (vc_X11_whom_0 ⟨_, ct_originRefusal hr.1 x, fun _ => ⟨_, I1, by rw [hx]; exact c1, rfl, rfl, rfl⟩, fun z => absurd hh z⟩), hf1.rel hr⟩
    · obtain ⟨I0, c0, hM0, hq0⟩ := cm_askWhom hr x
      obtain ⟨I1, c1, hM1, -⟩ := cm_whomOf hr hM0 (hq0 hh).1 h5 hs hz hsd
      exact ⟨I1, c0_X12_whom (vc_X12_whom_0 ⟨_, I0, c0, fun _ => ⟨_, I1, by rw [hx]; exact c1, rfl, rfl, rfl⟩, fun z => absurd (by rw [hh]; decide) z⟩), hM1⟩
  · refine ⟨orf Z x, QC_q fun I L hr => ⟨I, c0_X11_whom (vc_X11_whom_0 ⟨_, ct_originRefusal hr.1 x, fun z => absurd z hh, fun _ => ⟨rfl, rfl, rfl⟩⟩), Fq.rf, hr.2.1, hr.2.2⟩, QM_q fun I L hr => ?_⟩
    obtain ⟨I0, c0, hM0, -⟩ := cm_askWhom hr x
    exact ⟨I0, c0_X12_whom (vc_X12_whom_0 ⟨_, I0, c0, fun z => absurd z (orf_neg hh), fun _ => ⟨rfl, rfl, rfl⟩⟩), hM0⟩
theorem q_ask (Z : St) (x : Int32) : ∃ v, Q2 Z Z kX11_ask kX12_ask [.int x] (.int v) := by
  by_cases hh : orf Z x = 0
  · obtain ⟨h5, hc⟩ := orf_0 hh
    obtain ⟨s, w, n, f, hs, hx, hz, hsd, h8⟩ := crf_0 hc
    refine ⟨iI (cqP Z.1 (orB Z.1 n f) (Z.1.1 0 3)).2, QC_q fun I L hr => ?_, QM_q fun I L hr => ?_⟩
    · obtain ⟨k1, k2, k3, k4, k5⟩ := (hr.1.2.2.2.2 s hs).2 w n f hz
      obtain ⟨I1, c1, hf1, hz1⟩ := ce_origins (L := L) hr.1.1.1 hr.1.1.2 h5 hsd hs k4 k2 k5
      obtain ⟨I2, c2, hf2, e0, e1⟩ := ce_chooseQ (L := L) (hf1.RC hr.1.1.1) hr.1.1.2 h5 hz1
      exact ⟨I2, c0_X11_ask (vc_X11_ask_0 ⟨_, ct_originRefusal hr.1 x, fun _ => ⟨_, I1, by rw [hx]; exact c1, I2, c2, by rw [e0], rfl, rfl⟩, fun z => absurd hh z⟩), (hf1.tr hf2).rel hr⟩
    · obtain ⟨I0, c0, hM0, hq0⟩ := cm_askWhom hr x
      obtain ⟨I1, c1, hM1, hz1⟩ := cm_whomOf hr hM0 (hq0 hh).1 h5 hs hz hsd
      obtain ⟨I2, c2, hf2, -⟩ := cm_askOf (L := L) (RM_of (fun k => hM1 97 k (by omega)) hr.1.1) hr.1.2 h5 (orB Z.1 n f) hz1
      exact ⟨I2, c0_X12_ask (vc_X12_ask_0 ⟨_, I0, c0, fun _ => ⟨_, I1, by rw [hx]; exact c1, _, I2, c2, rfl, rfl, rfl⟩, fun z => absurd (by rw [hh]; decide) z⟩), hM1.tr (fun a k q => hf2 a k (by omega))⟩
  · refine ⟨orf Z x, QC_q fun I L hr => ⟨I, c0_X11_ask (vc_X11_ask_0 ⟨_, ct_originRefusal hr.1 x, fun z => absurd z hh, fun _ => ⟨rfl, rfl, rfl⟩⟩), Fq.rf, hr.2.1, hr.2.2⟩, QM_q fun I L hr => ?_⟩
    obtain ⟨I0, c0, hM0, -⟩ := cm_askWhom hr x
    exact ⟨I0, c0_X12_ask (vc_X12_ask_0 ⟨_, I0, c0, fun z => absurd z (orf_neg hh), fun _ => ⟨rfl, rfl, rfl⟩⟩), hM0⟩
theorem q_leaves (Z : St) (x : Int32) : ∃ v, Q2 Z Z kX11_leaves kX12_leaves [.int x] (.int v) := by
  by_cases hh : orf Z x = 0
  · obtain ⟨h5, hc⟩ := orf_0 hh
    obtain ⟨s, w, n, f, hs, hx, hz, hsd, h8⟩ := crf_0 hc
    refine ⟨nI (cqP Z.1 (orB Z.1 n f) (Z.1.1 0 3)).1, QC_q fun I L hr => ?_, QM_q fun I L hr => ?_⟩
    · obtain ⟨k1, k2, k3, k4, k5⟩ := (hr.1.2.2.2.2 s hs).2 w n f hz
      obtain ⟨I1, c1, hf1, hz1⟩ := ce_origins (L := L) hr.1.1.1 hr.1.1.2 h5 hsd hs k4 k2 k5
      obtain ⟨I2, c2, hf2, e0, e1⟩ := ce_chooseQ (L := L) (hf1.RC hr.1.1.1) hr.1.1.2 h5 hz1
      exact ⟨I2, c0_X11_leaves (vc_X11_leaves_0 ⟨_, ct_originRefusal hr.1 x, fun _ => ⟨_, I1, by rw [hx]; exact c1, I2, c2, by rw [e1], rfl, rfl⟩, fun z => absurd hh z⟩), (hf1.tr hf2).rel hr⟩
    · obtain ⟨I0, c0, hM0, hq0⟩ := cm_askWhom hr x
      obtain ⟨I1, c1, hM1, hz1⟩ := cm_whomOf hr hM0 (hq0 hh).1 h5 hs hz hsd
      obtain ⟨I2, c2, hf2, e33⟩ := cm_askOf (L := L) (RM_of (fun k => hM1 97 k (by omega)) hr.1.1) hr.1.2 h5 (orB Z.1 n f) hz1
      exact ⟨I2, c0_X12_leaves (vc_X12_leaves_0 ⟨_, I0, c0, fun _ => ⟨_, I1, by rw [hx]; exact c1, _, I2, c2, by rw [e33], rfl, rfl⟩, fun z => absurd (by rw [hh]; decide) z⟩), hM1.tr (fun a k q => hf2 a k (by omega))⟩
  · refine ⟨orf Z x, QC_q fun I L hr => ⟨I, c0_X11_leaves (vc_X11_leaves_0 ⟨_, ct_originRefusal hr.1 x, fun z => absurd z hh, fun _ => ⟨rfl, rfl, rfl⟩⟩), Fq.rf, hr.2.1, hr.2.2⟩, QM_q fun I L hr => ?_⟩
    obtain ⟨I0, c0, hM0, -⟩ := cm_askWhom hr x
    exact ⟨I0, c0_X12_leaves (vc_X12_leaves_0 ⟨_, I0, c0, fun z => absurd z (orf_neg hh), fun _ => ⟨rfl, rfl, rfl⟩⟩), hM0⟩
