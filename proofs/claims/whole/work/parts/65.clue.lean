/-! HEARD: what a slot's row tells. -/
def gN (f : Nat → Int64) (i : Nat) : Nat := (f i).toInt.toNat
abbrev okTr (A : Nt) (f : Nat → Int64) (j : Nat) : Prop := (0 ≤ f (3 * j) ∧ f (3 * j) < ((nI (A.1 0 3)) : Int32).toInt64) ∧ (0 ≤ f (3 * j + 1) ∧ f (3 * j + 1) ≤ ((nI (A.1 0 0)) : Int32).toInt64) ∧ (0 ≤ f (3 * j + 2) ∧ f (3 * j + 2) ≤ 6)
abbrev sdT (A : Nt) (n : Nat) (f : Nat → Int64) : Prop := n % 3 = 0 ∧ ∀ j, j < n / 3 → okTr A f j
abbrev ftT (A : Nt) (P : Pm) (f : Nat → Int64) (j : Nat) : Prop := lN (rows A P (gN f (3 * j + 1)) (gN f (3 * j))).1.length = f (3 * j + 2)
abbrev fitP (A : Nt) (P : Pm) (n : Nat) (f : Nat → Int64) : Prop := ∀ j, j < n / 3 → ftT A P f j
theorem okTr_n {A : Nt} (hV : NV A) {f : Nat → Int64} {j : Nat} (h : okTr A f j) : gN f (3 * j) < A.1 0 3 ∧ gN f (3 * j + 1) ≤ A.1 0 0 ∧ (f (3 * j)).toInt32 = nI (gN f (3 * j)) ∧ (f (3 * j + 1)).toInt32 = nI (gN f (3 * j + 1)) := by
  obtain ⟨⟨a1, a2⟩, ⟨b1, b2⟩, -⟩ := h
  have h0 := hV.1.1
  have h3 := hV.1.2.2.2.1
  rw [Int64.le_iff_toInt_le, show (0 : Int64).toInt = 0 by decide] at a1 b1
  rw [Int64.lt_iff_toInt_lt, Int32.toInt_toInt64, t_n (by omega)] at a2
  rw [Int64.le_iff_toInt_le, Int32.toInt_toInt64, t_n (by omega)] at b2
  unfold gN
  refine ⟨by omega, by omega, ?_, ?_⟩
  · rw [t_eq, t_n (by omega), Int64.toInt_toInt32, Int.bmod_eq_of_le (by omega) (by omega)]
    omega
  · rw [t_eq, t_n (by omega), Int64.toInt_toInt32, Int.bmod_eq_of_le (by omega) (by omega)]
    omega
theorem pew_l {A : Nt} (hV : NV A) (v : Int64) : (0 ≤ v ∧ v ≤ (nI (A.1 0 3) - 1).toInt64) ↔ (0 ≤ v ∧ v < ((nI (A.1 0 3)) : Int32).toInt64) := by
  have h3 := hV.1.2.2.2.1
  rw [Int64.le_iff_toInt_le, Int64.le_iff_toInt_le, Int64.lt_iff_toInt_lt, Int32.toInt_toInt64, Int32.toInt_toInt64, t_n1 (by omega), t_n (by omega)]
  omega
section CL
variable {A : Nt} {I : Nat → Nat → Int32} {L : Nat → Nat → Int64} {s n : Nat} {f : Nat → Int64}
theorem n3 (j : Nat) : nI (3 * j) + 3 = nI (3 * (j + 1)) := by rw [show (3 : Int32) = nI 3 from rfl, u_add, show 3 * j + 3 = 3 * (j + 1) by omega]
theorem n32 (j : Nat) : nI (3 * j) + 2 = nI (3 * j + 2) := by rw [show (2 : Int32) = nI 2 from rfl, u_add]
theorem n31 (j : Nat) : nI (3 * j) + 1 = nI (3 * j + 1) := nI_1 _
theorem ct_areSound (hR : RC A I 12 21) (hV : NV A) (hs : s < 4) (h27 : I 27 s = nI n) (hn : n ≤ 60) (hL : ∀ i, i < 60 → L (29 + s) i = f i) : q_C kX2_areSound [.ref 92, .int (nI s)] I L (some (.int (if sdT A n f then 1 else 0))) I L := by
  have h0 := hV.1.1
  have h3 := hV.1.2.2.2.1
  have e1 : I 12 1 = nI (A.1 0 0) := hR.1.2.1
  have e4 : I 12 4 = nI (A.1 0 3) := hR.1.2.2.2.2.1
  have hin : vp_in (nI s) 4 := u_in hs (by decide)
  have hpl : 29 ≤ 29 + s ∧ 29 + s < 33 := ⟨by omega, by omega⟩
  refine c0_X2_areSound (vc_X2_areSound_0 ?_)
  rw [u_cl (n := s) (by omega), h27, show (3 : Int32) = nI 3 from rfl, pk_rem (a := n) (d := 3) (by omega) (by decide) (by decide), u_0 (by omega)]
  refine ⟨hin, hin, fun z => ?_, fun z => ⟨by rw [if_neg (fun q : sdT A n f => z q.1)], rfl, rfl⟩⟩
  have loop : ∀ m j, j + m = n / 3 → (∀ i, i < j → okTr A f i) → v_X2_areSound_31 (some (.int (if sdT A n f then 1 else 0))) I L I L (nI n) (29 + s) (nI (3 * j)) := by
    intro m
    induction m with
    | zero =>
      intro j hj ha
      have e : j = n / 3 := by omega
      subst e
      refine vc_X2_areSound_31 ⟨fun _ => ⟨by rw [if_pos (⟨z, ha⟩ : sdT A n f)], rfl, rfl⟩, fun q => absurd ?_ q⟩
      rw [n32]
      exact nI_le (by omega) (by omega)
    | succ m ih =>
      intro j hj ha
      have hjn : 3 * j + 2 < n := by omega
      have l0 : L (29 + s) (3 * j) = f (3 * j) := hL _ (by omega)
      have l1 : L (29 + s) (3 * j + 1) = f (3 * j + 1) := hL _ (by omega)
      have l2 : L (29 + s) (3 * j + 2) = f (3 * j + 2) := hL _ (by omega)
      have i0 : vp_in (nI (3 * j)) 60 := u_in (by omega) (by decide)
      have i1 : vp_in (nI (3 * j) + 1) 60 := by rw [n31]; exact u_in (by omega) (by decide)
      have i2 : vp_in (nI (3 * j) + 2) 60 := by rw [n32]; exact u_in (by omega) (by decide)
      have c0 : (nI (3 * j)).toNatClampNeg = 3 * j := u_cl (by omega)
      have c1 : (nI (3 * j) + 1 : Int32).toNatClampNeg = 3 * j + 1 := by rw [n31]; exact u_cl (by omega)
      have c2 : (nI (3 * j) + 2 : Int32).toNatClampNeg = 3 * j + 2 := by rw [n32]; exact u_cl (by omega)
      have bad : ¬ okTr A f j → some (Value.int (if sdT A n f then 1 else 0)) = some (Value.int 0) := fun q => by rw [if_neg (fun w : sdT A n f => q (w.2 j (by omega)))]
      have s136 : v_X2_areSound_136 (some (.int (if sdT A n f then 1 else 0))) I L I L (nI n) (29 + s) (nI (3 * j)) (if 0 ≤ f (3 * j) ∧ f (3 * j) < ((nI (A.1 0 3)) : Int32).toInt64 then 1 else 0) (if 0 ≤ f (3 * j + 1) ∧ f (3 * j + 1) ≤ ((nI (A.1 0 0)) : Int32).toInt64 then 1 else 0) (if 0 ≤ f (3 * j + 2) ∧ f (3 * j + 2) ≤ 6 then 1 else 0) := by
        refine vc_X2_areSound_136 ?_
        by_cases k1 : 0 ≤ f (3 * j) ∧ f (3 * j) < ((nI (A.1 0 3)) : Int32).toInt64
        · refine g1p k1 ?_
          by_cases k2 : 0 ≤ f (3 * j + 1) ∧ f (3 * j + 1) ≤ ((nI (A.1 0 0)) : Int32).toInt64
          · refine g1p k2 ?_
            by_cases k3 : 0 ≤ f (3 * j + 2) ∧ f (3 * j + 2) ≤ 6
            · refine g1p k3 ?_
              rw [n3]
              refine ih (j + 1) (by omega) (fun i hi => ?_)
              by_cases e : i = j
              · rw [e]; exact ⟨k1, k2, k3⟩
              · exact ha i (by omega)
            · exact g1n k3 ⟨bad (fun q => k3 q.2.2), rfl, rfl⟩
          · exact g1n k2 ⟨bad (fun q => k2 q.2.1), rfl, rfl⟩
        · exact g1n k1 ⟨bad (fun q => k1 q.1), rfl, rfl⟩
      have s105 : v_X2_areSound_105 (some (.int (if sdT A n f then 1 else 0))) I L I L (nI n) (29 + s) (nI (3 * j)) (if 0 ≤ f (3 * j) ∧ f (3 * j) < ((nI (A.1 0 3)) : Int32).toInt64 then 1 else 0) (if 0 ≤ f (3 * j + 1) ∧ f (3 * j + 1) ≤ ((nI (A.1 0 0)) : Int32).toInt64 then 1 else 0) := by
        refine vc_X2_areSound_105 ?_
        rw [c2, l2, lg_cmp_lt, lg_cmp_gt]
        refine ⟨hpl, i2, fun q => ?_, fun q => ⟨hpl, i2, fun q2 => ?_, fun q2 => ?_⟩⟩
        · rw [if_neg (c := 0 ≤ f (3 * j + 2) ∧ f (3 * j + 2) ≤ 6) (fun w => absurd q (Int64.not_lt.mpr w.1))] at s136; exact s136
        · rw [if_neg (c := 0 ≤ f (3 * j + 2) ∧ f (3 * j + 2) ≤ 6) (fun w => absurd q2 (Int64.not_lt.mpr w.2))] at s136; exact s136
        · rw [if_pos (c := 0 ≤ f (3 * j + 2) ∧ f (3 * j + 2) ≤ 6) ⟨Int64.not_lt.mp q, Int64.not_lt.mp q2⟩] at s136; exact s136
      have s69 : v_X2_areSound_69 (some (.int (if sdT A n f then 1 else 0))) I L I L (nI n) (29 + s) (nI (3 * j)) (if 0 ≤ f (3 * j) ∧ f (3 * j) < ((nI (A.1 0 3)) : Int32).toInt64 then 1 else 0) := by
        refine vc_X2_areSound_69 ?_
        rw [c1, l1, e1, lg_cmp_lt, lg_cmp_gt]
        refine ⟨hpl, i1, fun q => ?_, fun q => ⟨hpl, i1, fun q2 => ?_, fun q2 => ?_⟩⟩
        · rw [if_neg (c := 0 ≤ f (3 * j + 1) ∧ f (3 * j + 1) ≤ ((nI (A.1 0 0)) : Int32).toInt64) (fun w => absurd q (Int64.not_lt.mpr w.1))] at s105; exact s105
        · rw [if_neg (c := 0 ≤ f (3 * j + 1) ∧ f (3 * j + 1) ≤ ((nI (A.1 0 0)) : Int32).toInt64) (fun w => absurd q2 (Int64.not_lt.mpr w.2))] at s105; exact s105
        · rw [if_pos (c := 0 ≤ f (3 * j + 1) ∧ f (3 * j + 1) ≤ ((nI (A.1 0 0)) : Int32).toInt64) ⟨Int64.not_lt.mp q, Int64.not_lt.mp q2⟩] at s105; exact s105
      refine vc_X2_areSound_31 ?_
      rw [n32, c0, l0, e4, lg_cmp_lt, lg_cmp_ge]
      refine ⟨fun q => absurd q (nI_ge hjn (by omega)), fun _ => ⟨hpl, i0, fun q => ?_, fun q => ⟨hpl, i0, fun q2 => ?_, fun q2 => ?_⟩⟩⟩
      · rw [if_neg (c := 0 ≤ f (3 * j) ∧ f (3 * j) < ((nI (A.1 0 3)) : Int32).toInt64) (fun w => absurd q (Int64.not_lt.mpr w.1))] at s69; exact s69
      · rw [if_neg (c := 0 ≤ f (3 * j) ∧ f (3 * j) < ((nI (A.1 0 3)) : Int32).toInt64) (fun w => absurd w.2 (Int64.not_lt.mpr q2))] at s69; exact s69
      · rw [if_pos (c := 0 ≤ f (3 * j) ∧ f (3 * j) < ((nI (A.1 0 3)) : Int32).toInt64) ⟨Int64.not_lt.mp q, Int64.not_le.mp q2⟩] at s69; exact s69
  exact loop (n / 3) 0 (by omega) (fun i hi => absurd hi (by omega))
theorem ct_fit {P : Pm} (h : SCo A P 81 I) (hsd : sdT A n f) (hs : s < 4) (h27 : I 27 s = nI n) (hn : n ≤ 60) (hL : ∀ i, i < 60 → L (29 + s) i = f i) : q_C kX2_fit [.ref 92, .int (nI s)] I L (some (.int (if fitP A P n f then 1 else 0))) I L := by
  have hV := h.1.2.1
  have h0 := hV.1.1
  have h3 := hV.1.2.2.2.1
  have hin : vp_in (nI s) 4 := u_in hs (by decide)
  have hpl : 29 ≤ 29 + s ∧ 29 + s < 33 := ⟨by omega, by omega⟩
  refine c0_X2_fit (vc_X2_fit_0 ⟨hin, ?_⟩)
  rw [u_cl (n := s) (by omega)]
  have loop : ∀ m j, j + m = n / 3 → (∀ i, i < j → ftT A P f i) → v_X2_fit_12 (some (.int (if fitP A P n f then 1 else 0))) I L I L (nI s) (29 + s) (nI (3 * j)) := by
    intro m
    induction m with
    | zero =>
      intro j hj ha
      have e : j = n / 3 := by omega
      subst e
      refine vc_X2_fit_12 ?_
      rw [u_cl (n := s) (by omega), h27, n32]
      exact ⟨hin, fun _ => ⟨by rw [if_pos (ha : fitP A P n f)], rfl, rfl⟩, fun q => absurd (nI_le (by omega) (by omega)) q⟩
    | succ m ih =>
      intro j hj ha
      have hjn : 3 * j + 2 < n := by have := hsd.1; omega
      have l0 : L (29 + s) (3 * j) = f (3 * j) := hL _ (by omega)
      have l1 : L (29 + s) (3 * j + 1) = f (3 * j + 1) := hL _ (by omega)
      have l2 : L (29 + s) (3 * j + 2) = f (3 * j + 2) := hL _ (by omega)
      obtain ⟨g1, g2, g3, g4⟩ := okTr_n hV (hsd.2 j (by omega))
      have hsy : I 83 (gN f (3 * j + 1) * 7 + gN f (3 * j)) = nI (cE (rows A P (gN f (3 * j + 1)) (gN f (3 * j))).1) := (h.says g2 g1).1
      have hcv := (h.cv (t := gN f (3 * j + 1)) g1).1
      have hlen := hcv.1
      refine vc_X2_fit_12 ?_
      rw [u_cl (n := s) (by omega), h27, n32, n31, u_cl (n := 3 * j) (by omega), u_cl (n := 3 * j + 1) (by omega), u_cl (n := 3 * j + 2) (by omega), l0, l1, l2, g3, g4]
      refine ⟨hin, fun q => absurd q (nI_ge hjn (by omega)), fun _ => ⟨hpl, u_in (by omega) (by decide), hpl, u_in (by omega) (by decide), fun z1 h1 => ?_⟩⟩
      rw [show (7 : Int32) = nI 7 from rfl, u_mul, u_add] at h1
      rw [h1, u_cl (by omega), hsy]
      refine ⟨u_in (by omega) (by decide), _, ct_size hcv, hpl, u_in (by omega) (by decide), ?_⟩
      rw [nI_l (by omega), lg_cmp_eq]
      refine ⟨fun q => ?_, fun q => ⟨by rw [if_neg (fun w : fitP A P n f => q (w j (by omega)))], rfl, rfl⟩⟩
      rw [n3]
      refine ih (j + 1) (by omega) (fun i hi => ?_)
      by_cases e : i = j
      · rw [e]; exact q
      · exact ha i (by omega)
  exact loop (n / 3) 0 (by omega) (fun i hi => absurd hi (by omega))
end CL
def FK (I I' : Nat → Nat → Int32) : Prop := ∀ a k, (a < 81 ∨ 87 < a ∧ a < 92 ∨ 94 < a) → I' a k = I a k
theorem FK.rf {I : Nat → Nat → Int32} : FK I I := fun _ _ _ => rfl
theorem FK.tr {I I1 I2 : Nat → Nat → Int32} (h : FK I I1) (h2 : FK I1 I2) : FK I I2 := fun a k q => (h2 a k q).trans (h a k q)
theorem FT.k {I I' : Nat → Nat → Int32} (h : FT I I') : FK I I' := fun a k q => h a k (by omega)
theorem FK.RC {A : Nt} {I I' : Nat → Nat → Int32} (h : FK I I') (hR : RC A I 12 21) : RC A I' 12 21 := RC_of (fun a k q => h a k (by omega)) hR
theorem FK.rel {Z : St} {I I' : Nat → Nat → Int32} {L : Nat → Nat → Int64} (h : FK I I') (hr : RelC Z I L) : Fq I I' ∧ Se Z.1 I' ∧ Wo Z.1 I' := ⟨fun a k q _ => h a k (by omega), Se_of (fun a k q => h a k (by omega)) hr.2.1, Wo_of (fun k => h 89 k (by omega)) hr.2.2⟩
/-- whom: the one lit alone -/
abbrev Por (A : Nt) (k : Nat) : Pm := Pal A (2 ^ k) (A.2 0)
theorem PV_Por {A : Nt} (hV : NV A) (h5 : A.1 0 5 ≠ 0) {k : Nat} (hk : k < A.1 0 3) : PV A (Por A k) := by
  have h3 := hV.1.2.2.2.1
  have hl := hV.2.2.2.2.2.1 0 (by omega)
  exact PV_Pal hV (show 2 ^ k < 2 ^ 7 from Nat.pow_lt_pow_right (by decide) (by omega)) hl.2.1 hl.2.2
def szF (A : Nt) (k t p : Nat) : Nat := (rows A (Por A k) t p).1.length
theorem szF_le {A : Nt} (hV : NV A) (h5 : A.1 0 5 ≠ 0) {k t p : Nat} (hk : k < A.1 0 3) (hp : p < A.1 0 3) : szF A k t p ≤ 6 := (RV_rows hV (PV_Por hV h5 hk) t p hp).1.1
def orB (A : Nt) (n : Nat) (f : Nat → Int64) (k : Nat) : Bool := decide (fitP A (Por A k) n f)
/-- the sizes of the origins found are noted -/
def szC (A : Nt) (B : Nat → Bool) (I : Nat → Nat → Int32) (m : Nat) : Prop := ∀ k, k < m → B k = true → ∀ t p, t ≤ A.1 0 0 → p < A.1 0 3 → I 93 (91 * k + (7 * t + p)) = nI (szF A k t p)
section OR
variable {A : Nt} {I : Nat → Nat → Int32} {L : Nat → Nat → Int64} {s n : Nat} {f : Nat → Int64}
theorem ce_noteSizes {k : Nat} (hk : k < A.1 0 3) (h5 : A.1 0 5 ≠ 0) (h : SCo A (Por A k) 81 I) : ∃ I', q_C kX2_noteSizes [.ref 92, .int (nI k)] I L none I' L ∧ (∀ t p, t ≤ A.1 0 0 → p < A.1 0 3 → I' 93 (91 * k + (7 * t + p)) = nI (szF A k t p)) ∧ (∀ a j, (a ≠ 93 ∨ j < 91 * k ∨ 91 * k + 91 ≤ j) → I' a j = I a j) := by
  have hV := h.1.2.1
  have h0 := hV.1.1
  have h3 := hV.1.2.2.2.1
  have lp := mloop (V := fun u I' J => v_X2_noteSizes_2 none I' L J L (nI k) (nI u)) (Inv := fun u J => (∀ t p, t ≤ A.1 0 0 → p < A.1 0 3 → 7 * t + p < u → J 93 (91 * k + (7 * t + p)) = nI (szF A k t p)) ∧ (∀ a j, (a ≠ 93 ∨ j < 91 * k ∨ 91 * k + 91 ≤ j) → J a j = I a j)) (n := (A.1 0 0 + 1) * 7) (Q := fun I' => (∀ t p, t ≤ A.1 0 0 → p < A.1 0 3 → I' 93 (91 * k + (7 * t + p)) = nI (szF A k t p)) ∧ (∀ a j, (a ≠ 93 ∨ j < 91 * k ∨ 91 * k + 91 ≤ j) → I' a j = I a j)) ?_ ?_ I ⟨fun t p _ _ q => absurd q (by omega), fun _ _ _ => rfl⟩
  · obtain ⟨I', hw, hq⟩ := lp
    exact ⟨I', c0_X2_noteSizes (vc_X2_noteSizes_0 hw), hq⟩
  · rintro J ⟨g1, g2⟩
    have e1 : J 12 1 = nI (A.1 0 0) := by rw [g2 12 1 (by omega)]; exact h.1.1.1.2.1
    refine ⟨J, vc_X2_noteSizes_2 ?_, fun t p ht hp => g1 t p ht hp (by omega), g2⟩
    rw [e1, nI_1, show (7 : Int32) = nI 7 from rfl, u_mul]
    exact ⟨fun _ => ⟨rfl, rfl, rfl⟩, fun z => absurd (nI_le (Nat.le_refl _) (by omega)) z⟩
  · rintro u J hu ⟨g1, g2⟩
    have e1 : J 12 1 = nI (A.1 0 0) := by rw [g2 12 1 (by omega)]; exact h.1.1.1.2.1
    have e4 : J 12 4 = nI (A.1 0 3) := by rw [g2 12 4 (by omega)]; exact h.1.1.1.2.2.2.2.1
    have er : nI u - nI u / 7 * 7 = nI (u % 7) := pk_rem (a := u) (d := 7) (by omega) (by decide) (by decide)
    by_cases hp : u % 7 < A.1 0 3
    · have ht : u / 7 ≤ A.1 0 0 := by omega
      have eu : u = u / 7 * 7 + u % 7 := by omega
      have hsy : J 83 u = nI (cE (rows A (Por A k) (u / 7) (u % 7)).1) := by
        have := (h.says ht hp).1
        rw [← eu] at this
        rw [g2 83 u (by omega)]
        exact this
      have hcv := (h.cv (t := u / 7) hp).1
      refine ⟨up2 J 93 (91 * k + u) (nI (szF A k (u / 7) (u % 7))), ⟨fun t p ht2 hp2 q => ?_, fun a j q => ?_⟩, fun I' hw => vc_X2_noteSizes_2 ?_⟩
      · by_cases e : 7 * t + p = u
        · have e1 : u / 7 = t := by omega
          have e2 : u % 7 = p := by omega
          rw [e, up2_s, e1, e2]
        · rw [up2_k (by omega)]
          exact g1 t p ht2 hp2 (by omega)
      · rw [up2_o' (by omega)]
        exact g2 a j q
      · rw [e1, e4, nI_1 (A.1 0 0), show (7 : Int32) = nI 7 from rfl, u_mul]
        refine ⟨fun z => absurd z (nI_ge hu (by omega)), fun _ => ⟨fun z => ?_, fun _ => ⟨u_in (by omega) (by decide), nI (szF A k (u / 7) (u % 7)), ?_, ?_, ?_⟩⟩⟩
        · rw [show (nI 7 : Int32) = 7 from rfl, er] at z
          exact absurd z (nI_ge hp (by omega))
        · rw [u_cl (n := u) (by omega), hsy]
          exact ct_size hcv
        · rw [show (91 : Int32) = nI 91 from rfl, u_mul, u_add]
          exact u_in (by omega) (by decide)
        · rw [show (91 : Int32) = nI 91 from rfl, u_mul, u_add, u_cl (by omega), nI_1, Nat.mul_comm k 91]
          exact hw
    · refine ⟨J, ⟨fun t p ht2 hp2 q => g1 t p ht2 hp2 (by omega), g2⟩, fun I' hw => vc_X2_noteSizes_2 ?_⟩
      rw [e1, e4, nI_1 (A.1 0 0), show (7 : Int32) = nI 7 from rfl, u_mul]
      refine ⟨fun z => absurd z (nI_ge hu (by omega)), fun _ => ⟨fun _ => ?_, fun z => absurd ?_ z⟩⟩
      · rw [nI_1]
        exact hw
      · rw [show (nI 7 : Int32) = 7 from rfl, er]
        exact nI_le (by omega) (by omega)
theorem ce_origins (hR : RC A I 12 21) (hV : NV A) (h5 : A.1 0 5 ≠ 0) (hsd : sdT A n f) (hs : s < 4) (h27 : I 27 s = nI n) (hn : n ≤ 60) (hL : ∀ i, i < 60 → L (29 + s) i = f i) : ∃ I', q_C kX2_origins [.ref 92, .int (nI s)] I L (some (.int (nI (setF (orB A n f) (A.1 0 3))))) I' L ∧ FK I I' ∧ szC A (orB A n f) I' (A.1 0 3) := by
  have h0 := hV.1.1
  have h3 := hV.1.2.2.2.1
  have lp := mloop (V := fun k I' J => v_X2_origins_4 (some (.int (nI (setF (orB A n f) (A.1 0 3))))) I' L J L (nI s) (nI (setF (orB A n f) k)) (nI k)) (Inv := fun k J => FK I J ∧ szC A (orB A n f) J k) (n := A.1 0 3) (Q := fun I' => FK I I' ∧ szC A (orB A n f) I' (A.1 0 3)) ?_ ?_ I ⟨FK.rf, fun k hk => absurd hk (by omega)⟩
  · obtain ⟨I', hw, hq⟩ := lp
    exact ⟨I', c0_X2_origins (vc_X2_origins_0 hw), hq⟩
  · rintro J ⟨hJ, hz⟩
    have e4 : J 12 4 = nI (A.1 0 3) := (hJ.RC hR).1.2.2.2.2.1
    refine ⟨J, vc_X2_origins_4 ?_, hJ, hz⟩
    rw [e4]
    exact ⟨fun _ => ⟨rfl, rfl, rfl⟩, fun z => absurd (nI_le (Nat.le_refl _) (by omega)) z⟩
  · rintro k J hk ⟨hJ, hz⟩
    have hRJ := hJ.RC hR
    have e4 : J 12 4 = nI (A.1 0 3) := hRJ.1.2.2.2.2.1
    have e18 : J 18 (0 : Int32).toNatClampNeg = nI (cE (A.2 0)) := (hRJ.2.2.1 0 (by omega)).2
    obtain ⟨I1, c1, hP1, hf1⟩ := ce_tellAlone (L := L) hRJ (2 ^ k) (A.2 0)
    obtain ⟨I2, c2, h2, hf2⟩ := tr_run (L := L) (hf1.RC hRJ) hV hP1 (PV_Por hV h5 hk)
    have hf12 := hf1.tr hf2.t
    have hJ2 := hJ.tr hf12.k
    have cf := ct_fit (L := L) h2 hsd hs (by rw [hJ2 27 s (by omega)]; exact h27) hn hL
    by_cases hb : fitP A (Por A k) n f
    · obtain ⟨I3, c3, g1, g2⟩ := ce_noteSizes (L := L) hk h5 h2
      have hb' : orB A n f k = true := decide_eq_true hb
      refine ⟨I3, ⟨hJ2.tr (fun a j q => g2 a j (by omega)), fun u hu hbu t p ht hp => ?_⟩, fun I' hw => vc_X2_origins_4 ?_⟩
      · by_cases e : u = k
        · subst e; exact g1 t p ht hp
        · rw [g2 93 _ (by omega), hf12 93 _ (by omega)]
          exact hz u (by omega) hbu t p ht hp
      · rw [e4, e18, u_one (by omega), u_or, nI_1]
        rw [setF_y hb'] at hw
        exact ⟨fun z => absurd z (nI_ge hk (by omega)), fun _ => ⟨by unfold vp_in; decide, I1, c1, _, I2, c2, _, cf, g1p hb ⟨I3, c3, hw⟩⟩⟩
    · have hb' : orB A n f k = false := decide_eq_false hb
      refine ⟨I2, ⟨hJ2, fun u hu hbu t p ht hp => ?_⟩, fun I' hw => vc_X2_origins_4 ?_⟩
      · by_cases e : u = k
        · subst e; rw [hb'] at hbu; cases hbu
        · rw [hf12 93 _ (by omega)]
          exact hz u (by omega) hbu t p ht hp
      · rw [e4, e18, u_one (by omega), nI_1]
        rw [setF_n hb'] at hw
        exact ⟨fun z => absurd z (nI_ge hk (by omega)), fun _ => ⟨by unfold vp_in; decide, I1, c1, _, I2, c2, _, cf, g1n hb hw⟩⟩
end OR
/-- how many have a size, and the most of them -/
def tlF (A : Nt) (B : Nat → Bool) (t p : Nat) (k u : Nat) : Nat := cntF (fun i => B i && decide (szF A i t p = u)) k
def mxT (T : Nat → Nat) : Nat → Nat
  | 0 => 0
  | u + 1 => max (mxT T u) (T u)
theorem mxT_le {T : Nat → Nat} {b : Nat} (h : ∀ u, T u ≤ b) : ∀ u, mxT T u ≤ b
  | 0 => Nat.zero_le _
  | u + 1 => Nat.max_le.mpr ⟨mxT_le h u, h u⟩
theorem mxT_up {T T' : Nat → Nat} {c : Nat} (hc : T' c = T c + 1) (ho : ∀ u, u ≠ c → T' u = T u) : ∀ u, mxT T' u = if c < u then max (mxT T u) (T' c) else mxT T u
  | 0 => rfl
  | u + 1 => by
    show max (mxT T' u) (T' u) = if c < u + 1 then max (max (mxT T u) (T u)) (T' c) else max (mxT T u) (T u)
    rw [mxT_up hc ho u]
    by_cases e : u = c
    · subst e
      rw [if_neg (by omega), if_pos (by omega), hc]
      omega
    · rw [ho u e]
      by_cases h : c < u
      · rw [if_pos h, if_pos (by omega)]; omega
      · rw [if_neg h, if_neg (by omega)]
def wsF (A : Nt) (B : Nat → Bool) (t p : Nat) : Nat := mxT (tlF A B t p (A.1 0 3)) 7
theorem tlF_le (A : Nt) (B : Nat → Bool) (t p k u : Nat) : tlF A B t p k u ≤ k := cntF_le _ _
theorem mx_if (a b : Nat) (ha : a < 2147483648) (hb : b < 2147483648) : (if nI a < nI b then nI b else nI a) = nI (max a b) := by
  by_cases h : a < b
  · rw [if_pos (nI_lt h (by omega)), Nat.max_eq_right (by omega)]
  · rw [if_neg (nI_nlt (by omega) (by omega)), Nat.max_eq_left (by omega)]
section LW
variable {A : Nt} {I : Nat → Nat → Int32} {L : Nat → Nat → Int64} {B : Nat → Bool}
theorem ce_leftAtWorst (hR : RC A I 12 21) (hV : NV A) (h5 : A.1 0 5 ≠ 0) (hz : szC A B I (A.1 0 3)) {t p : Nat} (ht : t ≤ A.1 0 0) (hp : p < A.1 0 3) : ∃ I', q_C kX2_leftAtWorst [.ref 92, .int (nI (setF B (A.1 0 3))), .int (nI (7 * t + p))] I L (some (.int (nI (wsF A B t p)))) I' L ∧ (∀ a j, a ≠ 94 → I' a j = I a j) := by
  have h0 := hV.1.1
  have h3 := hV.1.2.2.2.1
  have hsl := setF_lt B h3
  have second : ∀ J : Nat → Nat → Int32, (∀ u, u < 7 → J 94 u = 0) → (∀ a j, a ≠ 94 → J a j = I a j) → ∃ I', v_X2_leftAtWorst_26 (some (.int (nI (wsF A B t p)))) I' L J L (nI (setF B (A.1 0 3))) (nI (7 * t + p)) 0 0 ∧ (∀ a j, a ≠ 94 → I' a j = I a j) := by
    intro J hJ0 hJf
    refine mloop (V := fun k I' J => v_X2_leftAtWorst_26 (some (.int (nI (wsF A B t p)))) I' L J L (nI (setF B (A.1 0 3))) (nI (7 * t + p)) (nI (mxT (tlF A B t p k) 7)) (nI k)) (Inv := fun k J => (∀ u, u < 7 → J 94 u = nI (tlF A B t p k u)) ∧ (∀ a j, a ≠ 94 → J a j = I a j)) (n := A.1 0 3) (Q := fun I' => ∀ a j, a ≠ 94 → I' a j = I a j) ?_ ?_ J ⟨hJ0, hJf⟩
    · rintro J ⟨g1, g2⟩
      have e4 : J 12 4 = nI (A.1 0 3) := by rw [g2 12 4 (by omega)]; exact hR.1.2.2.2.2.1
      refine ⟨J, vc_X2_leftAtWorst_26 ?_, g2⟩
      rw [e4]
      exact ⟨fun _ => ⟨rfl, rfl, rfl⟩, fun z => absurd (nI_le (Nat.le_refl _) (by omega)) z⟩
    · rintro k J hk ⟨g1, g2⟩
      have e4 : J 12 4 = nI (A.1 0 3) := by rw [g2 12 4 (by omega)]; exact hR.1.2.2.2.2.1
      have htb : (setF B (A.1 0 3)).testBit k = B k := by rw [setF_tb]; simp [hk]
      by_cases hb : B k = true
      · have hsz := szF_le hV h5 (t := t) hk hp
        have e93 : J 93 (91 * k + (7 * t + p)) = nI (szF A k t p) := by rw [g2 93 _ (by omega)]; exact hz k hk hb t p ht hp
        have hcn : tlF A B t p (k + 1) (szF A k t p) = tlF A B t p k (szF A k t p) + 1 := cntF_y (by simp [hb])
        have hco : ∀ u, u ≠ szF A k t p → tlF A B t p (k + 1) u = tlF A B t p k u := fun u hu => (cntF_n (by simp; exact fun _ => fun q => hu q.symm)).trans (Nat.add_zero _)
        have hmx := mxT_up hcn hco 7
        rw [if_pos (by omega)] at hmx
        have l1 := tlF_le A B t p (k + 1) (szF A k t p)
        have l2 := mxT_le (T := tlF A B t p k) (b := k) (tlF_le A B t p k) 7
        refine ⟨up2 J 94 (szF A k t p) (nI (tlF A B t p (k + 1) (szF A k t p))), ⟨fun u hu => ?_, fun a j q => ?_⟩, fun I' hw => vc_X2_leftAtWorst_26 ?_⟩
        · by_cases e : u = szF A k t p
          · rw [e, up2_s]
          · rw [up2_k e, hco u e]; exact g1 u hu
        · rw [up2_p q]; exact g2 a j q
        · rw [e4, bz _ (by omega), htb]
          refine ⟨fun z => absurd z (nI_ge hk (by omega)), fun _ => ⟨fun z => absurd z (by rw [hb]; decide), fun _ => ?_⟩⟩
          rw [show (91 : Int32) = nI 91 from rfl, u_mul, u_add, Nat.mul_comm k 91, u_cl (n := 91 * k + (7 * t + p)) (by omega), e93, u_cl (n := szF A k t p) (by omega), g1 _ (by omega), nI_1, ← hcn]
          have hin : vp_in (nI (szF A k t p)) 7 := u_in (by omega) (by decide)
          refine ⟨u_in (by omega) (by decide), hin, hin, fun I1 h1 => ⟨hin, fun z2 h2 => ?_⟩⟩
          rw [h1, up2_s, mx_if _ _ (by omega) (by omega), ← hmx] at h2
          rw [h1, h2, nI_1]
          exact hw
      · have hb' : B k = false := by simpa using hb
        have hco : ∀ u, tlF A B t p (k + 1) u = tlF A B t p k u := fun u => (cntF_n (by simp [hb'])).trans (Nat.add_zero _)
        have hcf : tlF A B t p (k + 1) = tlF A B t p k := funext hco
        refine ⟨J, ⟨fun u hu => by rw [hco]; exact g1 u hu, g2⟩, fun I' hw => vc_X2_leftAtWorst_26 ?_⟩
        rw [hcf] at hw
        rw [e4, bz _ (by omega), htb]
        refine ⟨fun z => absurd z (nI_ge hk (by omega)), fun _ => ⟨fun _ => ?_, fun z => absurd hb' z⟩⟩
        rw [nI_1]
        exact hw
  have lp := mloop (V := fun u I' J => v_X2_leftAtWorst_2 (some (.int (nI (wsF A B t p)))) I' L J L (nI (setF B (A.1 0 3))) (nI (7 * t + p)) (nI u)) (Inv := fun u J => (∀ v, v < u → J 94 v = 0) ∧ (∀ a j, a ≠ 94 → J a j = I a j)) (n := 7) (Q := fun I' => ∀ a j, a ≠ 94 → I' a j = I a j) ?_ ?_ I ⟨fun v hv => absurd hv (by omega), fun _ _ _ => rfl⟩
  · obtain ⟨I', hw, hq⟩ := lp
    exact ⟨I', c0_X2_leftAtWorst (vc_X2_leftAtWorst_0 hw), hq⟩
  · rintro J ⟨g1, g2⟩
    obtain ⟨I', hw, hq⟩ := second J g1 g2
    exact ⟨I', vc_X2_leftAtWorst_2 ⟨fun _ => hw, fun z => absurd (by decide) z⟩, hq⟩
  · rintro u J hu ⟨g1, g2⟩
    refine ⟨up2 J 94 u 0, ⟨fun v hv => ?_, fun a j q => ?_⟩, fun I' hw => vc_X2_leftAtWorst_2 ?_⟩
    · by_cases e : v = u
      · rw [e, up2_s]
      · rw [up2_k e]; exact g1 v (by omega)
    · rw [up2_p q]; exact g2 a j q
    · rw [u_cl (by omega), nI_1, show (6 : Int32) = nI 6 from rfl, nI_ltI (by omega) (by omega)]
      exact ⟨fun z => by omega, fun _ => ⟨u_in hu (by decide), hw⟩⟩
end LW
/-- the question that leaves fewest -/
def cqS (A : Nt) (B : Nat → Bool) (p t : Nat) (q : Nat × Int) : Nat × Int := if wsF A B t p < q.1 then (wsF A B t p, ((100 * p + t : Nat) : Int)) else q
def cqH (A : Nt) (B : Nat → Bool) (p : Nat) (q : Nat × Int) : Nat → Nat × Int
  | 0 => q
  | t + 1 => cqS A B p t (cqH A B p q t)
def cqP (A : Nt) (B : Nat → Bool) : Nat → Nat × Int
  | 0 => (pc7 (setF B (A.1 0 3)), -1)
  | p + 1 => cqH A B p (cqP A B p) (A.1 0 0 + 1)
theorem wsF_le {A : Nt} (hV : NV A) (B : Nat → Bool) (t p : Nat) : wsF A B t p ≤ 7 := Nat.le_trans (mxT_le (tlF_le A B t p (A.1 0 3)) 7) hV.1.2.2.2.1
theorem cqH_le {A : Nt} (hV : NV A) (B : Nat → Bool) (p : Nat) {q : Nat × Int} (hq : q.1 ≤ 7) : ∀ t, (cqH A B p q t).1 ≤ 7
  | 0 => hq
  | t + 1 => by
    show (if wsF A B t p < (cqH A B p q t).1 then (wsF A B t p, ((100 * p + t : Nat) : Int)) else cqH A B p q t).1 ≤ 7
    by_cases e : wsF A B t p < (cqH A B p q t).1
    · rw [if_pos e]; exact wsF_le hV B t p
    · rw [if_neg e]; exact cqH_le hV B p hq t
theorem cqP_le {A : Nt} (hV : NV A) (B : Nat → Bool) : ∀ p, (cqP A B p).1 ≤ 7
  | 0 => pc7_le _
  | p + 1 => cqH_le hV B p (cqP_le hV B p) _
section CQ
variable {A : Nt} {I : Nat → Nat → Int32} {L : Nat → Nat → Int64} {B : Nat → Bool}
theorem ce_chooseQ (hR : RC A I 12 21) (hV : NV A) (h5 : A.1 0 5 ≠ 0) (hz : szC A B I (A.1 0 3)) : ∃ I', q_C kX2_chooseQuestion [.ref 92, .int (nI (setF B (A.1 0 3)))] I L none I' L ∧ FK I I' ∧ I' 92 0 = iI (cqP A B (A.1 0 3)).2 ∧ I' 92 1 = nI (cqP A B (A.1 0 3)).1 := by
  have h0 := hV.1.1
  have h3 := hV.1.2.2.2.1
  have hsl := setF_lt B h3
  have lp := mloop (V := fun p I' J => v_X2_chooseQuestion_15 none I' L J L (nI (setF B (A.1 0 3))) (nI p)) (Inv := fun p J => (∀ a j, (a ≠ 92 ∧ a ≠ 94) → J a j = I a j) ∧ J 92 0 = iI (cqP A B p).2 ∧ J 92 1 = nI (cqP A B p).1) (n := A.1 0 3) (Q := fun I' => FK I I' ∧ I' 92 0 = iI (cqP A B (A.1 0 3)).2 ∧ I' 92 1 = nI (cqP A B (A.1 0 3)).1) ?_ ?_ (up2 (up2 I 92 0 (-1)) 92 1 (nI (pc7 (setF B (A.1 0 3))))) ⟨fun a j q => by rw [up2_p q.1, up2_p q.1], by rw [up2_k (by decide), up2_s]; exact iI_m1.symm, up2_s _ _ _ _⟩
  · obtain ⟨I', hw, hq⟩ := lp
    exact ⟨I', c0_X2_chooseQuestion (vc_X2_chooseQuestion_0 ⟨_, ct_bitCount hsl, hw⟩), hq⟩
  · rintro J ⟨g1, g2, g3⟩
    have e4 : J 12 4 = nI (A.1 0 3) := by rw [g1 12 4 ⟨by decide, by decide⟩]; exact hR.1.2.2.2.2.1
    refine ⟨J, vc_X2_chooseQuestion_15 ?_, fun a j q => g1 a j ⟨by omega, by omega⟩, g2, g3⟩
    rw [e4]
    exact ⟨fun _ => ⟨rfl, rfl, rfl⟩, fun z => absurd (nI_le (Nat.le_refl _) (by omega)) z⟩
  · rintro p J hp ⟨g1, g2, g3⟩
    have inner := mloop (V := fun t I' K => (∀ X, v_X2_chooseQuestion_15 none X L I' L (nI (setF B (A.1 0 3))) (nI (p + 1)) → v_X2_chooseQuestion_28 none X L K L (nI (setF B (A.1 0 3))) (nI p) (nI t))) (Inv := fun t K => (∀ a j, (a ≠ 92 ∧ a ≠ 94) → K a j = I a j) ∧ K 92 0 = iI (cqH A B p (cqP A B p) t).2 ∧ K 92 1 = nI (cqH A B p (cqP A B p) t).1) (n := A.1 0 0 + 1) (Q := fun I' => (∀ a j, (a ≠ 92 ∧ a ≠ 94) → I' a j = I a j) ∧ I' 92 0 = iI (cqP A B (p + 1)).2 ∧ I' 92 1 = nI (cqP A B (p + 1)).1) ?_ ?_ J ⟨g1, g2, g3⟩
    · obtain ⟨K, hK, hq⟩ := inner
      refine ⟨K, hq, fun I' hw => vc_X2_chooseQuestion_15 ?_⟩
      have e4 : J 12 4 = nI (A.1 0 3) := by rw [g1 12 4 ⟨by decide, by decide⟩]; exact hR.1.2.2.2.2.1
      rw [e4]
      exact ⟨fun z => absurd z (nI_ge hp (by omega)), fun _ => hK I' hw⟩
    · rintro K ⟨k1, k2, k3⟩
      have e1 : K 12 1 = nI (A.1 0 0) := by rw [k1 12 1 ⟨by decide, by decide⟩]; exact hR.1.2.1
      refine ⟨K, fun X hw => vc_X2_chooseQuestion_28 ?_, k1, k2, k3⟩
      rw [e1, nI_1]
      exact ⟨fun _ => hw, fun z => absurd (nI_lt (by omega) (by omega)) z⟩
    · rintro t K ht ⟨k1, k2, k3⟩
      have hRK : RC A K 12 21 := RC_of (fun a j q => k1 a j ⟨by omega, by omega⟩) hR
      have e1 : K 12 1 = nI (A.1 0 0) := hRK.1.2.1
      obtain ⟨K1, c1, hf1⟩ := ce_leftAtWorst (L := L) hRK hV h5 (B := B) (fun k hk hb t2 p2 q1 q2 => by rw [k1 93 _ ⟨by decide, by decide⟩]; exact hz k hk hb t2 p2 q1 q2) (t := t) (by omega) hp
      have hq7 := cqH_le hV B p (cqP_le hV B p) t
      have hw7 := wsF_le hV B t p
      have e92 : K1 92 1 = nI (cqH A B p (cqP A B p) t).1 := by rw [hf1 92 1 (by decide)]; exact k3
      have e920 : K1 92 0 = iI (cqH A B p (cqP A B p) t).2 := by rw [hf1 92 0 (by decide)]; exact k2
      have k1' : ∀ a j, (a ≠ 92 ∧ a ≠ 94) → K1 a j = I a j := fun a j q => by rw [hf1 a j q.2]; exact k1 a j q
      have hix : nI t * 7 + nI p = nI (7 * t + p) := ix7 t p
      by_cases hlt : wsF A B t p < (cqH A B p (cqP A B p) t).1
      · have est : cqH A B p (cqP A B p) (t + 1) = (wsF A B t p, ((100 * p + t : Nat) : Int)) := if_pos hlt
        refine ⟨up2 (up2 K1 92 1 (nI (wsF A B t p))) 92 0 (nI (100 * p + t)), ⟨fun a j q => by rw [up2_p q.1, up2_p q.1]; exact k1' a j q, by rw [up2_s, est]; exact nI_iI _, by rw [up2_k (by decide), up2_s, est]⟩, fun K' hK' X hw => vc_X2_chooseQuestion_28 ?_⟩
        rw [e1, hix]
        refine ⟨fun z => absurd z (nI_nlt (by omega) (by omega)), fun _ => ⟨_, K1, c1, ?_⟩⟩
        rw [e92, nI_leI (by omega) (by omega), show (100 : Int32) = nI 100 from rfl, u_mul, u_add, nI_1]
        exact ⟨fun z => by omega, fun _ => hK' X hw⟩
      · have est : cqH A B p (cqP A B p) (t + 1) = cqH A B p (cqP A B p) t := if_neg hlt
        refine ⟨K1, ⟨k1', by rw [est]; exact e920, by rw [est]; exact e92⟩, fun K' hK' X hw => vc_X2_chooseQuestion_28 ?_⟩
        rw [e1, hix]
        refine ⟨fun z => absurd z (nI_nlt (by omega) (by omega)), fun _ => ⟨_, K1, c1, ?_⟩⟩
        rw [e92, nI_leI (by omega) (by omega), nI_1]
        exact ⟨fun _ => hK' X hw, fun z => by omega⟩
end CQ
