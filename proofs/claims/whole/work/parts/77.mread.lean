/-! THE READER of the reference: its small steps. -/
def RqM (B : Nat → Int32) (n : Nat) (S : Ps) (I : Nat → Nat → Int32) : Prop := TpM B n I ∧ (I 96 12 = nI S.1.1 ∧ I 96 13 = iI S.1.2) ∧ TkM S.2.1 I ∧ tkW n S.2.1 ∧ S.1.1 ≤ 3
def FE (I I' : Nat → Nat → Int32) : Prop := ∀ a k, (a ≠ 96 ∨ k < 8 ∨ 13 < k) → I' a k = I a k
theorem FE.rf {I : Nat → Nat → Int32} : FE I I := fun _ _ _ => rfl
theorem FE.tr {I I1 I2 : Nat → Nat → Int32} (h : FE I I1) (h2 : FE I1 I2) : FE I I2 := fun a k q => (h2 a k q).trans (h a k q)
theorem FAm.e {I I' : Nat → Nat → Int32} (h : FAm I I') : FE I I' := fun a k q => h a k (by omega)
theorem FE.o {I I' : Nat → Nat → Int32} (h : FE I I') (k : Nat) : I' 102 k = I 102 k := h 102 k (by omega)
/-- what the reader may change -/
def FM (I I' : Nat → Nat → Int32) : Prop := ∀ a k, a ≠ 102 → (a ≠ 96 ∨ k < 8 ∨ 13 < k) → I' a k = I a k
theorem FM.rf {I : Nat → Nat → Int32} : FM I I := fun _ _ _ _ => rfl
theorem FM.tr {I I1 I2 : Nat → Nat → Int32} (h : FM I I1) (h2 : FM I1 I2) : FM I I2 := fun a k p q => (h2 a k p q).trans (h a k p q)
theorem FE.m {I I' : Nat → Nat → Int32} (h : FE I I') : FM I I' := fun a k _ q => h a k q
theorem FM_up {I : Nat → Nat → Int32} {k : Nat} {x : Int32} : FM I (up2 I 102 k x) := fun a j p _ => up2_p p
theorem VR_eq {v u a : Nat} (h : VR v u) (ha : a < 1000) : u = a ↔ v = a := by
  rcases h with ⟨h1, h2⟩ | ⟨h1, h2, h3⟩
  · rw [h2]
  · exact ⟨fun z => by omega, fun z => by omega⟩
theorem VR_le {v u : Nat} (h : VR v u) : u ≤ 99999 := by
  rcases h with ⟨h1, h2⟩ | ⟨h1, h2, h3⟩ <;> omega
def isG (B : Nat → Int32) (w : List Int32) (S : Ps) : Bool := decide (S.1.1 = 0) && isWp B w S
section MR
variable {B : Nat → Int32} {n : Nat} {S : Ps} {I : Nat → Nat → Int32} {L : Nat → Nat → Int64}
theorem isG_1 {w : List Int32} (h0 : S.1.1 = 0) : isG B w S = isWp B w S := by
  unfold isG
  rw [decide_eq_true h0, Bool.true_and]
theorem isG_0 {w : List Int32} (h0 : S.1.1 ≠ 0) : isG B w S = false := by
  unfold isG
  rw [decide_eq_false h0, Bool.false_and]
theorem RqM.flt (h : RqM B n S I) : I 96 12 = 0 ↔ S.1.1 = 0 := by
  rw [h.2.1.1]
  exact u_0 (by have := h.2.2.2.2; omega)
theorem RqM.k6 (h : RqM B n S I) : S.2.1.2.2.1 ≤ 4 ∧ S.2.1.2.2.2 ≤ 1000 := ⟨h.2.2.2.1.2.2.2.2.1, h.2.2.2.1.2.2.2.2.2⟩
theorem RqM.kd (h : RqM B n S I) {j : Nat} (hj : j < 1000) : I 96 10 = nI j ↔ S.2.1.2.2.1 = j := by
  have := h.k6
  rw [h.2.2.1.2.2.1, u_eq (by omega) (by omega)]
theorem RqM.of {I' : Nat → Nat → Int32} (h : RqM B n S I) (hf : ∀ a k, a ≠ 102 → I' a k = I a k) : RqM B n S I' := ⟨⟨by rw [hf 96 7 (by decide)]; exact h.1.1, h.1.2.1, fun k hk => by rw [hf 100 k (by decide)]; exact h.1.2.2.1 k hk, h.1.2.2.2⟩, ⟨by rw [hf 96 12 (by decide)]; exact h.2.1.1, by rw [hf 96 13 (by decide)]; exact h.2.1.2⟩, ⟨by rw [hf 96 9 (by decide)]; exact h.2.2.1.1, by rw [hf 96 8 (by decide)]; exact h.2.2.1.2.1, by rw [hf 96 10 (by decide)]; exact h.2.2.1.2.2.1, fun z => by rw [hf 96 11 (by decide)]; exact h.2.2.1.2.2.2 z⟩, h.2.2.2⟩
theorem RqM.up (h : RqM B n S I) (k : Nat) (x : Int32) : RqM B n S (up2 I 102 k x) := h.of (fun a j q => up2_p q)
theorem mf_good1 (h : RqM B n S I) (h0 : S.1.1 = 0) : q_C kX12_good [.ref 96] I L (some (.int 1)) I L := c0_X12_good (vc_X12_good_0 ⟨fun _ => ⟨rfl, rfl, rfl⟩, fun z => absurd (h.flt.mpr h0) z⟩)
theorem mf_good0 (h : RqM B n S I) (h0 : S.1.1 ≠ 0) : q_C kX12_good [.ref 96] I L (some (.int 0)) I L := c0_X12_good (vc_X12_good_0 ⟨fun z => absurd (h.flt.mp z) h0, fun _ => ⟨rfl, rfl, rfl⟩⟩)
theorem mf_errs (h : RqM B n S I) {k : Nat} (hk : 1 ≤ k ∧ k ≤ 3) : ∃ I', q_C kX12_errs [.ref 96, .int (nI k)] I L none I' L ∧ RqM B n (failP k S) I' ∧ FE I I' := by
  by_cases e : S.1.1 = 0
  · rw [fail_0 e]
    refine ⟨up2 (up2 I 96 12 (nI k)) 96 13 (I 96 9), c0_X12_errs (vc_X12_errs_0 ⟨_, mf_good1 h e, fun z => absurd z (by decide), fun _ => ⟨rfl, by rw [up2_k (show (9 : Nat) ≠ 12 by decide)], rfl⟩⟩), ⟨⟨by rw [up2_k (by decide), up2_k (by decide)]; exact h.1.1, h.1.2.1, fun j hj => by rw [up2_p (by decide), up2_p (by decide)]; exact h.1.2.2.1 j hj, h.1.2.2.2⟩, ⟨by rw [up2_k (by decide), up2_s], by rw [up2_s, h.2.2.1.1]; exact nI_iI _⟩, ⟨by rw [up2_k (by decide), up2_k (by decide)]; exact h.2.2.1.1, by rw [up2_k (by decide), up2_k (by decide)]; exact h.2.2.1.2.1, by rw [up2_k (by decide), up2_k (by decide)]; exact h.2.2.1.2.2.1, fun z => by rw [up2_k (by decide), up2_k (by decide)]; exact h.2.2.1.2.2.2 z⟩, h.2.2.2.1, hk.2⟩, fun a j q => by rw [up2_o' (by omega), up2_o' (by omega)]⟩
  · rw [fail_id e]
    exact ⟨I, c0_X12_errs (vc_X12_errs_0 ⟨_, mf_good0 h e, fun _ => ⟨rfl, rfl, rfl⟩, fun z => absurd rfl z⟩), h, FE.rf⟩
theorem mf_adv (h : RqM B n S I) (h0 : S.1.1 = 0) : ∃ I', q_C kX12_advance [.ref 96] I L none I' L ∧ RqM B n (advP B n S) I' ∧ FE I I' := by
  rw [adv_0 h0]
  obtain ⟨I', c, ht, hf⟩ := ma_advance (L := L) h.1 (p := S.2.1.2.1) h.2.2.2.1.2.1 h.2.2.1.2.1
  exact ⟨I', c, ⟨h.1.of hf, ⟨by rw [hf 96 12 (by omega)]; exact h.2.1.1, by rw [hf 96 13 (by omega)]; exact h.2.1.2⟩, ht, (tok_W h.2.2.2.1.2.1).1, h.2.2.2.2⟩, hf.e⟩
theorem mf_is (h : RqM B n S I) {j i : Nat} {c nm : String} {w : List Int32} (hq : q_SX[j]? = some (c, i, nm, w)) : q_C kX12_is [.ref 96, .ref (10001 + j)] I L (some (.int (if isG B w S = true then 1 else 0))) I L := by
  have hj := sx_lt hq
  have hw : w.length < 8 ∧ 0 < w.length := (sx_ok _ (List.mem_of_getElem? hq)).1
  have hr : 10001 ≤ 10001 + j ∧ 10001 + j < 10029 := ⟨by omega, by omega⟩
  obtain ⟨t1, t2, t3, t4⟩ := h.2.2.1
  obtain ⟨k1, k2, k3, k4, k5, k6⟩ := h.2.2.2.1
  have hn := h.1.2.1
  have cl : ∀ {J : Nat → Nat → Int32}, q_C kJ0_length_8abf5 [.ref (10001 + j)] J L (some (.int (nI w.length))) J L := ct_len hq
  have zero : ∀ u, u ≤ w.length → ¬ isG B w S = true → v_X12_is_39 (some (.int (if isG B w S = true then 1 else 0))) I L I L (10001 + j) 0 (nI u) := fun u hu q => by
    rw [if_neg q]
    exact vc_X12_is_39 ⟨_, cl, hr, fun _ => ⟨Or.inl rfl, rfl, rfl, rfl⟩, fun _ => ⟨fun _ => ⟨Or.inl rfl, rfl, rfl, rfl⟩, fun z => absurd rfl z⟩⟩
  by_cases e0 : S.1.1 = 0
  · have eG := isG_1 (B := B) (w := w) e0
    by_cases e1 : S.2.1.2.2.1 = 1
    · by_cases e2 : S.2.1.2.1 - S.2.1.1 = w.length
      · have loop : ∀ m u, u + m = w.length → (∀ v, v < u → B (S.2.1.1 + v) = w.getD v 0) → v_X12_is_39 (some (.int (if isG B w S = true then 1 else 0))) I L I L (10001 + j) 1 (nI u) := by
          intro m
          induction m with
          | zero =>
            intro u hu ha
            have e : u = w.length := by omega
            subst e
            refine vc_X12_is_39 ⟨_, cl, hr, fun _ => ⟨Or.inr rfl, ?_, rfl, rfl⟩, fun z => absurd (nI_le (Nat.le_refl _) (by omega)) z⟩
            rw [eG, if_pos (show isWp B w S = true from decide_eq_true ⟨e1, e2, ha⟩)]
          | succ m ih =>
            intro u hu ha
            have cc : q_C kJ0_charAt_5068e [.ref (10001 + j), .int (nI u)] I L (some (.int (w.getD u 0))) I L := ct_char hq (i := u) (show u < w.length by omega)
            refine vc_X12_is_39 ⟨_, cl, hr, fun z => absurd z (nI_ge (by omega) (by omega)), fun _ => ⟨fun z => absurd z (by decide), fun _ => ?_⟩⟩
            rw [t1, u_add, u_cl (by omega), h.1.2.2.1 (S.2.1.1 + u) (by omega), nI_1]
            refine ⟨u_in (by omega) (by decide), _, cc, hr, fun q => ?_, fun q => ?_⟩
            · refine ih (u + 1) (by omega) (fun v hv => ?_)
              by_cases e : v = u
              · rw [e]; exact q
              · exact ha v (by omega)
            · exact zero (u + 1) (by omega) (fun y => q ((isWp_iff.mp (by rw [← eG]; exact y)).2.2 u (by omega)))
        refine c0_X12_is (vc_X12_is_0 ⟨_, mf_good1 h e0, fun z => absurd z (by decide), fun _ => ⟨fun _ => ⟨_, cl, hr, fun _ => loop w.length 0 (by omega) (fun v hv => absurd hv (by omega)), fun z => absurd ?_ z⟩, fun z => absurd ?_ z⟩⟩)
        · rw [t1, t2, pk_sub k1, e2]
        · rw [t3, e1]; rfl
      · refine c0_X12_is (vc_X12_is_0 ⟨_, mf_good1 h e0, fun z => absurd z (by decide), fun _ => ⟨fun _ => ⟨_, cl, hr, fun z => absurd ?_ e2, fun _ => zero 0 (Nat.zero_le _) (fun y => e2 (isWp_iff.mp (by rw [← eG]; exact y)).2.1)⟩, fun _ => zero 0 (Nat.zero_le _) (fun y => e2 (isWp_iff.mp (by rw [← eG]; exact y)).2.1)⟩⟩)
        rw [t1, t2, pk_sub k1, u_eq (by omega) (by omega)] at z
        exact z
    · refine c0_X12_is (vc_X12_is_0 ⟨_, mf_good1 h e0, fun z => absurd z (by decide), fun _ => ⟨fun z => absurd ((h.kd (j := 1) (by decide)).mp z) e1, fun _ => zero 0 (Nat.zero_le _) (fun y => e1 (isWp_iff.mp (by rw [← eG]; exact y)).1)⟩⟩)
  · exact c0_X12_is (vc_X12_is_0 ⟨_, mf_good0 h e0, fun _ => zero 0 (Nat.zero_le _) (by rw [isG_0 e0]; decide), fun z => absurd rfl z⟩)
theorem mf_takes (h : RqM B n S I) {j i : Nat} {c nm : String} {w : List Int32} (hq : q_SX[j]? = some (c, i, nm, w)) : ∃ I', q_C kX12_takes [.ref 96, .ref (10001 + j)] I L (some (.int (if isG B w S = true then 1 else 0))) I' L ∧ RqM B n (if isG B w S = true then advP B n S else S) I' ∧ FE I I' := by
  have ci := mf_is (L := L) h hq
  cases hb : isG B w S with
  | true =>
    rw [hb] at ci
    have h0 : S.1.1 = 0 := Classical.byContradiction fun z => by rw [isG_0 z] at hb; exact absurd hb (by decide)
    obtain ⟨I1, c1, h1, f1⟩ := mf_adv (L := L) h h0
    rw [if_pos rfl, if_pos rfl]
    exact ⟨I1, c0_X12_takes (vc_X12_takes_0 ⟨_, ci, fun z => absurd z (by decide), fun _ => ⟨I1, c1, Or.inr rfl, rfl, rfl, rfl⟩⟩), h1, f1⟩
  | false =>
    rw [hb] at ci
    rw [if_neg (by decide), if_neg (by decide)]
    exact ⟨I, c0_X12_takes (vc_X12_takes_0 ⟨_, ci, fun _ => ⟨Or.inl rfl, rfl, rfl, rfl⟩, fun z => absurd rfl z⟩), h, FE.rf⟩
theorem needW_1 {w : List Int32} (h : isG B w S = true) : needW B n w S = advP B n S := by
  unfold isG at h
  unfold needW
  rw [if_pos (by cases q : isWp B w S with
    | true => rfl
    | false => rw [q, Bool.and_false] at h; exact absurd h (by decide))]
theorem needW_0 {w : List Int32} (h : isG B w S = false) : needW B n w S = failP 1 S := by
  by_cases e : S.1.1 = 0
  · rw [isG_1 e] at h
    unfold needW
    rw [if_neg (by rw [h]; decide), adv_id (fail_flt (by decide))]
  · rw [needW_id e, fail_id e]
theorem mf_expects (h : RqM B n S I) {j i : Nat} {c nm : String} {w : List Int32} (hq : q_SX[j]? = some (c, i, nm, w)) : ∃ I', q_C kX12_expects [.ref 96, .ref (10001 + j)] I L none I' L ∧ RqM B n (needW B n w S) I' ∧ FE I I' := by
  obtain ⟨I1, c1, h1, f1⟩ := mf_takes (L := L) h hq
  cases hb : isG B w S with
  | true =>
    rw [hb, if_pos rfl] at c1
    rw [hb, if_pos rfl] at h1
    rw [needW_1 hb]
    exact ⟨I1, c0_X12_expects (vc_X12_expects_0 ⟨_, I1, c1, fun z => absurd z (by decide), fun _ => ⟨rfl, rfl, rfl⟩⟩), h1, f1⟩
  | false =>
    rw [hb, if_neg (by decide)] at c1
    rw [hb, if_neg (by decide)] at h1
    rw [needW_0 hb]
    obtain ⟨I2, c2, h2, f2⟩ := mf_errs (L := L) h1 (k := 1) ⟨by decide, by decide⟩
    exact ⟨I2, c0_X12_expects (vc_X12_expects_0 ⟨_, I1, c1, fun _ => ⟨I2, c2, rfl, rfl, rfl⟩, fun z => absurd rfl z⟩), h2, f1.tr f2⟩
theorem mf_num0 (h : RqM B n S I) (h0 : S.1.1 ≠ 0) {x1 x2 : Int32} : v_X12_number_20 (some (.int 0)) I L I L x1 x2 := vc_X12_number_20 ⟨_, mf_good0 h h0, fun _ => ⟨_, mf_good0 h h0, fun _ => ⟨rfl, rfl, rfl⟩, fun z => absurd rfl z⟩, fun z => absurd rfl z⟩
theorem mf_number (h : RqM B n S I) {lo hi : Int} {x1 x2 : Int32} (h1 : x1 = iI lo) (hx : S.1.1 = 0 → x2 = iI hi) (hlo : 0 ≤ lo ∧ lo ≤ 100) (hhi : -1 ≤ hi ∧ hi ≤ 100) : ∃ r I', q_C kX12_number [.ref 96, .int x1, .int x2] I L (some (.int r)) I' L ∧ RqM B n (needN B n lo hi S) I' ∧ ((needN B n lo hi S).1.1 = 0 → r = nI S.2.1.2.2.2) ∧ FE I I' := by
  by_cases e0 : S.1.1 = 0
  · have hx := hx e0
    by_cases e2 : S.2.1.2.2.1 = 2
    · obtain ⟨u, hu, hv⟩ := h.2.2.1.2.2.2 e2
      have hul := VR_le hv
      have k6 := h.k6
      have er : (ib x1 x2 (I 96 11)) ↔ ((S.2.1.2.2.2 : Int) < lo ∨ hi < (S.2.1.2.2.2 : Int)) := by
        show (I 96 11 < x1 ∨ x2 < I 96 11) ↔ _
        rw [hu, h1, hx, nI_iI, iI_lt (by omega) (by omega), iI_lt (by omega) (by omega)]
        rcases hv with ⟨v1, v2⟩ | ⟨v1, v2, v3⟩
        · rw [v2]
        · exact ⟨fun z => by omega, fun z => by omega⟩
      have ci := ct_inI (I := I) (L := L) (I 96 11) x1 x2
      by_cases e3 : (S.2.1.2.2.2 : Int) < lo ∨ hi < (S.2.1.2.2.2 : Int)
      · have en : needN B n lo hi S = failP 2 S := by
          unfold needN needT
          rw [if_pos e2, if_pos e3, adv_id (fail_flt (by decide))]
        rw [en]
        rw [if_pos (er.mpr e3)] at ci
        obtain ⟨I2, c2, h2, f2⟩ := mf_errs (L := L) h (k := 2) ⟨by decide, by decide⟩
        refine ⟨0, I2, c0_X12_number (vc_X12_number_0 ⟨_, mf_good1 h e0, fun z => absurd z (by decide), fun _ => ⟨fun _ => vc_X12_number_20 ⟨_, mf_good1 h e0, fun z => absurd z (by decide), fun _ => ⟨_, ci, fun _ => ⟨I2, c2, _, mf_good0 h2 (fail_flt (by decide)), fun _ => ⟨rfl, rfl, rfl⟩, fun z => absurd rfl z⟩, fun z => absurd rfl z⟩⟩, fun z => absurd ((h.kd (j := 2) (by decide)).mpr e2) z⟩⟩), h2, fun z => absurd z (fail_flt (by decide)), f2⟩
      · have en : needN B n lo hi S = advP B n S := by
          unfold needN needT
          rw [if_pos e2, if_neg e3]
        rw [en]
        rw [if_neg (fun z => e3 (er.mp z))] at ci
        obtain ⟨I2, c2, h2, f2⟩ := mf_adv (L := L) h e0
        refine ⟨I 96 11, I2, c0_X12_number (vc_X12_number_0 ⟨_, mf_good1 h e0, fun z => absurd z (by decide), fun _ => ⟨fun _ => vc_X12_number_20 ⟨_, mf_good1 h e0, fun z => absurd z (by decide), fun _ => ⟨_, ci, fun z => absurd z (by decide), fun _ => ⟨_, mf_good1 h e0, fun z => absurd z (by decide), fun _ => ⟨I2, c2, rfl, rfl, rfl⟩⟩⟩⟩, fun z => absurd ((h.kd (j := 2) (by decide)).mpr e2) z⟩⟩), h2, fun z => ?_, f2⟩
        rcases hv with ⟨v1, v2⟩ | ⟨v1, v2, v3⟩
        · rw [hu, v2]
        · exact absurd e3 (by omega)
    · have en : needN B n lo hi S = failP 1 S := by
        unfold needN needT
        rw [if_neg e2, adv_id (fail_flt (by decide))]
      rw [en]
      obtain ⟨I2, c2, h2, f2⟩ := mf_errs (L := L) h (k := 1) ⟨by decide, by decide⟩
      exact ⟨0, I2, c0_X12_number (vc_X12_number_0 ⟨_, mf_good1 h e0, fun z => absurd z (by decide), fun _ => ⟨fun z => absurd ((h.kd (j := 2) (by decide)).mp z) e2, fun _ => ⟨I2, c2, mf_num0 h2 (fail_flt (by decide))⟩⟩⟩), h2, fun z => absurd z (fail_flt (by decide)), f2⟩
  · rw [needN_id e0]
    exact ⟨0, I, c0_X12_number (vc_X12_number_0 ⟨_, mf_good0 h e0, fun _ => mf_num0 h e0, fun z => absurd rfl z⟩), h, fun z => absurd z e0, FE.rf⟩
theorem mf_toldBy (h : RqM B n S I) {j i : Nat} {c nm : String} {w : List Int32} (hq : q_SX[j]? = some (c, i, nm, w)) {lo hi : Int} {x1 x2 : Int32} (h1 : x1 = iI lo) (hx : x2 = iI hi) (hlo : 0 ≤ lo ∧ lo ≤ 100) (hhi : -1 ≤ hi ∧ hi ≤ 100) : ∃ r I', q_C kX12_toldBy [.ref 96, .ref (10001 + j), .int x1, .int x2] I L (some (.int r)) I' L ∧ RqM B n (needN B n lo hi (needW B n w S)) I' ∧ ((needN B n lo hi (needW B n w S)).1.1 = 0 → r = nI (needW B n w S).2.1.2.2.2) ∧ FE I I' := by
  obtain ⟨I1, c1, r1, f1⟩ := mf_expects (L := L) h hq
  obtain ⟨r, I2, c2, r2, e2, f2⟩ := mf_number (L := L) r1 h1 (fun _ => hx) hlo hhi
  exact ⟨r, I2, c0_X12_toldBy (vc_X12_toldBy_0 ⟨I1, c1, r, I2, c2, rfl, rfl, rfl⟩), r2, e2, f1.tr f2⟩
end MR
