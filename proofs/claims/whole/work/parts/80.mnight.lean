/-! THE READER of the reference: a line, the whole tape. -/
section MN
variable {B : Nat → Int32} {n : Nat} {S : Ps} {A : Nt} {I : Nat → Nat → Int32} {L : Nat → Nat → Int64}
def fuD (B : Nat → Int32) (S : Ps) : Bool := isG B w_draught S && decide (S.2.2.1 0 6 = 6)
def fuL (B : Nat → Int32) (S : Ps) : Bool := isG B w_light S && decide (S.2.2.1 0 5 = 4)
def fuA (B : Nat → Int32) (S : Ps) : Bool := isG B w_aisle S && decide (S.2.2.1 0 4 = 12)
def fuP (B : Nat → Int32) (S : Ps) : Bool := isG B w_pew S && decide (S.2.2.1 0 3 = 7)
def fuAll (B : Nat → Int32) (S : Ps) : Bool := fuP B S || (fuA B S || (fuL B S || fuD B S))
theorem isG_g {w : List Int32} (h : isG B w S = true) : S.1.1 = 0 := Classical.byContradiction fun z => by rw [isG_0 z] at h; exact absurd h (by decide)
theorem eqk (hD : DrM A I) (hV : NV A) {k m : Nat} (hk : k = 3 ∨ k = 4 ∨ k = 5 ∨ k = 6) (hm : m < 100) : I 102 k = nI m ↔ A.1 0 k = m := by
  have h3 := hV.1.2.2.2.1
  have h4 := hV.1.2.2.2.2.1
  have h5 := hV.1.2.2.2.2.2.1
  have h6 := hV.1.2.2.2.2.2.2.1
  have hl : A.1 0 k ≤ 12 := by rcases hk with e | e | e | e <;> subst e <;> omega
  rw [hD.1 k (by omega), u_eq (by omega) (by omega)]
theorem mf_full61 (h : RqM B n S I) (hD : S.1.1 = 0 → DrM S.2.2 I) (hV : S.1.1 = 0 → NV S.2.2) : v_X12_isFull_61 (some (.int (if fuD B S = true then 1 else 0))) I L I L := by
  have c := mf_is (L := L) h sx21
  unfold fuD
  cases w : isG B w_draught S with
  | false =>
    rw [w] at c
    exact vc_X12_isFull_61 ⟨_, c, fun _ => ⟨rfl, rfl, rfl⟩, fun z => absurd rfl z⟩
  | true =>
    rw [w] at c
    have e := eqk (hD (isG_g w)) (hV (isG_g w)) (k := 6) (m := 6) (by omega) (by decide)
    refine vc_X12_isFull_61 ⟨_, c, fun z => absurd z (by decide), fun _ => ⟨v104 (k := 6) (by decide), fun z => ⟨?_, rfl, rfl⟩, fun z => ⟨?_, rfl, rfl⟩⟩⟩
    · rw [cl6] at z
      rw [decide_eq_true (e.mp z)]; rfl
    · rw [cl6] at z
      rw [decide_eq_false (fun y => z (e.mpr y))]; rfl
theorem mf_fullL (h : RqM B n S I) (hD : S.1.1 = 0 → DrM S.2.2 I) (hV : S.1.1 = 0 → NV S.2.2) : ∃ r2, q_C kX12_is [.ref 96, .ref 10021] I L (some (.int r2)) I L ∧ ((r2 = 0 → (v_X12_isFull_61 (some (.int (if (fuL B S || fuD B S) = true then 1 else 0))) I L I L)) ∧ (¬ r2 = 0 → (vp_in 5 104 ∧ (((I 102 (5 : Int32).toNatClampNeg) = 4 → (some (Value.int (if (fuL B S || fuD B S) = true then 1 else 0)) = some (.int 1) ∧ I = I ∧ L = L)) ∧ (¬ (I 102 (5 : Int32).toNatClampNeg) = 4 → (v_X12_isFull_61 (some (.int (if (fuL B S || fuD B S) = true then 1 else 0))) I L I L)))))) := by
  have c := mf_is (L := L) h sx20
  have t := mf_full61 (L := L) h hD hV
  unfold fuL
  cases w : isG B w_light S with
  | false =>
    rw [w] at c
    exact ⟨_, c, fun _ => by rw [Bool.false_and, Bool.false_or]; exact t, fun z => absurd rfl z⟩
  | true =>
    rw [w] at c
    have e := eqk (hD (isG_g w)) (hV (isG_g w)) (k := 5) (m := 4) (by omega) (by decide)
    refine ⟨_, c, fun z => absurd z (by decide), fun _ => ⟨v104 (k := 5) (by decide), fun z => ⟨?_, rfl, rfl⟩, fun z => ?_⟩⟩
    · rw [cl5] at z
      rw [decide_eq_true (e.mp z)]; rfl
    · rw [cl5] at z
      rw [decide_eq_false (fun y => z (e.mpr y)), Bool.and_false, Bool.false_or]
      exact t
theorem mf_full20 (h : RqM B n S I) (hD : S.1.1 = 0 → DrM S.2.2 I) (hV : S.1.1 = 0 → NV S.2.2) : v_X12_isFull_20 (some (.int (if (fuA B S || (fuL B S || fuD B S)) = true then 1 else 0))) I L I L := by
  have c := mf_is (L := L) h sx19
  have t := mf_fullL (L := L) h hD hV
  unfold fuA
  cases w : isG B w_aisle S with
  | false =>
    rw [w] at c
    refine vc_X12_isFull_20 ⟨_, c, fun _ => ?_, fun z => absurd rfl z⟩
    rw [Bool.false_and, Bool.false_or]
    exact t
  | true =>
    rw [w] at c
    have e := eqk (hD (isG_g w)) (hV (isG_g w)) (k := 4) (m := 12) (by omega) (by decide)
    refine vc_X12_isFull_20 ⟨_, c, fun z => absurd z (by decide), fun _ => ⟨v104 (k := 4) (by decide), fun z => ⟨?_, rfl, rfl⟩, fun z => ?_⟩⟩
    · rw [cl4] at z
      rw [decide_eq_true (e.mp z)]; rfl
    · rw [cl4] at z
      rw [decide_eq_false (fun y => z (e.mpr y)), Bool.and_false, Bool.false_or]
      exact t
theorem mf_isFull (h : RqM B n S I) (hD : S.1.1 = 0 → DrM S.2.2 I) (hV : S.1.1 = 0 → NV S.2.2) : q_C kX12_isFull [.ref 96] I L (some (.int (if fuAll B S = true then 1 else 0))) I L := by
  have c := mf_is (L := L) h sx18
  have t := mf_full20 (L := L) h hD hV
  unfold fuAll fuP
  cases w : isG B w_pew S with
  | false =>
    rw [w] at c
    refine c0_X12_isFull (vc_X12_isFull_0 ⟨_, c, fun _ => ?_, fun z => absurd rfl z⟩)
    rw [Bool.false_and, Bool.false_or]
    exact t
  | true =>
    rw [w] at c
    have e := eqk (hD (isG_g w)) (hV (isG_g w)) (k := 3) (m := 7) (by omega) (by decide)
    refine c0_X12_isFull (vc_X12_isFull_0 ⟨_, c, fun z => absurd z (by decide), fun _ => ⟨v104 (k := 3) (by decide), fun z => ⟨?_, rfl, rfl⟩, fun z => ?_⟩⟩)
    · rw [cl3] at z
      rw [decide_eq_true (e.mp z)]; rfl
    · rw [cl3] at z
      rw [decide_eq_false (fun y => z (e.mpr y)), Bool.and_false, Bool.false_or]
      exact t
theorem fuAll_0 (h0 : S.1.1 ≠ 0) : fuAll B S = false := by
  unfold fuAll fuP fuA fuL fuD
  rw [isG_0 h0, isG_0 h0, isG_0 h0, isG_0 h0]
  rfl
theorem isW_n {w w' : List Int32} (h : isWp B w S = true) (hw : w ≠ w') : isWp B w' S = false := by
  cases q : isWp B w' S with
  | true => exact absurd (isW_x h q) hw
  | false => rfl
theorem rdA2_id (h : S.1.1 ≠ 0) : rdA2 B n S = S := by
  show putA (addAi S.2.2 S.2.1.2.2.2 (needN B n 0 ((S.2.2.1 0 3 : Int) - 1) S).2.1.2.2.2) (needN B n 0 ((S.2.2.1 0 3 : Int) - 1) (if (needN B n 0 ((S.2.2.1 0 3 : Int) - 1) S).1.1 = 0 ∧ (needN B n 0 ((S.2.2.1 0 3 : Int) - 1) S).2.1.2.2.1 = 2 ∧ ((needN B n 0 ((S.2.2.1 0 3 : Int) - 1) S).2.1.2.2.2 = S.2.1.2.2.2 ∨ joi S.2.2 S.2.1.2.2.2 (needN B n 0 ((S.2.2.1 0 3 : Int) - 1) S).2.1.2.2.2) then failP 2 (needN B n 0 ((S.2.2.1 0 3 : Int) - 1) S) else needN B n 0 ((S.2.2.1 0 3 : Int) - 1) S)) = S
  rw [needN_id h, if_neg (fun z => h z.1), needN_id h, put_id h]
theorem rdL2_id (h : S.1.1 ≠ 0) : rdL2 B n S = S := by
  show putA (addLi S.2.2 S.2.1.2.2.2 (lgF B n 5 [(needN B n 0 ((S.2.2.1 0 3 : Int) - 1) S).2.1.2.2.2] (needN B n 1 4 (needN B n 0 ((S.2.2.1 0 3 : Int) - 1) S))).1) (lgE (lgF B n 5 [(needN B n 0 ((S.2.2.1 0 3 : Int) - 1) S).2.1.2.2.2] (needN B n 1 4 (needN B n 0 ((S.2.2.1 0 3 : Int) - 1) S))).2) = S
  rw [needN_id h, needN_id h, lgF_id 5 _ S h, lgE_id h, put_id h]
theorem rdD2_id (h : S.1.1 ≠ 0) : rdD2 B n S = S := by
  show putA (addDr S.2.2 S.2.1.2.2.2 (needW B n w_at (needN B n 0 ((S.2.2.1 0 3 : Int) - 1) S)).2.1.2.2.2) (needN B n 0 11 (needW B n w_at (needN B n 0 ((S.2.2.1 0 3 : Int) - 1) S))) = S
  rw [needN_id h, needW_id h, needN_id h, put_id h]
theorem full_f {m c : Nat} (h : m ≤ c) : advP B n (refP m c S) = failP 3 S := by
  unfold refP
  rw [if_pos h, adv_id (fail_flt (by decide))]
theorem full_n {m c : Nat} (h : ¬ m ≤ c) : advP B n (refP m c S) = advP B n S := by
  unfold refP
  rw [if_neg h]
/-- the end of the choice, the place full -/
theorem mf_next63f (h : RqM B n S I) (h0 : S.1.1 ≠ 0) : v_X12_readNext_63 none I L I L := vc_X12_readNext_63 ⟨_, mf_good0 h h0, fun _ => ⟨rfl, rfl, rfl⟩, fun z => absurd rfl z⟩
/-- a known word, its place full or not -/
theorem mf_next41 (h : RqM B n S I) (h0 : S.1.1 = 0) (hD : DrM S.2.2 I) (hV : NV S.2.2) {T : Ps} (hT : fuAll B S = true → T = failP 3 S) (hF : fuAll B S = false → ∃ I', v_X12_readNext_63 none I' L I L ∧ RqM B n T I' ∧ (T.1.1 = 0 → DrM T.2.2 I') ∧ FM I I') : ∃ I', v_X12_readNext_41 none I' L I L 1 ∧ RqM B n T I' ∧ (T.1.1 = 0 → DrM T.2.2 I') ∧ FM I I' := by
  have c := mf_isFull (L := L) h (fun _ => hD) (fun _ => hV)
  cases w : fuAll B S with
  | true =>
    rw [w] at c
    obtain ⟨J, cJ, rJ, fJ⟩ := mf_errs (L := L) h (k := 3) ⟨by decide, by decide⟩
    have hf : (failP 3 S).1.1 ≠ 0 := fail_flt (by decide)
    rw [hT w]
    exact ⟨J, vc_X12_readNext_41 ⟨fun z => absurd z (by decide), fun _ => ⟨_, c, fun z => absurd z (by decide), fun _ => ⟨J, cJ, mf_next63f rJ hf⟩⟩⟩, rJ, fun z => absurd z hf, fJ.m⟩
  | false =>
    rw [w] at c
    obtain ⟨I', hv, g1, g2, g3⟩ := hF w
    exact ⟨I', vc_X12_readNext_41 ⟨fun z => absurd z (by decide), fun _ => ⟨_, c, fun _ => hv, fun z => absurd rfl z⟩⟩, g1, g2, g3⟩
theorem mf_readNext (h : RqM B n S I) (h0 : S.1.1 = 0) (hD : DrM S.2.2 I) (hV : NV S.2.2) (h8 : S.2.2.1 0 8 ≠ 0) : ∃ I', q_C kX12_readNext [.ref 96] I L none I' L ∧ RqM B n (rdX B n S) I' ∧ ((rdX B n S).1.1 = 0 → DrM (rdX B n S).2.2 I') ∧ FM I I' := by
  have h3 := hV.1.2.2.2.1
  have h4 := hV.1.2.2.2.2.1
  have h5 := hV.1.2.2.2.2.2.1
  have h6 := hV.1.2.2.2.2.2.2.1
  have c1 := mf_is (L := L) h sx18
  have c2 := mf_is (L := L) h sx19
  have c3 := mf_is (L := L) h sx20
  have c4 := mf_is (L := L) h sx21
  rw [isG_1 h0] at c1 c2 c3 c4
  obtain ⟨K1, t1, rt1, ft1⟩ := mf_takes (L := L) h sx18
  have hG1 : S.1.1 = 0 := h0
  unfold rdX
  rw [if_neg h8]
  have aD : ∀ {J : Nat → Nat → Int32}, FE I J → DrM (advP B n S).2.2 J := fun {J} f => by rw [adv_A]; exact DrM_of (fun k => f.o k) hD
  have aV : NV (advP B n S).2.2 := by rw [adv_A]; exact hV
  have a0 : (advP B n S).1.1 = 0 := by rw [adv_1]; exact h0
  cases w1 : isWp B w_pew S with
  | true =>
    have n2 := isW_n w1 (show w_pew ≠ w_aisle by decide)
    have n3 := isW_n w1 (show w_pew ≠ w_light by decide)
    have n4 := isW_n w1 (show w_pew ≠ w_draught by decide)
    have eF : fuAll B S = decide (S.2.2.1 0 3 = 7) := by
      unfold fuAll fuP fuA fuL fuD
      rw [isG_1 h0, isG_1 h0, isG_1 h0, isG_1 h0, w1, n2, n3, n4, Bool.true_and, Bool.false_and, Bool.false_and, Bool.false_and, Bool.or_false, Bool.or_false, Bool.or_false]
    rw [w1] at c1
    rw [isG_1 h0, w1, if_pos rfl] at t1 rt1
    rw [if_pos rfl]
    unfold rdP
    obtain ⟨I', hv, g1, g2, g3⟩ := mf_next41 (L := L) h h0 hD hV (T := rdP2 B n (advP B n (refP 7 (S.2.2.1 0 3) S))) (fun z => by
      rw [eF] at z
      have z := of_decide_eq_true z
      rw [full_f (by omega), rdP2_id (fail_flt (by decide))]) (fun z => by
      rw [eF] at z
      have z := of_decide_eq_false z
      rw [full_n (by omega)]
      obtain ⟨I', c, g1, g2, g3⟩ := mf_readPew (L := L) rt1 a0 (aD ft1) aV (by rw [adv_A]; omega)
      exact ⟨I', vc_X12_readNext_63 ⟨_, mf_good1 h h0, fun z => absurd z (by decide), fun _ => ⟨_, K1, t1, fun z => absurd z (by decide), fun _ => ⟨I', c, rfl, rfl, rfl⟩⟩⟩, g1, g2, ft1.m.tr g3⟩)
    exact ⟨I', c0_X12_readNext (vc_X12_readNext_0 ⟨_, c1, fun z => absurd z (by decide), fun _ => hv⟩), g1, g2, g3⟩
  | false =>
  rw [w1] at c1
  rw [isG_1 h0, w1, if_neg (by decide)] at t1 rt1
  rw [if_neg (by decide)]
  obtain ⟨K2, t2, rt2, ft2⟩ := mf_takes (L := L) rt1 sx19
  have F2 := ft1.tr ft2
  cases w2 : isWp B w_aisle S with
  | true =>
    have n3 := isW_n w2 (show w_aisle ≠ w_light by decide)
    have n4 := isW_n w2 (show w_aisle ≠ w_draught by decide)
    have eF : fuAll B S = decide (S.2.2.1 0 4 = 12) := by
      unfold fuAll fuP fuA fuL fuD
      rw [isG_1 h0, isG_1 h0, isG_1 h0, isG_1 h0, w1, w2, n3, n4, Bool.true_and, Bool.false_and, Bool.false_and, Bool.false_and, Bool.or_false, Bool.or_false, Bool.false_or]
    rw [w2] at c2
    rw [isG_1 h0, w2, if_pos rfl] at t2 rt2
    rw [if_pos rfl]
    unfold rdA
    obtain ⟨I', hv, g1, g2, g3⟩ := mf_next41 (L := L) h h0 hD hV (T := rdA2 B n (advP B n (refP 12 (S.2.2.1 0 4) S))) (fun z => by
      rw [eF] at z
      have z := of_decide_eq_true z
      rw [full_f (by omega), rdA2_id (fail_flt (by decide))]) (fun z => by
      rw [eF] at z
      have z := of_decide_eq_false z
      rw [full_n (by omega)]
      obtain ⟨I', c, g1, g2, g3⟩ := mf_readAisle (L := L) rt2 a0 (aD F2) aV (by rw [adv_A]; omega)
      exact ⟨I', vc_X12_readNext_63 ⟨_, mf_good1 h h0, fun z => absurd z (by decide), fun _ => ⟨_, K1, t1, fun _ => ⟨_, K2, t2, fun z => absurd z (by decide), fun _ => ⟨I', c, rfl, rfl, rfl⟩⟩, fun z => absurd rfl z⟩⟩, g1, g2, F2.m.tr g3⟩)
    exact ⟨I', c0_X12_readNext (vc_X12_readNext_0 ⟨_, c1, fun _ => ⟨_, c2, fun z => absurd z (by decide), fun _ => hv⟩, fun z => absurd rfl z⟩), g1, g2, g3⟩
  | false =>
  rw [w2] at c2
  rw [isG_1 h0, w2, if_neg (by decide)] at t2 rt2
  rw [if_neg (by decide)]
  obtain ⟨K3, t3, rt3, ft3⟩ := mf_takes (L := L) rt2 sx20
  have F3 := F2.tr ft3
  cases w3 : isWp B w_light S with
  | true =>
    have n4 := isW_n w3 (show w_light ≠ w_draught by decide)
    have eF : fuAll B S = decide (S.2.2.1 0 5 = 4) := by
      unfold fuAll fuP fuA fuL fuD
      rw [isG_1 h0, isG_1 h0, isG_1 h0, isG_1 h0, w1, w2, w3, n4, Bool.true_and, Bool.false_and, Bool.false_and, Bool.false_and, Bool.or_false, Bool.false_or, Bool.false_or]
    rw [w3] at c3
    rw [isG_1 h0, w3, if_pos rfl] at t3 rt3
    rw [if_pos rfl]
    unfold rdL
    obtain ⟨I', hv, g1, g2, g3⟩ := mf_next41 (L := L) h h0 hD hV (T := rdL2 B n (advP B n (refP 4 (S.2.2.1 0 5) S))) (fun z => by
      rw [eF] at z
      have z := of_decide_eq_true z
      rw [full_f (by omega), rdL2_id (fail_flt (by decide))]) (fun z => by
      rw [eF] at z
      have z := of_decide_eq_false z
      rw [full_n (by omega)]
      obtain ⟨I', c, g1, g2, g3⟩ := mf_readLight (L := L) rt3 (aD F3) aV (by rw [adv_A]; omega)
      exact ⟨I', vc_X12_readNext_63 ⟨_, mf_good1 h h0, fun z => absurd z (by decide), fun _ => ⟨_, K1, t1, fun _ => ⟨_, K2, t2, fun _ => ⟨_, K3, t3, fun z => absurd z (by decide), fun _ => ⟨I', c, rfl, rfl, rfl⟩⟩, fun z => absurd rfl z⟩, fun z => absurd rfl z⟩⟩, g1, g2, F3.m.tr g3⟩)
    exact ⟨I', c0_X12_readNext (vc_X12_readNext_0 ⟨_, c1, fun _ => ⟨_, c2, fun _ => ⟨_, c3, fun z => absurd z (by decide), fun _ => hv⟩, fun z => absurd rfl z⟩, fun z => absurd rfl z⟩), g1, g2, g3⟩
  | false =>
  rw [w3] at c3
  rw [isG_1 h0, w3, if_neg (by decide)] at t3 rt3
  rw [if_neg (by decide)]
  cases w4 : isWp B w_draught S with
  | true =>
    have eF : fuAll B S = decide (S.2.2.1 0 6 = 6) := by
      unfold fuAll fuP fuA fuL fuD
      rw [isG_1 h0, isG_1 h0, isG_1 h0, isG_1 h0, w1, w2, w3, w4, Bool.true_and, Bool.false_and, Bool.false_and, Bool.false_and, Bool.false_or, Bool.false_or, Bool.false_or]
    rw [w4] at c4
    rw [if_pos rfl]
    unfold rdD
    obtain ⟨I', hv, g1, g2, g3⟩ := mf_next41 (L := L) h h0 hD hV (T := rdD2 B n (advP B n (refP 6 (S.2.2.1 0 6) S))) (fun z => by
      rw [eF] at z
      have z := of_decide_eq_true z
      rw [full_f (by omega), rdD2_id (fail_flt (by decide))]) (fun z => by
      rw [eF] at z
      have z := of_decide_eq_false z
      rw [full_n (by omega)]
      obtain ⟨K4, t4, rt4, ft4⟩ := mf_adv (L := L) rt3 h0
      have F4 := F3.tr ft4
      obtain ⟨I', c, g1, g2, g3⟩ := mf_readDraught (L := L) rt4 (aD F4) aV (by rw [adv_A]; omega)
      exact ⟨I', vc_X12_readNext_63 ⟨_, mf_good1 h h0, fun z => absurd z (by decide), fun _ => ⟨_, K1, t1, fun _ => ⟨_, K2, t2, fun _ => ⟨_, K3, t3, fun _ => ⟨K4, t4, I', c, rfl, rfl, rfl⟩, fun z => absurd rfl z⟩, fun z => absurd rfl z⟩, fun z => absurd rfl z⟩⟩, g1, g2, F4.m.tr g3⟩)
    exact ⟨I', c0_X12_readNext (vc_X12_readNext_0 ⟨_, c1, fun _ => ⟨_, c2, fun _ => ⟨_, c3, fun _ => ⟨_, c4, fun z => absurd z (by decide), fun _ => hv⟩, fun z => absurd rfl z⟩, fun z => absurd rfl z⟩, fun z => absurd rfl z⟩), g1, g2, g3⟩
  | false =>
    rw [w4] at c4
    rw [if_neg (by decide)]
    obtain ⟨J, cJ, rJ, fJ⟩ := mf_errs (L := L) h (k := 1) ⟨by decide, by decide⟩
    have hf : (failP 1 S).1.1 ≠ 0 := fail_flt (by decide)
    have cf := mf_isFull (L := L) rJ (fun z => absurd z hf) (fun z => absurd z hf)
    rw [fuAll_0 hf] at cf
    exact ⟨J, c0_X12_readNext (vc_X12_readNext_0 ⟨_, c1, fun _ => ⟨_, c2, fun _ => ⟨_, c3, fun _ => ⟨_, c4, fun _ => vc_X12_readNext_41 ⟨fun _ => ⟨J, cJ, _, cf, fun _ => mf_next63f rJ hf, fun z => absurd rfl z⟩, fun z => absurd rfl z⟩, fun z => absurd rfl z⟩, fun z => absurd rfl z⟩, fun z => absurd rfl z⟩, fun z => absurd rfl z⟩), rJ, fun z => absurd z hf, fJ.m⟩
theorem mf_line41 {c : Nat} (h : RqM B n S I) (hc : S.1.1 = 0 → DrM S.2.2 I ∧ S.2.2.1 0 8 = c) : ∃ I', v_X12_readLine_41 none I' L I L ∧ RqM B n (advP B n (setN 8 (c + 1) S)) I' ∧ ((advP B n (setN 8 (c + 1) S)).1.1 = 0 → DrM (advP B n (setN 8 (c + 1) S)).2.2 I') ∧ FM I I' := by
  by_cases e0 : S.1.1 = 0
  · obtain ⟨d, e8⟩ := hc e0
    have i8 : I 102 8 = nI c := by rw [d.1 8 (by decide), e8]
    have hs : RqM B n (setN 8 (c + 1) S) I := h
    obtain ⟨J, cJ, rJ, fJ⟩ := mf_adv (L := L) hs e0
    have cJ' : q_C kX12_advance [.ref 96] I L none J L := cJ
    refine ⟨up2 J 102 8 (nI (c + 1)), vc_X12_readLine_41 ⟨_, mf_good1 h e0, fun z => absurd z (by decide), fun _ => ⟨J, cJ', v104 (k := 8) (by decide), v104 (k := 8) (by decide), fun I4 q => ⟨rfl, ?_, rfl⟩⟩⟩, rJ.up _ _, fun _ => ?_, fJ.m.tr FM_up⟩
    · rw [q, cl8, fJ.o, i8, nI_1]
    · rw [adv_A]
      exact DrM_set d (Or.inr (Or.inr (Or.inr rfl))) (up2_s _ _ _ _) (fun j y => by rw [up2_k y, fJ.o])
  · have hs : RqM B n (setN 8 (c + 1) S) I := h
    have hz : (setN 8 (c + 1) S).1.1 ≠ 0 := e0
    rw [adv_id hz]
    refine ⟨up2 I 102 8 (I 102 8 + 1), vc_X12_readLine_41 ⟨_, mf_good0 h e0, fun _ => ?_, fun z => absurd rfl z⟩, hs.up _ _, fun z => absurd z hz, FM_up⟩
    rw [cl8]
    exact ⟨v104 (k := 8) (by decide), v104 (k := 8) (by decide), fun I2 q => ⟨rfl, q.symm, rfl⟩⟩
theorem mf_readLine (h : RqM B n S I) (h0 : S.1.1 = 0) (hD : DrM S.2.2 I) (hV : NV S.2.2) : ∃ I', q_C kX12_readLine [.ref 96] I L none I' L ∧ RqM B n (lineP B n S) I' ∧ ((lineP B n S).1.1 = 0 → DrM (lineP B n S).2.2 I') ∧ FM I I' := by
  have h8 := hV.1.2.2.2.2.2.2.2.2
  have e8 : I 102 8 = nI (S.2.2.1 0 8) := hD.1 8 (by decide)
  have z8 : I 102 (8 : Int32).toNatClampNeg = 0 ↔ S.2.2.1 0 8 = 0 := by rw [cl8, e8]; exact u_0 (by omega)
  unfold lineP
  have tail : ∀ (J : Nat → Nat → Int32), RqM B n (rdX B n S) J → ((rdX B n S).1.1 = 0 → DrM (rdX B n S).2.2 J) → FM I J → ∃ I', (∃ r5, q_C kX12_good [.ref 96] J L (some (.int r5)) J L ∧ ((r5 = 0 → (v_X12_readLine_41 none I' L J L)) ∧ (¬ r5 = 0 → (((J 96 10) = 3 → (v_X12_readLine_41 none I' L J L)) ∧ (¬ (J 96 10) = 3 → (∃ I6, q_C kX12_errs [.ref 96, .int 1] J L none I6 L ∧ (v_X12_readLine_41 none I' L I6 L))))))) ∧ RqM B n (advP B n (setN 8 (S.2.2.1 0 8 + 1) (semP (rdX B n S)))) I' ∧ ((advP B n (setN 8 (S.2.2.1 0 8 + 1) (semP (rdX B n S)))).1.1 = 0 → DrM (advP B n (setN 8 (S.2.2.1 0 8 + 1) (semP (rdX B n S)))).2.2 I') ∧ FM I I' := by
    intro J hJ dJ fJ
    have h8' := rdX_8 (B := B) (n := n) (S := S)
    obtain ⟨X, eX⟩ : ∃ X, X = rdX B n S := ⟨_, rfl⟩
    rw [← eX] at hJ dJ h8' ⊢
    have hk3 := hJ.kd (j := 3) (by decide)
    unfold semP
    by_cases e0 : X.1.1 = 0
    · by_cases e3 : X.2.1.2.2.1 = 3
      · rw [if_pos e3]
        obtain ⟨I', hv, g1, g2, g3⟩ := mf_line41 (L := L) (c := S.2.2.1 0 8) hJ (fun z => ⟨dJ z, h8' z⟩)
        exact ⟨I', ⟨_, mf_good1 hJ e0, fun z => absurd z (by decide), fun _ => ⟨fun _ => hv, fun z => absurd (hk3.mpr e3) z⟩⟩, g1, g2, fJ.tr g3⟩
      · rw [if_neg e3]
        obtain ⟨N, cN, rN, fN⟩ := mf_errs (L := L) hJ (k := 1) ⟨by decide, by decide⟩
        obtain ⟨I', hv, g1, g2, g3⟩ := mf_line41 (L := L) (c := S.2.2.1 0 8) rN (fun z => absurd z (fail_flt (by decide)))
        exact ⟨I', ⟨_, mf_good1 hJ e0, fun z => absurd z (by decide), fun _ => ⟨fun z => absurd (hk3.mp z) e3, fun _ => ⟨N, cN, hv⟩⟩⟩, g1, g2, (fJ.tr fN.m).tr g3⟩
    · have es : (if X.2.1.2.2.1 = 3 then X else failP 1 X) = X := by
        rw [fail_id e0]
        by_cases e3 : X.2.1.2.2.1 = 3
        · rw [if_pos e3]
        · rw [if_neg e3]
      rw [es]
      obtain ⟨I', hv, g1, g2, g3⟩ := mf_line41 (L := L) (c := S.2.2.1 0 8) hJ (fun z => absurd z e0)
      exact ⟨I', ⟨_, mf_good0 hJ e0, fun _ => hv, fun z => absurd rfl z⟩, g1, g2, fJ.tr g3⟩
  by_cases e0 : S.2.2.1 0 8 = 0
  · obtain ⟨J, cJ, rJ, dJ, fJ⟩ := mf_readFirst (L := L) h hD
    have eX : rdX B n S = rdN B n S := if_pos e0
    obtain ⟨I', hv, g1, g2, g3⟩ := tail J (by rw [eX]; exact rJ) (by rw [eX]; exact dJ) fJ
    exact ⟨I', c0_X12_readLine (vc_X12_readLine_0 ⟨v104 (k := 8) (by decide), fun _ => ⟨J, cJ, hv⟩, fun z => absurd (z8.mpr e0) z⟩), g1, g2, g3⟩
  · obtain ⟨J, cJ, rJ, dJ, fJ⟩ := mf_readNext (L := L) h h0 hD hV e0
    obtain ⟨I', hv, g1, g2, g3⟩ := tail J rJ dJ fJ
    exact ⟨I', c0_X12_readLine (vc_X12_readLine_0 ⟨v104 (k := 8) (by decide), fun z => absurd (z8.mp z) e0, fun _ => ⟨J, cJ, hv⟩⟩), g1, g2, g3⟩
theorem mf_run : ∀ (m u : Nat) (S : Ps) (I : Nat → Nat → Int32), RqM B n S I → (S.1.1 = 0 → DrM S.2.2 I) → u + m = 600 → RunOk S u → ¬ ((runP B n m S).1.1 = 0 ∧ (runP B n m S).2.1.2.2.1 ≠ 0) → ∃ J, RqM B n (runP B n m S) J ∧ ((runP B n m S).1.1 = 0 → DrM (runP B n m S).2.2 J) ∧ FM I J ∧ ∀ r I', ((runP B n m S).1.1 ≠ 0 → r = some (.int (-4)) ∧ I' = J) → ((runP B n m S).1.1 = 0 → v_X12_night_86 r I' L J L 0) → v_X12_night_53 r I' L I L
  | m, u, S, I, h, hD, hu, hr, hf => by
    have hk := h.kd (j := 0) (by decide)
    by_cases e0 : S.1.1 = 0
    · by_cases e1 : S.2.1.2.2.1 = 0
      · have e : runP B n m S = S := by
          cases m with
          | zero => rfl
          | succ m => exact if_neg (fun z => z.2 e1)
        rw [e]
        exact ⟨I, h, hD, FM.rf, fun r I' _ q2 => vc_X12_night_53 ⟨_, mf_good1 h e0, fun z => absurd z (by decide), fun _ => ⟨fun _ => ⟨_, mf_good1 h e0, fun z => absurd z (by decide), fun _ => q2 e0⟩, fun z => absurd (hk.mpr e1) z⟩⟩⟩
      · match m, hu, hf with
        | 0, hu, hf => exact absurd ⟨e0, e1⟩ hf
        | m + 1, hu, hf =>
          have e : runP B n (m + 1) S = runP B n m (lineP B n S) := if_pos ⟨e0, e1⟩
          rw [e] at hf ⊢
          obtain ⟨K, cK, rK, dK, fK⟩ := mf_readLine (L := L) h e0 (hD e0) (hr e0).1
          obtain ⟨J, g1, g2, g3, g4⟩ := mf_run m (u + 1) _ K rK dK (by omega) (hr.st (by omega) e0) hf
          exact ⟨J, g1, g2, fK.tr g3, fun r I' q1 q2 => vc_X12_night_53 ⟨_, mf_good1 h e0, fun z => absurd z (by decide), fun _ => ⟨fun z => absurd (hk.mp z) e1, fun _ => ⟨K, cK, g4 r I' q1 q2⟩⟩⟩⟩
    · have e : runP B n m S = S := by
        cases m with
        | zero => rfl
        | succ m => exact if_neg (fun z => e0 z.1)
      rw [e]
      exact ⟨I, h, hD, FM.rf, fun r I' q1 _ => vc_X12_night_53 ⟨_, mf_good0 h e0, fun _ => ⟨_, mf_good0 h e0, fun _ => ⟨(q1 e0).1, (q1 e0).2, rfl⟩, fun z => absurd rfl z⟩, fun z => absurd rfl z⟩⟩
theorem run_ok : ∀ (m u : Nat) (S : Ps), u + m = 600 → RunOk S u → ∃ u', u' ≤ 600 ∧ RunOk (runP B n m S) u'
  | 0, u, S, hu, hr => ⟨u, by omega, hr⟩
  | m + 1, u, S, hu, hr => by
    show ∃ u', u' ≤ 600 ∧ RunOk (if S.1.1 = 0 ∧ S.2.1.2.2.1 ≠ 0 then runP B n m (lineP B n S) else S) u'
    by_cases e : S.1.1 = 0 ∧ S.2.1.2.2.1 ≠ 0
    · rw [if_pos e]
      exact run_ok m (u + 1) _ (by omega) (hr.st (by omega) e.1)
    · rw [if_neg e]
      exact ⟨u, by omega, hr⟩
theorem mf_zero : ∀ (m u : Nat) (I : Nat → Nat → Int32), u + m = 104 → (∀ k, k < u → I 102 k = 0) → ∃ K, (∀ k, k < 104 → K 102 k = 0) ∧ (∀ a k, a ≠ 102 → K a k = I a k) ∧ ∀ r I', (∃ I1, q_C kX12_advance [.ref 96] K L none I1 L ∧ (v_X12_night_53 r I' L I1 L)) → v_X12_night_30 r I' L I L (nI u)
  | 0, u, I, hu, hz => by
    refine ⟨I, fun k hk => hz k (by omega), fun _ _ _ => rfl, fun r I' q => vc_X12_night_30 ⟨fun _ => q, fun z => absurd ?_ z⟩⟩
    rw [show u = 104 by omega]
    decide
  | m + 1, u, I, hu, hz => by
    obtain ⟨K, k1, k2, k3⟩ := mf_zero m (u + 1) (up2 I 102 u 0) (by omega) (fun k hk => by
      by_cases e : k = u
      · rw [e, up2_s]
      · rw [up2_k e]; exact hz k (by omega))
    refine ⟨K, k1, fun a k q => by rw [k2 a k q, up2_p q], fun r I' q => vc_X12_night_30 ⟨fun z => absurd z (nI_ge (b := 104) (by omega) (by decide)), fun _ => ⟨v104 (by omega), ?_⟩⟩⟩
    rw [u_cl (by omega), nI_1]
    exact k3 r I' q
theorem mf_copy : ∀ (m u : Nat) (I : Nat → Nat → Int32), u + m = 104 → (∀ k, k < u → I 97 k = I 102 k) → ∃ K, (∀ k, k < 104 → K 97 k = I 102 k) ∧ (∀ a k, a ≠ 97 → K a k = I a k) ∧ v_X12_night_86 (some (.int (I 102 8))) K L I L (nI u)
  | 0, u, I, hu, hz => by
    refine ⟨I, fun k hk => hz k (by omega), fun _ _ _ => rfl, vc_X12_night_86 ⟨fun _ => ⟨v104 (k := 8) (by decide), ?_, rfl, rfl⟩, fun z => absurd ?_ z⟩⟩
    · rw [cl8, hz 8 (by omega)]
    · rw [show u = 104 by omega]
      decide
  | m + 1, u, I, hu, hz => by
    obtain ⟨K, k1, k2, k3⟩ := mf_copy m (u + 1) (up2 I 97 u (I 102 u)) (by omega) (fun k hk => by
      rw [up2_p (show 102 ≠ 97 by decide)]
      by_cases e : k = u
      · rw [e, up2_s]
      · rw [up2_k e]; exact hz k (by omega))
    rw [up2_p (show 102 ≠ 97 by decide)] at k3
    refine ⟨K, fun k hk => by rw [k1 k hk, up2_p (by decide)], fun a k q => by rw [k2 a k q, up2_p q], vc_X12_night_86 ⟨fun z => absurd z (nI_ge (b := 104) (by omega) (by decide)), fun _ => ⟨v104 (by omega), v104 (by omega), ?_⟩⟩⟩
    rw [u_cl (by omega), nI_1]
    exact k3
theorem DrM_RM {J : Nat → Nat → Int32} (hD : DrM A I) (h7 : A.1 0 7 = 0) (hV : NV A) (hJ : ∀ k, k < 104 → J 97 k = I 102 k) : RM A J 97 0 := by
  obtain ⟨d1, d2, d3, d4, d5, -, -⟩ := hD
  have h3 := hV.1.2.2.2.1
  have h4 := hV.1.2.2.2.2.1
  have h5 := hV.1.2.2.2.2.2.1
  have h6 := hV.1.2.2.2.2.2.2.1
  refine ⟨fun k hk => ?_, fun i hi => ?_, fun k hk => ?_, fun k hk => ?_, fun k hk => ?_, fun i hi => absurd hi (by omega)⟩
  · rw [Nat.zero_add, hJ k (by omega)]; exact d1 k hk
  · rw [Nat.zero_add, Nat.zero_add, Nat.zero_add, hJ _ (by omega), hJ _ (by omega), hJ _ (by omega)]; exact d2 i hi
  · rw [Nat.zero_add, Nat.zero_add, hJ _ (by omega), hJ _ (by omega)]; exact d3 k hk
  · rw [Nat.zero_add, Nat.zero_add, hJ _ (by omega), hJ _ (by omega)]; exact d4 k hk
  · rw [Nat.zero_add, Nat.zero_add, hJ _ (by omega), hJ _ (by omega)]; exact d5 k hk
/-- the whole tape -/
theorem mf_night (hn : n ≤ 600) (h5 : I 96 5 = nI n) (h1 : ∀ k, k < n → I 100 k = B k) (hB : ∀ k, byP (B k)) : ∃ v I', q_C kX12_night [.ref 96] I L (some (.int v)) I' L ∧ I' 96 5 = 0 ∧ I' 96 12 = nI (endP B n).1.1 ∧ I' 96 13 = iI (endP B n).1.2 ∧ ((endP B n).1.1 ≠ 0 → v = -4 ∧ ∀ k, I' 97 k = I 97 k) ∧ ((endP B n).1.1 = 0 → v = nI ((endP B n).2.2.1 0 8) ∧ RM (endP B n).2.2 I' 97 0) ∧ (∀ a k, a ≠ 97 → a ≠ 102 → (a ≠ 96 ∨ k ≠ 5 ∧ (k < 7 ∨ 13 < k)) → I' a k = I a k) := by
  obtain ⟨J, eJ⟩ : ∃ J, J = up2 (up2 (up2 (up2 (up2 I 96 7 (I 96 5)) 96 5 0) 96 8 0) 96 12 0) 96 13 (-1) := ⟨_, rfl⟩
  obtain ⟨K, k1, k2, k3⟩ := mf_zero (L := L) 104 0 J (by decide) (fun k hk => absurd hk (by omega))
  have jo : ∀ a k, (a ≠ 96 ∨ k ≠ 5 ∧ (k < 7 ∨ 13 < k)) → J a k = I a k := fun a k q => by
    rw [eJ, up2_o' (by omega), up2_o' (by omega), up2_o' (by omega), up2_o' (by omega), up2_o' (by omega)]
  have j7 : J 96 7 = nI n := by rw [eJ, up2_k (by decide), up2_k (by decide), up2_k (by decide), up2_k (by decide), up2_s, h5]
  have j5 : J 96 5 = 0 := by rw [eJ, up2_k (by decide), up2_k (by decide), up2_k (by decide), up2_s]
  have j8 : J 96 8 = nI 0 := by rw [eJ, up2_k (by decide), up2_k (by decide), up2_s]; rfl
  have j12 : J 96 12 = nI 0 := by rw [eJ, up2_k (by decide), up2_s]; rfl
  have j13 : J 96 13 = iI (-1) := by rw [eJ, up2_s]; rfl
  have hT : TpM B n K := ⟨by rw [k2 96 7 (by decide)]; exact j7, hn, fun k hk => by rw [k2 100 k (by decide), jo 100 k (by omega)]; exact h1 k hk, hB⟩
  obtain ⟨M, cM, tM, fM⟩ := ma_advance (L := L) hT (p := 0) (Nat.zero_le _) (by rw [k2 96 8 (by decide)]; exact j8)
  have e : S0 B n = ((0, -1), tokF B n 0, A0) := rfl
  have hS : RqM B n (S0 B n) M := by
    rw [e]
    exact ⟨hT.of fM, ⟨by rw [fM 96 12 (by omega), k2 96 12 (by decide)]; exact j12, by rw [fM 96 13 (by omega), k2 96 13 (by decide)]; exact j13⟩, tM, (tok_W (B := B) (n := n) (p := 0) (Nat.zero_le _)).1, by show 0 ≤ 3; omega⟩
  have m0 : ∀ k, k < 104 → M 102 k = 0 := fun k hk => by rw [fM 102 k (by omega)]; exact k1 k hk
  have hD0 : DrM A0 M := ⟨fun k hk => m0 k (by omega), fun i hi => absurd hi (by show ¬ i < 0; omega), fun i hi => absurd hi (by show ¬ i < 0; omega), fun i hi => absurd hi (by show ¬ i < 0; omega), fun i hi => absurd hi (by show ¬ i < 0; omega), fun i _ hi => ⟨m0 _ (by omega), m0 _ (by omega), m0 _ (by omega)⟩, fun k _ hk => m0 _ (by omega)⟩
  have hd : (S0 B n).1.1 = 0 → DrM (S0 B n).2.2 M := fun _ => by rw [S0_W.2.2]; exact hD0
  have hro : RunOk (S0 B n) 0 := fun _ => by
    rw [S0_W.2.2]
    exact ⟨NV_A0, rfl, rfl⟩
  have hfin : ¬ ((runP B n 600 (S0 B n)).1.1 = 0 ∧ (runP B n 600 (S0 B n)).2.1.2.2.1 ≠ 0) := run_fin 600 (S0 B n) S0_W.1 (by omega)
  obtain ⟨N, g1, g2, g3, g4⟩ := mf_run (L := L) 600 0 (S0 B n) M hS hd (by decide) hro hfin
  have ee : endP B n = runP B n 600 (S0 B n) := rfl
  rw [← ee] at g1 g2 g4
  have nf : ∀ a k, a ≠ 102 → (a ≠ 96 ∨ k ≠ 5 ∧ (k < 7 ∨ 13 < k)) → N a k = I a k := fun a k q1 q2 => by
    rw [g3 a k q1 (by omega), fM a k (by omega), k2 a k q1, jo a k q2]
  have n5 : N 96 5 = 0 := by rw [g3 96 5 (by decide) (by omega), fM 96 5 (by omega), k2 96 5 (by decide), j5]
  have start : ∀ r I', v_X12_night_53 r I' L M L → q_C kX12_night [.ref 96] I L r I' L := fun r I' hv => by
    refine c0_X12_night (vc_X12_night_0 (fun I1 q => ?_))
    rw [← eJ] at q
    subst q
    exact k3 r I' ⟨M, cM, hv⟩
  by_cases e0 : (endP B n).1.1 = 0
  · obtain ⟨u, hu, hrun⟩ : ∃ u, u ≤ 600 ∧ RunOk (endP B n) u := by
      rw [ee]
      exact run_ok 600 0 _ (by decide) hro
    obtain ⟨v1, v2, v3⟩ := hrun e0
    obtain ⟨O, o1, o2, o3⟩ := mf_copy (L := L) 104 0 N (by decide) (fun k hk => absurd hk (by omega))
    refine ⟨N 102 8, O, start _ _ (g4 _ _ (fun z => absurd e0 z) (fun _ => o3)), by rw [o2 96 5 (by decide)]; exact n5, by rw [o2 96 12 (by decide)]; exact g1.2.1.1, by rw [o2 96 13 (by decide)]; exact g1.2.1.2, fun z => absurd e0 z, fun _ => ⟨(g2 e0).1 8 (by decide), DrM_RM (g2 e0) v2 v1 o1⟩, fun a k q1 q2 q3 => by rw [o2 a k q1, nf a k q2 q3]⟩
  · exact ⟨-4, N, start _ _ (g4 _ _ (fun _ => ⟨rfl, rfl⟩) (fun z => absurd z e0)), n5, g1.2.1.1, g1.2.1.2, fun _ => ⟨rfl, fun k => nf 97 k (by decide) (by omega)⟩, fun z => absurd z e0, fun a k q1 q2 q3 => nf a k q2 q3⟩
end MN
