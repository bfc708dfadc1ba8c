/-! THE READER of the reference: the other lines, the whole tape. -/
theorem near_tb {A : Nt} {a b k : Nat} (hab : a ≠ b) : (nearF A a (k + 1)).testBit b = ((nearF A a k).testBit b || decide ((A.1 4 k = a ∧ A.1 5 k = b) ∨ (A.1 4 k = b ∧ A.1 5 k = a))) := by
  have e : nearF A a (k + 1) = nearF A a k ||| (if A.1 4 k = a then 2 ^ A.1 5 k else if A.1 5 k = a then 2 ^ A.1 4 k else 0) := rfl
  rw [e, Nat.testBit_or]
  congr 1
  by_cases e4 : A.1 4 k = a
  · rw [if_pos e4, Nat.testBit_two_pow]
    exact decide_eq_decide.mpr ⟨fun z => Or.inl ⟨e4, z⟩, fun z => by omega⟩
  · rw [if_neg e4]
    by_cases e5 : A.1 5 k = a
    · rw [if_pos e5, Nat.testBit_two_pow]
      exact decide_eq_decide.mpr ⟨fun z => Or.inr ⟨z, e5⟩, fun z => by omega⟩
    · rw [if_neg e5, Nat.zero_testBit]
      exact (decide_eq_false (by omega)).symm
section ML2
variable {B : Nat → Int32} {n : Nat} {S : Ps} {A : Nt} {I : Nat → Nat → Int32} {L : Nat → Nat → Int64}
theorem mf_isJoined (hD : DrM A I) (hV : NV A) {a b : Nat} (ha : a < 1000) (hb : b ≤ 99999) (hab : a ≠ b) : q_C kX12_isJoined [.ref 96, .int (nI a), .int (nI b)] I L (some (.int (if (nearB A a).testBit b = true then 1 else 0))) I L := by
  have h3 := hV.1.2.2.2.1
  have h4 := hV.1.2.2.2.2.1
  have e4 : I 102 4 = nI (A.1 0 4) := hD.1 4 (by decide)
  have loop : ∀ m k, k + m = A.1 0 4 → v_X12_isJoined_5 (some (.int (if (nearB A a).testBit b = true then 1 else 0))) I L I L (nI a) (nI b) (if (nearF A a k).testBit b = true then 1 else 0) (nI k) := by
    intro m
    induction m with
    | zero =>
      intro k hk
      have e : k = A.1 0 4 := by omega
      subst e
      refine vc_X12_isJoined_5 ⟨v104 (k := 4) (by decide), fun _ => ⟨?_, rfl, rfl, rfl⟩, fun z => absurd ?_ z⟩
      · by_cases q : (nearF A a (A.1 0 4)).testBit b = true
        · rw [if_pos q]; exact Or.inr rfl
        · rw [if_neg q]; exact Or.inl rfl
      · rw [cl4, e4]; exact nI_le (Nat.le_refl _) (by omega)
    | succ m ih =>
      intro k hk
      obtain ⟨d1, d2⟩ := hD.2.2.1 k (by omega)
      obtain ⟨w1, w2⟩ := hV.2.2.2.2.1 k (by omega)
      have nx := ih (k + 1) (by omega)
      rw [near_tb hab] at nx
      have s1 : nI (30 + 2 * k) + 1 = nI (31 + 2 * k) := ixs (k := 1) (by omega)
      refine vc_X12_isJoined_5 ⟨v104 (k := 4) (by decide), fun z => absurd z ?_, fun _ => ?_⟩
      · rw [cl4, e4]; exact nI_ge (by omega) (by omega)
      · rw [ix30, s1, u_cl (by omega), u_cl (by omega), d1, d2, nI_1]
        refine ⟨v104 (by omega), v104 (by omega), fun z1 q1 => ?_⟩
        subst q1
        by_cases q : (nearF A a k).testBit b = true
        · rw [if_pos q]
          rw [q, Bool.true_or, if_pos rfl] at nx
          exact ⟨fun z => absurd z (by decide), fun _ => nx⟩
        · rw [if_neg q]
          have q' : (nearF A a k).testBit b = false := by
            cases y : (nearF A a k).testBit b with
            | true => exact absurd y q
            | false => rfl
          rw [q', Bool.false_or] at nx
          have E1 : nI (A.1 4 k) = nI a ↔ A.1 4 k = a := u_eq (by omega) (by omega)
          have E2 : nI (A.1 5 k) = nI b ↔ A.1 5 k = b := u_eq (by omega) (by omega)
          have E3 : nI (A.1 4 k) = nI b ↔ A.1 4 k = b := u_eq (by omega) (by omega)
          have E4 : nI (A.1 5 k) = nI a ↔ A.1 5 k = a := u_eq (by omega) (by omega)
          have h62 : ¬ (A.1 4 k = a ∧ A.1 5 k = b) → v_X12_isJoined_62 (some (.int (if (nearB A a).testBit b = true then 1 else 0))) I L I L (nI a) (nI b) (nI k) (nI (A.1 4 k)) (nI (A.1 5 k)) := fun hn => by
            refine vc_X12_isJoined_62 ?_
            rw [nI_1, E3, E4]
            by_cases y : A.1 4 k = b ∧ A.1 5 k = a
            · rw [decide_eq_true (Or.inr y), if_pos rfl] at nx
              exact ⟨fun _ => ⟨fun _ => nx, fun z => absurd y.2 z⟩, fun z => absurd y.1 z⟩
            · rw [decide_eq_false (fun z => z.elim hn y), if_neg (show ¬ (false = true) by decide)] at nx
              exact ⟨fun z => ⟨fun z2 => absurd ⟨z, z2⟩ y, fun _ => nx⟩, fun _ => nx⟩
          rw [E1, E2]
          refine ⟨fun _ => ⟨fun z => ⟨fun z2 => ?_, fun z2 => h62 (fun y => z2 y.2)⟩, fun z => h62 (fun y => z y.1)⟩, fun z => absurd rfl z⟩
          rw [decide_eq_true (Or.inl ⟨z, z2⟩), if_pos rfl] at nx
          exact nx
  have := loop (A.1 0 4) 0 (by omega)
  have e0 : (nearF A a 0).testBit b = false := Nat.zero_testBit b
  rw [e0, if_neg (show ¬ (false = true) by decide)] at this
  exact c0_X12_isJoined (vc_X12_isJoined_0 this)
theorem joi_u (hV : NV A) {a v u : Nat} (h : VR v u) : (nearB A a).testBit u = true ↔ joi A a v := by
  have hl := nearB_lt hV a
  have big : ∀ x, 7 ≤ x → ¬ (nearB A a).testBit x = true := fun x hx => by
    rw [Nat.testBit_lt_two_pow (Nat.lt_of_lt_of_le hl (by
      have : 2 ^ 7 ≤ 2 ^ x := Nat.pow_le_pow_right (by decide) hx
      exact this))]
    decide
  rcases h with ⟨h1, h2⟩ | ⟨h1, h2, h3⟩
  · rw [h2]
    exact ⟨fun z => ⟨Classical.byContradiction fun y => big v (by omega) z, z⟩, fun z => z.2⟩
  · exact ⟨fun z => absurd z (big u (by omega)), fun z => by have := z.1; omega⟩
theorem DrM.pews (hD : DrM A I) : I 102 3 - 1 = iI ((A.1 0 3 : Int) - 1) := by
  rw [hD.1 3 (by decide)]
  exact pew_m1 _
theorem mf_aisle66 {a : Nat} {x2 : Int32} (h : RqM B n S I) (hV : NV A) (h4 : A.1 0 4 < 12) (hD : S.1.1 = 0 → DrM A I ∧ x2 = nI a) : ∃ I', v_X12_readAisle_66 none I' L I L (nI (30 + 2 * A.1 0 4)) x2 ∧ RqM B n (putA (addAi A a S.2.1.2.2.2) (needN B n 0 ((A.1 0 3 : Int) - 1) S)) I' ∧ ((putA (addAi A a S.2.1.2.2.2) (needN B n 0 ((A.1 0 3 : Int) - 1) S)).1.1 = 0 → DrM (putA (addAi A a S.2.1.2.2.2) (needN B n 0 ((A.1 0 3 : Int) - 1) S)).2.2 I') ∧ FM I I' := by
  have h3 := hV.1.2.2.2.1
  obtain ⟨r, K, cK, rK, eK, fK⟩ := mf_number (L := L) h (lo := 0) (hi := (A.1 0 3 : Int) - 1) (x1 := 0) (x2 := I 102 3 - 1) rfl (fun z => (hD z).1.pews) ⟨by decide, by decide⟩ ⟨by omega, by omega⟩
  by_cases e : (needN B n 0 ((A.1 0 3 : Int) - 1) S).1.1 = 0
  · obtain ⟨d, ex⟩ := hD (needN_ok e).1
    have e4 : I 102 4 = nI (A.1 0 4) := d.1 4 (by decide)
    obtain ⟨g1, g2⟩ := fin_put (A := addAi A a S.2.1.2.2.2) (((rK.up (30 + 2 * A.1 0 4) x2).up (31 + 2 * A.1 0 4) r).up 4 (nI (A.1 0 4 + 1))) (fun z => by
      refine DrM_ai d hV h4 ?_ ?_ ?_ ?_
      · rw [up2_s]
      · rw [up2_k (by omega), up2_k (by omega), up2_s, ex]
      · rw [up2_k (by omega), up2_s]; exact eK e
      · intro k q1 q2 q3
        rw [up2_k q1, up2_k q3, up2_k q2, fK.o])
    refine ⟨_, vc_X12_readAisle_66 ?_, g1, g2, ((fK.m.tr FM_up).tr FM_up).tr FM_up⟩
    rw [cl3, cl4, show (1 : Int32) = nI 1 from rfl, ixs (show 30 + 2 * A.1 0 4 + 1 = 31 + 2 * A.1 0 4 by omega), u_cl (by omega), u_cl (by omega)]
    refine ⟨v104 (k := 3) (by decide), r, K, cK, _, mf_good1 rK e, fun z => absurd z (by decide), fun _ => ⟨v104 (by omega), v104 (by omega), fun I4 q4 => ⟨v104 (k := 4) (by decide), v104 (k := 4) (by decide), fun I5 q5 => ⟨rfl, ?_, rfl⟩⟩⟩⟩
    rw [q5, q4, up2_k (show 4 ≠ 31 + 2 * A.1 0 4 by omega), up2_k (show 4 ≠ 30 + 2 * A.1 0 4 by omega), fK.o, e4, u_add]
  · rw [put_id e]
    refine ⟨K, vc_X12_readAisle_66 ?_, rK, fun z => absurd z e, fK.m⟩
    rw [cl3]
    exact ⟨v104 (k := 3) (by decide), r, K, cK, _, mf_good0 rK e, fun _ => ⟨rfl, rfl, rfl⟩, fun z => absurd rfl z⟩
theorem mf_readAisle (h : RqM B n S I) (h0 : S.1.1 = 0) (hD : DrM S.2.2 I) (hV : NV S.2.2) (h4 : S.2.2.1 0 4 < 12) : ∃ I', q_C kX12_readAisle [.ref 96] I L none I' L ∧ RqM B n (rdA2 B n S) I' ∧ ((rdA2 B n S).1.1 = 0 → DrM (rdA2 B n S).2.2 I') ∧ FM I I' := by
  obtain ⟨A, eA⟩ : ∃ A, A = S.2.2 := ⟨_, rfl⟩
  unfold rdA2
  rw [← eA] at hD hV h4 ⊢
  have h3 := hV.1.2.2.2.1
  have e4 : I 102 4 = nI (A.1 0 4) := hD.1 4 (by decide)
  obtain ⟨r, K, cK, rK, eK, fK⟩ := mf_number (L := L) h (lo := 0) (hi := (A.1 0 3 : Int) - 1) (x1 := 0) (x2 := I 102 3 - 1) rfl (fun z => hD.pews) ⟨by decide, by decide⟩ ⟨by omega, by omega⟩
  obtain ⟨a, ea⟩ : ∃ a, a = S.2.1.2.2.2 := ⟨_, rfl⟩
  obtain ⟨S3, eS3⟩ : ∃ X, X = needN B n 0 ((A.1 0 3 : Int) - 1) S := ⟨_, rfl⟩
  have hal : S3.1.1 = 0 → a < A.1 0 3 := fun z => by
    rw [eS3] at z
    have := needN_ok z
    omega
  show ∃ I', _ ∧ RqM B n (putA (addAi A S.2.1.2.2.2 (needN B n 0 ((A.1 0 3 : Int) - 1) S).2.1.2.2.2) (needN B n 0 ((A.1 0 3 : Int) - 1) (if (needN B n 0 ((A.1 0 3 : Int) - 1) S).1.1 = 0 ∧ (needN B n 0 ((A.1 0 3 : Int) - 1) S).2.1.2.2.1 = 2 ∧ ((needN B n 0 ((A.1 0 3 : Int) - 1) S).2.1.2.2.2 = S.2.1.2.2.2 ∨ joi A S.2.1.2.2.2 (needN B n 0 ((A.1 0 3 : Int) - 1) S).2.1.2.2.2) then failP 2 (needN B n 0 ((A.1 0 3 : Int) - 1) S) else needN B n 0 ((A.1 0 3 : Int) - 1) S))) I' ∧ ((putA (addAi A S.2.1.2.2.2 (needN B n 0 ((A.1 0 3 : Int) - 1) S).2.1.2.2.2) (needN B n 0 ((A.1 0 3 : Int) - 1) (if (needN B n 0 ((A.1 0 3 : Int) - 1) S).1.1 = 0 ∧ (needN B n 0 ((A.1 0 3 : Int) - 1) S).2.1.2.2.1 = 2 ∧ ((needN B n 0 ((A.1 0 3 : Int) - 1) S).2.1.2.2.2 = S.2.1.2.2.2 ∨ joi A S.2.1.2.2.2 (needN B n 0 ((A.1 0 3 : Int) - 1) S).2.1.2.2.2) then failP 2 (needN B n 0 ((A.1 0 3 : Int) - 1) S) else needN B n 0 ((A.1 0 3 : Int) - 1) S))).1.1 = 0 → DrM (putA (addAi A S.2.1.2.2.2 (needN B n 0 ((A.1 0 3 : Int) - 1) S).2.1.2.2.2) (needN B n 0 ((A.1 0 3 : Int) - 1) (if (needN B n 0 ((A.1 0 3 : Int) - 1) S).1.1 = 0 ∧ (needN B n 0 ((A.1 0 3 : Int) - 1) S).2.1.2.2.1 = 2 ∧ ((needN B n 0 ((A.1 0 3 : Int) - 1) S).2.1.2.2.2 = S.2.1.2.2.2 ∨ joi A S.2.1.2.2.2 (needN B n 0 ((A.1 0 3 : Int) - 1) S).2.1.2.2.2) then failP 2 (needN B n 0 ((A.1 0 3 : Int) - 1) S) else needN B n 0 ((A.1 0 3 : Int) - 1) S))).2.2 I') ∧ _
  rw [← eS3, ← ea]
  rw [← eS3] at rK eK
  rw [← ea] at eK
  have dK : DrM A K := DrM_of (fun k => fK.o k) hD
  obtain ⟨J, cJ, rJ, fJ⟩ := mf_errs (L := L) rK (k := 2) ⟨by decide, by decide⟩
  have A1 : S3.2.1.2.2.2 = (failP 2 S3).2.1.2.2.2 := by rw [fail_2]
  have bad : ∃ I', v_X12_readAisle_66 none I' L J L (nI (30 + 2 * A.1 0 4)) r ∧ RqM B n (putA (addAi A a S3.2.1.2.2.2) (needN B n 0 ((A.1 0 3 : Int) - 1) (failP 2 S3))) I' ∧ ((putA (addAi A a S3.2.1.2.2.2) (needN B n 0 ((A.1 0 3 : Int) - 1) (failP 2 S3))).1.1 = 0 → DrM (putA (addAi A a S3.2.1.2.2.2) (needN B n 0 ((A.1 0 3 : Int) - 1) (failP 2 S3))).2.2 I') ∧ FM J I' := by
    rw [A1]
    exact mf_aisle66 (L := L) rJ hV h4 (fun z => absurd z (fail_flt (by decide)))
  obtain ⟨G, vG, g1, g2, g3⟩ := mf_aisle66 (L := L) (a := a) (x2 := r) rK hV h4 (fun z => ⟨dK, eK z⟩)
  have pre : ∀ I', (∃ r3, q_C kX12_good [.ref 96] K L (some (.int r3)) K L ∧ ((r3 = 0 → (v_X12_readAisle_66 none I' L K L (nI (30 + 2 * A.1 0 4)) r)) ∧ (¬ r3 = 0 → (((K 96 10) = 2 → (((K 96 11) = r → (∃ I4, q_C kX12_errs [.ref 96, .int 2] K L none I4 L ∧ (v_X12_readAisle_66 none I' L I4 L (nI (30 + 2 * A.1 0 4)) r))) ∧ (¬ (K 96 11) = r → (∃ r5, q_C kX12_isJoined [.ref 96, .int r, .int (K 96 11)] K L (some (.int r5)) K L ∧ ((r5 = 0 → (v_X12_readAisle_66 none I' L K L (nI (30 + 2 * A.1 0 4)) r)) ∧ (¬ r5 = 0 → (∃ I6, q_C kX12_errs [.ref 96, .int 2] K L none I6 L ∧ (v_X12_readAisle_66 none I' L I6 L (nI (30 + 2 * A.1 0 4)) r)))))))) ∧ (¬ (K 96 10) = 2 → (v_X12_readAisle_66 none I' L K L (nI (30 + 2 * A.1 0 4)) r)))))) → q_C kX12_readAisle [.ref 96] I L none I' L := fun I' hh => by
    refine c0_X12_readAisle (vc_X12_readAisle_0 ?_)
    rw [cl3, cl4, e4, ix30]
    exact ⟨v104 (k := 4) (by decide), v104 (k := 3) (by decide), r, K, cK, hh⟩
  by_cases q0 : S3.1.1 = 0
  · have er := eK q0
    have hk2 := rK.kd (j := 2) (by decide)
    by_cases q1 : S3.2.1.2.2.1 = 2
    · obtain ⟨u, hu, hv⟩ := rK.2.2.1.2.2.2 q1
      have ul := VR_le hv
      have al := hal q0
      have ev : K 96 11 = r ↔ S3.2.1.2.2.2 = a := by
        rw [hu, er, u_eq (by omega) (by omega)]
        exact VR_eq hv (by omega)
      by_cases q2 : S3.2.1.2.2.2 = a
      · rw [if_pos ⟨q0, q1, Or.inl q2⟩]
        obtain ⟨I', vI, y1, y2, y3⟩ := bad
        exact ⟨I', pre I' ⟨_, mf_good1 rK q0, fun z => absurd z (by decide), fun _ => ⟨fun _ => ⟨fun _ => ⟨J, cJ, vI⟩, fun z => absurd (ev.mpr q2) z⟩, fun z => absurd (hk2.mpr q1) z⟩⟩, y1, y2, (fK.m.tr fJ.m).tr y3⟩
      · have cj := mf_isJoined (L := L) dK hV (a := a) (b := u) (by omega) ul (fun z => q2 ((VR_eq hv (by omega)).mp z.symm))
        rw [← er, ← hu] at cj
        by_cases q3 : joi A a S3.2.1.2.2.2
        · rw [if_pos ⟨q0, q1, Or.inr q3⟩]
          rw [if_pos ((joi_u hV hv).mpr q3)] at cj
          obtain ⟨I', vI, y1, y2, y3⟩ := bad
          exact ⟨I', pre I' ⟨_, mf_good1 rK q0, fun z => absurd z (by decide), fun _ => ⟨fun _ => ⟨fun z => absurd (ev.mp z) q2, fun _ => ⟨_, cj, fun z => absurd z (by decide), fun _ => ⟨J, cJ, vI⟩⟩⟩, fun z => absurd (hk2.mpr q1) z⟩⟩, y1, y2, (fK.m.tr fJ.m).tr y3⟩
        · rw [if_neg (fun z => z.2.2.elim q2 q3)]
          rw [if_neg (fun z => q3 ((joi_u hV hv).mp z))] at cj
          exact ⟨G, pre G ⟨_, mf_good1 rK q0, fun z => absurd z (by decide), fun _ => ⟨fun _ => ⟨fun z => absurd (ev.mp z) q2, fun _ => ⟨_, cj, fun _ => vG, fun z => absurd rfl z⟩⟩, fun z => absurd (hk2.mpr q1) z⟩⟩, g1, g2, fK.m.tr g3⟩
    · rw [if_neg (fun z => q1 z.2.1)]
      exact ⟨G, pre G ⟨_, mf_good1 rK q0, fun z => absurd z (by decide), fun _ => ⟨fun z => absurd (hk2.mp z) q1, fun _ => vG⟩⟩, g1, g2, fK.m.tr g3⟩
  · rw [if_neg (fun z => q0 z.1)]
    exact ⟨G, pre G ⟨_, mf_good0 rK q0, fun _ => vG, fun z => absurd rfl z⟩, g1, g2, fK.m.tr g3⟩
theorem lgE_id (h : S.1.1 ≠ 0) : lgE S = S := by
  unfold lgE
  rw [fail_id h]
  by_cases e : S.2.1.2.2.1 = 2
  · rw [if_pos e]
  · rw [if_neg e]
theorem lgF_id : ∀ (m : Nat) (l : List Nat) (S : Ps), S.1.1 ≠ 0 → (lgF B n m l S).2 = S
  | 0, l, S, h => rfl
  | m + 1, l, S, h => by
    show (if S.2.1.2.2.1 = 2 then lgF B n m (l ++ [S.2.1.2.2.2]) (needN B n 1 4 S) else (l, S)).2 = S
    by_cases e : S.2.1.2.2.1 = 2
    · rw [if_pos e, needN_id h]; exact lgF_id m _ S h
    · rw [if_neg e]
theorem mf_light33f (h : RqM B n S I) (h0 : S.1.1 ≠ 0) {x1 x2 : Int32} : v_X12_readLight_33 none (up2 I 102 5 (I 102 5 + 1)) L I L x1 x2 := by
  refine vc_X12_readLight_33 ⟨_, mf_good0 h h0, fun _ => ?_, fun z => absurd rfl z⟩
  rw [cl5]
  exact ⟨v104 (k := 5) (by decide), v104 (k := 5) (by decide), fun I2 q => ⟨rfl, q.symm, rfl⟩⟩
/-- one letter more -/
theorem mf_light96 {q : Nat} {x2 : Int32} (hq : q < 4) {I' J : Nat → Nat → Int32} {r : Int32} (c : q_C kX12_number [.ref 96, .int 1, .int 4] I L (some (.int r)) J L) (hv : v_X12_readLight_33 none I' L (up2 J 102 (55 + 2 * q) (5 * I 102 (55 + 2 * q) + r)) L (nI (54 + 2 * q)) (x2 + 1)) : v_X12_readLight_96 none I' L I L (nI (54 + 2 * q)) x2 := by
  have s1 : nI (54 + 2 * q) + 1 = nI (55 + 2 * q) := ixs (k := 1) (by omega)
  refine vc_X12_readLight_96 ?_
  rw [s1, u_cl (by omega)]
  refine ⟨v104 (by omega), r, J, c, v104 (by omega), fun I3 e => ?_⟩
  subst e
  exact hv
theorem mf_light52 {I' : Nat → Nat → Int32} {x1 x2 : Int32} (hx : x2 ≠ 6) (hv : v_X12_readLight_96 none I' L I L x1 x2) : v_X12_readLight_52 none I' L I L x1 x2 :=
  vc_X12_readLight_52 ⟨fun _ => ⟨_, ct_inI _ 1 4, fun _ => ⟨fun z => absurd z hx, fun _ => hv⟩, fun _ => ⟨fun z => absurd z hx, fun _ => hv⟩⟩, fun _ => ⟨fun z => absurd z hx, fun _ => hv⟩⟩
theorem mf_light33 {q : Nat} (hq : q < 4) : ∀ (m : Nat) (l : List Nat) (S : Ps) (I : Nat → Nat → Int32), RqM B n S I → l.length + m = 6 → 1 ≤ l.length → (S.1.1 = 0 → I 102 (55 + 2 * q) = nI (mE l)) → ∃ I', v_X12_readLight_33 none I' L I L (nI (54 + 2 * q)) (nI l.length) ∧ RqM B n (lgE (lgF B n m l S).2) I' ∧ FM I I' ∧ ((lgE (lgF B n m l S).2).1.1 = 0 → I' 102 (55 + 2 * q) = nI (mE (lgF B n m l S).1)) ∧ I' 102 5 = I 102 5 + 1 ∧ (∀ k, k ≠ 5 → k ≠ 55 + 2 * q → I' 102 k = I 102 k)
  | m, l, S, I, h, hl, hl1, hD => by
    by_cases e0 : S.1.1 = 0
    · have hk2 := h.kd (j := 2) (by decide)
      have hz : ¬ nI l.length = 0 := fun z => by
        rw [u_0 (by omega)] at z
        omega
      by_cases e2 : S.2.1.2.2.1 = 2
      · obtain ⟨u, hu, hv⟩ := h.2.2.1.2.2.2 e2
        have ul := VR_le hv
        match m, hl with
        | 0, hl =>
          have l6 : nI l.length = 6 := by rw [show l.length = 6 by omega]; rfl
          show ∃ I', _ ∧ RqM B n (lgE S) I' ∧ _ ∧ ((lgE S).1.1 = 0 → I' 102 (55 + 2 * q) = nI (mE l)) ∧ _
          have ci := ct_inI (I := I) (L := L) (I 96 11) 1 4
          have ei : ib 1 4 (I 96 11) ↔ S.2.1.2.2.2 < 1 ∨ 4 < S.2.1.2.2.2 := by
            show (I 96 11 < 1 ∨ 4 < I 96 11) ↔ _
            rw [hu]
            simp (disch := omega) only [l_0, l_1, l_2, l_3, l_4, l_5, l_6, l_7, l_8, l_9, l_10, l_11, l_12, l_15, l_16, l_20, l_24, l_30, l_31, l_32, l_50, l_54, l_60, l_62, l_63, l_64, l_74, l_91, l_100, l_128, l_240, l_600, l_10000, l_m1, nI_leI, nI_ltI, u_eq, u_add, u_mul, u_cl, u_in_t, pk_sub, pk_div, nI_nm1, m1_nI, m1_lt, m1_le, nI_ltm, nI_lem, up2_s_, u_31, u_one3, u_shr3, u_and1, u_or, true_and, and_true]
            rcases hv with ⟨v1, v2⟩ | ⟨v1, v2, v3⟩
            · rw [v2]
            · exact ⟨fun z => by omega, fun z => by omega⟩
          by_cases e3 : S.2.1.2.2.2 < 1 ∨ 4 < S.2.1.2.2.2
          · have eE : lgE S = failP 2 S := by unfold lgE; rw [if_pos e2, if_pos e3]
            have eN : needN B n 1 4 S = failP 2 S := by
              unfold needN needT
              rw [if_pos e2, if_pos (by omega), adv_id (fail_flt (by decide))]
            have hf : (failP 2 S).1.1 ≠ 0 := fail_flt (by decide)
            obtain ⟨r, J, c, rJ, -, fJ⟩ := mf_number (L := L) h (lo := 1) (hi := 4) (x1 := 1) (x2 := 4) rfl (fun _ => rfl) ⟨by decide, by decide⟩ ⟨by decide, by decide⟩
            rw [eN] at rJ
            rw [eE]
            obtain ⟨M, eM⟩ : ∃ M, M = up2 J 102 (55 + 2 * q) (5 * I 102 (55 + 2 * q) + r) := ⟨_, rfl⟩
            have rM : RqM B n (failP 2 S) M := by rw [eM]; exact rJ.up _ _
            have m5 : M 102 5 = I 102 5 := by rw [eM, up2_k (by omega), fJ.o]
            have v33 := mf_light33f (L := L) rM hf (x1 := nI (54 + 2 * q)) (x2 := nI l.length + 1)
            have v96 : v_X12_readLight_96 none (up2 M 102 5 (M 102 5 + 1)) L I L (nI (54 + 2 * q)) (nI l.length) := mf_light96 hq c (by rw [← eM]; exact v33)
            rw [if_pos (ei.mpr e3)] at ci
            refine ⟨up2 M 102 5 (M 102 5 + 1), vc_X12_readLight_33 ⟨_, mf_good1 h e0, fun z => absurd z (by decide), fun _ => ⟨fun z => absurd z hz, fun _ => ⟨fun _ => vc_X12_readLight_52 ⟨fun _ => ⟨_, ci, fun _ => ⟨fun _ => ⟨fun _ => v96, fun z => absurd rfl z⟩, fun _ => v96⟩, fun z => absurd rfl z⟩, fun z => absurd (hk2.mpr e2) z⟩, fun z => absurd (hk2.mpr e2) z⟩⟩⟩, rM.up _ _, ?_, fun z => absurd z hf, ?_, ?_⟩
            · rw [eM]; exact (fJ.m.tr FM_up).tr FM_up
            · rw [up2_s, m5]
            · intro k q1 q2
              rw [up2_k q1, eM, up2_k q2, fJ.o]
          · have eE : lgE S = failP 3 S := by unfold lgE; rw [if_pos e2, if_neg e3]
            have hf : (failP 3 S).1.1 ≠ 0 := fail_flt (by decide)
            obtain ⟨N, cN, rN, fN⟩ := mf_errs (L := L) h (k := 3) ⟨by decide, by decide⟩
            obtain ⟨r, J, c, rJ, -, fJ⟩ := mf_number (L := L) rN (lo := 1) (hi := 4) (x1 := 1) (x2 := 4) rfl (fun _ => rfl) ⟨by decide, by decide⟩ ⟨by decide, by decide⟩
            rw [needN_id hf] at rJ
            rw [eE]
            obtain ⟨M, eM⟩ : ∃ M, M = up2 J 102 (55 + 2 * q) (5 * N 102 (55 + 2 * q) + r) := ⟨_, rfl⟩
            have rM : RqM B n (failP 3 S) M := by rw [eM]; exact rJ.up _ _
            have m5 : M 102 5 = I 102 5 := by rw [eM, up2_k (by omega), fJ.o, fN.o]
            have v33 := mf_light33f (L := L) rM hf (x1 := nI (54 + 2 * q)) (x2 := nI l.length + 1)
            have v96 : v_X12_readLight_96 none (up2 M 102 5 (M 102 5 + 1)) L N L (nI (54 + 2 * q)) (nI l.length) := mf_light96 hq c (by rw [← eM]; exact v33)
            rw [if_neg (fun z => e3 (ei.mp z))] at ci
            refine ⟨up2 M 102 5 (M 102 5 + 1), vc_X12_readLight_33 ⟨_, mf_good1 h e0, fun z => absurd z (by decide), fun _ => ⟨fun z => absurd z hz, fun _ => ⟨fun _ => vc_X12_readLight_52 ⟨fun _ => ⟨_, ci, fun z => absurd z (by decide), fun _ => ⟨fun _ => ⟨fun z => absurd z (by decide), fun _ => ⟨N, cN, v96⟩⟩, fun z => absurd l6 z⟩⟩, fun z => absurd (hk2.mpr e2) z⟩, fun z => absurd (hk2.mpr e2) z⟩⟩⟩, rM.up _ _, ?_, fun z => absurd z hf, ?_, ?_⟩
            · rw [eM]; exact ((fN.m.tr fJ.m).tr FM_up).tr FM_up
            · rw [up2_s, m5]
            · intro k q1 q2
              rw [up2_k q1, eM, up2_k q2, fJ.o, fN.o]
        | m + 1, hl =>
          have e : lgF B n (m + 1) l S = lgF B n m (l ++ [S.2.1.2.2.2]) (needN B n 1 4 S) := if_pos e2
          rw [e]
          obtain ⟨r, J, c, rJ, eJ, fJ⟩ := mf_number (L := L) h (lo := 1) (hi := 4) (x1 := 1) (x2 := 4) rfl (fun _ => rfl) ⟨by decide, by decide⟩ ⟨by decide, by decide⟩
          obtain ⟨M, eM⟩ : ∃ M, M = up2 J 102 (55 + 2 * q) (5 * I 102 (55 + 2 * q) + r) := ⟨_, rfl⟩
          have ll : (l ++ [S.2.1.2.2.2]).length = l.length + 1 := by rw [List.length_append]; rfl
          obtain ⟨I', hv', g1, g2, g3, g4, g5⟩ := mf_light33 hq m (l ++ [S.2.1.2.2.2]) (needN B n 1 4 S) M (by rw [eM]; exact rJ.up _ _) (by omega) (by omega) (fun z => by
            rw [eM, up2_s, eJ z, hD e0, mE_snoc, show (5 : Int32) = nI 5 from rfl, u_mul, u_add])
          rw [ll] at hv'
          have v96 : v_X12_readLight_96 none I' L I L (nI (54 + 2 * q)) (nI l.length) := mf_light96 hq c (by rw [← eM, nI_1]; exact hv')
          have n6 : nI l.length ≠ 6 := fun z => by
            rw [show (6 : Int32) = nI 6 from rfl, u_eq (by omega) (by decide)] at z
            omega
          refine ⟨I', vc_X12_readLight_33 ⟨_, mf_good1 h e0, fun z => absurd z (by decide), fun _ => ⟨fun z => absurd z hz, fun _ => ⟨fun _ => mf_light52 n6 v96, fun z => absurd (hk2.mpr e2) z⟩⟩⟩, g1, ?_, g3, ?_, ?_⟩
          · refine FM.tr ?_ g2
            rw [eM]; exact fJ.m.tr FM_up
          · rw [g4, eM, up2_k (by omega), fJ.o]
          · intro k q1 q2
            rw [g5 k q1 q2, eM, up2_k q2, fJ.o]
      · have e : lgF B n m l S = (l, S) := by
          cases m with
          | zero => rfl
          | succ m => exact if_neg e2
        have eE : lgE S = S := if_neg e2
        rw [e]
        show ∃ I', _ ∧ RqM B n (lgE S) I' ∧ _ ∧ ((lgE S).1.1 = 0 → I' 102 (55 + 2 * q) = nI (mE l)) ∧ _
        rw [eE]
        refine ⟨up2 I 102 5 (I 102 5 + 1), vc_X12_readLight_33 ⟨_, mf_good1 h e0, fun z => absurd z (by decide), fun _ => ⟨fun z => absurd z hz, fun _ => ⟨fun z => absurd (hk2.mp z) e2, fun _ => ?_⟩⟩⟩, h.up _ _, FM_up, fun _ => ?_, up2_s _ _ _ _, fun k q1 q2 => up2_k q1⟩
        · rw [cl5]
          exact ⟨v104 (k := 5) (by decide), v104 (k := 5) (by decide), fun I2 q => ⟨rfl, q.symm, rfl⟩⟩
        · rw [up2_k (by omega)]; exact hD e0
    · rw [lgF_id m l S e0, lgE_id e0]
      exact ⟨up2 I 102 5 (I 102 5 + 1), mf_light33f h e0, h.up _ _, FM_up, fun z => absurd z e0, up2_s _ _ _ _, fun k q1 q2 => up2_k q1⟩
theorem mf_readLight (h : RqM B n S I) (hD : DrM S.2.2 I) (hV : NV S.2.2) (h5 : S.2.2.1 0 5 < 4) : ∃ I', q_C kX12_readLight [.ref 96] I L none I' L ∧ RqM B n (rdL2 B n S) I' ∧ ((rdL2 B n S).1.1 = 0 → DrM (rdL2 B n S).2.2 I') ∧ FM I I' := by
  obtain ⟨A, eA⟩ : ∃ A, A = S.2.2 := ⟨_, rfl⟩
  unfold rdL2
  rw [← eA] at hD hV h5 ⊢
  have h3 := hV.1.2.2.2.1
  obtain ⟨q, eq⟩ : ∃ q, A.1 0 5 = q := ⟨_, rfl⟩
  have e5 : I 102 5 = nI q := by rw [hD.1 5 (by decide), eq]
  have hq : q < 4 := by omega
  have d7 := hD.2.2.2.2.2.2 q (by omega) hq
  obtain ⟨r, K, cK, rK, eK, fK⟩ := mf_number (L := L) h (lo := 0) (hi := (A.1 0 3 : Int) - 1) (x1 := 0) (x2 := I 102 3 - 1) rfl (fun z => hD.pews) ⟨by decide, by decide⟩ ⟨by omega, by omega⟩
  obtain ⟨S3, eS3⟩ : ∃ X, X = needN B n 0 ((A.1 0 3 : Int) - 1) S := ⟨_, rfl⟩
  show ∃ I', _ ∧ RqM B n (putA (addLi A S.2.1.2.2.2 (lgF B n 5 [(needN B n 0 ((A.1 0 3 : Int) - 1) S).2.1.2.2.2] (needN B n 1 4 (needN B n 0 ((A.1 0 3 : Int) - 1) S))).1) (lgE (lgF B n 5 [(needN B n 0 ((A.1 0 3 : Int) - 1) S).2.1.2.2.2] (needN B n 1 4 (needN B n 0 ((A.1 0 3 : Int) - 1) S))).2)) I' ∧ ((putA (addLi A S.2.1.2.2.2 (lgF B n 5 [(needN B n 0 ((A.1 0 3 : Int) - 1) S).2.1.2.2.2] (needN B n 1 4 (needN B n 0 ((A.1 0 3 : Int) - 1) S))).1) (lgE (lgF B n 5 [(needN B n 0 ((A.1 0 3 : Int) - 1) S).2.1.2.2.2] (needN B n 1 4 (needN B n 0 ((A.1 0 3 : Int) - 1) S))).2)).1.1 = 0 → DrM (putA (addLi A S.2.1.2.2.2 (lgF B n 5 [(needN B n 0 ((A.1 0 3 : Int) - 1) S).2.1.2.2.2] (needN B n 1 4 (needN B n 0 ((A.1 0 3 : Int) - 1) S))).1) (lgE (lgF B n 5 [(needN B n 0 ((A.1 0 3 : Int) - 1) S).2.1.2.2.2] (needN B n 1 4 (needN B n 0 ((A.1 0 3 : Int) - 1) S))).2)).2.2 I') ∧ _
  rw [← eS3] at rK eK ⊢
  obtain ⟨M, eM⟩ : ∃ M, M = up2 K 102 (54 + 2 * q) r := ⟨_, rfl⟩
  have rM : RqM B n S3 M := by rw [eM]; exact rK.up _ _
  have fM : FM I M := by rw [eM]; exact fK.m.tr FM_up
  have mx : ∀ k, k ≠ 54 + 2 * q → M 102 k = I 102 k := fun k y => by rw [eM, up2_k y, fK.o]
  have m54 : M 102 (54 + 2 * q) = r := by rw [eM, up2_s]
  have pre : ∀ I', v_X12_readLight_33 none I' L M L (nI (54 + 2 * q)) 0 → q_C kX12_readLight [.ref 96] I L none I' L := fun I' hv => by
    refine c0_X12_readLight (vc_X12_readLight_0 ?_)
    rw [cl3, cl5, e5, ix54, u_cl (by omega)]
    refine ⟨v104 (k := 5) (by decide), v104 (k := 3) (by decide), r, K, cK, v104 (by omega), fun I3 y => ?_⟩
    rw [← eM] at y
    subst y
    exact hv
  by_cases e0 : S3.1.1 = 0
  · obtain ⟨r1, J, c1, rJ, eJ, fJ⟩ := mf_number (L := L) rM (lo := 1) (hi := 4) (x1 := 1) (x2 := 4) rfl (fun _ => rfl) ⟨by decide, by decide⟩ ⟨by decide, by decide⟩
    obtain ⟨N, eN⟩ : ∃ N, N = up2 J 102 (55 + 2 * q) (5 * M 102 (55 + 2 * q) + r1) := ⟨_, rfl⟩
    have m55 : M 102 (55 + 2 * q) = 0 := by rw [mx _ (by omega)]; exact d7
    obtain ⟨I', hv', g1, g2, g3, g4, g5⟩ := mf_light33 (L := L) hq 5 [S3.2.1.2.2.2] (needN B n 1 4 S3) N (by rw [eN]; exact rJ.up _ _) rfl (Nat.le_refl 1) (fun z => by
      rw [eN, up2_s, eJ z, m55, mE_one, show (5 : Int32) * 0 = nI 0 from rfl, u_add, Nat.zero_add])
    have v96 : v_X12_readLight_96 none I' L M L (nI (54 + 2 * q)) 0 := mf_light96 hq c1 (by rw [← eN]; exact hv')
    have v33 : v_X12_readLight_33 none I' L M L (nI (54 + 2 * q)) 0 := vc_X12_readLight_33 ⟨_, mf_good1 rM e0, fun z => absurd z (by decide), fun _ => ⟨fun _ => mf_light52 (by decide) v96, fun z => absurd rfl z⟩⟩
    have nx : ∀ k, k ≠ 54 + 2 * q → k ≠ 55 + 2 * q → N 102 k = I 102 k := fun k y1 y2 => by rw [eN, up2_k y2, fJ.o, mx k y1]
    obtain ⟨y1, y2⟩ := fin_put (A := addLi A S.2.1.2.2.2 (lgF B n 5 [S3.2.1.2.2.2] (needN B n 1 4 S3)).1) g1 (fun z => by
      refine DrM_li hD hV h5 ?_ ?_ ?_ ?_
      · rw [g4, nx 5 (by omega) (by omega), e5, nI_1, eq]
      · rw [eq, g5 _ (by omega) (by omega), eN, up2_k (by omega), fJ.o, m54]; exact eK e0
      · rw [eq]; exact g3 z
      · intro k x1 x2 x3
        rw [eq] at x2 x3
        rw [g5 k x1 x3, nx k x2 x3])
    refine ⟨I', pre I' v33, y1, y2, fM.tr (FM.tr ?_ g2)⟩
    rw [eN]; exact fJ.m.tr FM_up
  · have e1 : needN B n 1 4 S3 = S3 := needN_id e0
    rw [e1, lgF_id 5 _ S3 e0, lgE_id e0, put_id e0]
    exact ⟨up2 M 102 5 (M 102 5 + 1), pre _ (mf_light33f rM e0), rM.up _ _, fun z => absurd z e0, fM.tr FM_up⟩
theorem mf_readDraught (h : RqM B n S I) (hD : DrM S.2.2 I) (hV : NV S.2.2) (h6 : S.2.2.1 0 6 < 6) : ∃ I', q_C kX12_readDraught [.ref 96] I L none I' L ∧ RqM B n (rdD2 B n S) I' ∧ ((rdD2 B n S).1.1 = 0 → DrM (rdD2 B n S).2.2 I') ∧ FM I I' := by
  obtain ⟨A, eA⟩ : ∃ A, A = S.2.2 := ⟨_, rfl⟩
  unfold rdD2
  rw [← eA] at hD hV h6 ⊢
  have h3 := hV.1.2.2.2.1
  obtain ⟨q, eq⟩ : ∃ q, A.1 0 6 = q := ⟨_, rfl⟩
  have e6 : I 102 6 = nI q := by rw [hD.1 6 (by decide), eq]
  have hq : q < 6 := by omega
  obtain ⟨r, K, cK, rK, eK, fK⟩ := mf_number (L := L) h (lo := 0) (hi := (A.1 0 3 : Int) - 1) (x1 := 0) (x2 := I 102 3 - 1) rfl (fun z => hD.pews) ⟨by decide, by decide⟩ ⟨by omega, by omega⟩
  obtain ⟨M, eM⟩ : ∃ M, M = up2 K 102 (62 + 2 * q) r := ⟨_, rfl⟩
  have rM : RqM B n (needN B n 0 ((A.1 0 3 : Int) - 1) S) M := by rw [eM]; exact rK.up _ _
  obtain ⟨r4, J, cJ, rJ, eJ, fJ⟩ := mf_toldBy (L := L) rM sx27 (lo := 0) (hi := 11) (x1 := 0) (x2 := 11) rfl rfl ⟨by decide, by decide⟩ ⟨by decide, by decide⟩
  have fM : FM I M := by rw [eM]; exact fK.m.tr FM_up
  have mx : ∀ k, k ≠ 62 + 2 * q → M 102 k = I 102 k := fun k y => by rw [eM, up2_k y, fK.o]
  obtain ⟨y1, y2⟩ := fin_put (A := addDr A S.2.1.2.2.2 (needW B n w_at (needN B n 0 ((A.1 0 3 : Int) - 1) S)).2.1.2.2.2) ((rJ.up (63 + 2 * q) r4).up 6 (nI (q + 1))) (fun z => by
    refine DrM_dr hD hV h6 ?_ ?_ ?_ ?_
    · rw [up2_s, eq]
    · rw [eq, up2_k (by omega), up2_k (by omega), fJ.o, eM, up2_s]
      exact eK (needW_ok (needN_ok z).1).1
    · rw [eq, up2_k (by omega), up2_s]; exact eJ z
    · intro k x1 x2 x3
      rw [eq] at x2 x3
      rw [up2_k x1, up2_k x3, fJ.o, mx k x2])
  refine ⟨_, c0_X12_readDraught (vc_X12_readDraught_0 ?_), y1, y2, ((fM.tr fJ.m).tr FM_up).tr FM_up⟩
  have s1 : nI (62 + 2 * q) + 1 = nI (63 + 2 * q) := ixs (k := 1) (by omega)
  rw [cl3, cl6, e6, ix62, s1, u_cl (by omega), u_cl (by omega)]
  refine ⟨v104 (k := 6) (by decide), v104 (k := 3) (by decide), r, K, cK, v104 (by omega), fun I3 q3 => ?_⟩
  rw [← eM] at q3
  subst q3
  refine ⟨r4, J, cJ, v104 (by omega), fun I6 q6 => ⟨v104 (k := 6) (by decide), v104 (k := 6) (by decide), fun I7 q7 => ⟨rfl, ?_, rfl⟩⟩⟩
  rw [q7, q6, up2_k (show 6 ≠ 63 + 2 * q by omega), fJ.o, mx 6 (by omega), e6, nI_1]
/-- one number of the first line -/
theorem mf_stage (h : RqM B n S I) (hD : S.1.1 = 0 → DrM S.2.2 I) {j i : Nat} {c nm : String} {w : List Int32} (hq : q_SX[j]? = some (c, i, nm, w)) {lo hi : Int} {x1 x2 : Int32} (h1 : x1 = iI lo) (hx : x2 = iI hi) (hlo : 0 ≤ lo ∧ lo ≤ 100) (hhi : -1 ≤ hi ∧ hi ≤ 100) {k : Nat} (hk : k = 0 ∨ k = 1 ∨ k = 2 ∨ k = 8) : ∃ r I', q_C kX12_toldBy [.ref 96, .ref (10001 + j), .int x1, .int x2] I L (some (.int r)) I' L ∧ RqM B n (setN k (needW B n w S).2.1.2.2.2 (needN B n lo hi (needW B n w S))) (up2 I' 102 k r) ∧ ((setN k (needW B n w S).2.1.2.2.2 (needN B n lo hi (needW B n w S))).1.1 = 0 → DrM (setN k (needW B n w S).2.1.2.2.2 (needN B n lo hi (needW B n w S))).2.2 (up2 I' 102 k r)) ∧ FM I (up2 I' 102 k r) := by
  obtain ⟨r, J, cJ, rJ, eJ, fJ⟩ := mf_toldBy (L := L) h hq h1 hx hlo hhi
  refine ⟨r, J, cJ, rJ.up _ _, fun z => ?_, fJ.m.tr FM_up⟩
  have z : (needN B n lo hi (needW B n w S)).1.1 = 0 := z
  have hA : (needN B n lo hi (needW B n w S)).2.2 = S.2.2 := by rw [needN_A, needW_A]
  have d := hD (needW_ok (needN_ok z).1).1
  refine DrM_set (A := (needN B n lo hi (needW B n w S)).2.2) (I := I) (by rw [hA]; exact d) hk ?_ ?_
  · rw [up2_s]; exact eJ z
  · intro j' y
    rw [up2_k y, fJ.o]
theorem mf_readFirst (h : RqM B n S I) (hD : DrM S.2.2 I) : ∃ I', q_C kX12_readFirst [.ref 96] I L none I' L ∧ RqM B n (rdN B n S) I' ∧ ((rdN B n S).1.1 = 0 → DrM (rdN B n S).2.2 I') ∧ FM I I' := by
  obtain ⟨I1, c1, r1, f1⟩ := mf_expects (L := L) h sx14
  obtain ⟨S1, e1⟩ : ∃ X, X = needW B n w_night S := ⟨_, rfl⟩
  have dS1 : S1.1.1 = 0 → DrM S1.2.2 I1 := fun _ => by rw [e1, needW_A]; exact DrM_of (fun k => f1.o k) hD
  rw [← e1] at r1
  obtain ⟨x2, I3, c3, r3, d3, f3⟩ := mf_stage (L := L) r1 dS1 sx15 (lo := 1) (hi := 12) (x1 := 1) (x2 := 12) rfl rfl ⟨by decide, by decide⟩ ⟨by decide, by decide⟩ (k := 0) (Or.inl rfl)
  have er : rdN B n S = rdN4 B n (rdN3 B n (rdN2 B n (needW B n w_hours S1))) := by rw [e1]; rfl
  rw [er]
  obtain ⟨S2, e2⟩ : ∃ X, X = needW B n w_hours S1 := ⟨_, rfl⟩
  rw [← e2] at r3 d3 ⊢
  obtain ⟨S3, e3⟩ : ∃ X, X = setN 0 S2.2.1.2.2.2 (needN B n 1 12 S2) := ⟨_, rfl⟩
  rw [← e3] at r3 d3
  have er2 : rdN2 B n S2 = needW B n w_law S3 := by rw [e3]; rfl
  rw [er2]
  obtain ⟨x4, I5, c5, r5, d5, f5⟩ := mf_stage (L := L) r3 d3 sx16 (lo := 0) (hi := 3) (x1 := 0) (x2 := 3) rfl rfl ⟨by decide, by decide⟩ ⟨by decide, by decide⟩ (k := 1) (Or.inr (Or.inl rfl))
  obtain ⟨S4, e4⟩ : ∃ X, X = needW B n w_law S3 := ⟨_, rfl⟩
  rw [← e4] at r5 d5 ⊢
  obtain ⟨S5, e5⟩ : ∃ X, X = setN 1 S4.2.1.2.2.2 (needN B n 0 3 S4) := ⟨_, rfl⟩
  rw [← e5] at r5 d5
  have er3 : rdN3 B n S4 = needW B n w_odds S5 := by rw [e5]; rfl
  rw [er3]
  obtain ⟨x6, I7, c7, r7, d7, f7⟩ := mf_stage (L := L) r5 d5 sx17 (lo := 0) (hi := 10) (x1 := 0) (x2 := 10) rfl rfl ⟨by decide, by decide⟩ ⟨by decide, by decide⟩ (k := 2) (Or.inr (Or.inr (Or.inl rfl)))
  obtain ⟨S6, e6⟩ : ∃ X, X = needW B n w_odds S5 := ⟨_, rfl⟩
  rw [← e6] at r7 d7 ⊢
  have er4 : rdN4 B n S6 = setN 2 S6.2.1.2.2.2 (needN B n 0 10 S6) := rfl
  rw [er4]
  refine ⟨_, c0_X12_readFirst (vc_X12_readFirst_0 ?_), r7, d7, ((f1.m.tr f3).tr f5).tr f7⟩
  rw [cl0, cl1, cl2]
  exact ⟨I1, c1, x2, I3, c3, v104 (k := 0) (by decide), x4, I5, c5, v104 (k := 1) (by decide), x6, I7, c7, v104 (k := 2) (by decide), rfl, rfl, rfl⟩
end ML2
