/-! THE READER of the reference: the lines. -/
/-- the night so far, as the reference has it -/
def DrM (A : Nt) (I : Nat → Nat → Int32) : Prop :=
  (∀ k, k < 9 → I 102 k = nI (A.1 0 k)) ∧
  (∀ i, i < A.1 0 3 → I 102 (9 + 3 * i) = nI (A.1 1 i) ∧ I 102 (10 + 3 * i) = nI (A.1 2 i) ∧ I 102 (11 + 3 * i) = nI (A.1 3 i)) ∧
  (∀ k, k < A.1 0 4 → I 102 (30 + 2 * k) = nI (A.1 4 k) ∧ I 102 (31 + 2 * k) = nI (A.1 5 k)) ∧
  (∀ k, k < A.1 0 5 → I 102 (54 + 2 * k) = nI (A.1 6 k) ∧ I 102 (55 + 2 * k) = nI (mE (A.2 k))) ∧
  (∀ k, k < A.1 0 6 → I 102 (62 + 2 * k) = nI (A.1 7 k) ∧ I 102 (63 + 2 * k) = nI (A.1 8 k)) ∧
  (∀ i, A.1 0 3 ≤ i → i < 7 → I 102 (9 + 3 * i) = 0 ∧ I 102 (10 + 3 * i) = 0 ∧ I 102 (11 + 3 * i) = 0) ∧
  (∀ k, A.1 0 5 ≤ k → k < 4 → I 102 (55 + 2 * k) = 0)
theorem DrM_of {A : Nt} {I J : Nat → Nat → Int32} (h : ∀ k, J 102 k = I 102 k) (hD : DrM A I) : DrM A J := by
  have e : J 102 = I 102 := funext h
  unfold DrM at hD ⊢
  rw [e]
  exact hD
section DM
variable {A : Nt} {I J : Nat → Nat → Int32}
theorem DrM_pw (hD : DrM A I) (hV : NV A) (h3 : A.1 0 3 < 7) {r a b : Nat} (e3 : J 102 3 = nI (A.1 0 3 + 1)) (e9 : J 102 (9 + 3 * A.1 0 3) = nI r) (e10 : J 102 (10 + 3 * A.1 0 3) = nI a) (e11 : J 102 (11 + 3 * A.1 0 3) = nI b) (hx : ∀ k, k ≠ 3 → k ≠ 9 + 3 * A.1 0 3 → k ≠ 10 + 3 * A.1 0 3 → k ≠ 11 + 3 * A.1 0 3 → J 102 k = I 102 k) : DrM (addPw A r a b) J := by
  obtain ⟨d1, d2, d3, d4, d5, d6, d7⟩ := hD
  have n4 := hV.1.2.2.2.2.1
  have n5 := hV.1.2.2.2.2.2.1
  have n6 := hV.1.2.2.2.2.2.2.1
  refine ⟨fun k hk => ?_, fun i hi => ?_, fun k hk => ?_, fun k hk => ?_, fun k hk => ?_, fun i hi hi7 => ?_, fun k hk hk4 => ?_⟩
  · by_cases e : k = 3
    · rw [e, pwc3]; exact e3
    · rw [pwc0 e, hx k e (by omega) (by omega) (by omega)]; exact d1 k hk
  · rw [pwc3] at hi
    by_cases e : i = A.1 0 3
    · obtain ⟨p1, p2, p3⟩ := pw_n (A := A) (r := r) (a := a) (b := b)
      rw [e, p1, p2, p3]; exact ⟨e9, e10, e11⟩
    · rw [pw_x (by decide) (by omega), pw_x (by decide) (by omega), pw_x (by decide) (by omega), hx _ (by omega) (by omega) (by omega) (by omega), hx _ (by omega) (by omega) (by omega) (by omega), hx _ (by omega) (by omega) (by omega) (by omega)]
      exact d2 i (by omega)
  · rw [pwc0 (by decide)] at hk
    rw [pw_x (by decide) (by omega), pw_x (by decide) (by omega), hx _ (by omega) (by omega) (by omega) (by omega), hx _ (by omega) (by omega) (by omega) (by omega)]
    exact d3 k hk
  · rw [pwc0 (by decide)] at hk
    rw [pw_x (by decide) (by omega), hx _ (by omega) (by omega) (by omega) (by omega), hx _ (by omega) (by omega) (by omega) (by omega)]
    exact d4 k hk
  · rw [pwc0 (by decide)] at hk
    rw [pw_x (by decide) (by omega), pw_x (by decide) (by omega), hx _ (by omega) (by omega) (by omega) (by omega), hx _ (by omega) (by omega) (by omega) (by omega)]
    exact d5 k hk
  · rw [pwc3] at hi
    rw [hx _ (by omega) (by omega) (by omega) (by omega), hx _ (by omega) (by omega) (by omega) (by omega), hx _ (by omega) (by omega) (by omega) (by omega)]
    exact d6 i (by omega) hi7
  · rw [pwc0 (by decide)] at hk
    rw [hx _ (by omega) (by omega) (by omega) (by omega)]
    exact d7 k hk hk4
theorem DrM_ai (hD : DrM A I) (hV : NV A) (h4 : A.1 0 4 < 12) {a b : Nat} (e4 : J 102 4 = nI (A.1 0 4 + 1)) (e30 : J 102 (30 + 2 * A.1 0 4) = nI a) (e31 : J 102 (31 + 2 * A.1 0 4) = nI b) (hx : ∀ k, k ≠ 4 → k ≠ 30 + 2 * A.1 0 4 → k ≠ 31 + 2 * A.1 0 4 → J 102 k = I 102 k) : DrM (addAi A a b) J := by
  obtain ⟨d1, d2, d3, d4, d5, d6, d7⟩ := hD
  have n3 := hV.1.2.2.2.1
  have n5 := hV.1.2.2.2.2.2.1
  have n6 := hV.1.2.2.2.2.2.2.1
  refine ⟨fun k hk => ?_, fun i hi => ?_, fun k hk => ?_, fun k hk => ?_, fun k hk => ?_, fun i hi hi7 => ?_, fun k hk hk4 => ?_⟩
  · by_cases e : k = 4
    · rw [e, aic4]; exact e4
    · rw [aic0 e, hx k e (by omega) (by omega)]; exact d1 k hk
  · rw [aic0 (by decide)] at hi
    rw [ai_x (by decide) (by omega), ai_x (by decide) (by omega), ai_x (by decide) (by omega), hx _ (by omega) (by omega) (by omega), hx _ (by omega) (by omega) (by omega), hx _ (by omega) (by omega) (by omega)]
    exact d2 i hi
  · rw [aic4] at hk
    by_cases e : k = A.1 0 4
    · obtain ⟨p1, p2⟩ := ai_n (A := A) (a := a) (b := b)
      rw [e, p1, p2]; exact ⟨e30, e31⟩
    · rw [ai_x (by decide) (by omega), ai_x (by decide) (by omega), hx _ (by omega) (by omega) (by omega), hx _ (by omega) (by omega) (by omega)]
      exact d3 k (by omega)
  · rw [aic0 (by decide)] at hk
    rw [ai_x (by decide) (by omega), hx _ (by omega) (by omega) (by omega), hx _ (by omega) (by omega) (by omega)]
    exact d4 k hk
  · rw [aic0 (by decide)] at hk
    rw [ai_x (by decide) (by omega), ai_x (by decide) (by omega), hx _ (by omega) (by omega) (by omega), hx _ (by omega) (by omega) (by omega)]
    exact d5 k hk
  · rw [aic0 (by decide)] at hi
    rw [hx _ (by omega) (by omega) (by omega), hx _ (by omega) (by omega) (by omega), hx _ (by omega) (by omega) (by omega)]
    exact d6 i hi hi7
  · rw [aic0 (by decide)] at hk
    rw [hx _ (by omega) (by omega) (by omega)]
    exact d7 k hk hk4
theorem DrM_li (hD : DrM A I) (hV : NV A) (h5 : A.1 0 5 < 4) {p : Nat} {l : List Nat} (e5 : J 102 5 = nI (A.1 0 5 + 1)) (e54 : J 102 (54 + 2 * A.1 0 5) = nI p) (e55 : J 102 (55 + 2 * A.1 0 5) = nI (mE l)) (hx : ∀ k, k ≠ 5 → k ≠ 54 + 2 * A.1 0 5 → k ≠ 55 + 2 * A.1 0 5 → J 102 k = I 102 k) : DrM (addLi A p l) J := by
  obtain ⟨d1, d2, d3, d4, d5, d6, d7⟩ := hD
  have n3 := hV.1.2.2.2.1
  have n4 := hV.1.2.2.2.2.1
  have n6 := hV.1.2.2.2.2.2.2.1
  refine ⟨fun k hk => ?_, fun i hi => ?_, fun k hk => ?_, fun k hk => ?_, fun k hk => ?_, fun i hi hi7 => ?_, fun k hk hk4 => ?_⟩
  · by_cases e : k = 5
    · rw [e, lic5]; exact e5
    · rw [lic0 e, hx k e (by omega) (by omega)]; exact d1 k hk
  · rw [lic0 (by decide)] at hi
    rw [li_x (by decide) (by omega), li_x (by decide) (by omega), li_x (by decide) (by omega), hx _ (by omega) (by omega) (by omega), hx _ (by omega) (by omega) (by omega), hx _ (by omega) (by omega) (by omega)]
    exact d2 i hi
  · rw [lic0 (by decide)] at hk
    rw [li_x (by decide) (by omega), li_x (by decide) (by omega), hx _ (by omega) (by omega) (by omega), hx _ (by omega) (by omega) (by omega)]
    exact d3 k hk
  · rw [lic5] at hk
    by_cases e : k = A.1 0 5
    · obtain ⟨p1, p2⟩ := li_n (A := A) (p := p) (l := l)
      rw [e, p1, p2]; exact ⟨e54, e55⟩
    · rw [li_x (by decide) (Or.inr e), li_l e, hx _ (by omega) (by omega) (by omega), hx _ (by omega) (by omega) (by omega)]
      exact d4 k (by omega)
  · rw [lic0 (by decide)] at hk
    rw [li_x (by decide) (by omega), li_x (by decide) (by omega), hx _ (by omega) (by omega) (by omega), hx _ (by omega) (by omega) (by omega)]
    exact d5 k hk
  · rw [lic0 (by decide)] at hi
    rw [hx _ (by omega) (by omega) (by omega), hx _ (by omega) (by omega) (by omega), hx _ (by omega) (by omega) (by omega)]
    exact d6 i hi hi7
  · rw [lic5] at hk
    rw [hx _ (by omega) (by omega) (by omega)]
    exact d7 k (by omega) hk4
theorem DrM_dr (hD : DrM A I) (hV : NV A) (h6 : A.1 0 6 < 6) {p t : Nat} (e6 : J 102 6 = nI (A.1 0 6 + 1)) (e62 : J 102 (62 + 2 * A.1 0 6) = nI p) (e63 : J 102 (63 + 2 * A.1 0 6) = nI t) (hx : ∀ k, k ≠ 6 → k ≠ 62 + 2 * A.1 0 6 → k ≠ 63 + 2 * A.1 0 6 → J 102 k = I 102 k) : DrM (addDr A p t) J := by
  obtain ⟨d1, d2, d3, d4, d5, d6, d7⟩ := hD
  have n3 := hV.1.2.2.2.1
  have n4 := hV.1.2.2.2.2.1
  have n5 := hV.1.2.2.2.2.2.1
  refine ⟨fun k hk => ?_, fun i hi => ?_, fun k hk => ?_, fun k hk => ?_, fun k hk => ?_, fun i hi hi7 => ?_, fun k hk hk4 => ?_⟩
  · by_cases e : k = 6
    · rw [e, drc6]; exact e6
    · rw [drc0 e, hx k e (by omega) (by omega)]; exact d1 k hk
  · rw [drc0 (by decide)] at hi
    rw [dr_x (by decide) (by omega), dr_x (by decide) (by omega), dr_x (by decide) (by omega), hx _ (by omega) (by omega) (by omega), hx _ (by omega) (by omega) (by omega), hx _ (by omega) (by omega) (by omega)]
    exact d2 i hi
  · rw [drc0 (by decide)] at hk
    rw [dr_x (by decide) (by omega), dr_x (by decide) (by omega), hx _ (by omega) (by omega) (by omega), hx _ (by omega) (by omega) (by omega)]
    exact d3 k hk
  · rw [drc0 (by decide)] at hk
    rw [dr_x (by decide) (by omega), hx _ (by omega) (by omega) (by omega), hx _ (by omega) (by omega) (by omega)]
    exact d4 k hk
  · rw [drc6] at hk
    by_cases e : k = A.1 0 6
    · obtain ⟨p1, p2⟩ := dr_n (A := A) (a := p) (b := t)
      rw [e, p1, p2]; exact ⟨e62, e63⟩
    · rw [dr_x (by decide) (by omega), dr_x (by decide) (by omega), hx _ (by omega) (by omega) (by omega), hx _ (by omega) (by omega) (by omega)]
      exact d5 k (by omega)
  · rw [drc0 (by decide)] at hi
    rw [hx _ (by omega) (by omega) (by omega), hx _ (by omega) (by omega) (by omega), hx _ (by omega) (by omega) (by omega)]
    exact d6 i hi hi7
  · rw [drc0 (by decide)] at hk
    rw [hx _ (by omega) (by omega) (by omega)]
    exact d7 k hk hk4
/-- a number of the head -/
theorem DrM_set (hD : DrM A I) {k v : Nat} (hk : k = 0 ∨ k = 1 ∨ k = 2 ∨ k = 8) (ek : J 102 k = nI v) (hx : ∀ j, j ≠ k → J 102 j = I 102 j) : DrM (up2 A.1 0 k v, A.2) J := by
  obtain ⟨d1, d2, d3, d4, d5, d6, d7⟩ := hD
  have c : ∀ j, j ≠ k → up2 A.1 0 k v 0 j = A.1 0 j := fun j hj => up2_k hj
  have o : ∀ x j, x ≠ 0 → up2 A.1 0 k v x j = A.1 x j := fun x j hx => up2_p hx
  refine ⟨fun j hj => ?_, fun i hi => ?_, fun j hj => ?_, fun j hj => ?_, fun j hj => ?_, fun i hi hi7 => ?_, fun j hj hj4 => ?_⟩
  · by_cases e : j = k
    · rw [e]
      show J 102 k = nI (up2 A.1 0 k v 0 k)
      rw [up2_s]; exact ek
    · show J 102 j = nI (up2 A.1 0 k v 0 j)
      rw [c j e, hx j e]; exact d1 j hj
  · have hi : i < up2 A.1 0 k v 0 3 := hi
    rw [c 3 (by omega)] at hi
    show _ = nI (up2 A.1 0 k v 1 i) ∧ _ = nI (up2 A.1 0 k v 2 i) ∧ _ = nI (up2 A.1 0 k v 3 i)
    rw [o 1 _ (by decide), o 2 _ (by decide), o 3 _ (by decide), hx _ (by omega), hx _ (by omega), hx _ (by omega)]
    exact d2 i hi
  · have hj : j < up2 A.1 0 k v 0 4 := hj
    rw [c 4 (by omega)] at hj
    show _ = nI (up2 A.1 0 k v 4 j) ∧ _ = nI (up2 A.1 0 k v 5 j)
    rw [o 4 _ (by decide), o 5 _ (by decide), hx _ (by omega), hx _ (by omega)]
    exact d3 j hj
  · have hj : j < up2 A.1 0 k v 0 5 := hj
    rw [c 5 (by omega)] at hj
    show _ = nI (up2 A.1 0 k v 6 j) ∧ _
    rw [o 6 _ (by decide), hx _ (by omega), hx _ (by omega)]
    exact d4 j hj
  · have hj : j < up2 A.1 0 k v 0 6 := hj
    rw [c 6 (by omega)] at hj
    show _ = nI (up2 A.1 0 k v 7 j) ∧ _ = nI (up2 A.1 0 k v 8 j)
    rw [o 7 _ (by decide), o 8 _ (by decide), hx _ (by omega), hx _ (by omega)]
    exact d5 j hj
  · have hi : up2 A.1 0 k v 0 3 ≤ i := hi
    rw [c 3 (by omega)] at hi
    rw [hx _ (by omega), hx _ (by omega), hx _ (by omega)]
    exact d6 i hi hi7
  · have hj : up2 A.1 0 k v 0 5 ≤ j := hj
    rw [c 5 (by omega)] at hj
    rw [hx _ (by omega)]
    exact d7 j hj hj4
end DM
section ML
variable {B : Nat → Int32} {n : Nat} {S : Ps} {A : Nt} {I : Nat → Nat → Int32} {L : Nat → Nat → Int64}
theorem fin_put (hR : RqM B n S I) (hD : S.1.1 = 0 → DrM A I) : RqM B n (putA A S) I ∧ ((putA A S).1.1 = 0 → DrM (putA A S).2.2 I) := by
  by_cases e : S.1.1 = 0
  · rw [put_0 e]
    exact ⟨hR, fun _ => hD e⟩
  · rw [put_id e]
    exact ⟨hR, fun z => absurd z e⟩
theorem cl3 : (3 : Int32).toNatClampNeg = 3 := by decide
theorem cl4 : (4 : Int32).toNatClampNeg = 4 := by decide
theorem cl5 : (5 : Int32).toNatClampNeg = 5 := by decide
theorem cl6 : (6 : Int32).toNatClampNeg = 6 := by decide
theorem cl8 : (8 : Int32).toNatClampNeg = 8 := by decide
theorem cl0 : (0 : Int32).toNatClampNeg = 0 := by decide
theorem cl1 : (1 : Int32).toNatClampNeg = 1 := by decide
theorem cl2 : (2 : Int32).toNatClampNeg = 2 := by decide
theorem ix9 (p : Nat) : (9 : Int32) + 3 * nI p = nI (9 + 3 * p) := by
  rw [show (9 : Int32) = nI 9 from rfl, show (3 : Int32) = nI 3 from rfl, u_mul, u_add]
theorem ixs {p q k : Nat} (h : p + k = q) : nI p + nI k = nI q := by rw [u_add, h]
theorem v104 {k : Nat} (h : k < 104) : vp_in (nI k) 104 := u_in h (by decide)
/-- the second of a change -/
theorem mf_pew164 {p : Nat} (h : RqM B n S I) (hp : p < 7) : ∃ I', v_X12_readPew_164 none I' L I L (nI (9 + 3 * p)) ∧ RqM B n (needN B n 1 4 S) I' ∧ FM I I' ∧ ((needN B n 1 4 S).1.1 = 0 → I' 102 (11 + 3 * p) = nI S.2.1.2.2.2) ∧ I' 102 3 = I 102 3 + 1 ∧ (∀ k, k ≠ 3 → k ≠ 11 + 3 * p → I' 102 k = I 102 k) := by
  obtain ⟨r, I2, c2, r2, e2, f2⟩ := mf_number (L := L) h (lo := 1) (hi := 4) (x1 := 1) (x2 := 4) rfl (fun _ => rfl) ⟨by decide, by decide⟩ ⟨by decide, by decide⟩
  refine ⟨up2 (up2 I2 102 (11 + 3 * p) r) 102 3 (I2 102 3 + 1), vc_X12_readPew_164 ⟨r, I2, c2, ?_⟩, (r2.up _ _).up _ _, (f2.m.tr FM_up).tr FM_up, fun z => ?_, ?_, fun k q1 q2 => ?_⟩
  · rw [cl3, show (2 : Int32) = nI 2 from rfl, ixs (show 9 + 3 * p + 2 = 11 + 3 * p by omega), u_cl (by omega)]
    refine ⟨v104 (by omega), v104 (k := 3) (by decide), v104 (k := 3) (by decide), fun I3 q => ⟨rfl, ?_, rfl⟩⟩
    rw [q, up2_k (show 3 ≠ 11 + 3 * p by omega)]
  · rw [up2_k (by omega), up2_s]; exact e2 z
  · rw [up2_s, f2.o]
  · rw [up2_k q1, up2_k q2, f2.o]
theorem pwB_id {k : Nat} (h : S.1.1 ≠ 0) : pwB B n k S = S := by
  unfold pwB
  rw [needN_id h]
  by_cases e : k = 3 ∨ k = 4
  · rw [if_pos e]
  · rw [if_neg e]
theorem pwC_id {k f : Nat} (h : S.1.1 ≠ 0) : pwC B n k f S = S := by
  unfold pwC
  rw [fail_id h]
  by_cases e : k = 4
  · rw [if_pos e]
    by_cases e2 : S.2.1.2.2.1 = 2 ∧ S.2.1.2.2.2 = f
    · rw [if_pos e2, needN_id h]
    · rw [if_neg e2, needN_id h]
  · rw [if_neg e]
theorem rul_id (h : S.1.1 ≠ 0) : rulS B S = S := by
  unfold rulS
  rw [fail_id h]
  by_cases e : ruleF B S = 0 ∧ isWp B w_rest S = false
  · rw [if_pos e]
  · rw [if_neg e]
theorem rdP2_id (h : S.1.1 ≠ 0) : rdP2 B n S = S := by
  show putA (addPw S.2.2 (ruleF B S) (pwF (ruleF B S) (advP B n (rulS B S))) (pwG (ruleF B S) (pwB B n (ruleF B S) (advP B n (rulS B S))))) (pwC B n (ruleF B S) (pwF (ruleF B S) (advP B n (rulS B S))) (pwB B n (ruleF B S) (advP B n (rulS B S)))) = S
  rw [rul_id h, adv_id h, pwB_id h, pwC_id h, put_id h]
/-- a pew whose rule has no letters -/
theorem rdP2_r {r : Nat} (hr : ruleF B S = r) (h2 : r < 3) (hx : r ≠ 0 ∨ isWp B w_rest S = true) : rdP2 B n S = putA (addPw S.2.2 r 0 0) (advP B n S) := by
  have es : rulS B S = S := if_neg (fun z => by
    rcases hx with q | q
    · exact q (hr.symm.trans z.1)
    · rw [z.2] at q; exact absurd q (by decide))
  show putA (addPw S.2.2 (ruleF B S) (pwF (ruleF B S) (advP B n (rulS B S))) (pwG (ruleF B S) (pwB B n (ruleF B S) (advP B n (rulS B S))))) (pwC B n (ruleF B S) (pwF (ruleF B S) (advP B n (rulS B S))) (pwB B n (ruleF B S) (advP B n (rulS B S)))) = _
  rw [hr, es]
  unfold pwC pwB pwF pwG
  rw [if_neg (by omega), if_neg (by omega), if_neg (by omega), if_neg (by omega)]
theorem rdP2_3 (hr : ruleF B S = 3) : rdP2 B n S = putA (addPw S.2.2 3 (advP B n S).2.1.2.2.2 0) (needN B n 1 4 (advP B n S)) := by
  have es : rulS B S = S := if_neg (fun z => by rw [hr] at z; exact absurd z.1 (by decide))
  show putA (addPw S.2.2 (ruleF B S) (pwF (ruleF B S) (advP B n (rulS B S))) (pwG (ruleF B S) (pwB B n (ruleF B S) (advP B n (rulS B S))))) (pwC B n (ruleF B S) (pwF (ruleF B S) (advP B n (rulS B S))) (pwB B n (ruleF B S) (advP B n (rulS B S)))) = _
  rw [hr, es]
  rfl
theorem rdP2_4 (hr : ruleF B S = 4) : rdP2 B n S = putA (addPw S.2.2 4 (advP B n S).2.1.2.2.2 (needN B n 1 4 (advP B n S)).2.1.2.2.2) (needN B n 1 4 (if (needN B n 1 4 (advP B n S)).2.1.2.2.1 = 2 ∧ (needN B n 1 4 (advP B n S)).2.1.2.2.2 = (advP B n S).2.1.2.2.2 then failP 2 (needN B n 1 4 (advP B n S)) else needN B n 1 4 (advP B n S))) := by
  have es : rulS B S = S := if_neg (fun z => by rw [hr] at z; exact absurd z.1 (by decide))
  show putA (addPw S.2.2 (ruleF B S) (pwF (ruleF B S) (advP B n (rulS B S))) (pwG (ruleF B S) (pwB B n (ruleF B S) (advP B n (rulS B S))))) (pwC B n (ruleF B S) (pwF (ruleF B S) (advP B n (rulS B S))) (pwB B n (ruleF B S) (advP B n (rulS B S)))) = _
  rw [hr, es]
  unfold pwC pwB pwF pwG
  rw [if_pos rfl, if_pos rfl, if_pos (by omega), if_pos (by omega)]
theorem rdP2_n (h0 : S.1.1 = 0) (hr : ruleF B S = 0) (hx : isWp B w_rest S = false) : rdP2 B n S = failP 1 S := by
  have es : rulS B S = failP 1 S := if_pos ⟨hr, hx⟩
  have hf : (failP 1 S).1.1 ≠ 0 := fail_flt (by decide)
  show putA (addPw S.2.2 (ruleF B S) (pwF (ruleF B S) (advP B n (rulS B S))) (pwG (ruleF B S) (pwB B n (ruleF B S) (advP B n (rulS B S))))) (pwC B n (ruleF B S) (pwF (ruleF B S) (advP B n (rulS B S))) (pwB B n (ruleF B S) (advP B n (rulS B S)))) = _
  rw [hr, es, adv_id hf, pwB_id hf, pwC_id hf, put_id hf]
/-- the tail of a pew's line, from `change` on -/
theorem mf_pew4 {p : Nat} (h : RqM B n S I) (hp : p < 7) (ep : A.1 0 3 = p) (hV : NV A) (hD : S.1.1 = 0 → DrM A I) : ∃ I', (∃ r11 I12, q_C kX12_number [.ref 96, .int 1, .int 4] (up2 I 102 (9 + 3 * p) 4) L (some (.int r11)) I12 L ∧ (vp_in (nI (10 + 3 * p)) 104 ∧ ∀ I13, I13 = (up2 I12 102 (10 + 3 * p) r11) → (∃ r14, q_C kX12_good [.ref 96] I13 L (some (.int r14)) I13 L ∧ ((r14 = 0 → (v_X12_readPew_164 none I' L I13 L (nI (9 + 3 * p)))) ∧ (¬ r14 = 0 → (((I13 96 10) = 2 → (vp_in (nI (10 + 3 * p)) 104 ∧ (((I13 96 11) = (I13 102 (10 + 3 * p)) → (∃ I15, q_C kX12_errs [.ref 96, .int 2] I13 L none I15 L ∧ (v_X12_readPew_164 none I' L I15 L (nI (9 + 3 * p))))) ∧ (¬ (I13 96 11) = (I13 102 (10 + 3 * p)) → (v_X12_readPew_164 none I' L I13 L (nI (9 + 3 * p))))))) ∧ (¬ (I13 96 10) = 2 → (v_X12_readPew_164 none I' L I13 L (nI (9 + 3 * p)))))))))) ∧ ∃ X : Ps, X = needN B n 1 4 (if (needN B n 1 4 S).2.1.2.2.1 = 2 ∧ (needN B n 1 4 S).2.1.2.2.2 = S.2.1.2.2.2 then failP 2 (needN B n 1 4 S) else needN B n 1 4 S) ∧ RqM B n X I' ∧ (X.1.1 = 0 → DrM (addPw A 4 S.2.1.2.2.2 (needN B n 1 4 S).2.1.2.2.2) I') ∧ FM I I' := by
  have h9 := h.up (9 + 3 * p) 4
  obtain ⟨r, K, cK, rK, eK, fK⟩ := mf_number (L := L) h9 (lo := 1) (hi := 4) (x1 := 1) (x2 := 4) rfl (fun _ => rfl) ⟨by decide, by decide⟩ ⟨by decide, by decide⟩
  obtain ⟨X5, eX5⟩ : ∃ X, X = needN B n 1 4 S := ⟨_, rfl⟩
  have ok5 : X5.1.1 = 0 → S.1.1 = 0 ∧ S.2.1.2.2.2 ≤ 4 := fun z => by
    rw [eX5] at z
    have := needN_ok z
    exact ⟨this.1, by omega⟩
  rw [← eX5] at rK eK ⊢
  obtain ⟨M, eM⟩ : ∃ M, M = up2 K 102 (10 + 3 * p) r := ⟨_, rfl⟩
  have rM : RqM B n X5 M := by rw [eM]; exact rK.up _ _
  have fM : FM I M := by rw [eM]; exact (FM_up.tr fK.m).tr FM_up
  have m10 : M 102 (10 + 3 * p) = r := by rw [eM, up2_s]
  have m9 : M 102 (9 + 3 * p) = 4 := by rw [eM, up2_k (by omega), fK.o, up2_s]
  have mx : ∀ k, k ≠ 9 + 3 * p → k ≠ 10 + 3 * p → M 102 k = I 102 k := fun k q1 q2 => by rw [eM, up2_k q2, fK.o, up2_k q1]
  have fin : ∀ (Y : Ps) (N : Nat → Nat → Int32), RqM B n Y N → Y.2 = X5.2 → (Y.1.1 = 0 → X5.1.1 = 0) → FE M N → ∃ I', v_X12_readPew_164 none I' L N L (nI (9 + 3 * p)) ∧ RqM B n (needN B n 1 4 Y) I' ∧ ((needN B n 1 4 Y).1.1 = 0 → DrM (addPw A 4 S.2.1.2.2.2 X5.2.1.2.2.2) I') ∧ FM I I' := by
    intro Y N hY e2 e0 fN
    obtain ⟨I', hv, g1, g2, g3, g4, g5⟩ := mf_pew164 (L := L) hY hp
    refine ⟨I', hv, g1, fun z => ?_, fM.tr (fN.m.tr g2)⟩
    have zY := (needN_ok z).1
    have z5 := e0 zY
    have zS := (ok5 z5).1
    have d := hD zS
    have e3 : I 102 3 = nI p := by rw [← ep]; exact d.1 3 (by decide)
    refine DrM_pw d hV (by omega) ?_ ?_ ?_ ?_ ?_
    · rw [g4, fN.o, mx 3 (by omega) (by omega), e3, nI_1, ep]
    · rw [ep, g5 _ (by omega) (by omega), fN.o, m9]; rfl
    · rw [ep, g5 _ (by omega) (by omega), fN.o, m10]; exact eK z5
    · rw [ep, g3 z, e2]
    · intro k q1 q2 q3 q4
      rw [ep] at q2 q3 q4
      rw [g5 k q1 q4, fN.o, mx k q2 q3]
  by_cases e5 : X5.1.1 = 0
  · obtain ⟨zS, z4⟩ := ok5 e5
    have er : r = nI S.2.1.2.2.2 := eK e5
    by_cases ek : X5.2.1.2.2.1 = 2
    · obtain ⟨u, hu, hv⟩ := rM.2.2.1.2.2.2 ek
      have ul := VR_le hv
      have ev : M 96 11 = M 102 (10 + 3 * p) ↔ X5.2.1.2.2.2 = S.2.1.2.2.2 := by
        rw [hu, m10, er, u_eq (by omega) (by omega)]
        exact VR_eq hv (by omega)
      by_cases eq : X5.2.1.2.2.2 = S.2.1.2.2.2
      · rw [if_pos ⟨ek, eq⟩]
        obtain ⟨N, cN, rN, fN⟩ := mf_errs (L := L) rM (k := 2) ⟨by decide, by decide⟩
        obtain ⟨I', hv', g1, g2, g3⟩ := fin (failP 2 X5) N rN (fail_2 _) (fun _ => e5) fN
        refine ⟨I', ⟨r, K, cK, v104 (by omega), fun I13 q => ?_⟩, _, rfl, g1, g2, g3⟩
        rw [← eM] at q
        subst q
        exact ⟨_, mf_good1 rM e5, fun z => absurd z (by decide), fun _ => ⟨fun _ => ⟨v104 (by omega), fun _ => ⟨N, cN, hv'⟩, fun z => absurd (ev.mpr eq) z⟩, fun z => absurd ((rM.kd (j := 2) (by decide)).mpr ek) z⟩⟩
      · rw [if_neg (fun z => eq z.2)]
        obtain ⟨I', hv', g1, g2, g3⟩ := fin X5 M rM rfl (fun z => z) FE.rf
        refine ⟨I', ⟨r, K, cK, v104 (by omega), fun I13 q => ?_⟩, _, rfl, g1, g2, g3⟩
        rw [← eM] at q
        subst q
        exact ⟨_, mf_good1 rM e5, fun z => absurd z (by decide), fun _ => ⟨fun _ => ⟨v104 (by omega), fun z => absurd (ev.mp z) eq, fun _ => hv'⟩, fun z => absurd ((rM.kd (j := 2) (by decide)).mpr ek) z⟩⟩
    · rw [if_neg (fun z => ek z.1)]
      obtain ⟨I', hv', g1, g2, g3⟩ := fin X5 M rM rfl (fun z => z) FE.rf
      refine ⟨I', ⟨r, K, cK, v104 (by omega), fun I13 q => ?_⟩, _, rfl, g1, g2, g3⟩
      rw [← eM] at q
      subst q
      exact ⟨_, mf_good1 rM e5, fun z => absurd z (by decide), fun _ => ⟨fun z => absurd ((rM.kd (j := 2) (by decide)).mp z) ek, fun _ => hv'⟩⟩
  · have eI : (if X5.2.1.2.2.1 = 2 ∧ X5.2.1.2.2.2 = S.2.1.2.2.2 then failP 2 X5 else X5) = X5 := by
      rw [fail_id e5]
      by_cases q : X5.2.1.2.2.1 = 2 ∧ X5.2.1.2.2.2 = S.2.1.2.2.2
      · rw [if_pos q]
      · rw [if_neg q]
    rw [eI]
    obtain ⟨I', hv', g1, g2, g3⟩ := fin X5 M rM rfl (fun z => z) FE.rf
    refine ⟨I', ⟨r, K, cK, v104 (by omega), fun I13 q => ?_⟩, _, rfl, g1, g2, g3⟩
    rw [← eM] at q
    subst q
    exact ⟨_, mf_good0 rM e5, fun _ => hv', fun z => absurd rfl z⟩
/-- a pew's line -/
theorem mf_readPew (h : RqM B n S I) (h0 : S.1.1 = 0) (hD : DrM S.2.2 I) (hV : NV S.2.2) (h3 : S.2.2.1 0 3 < 7) : ∃ I', q_C kX12_readPew [.ref 96] I L none I' L ∧ RqM B n (rdP2 B n S) I' ∧ ((rdP2 B n S).1.1 = 0 → DrM (rdP2 B n S).2.2 I') ∧ FM I I' := by
  obtain ⟨A, eA⟩ : ∃ A, A = S.2.2 := ⟨_, rfl⟩
  obtain ⟨p, ep⟩ : ∃ p, A.1 0 3 = p := ⟨_, rfl⟩
  have e3 : I 102 3 = nI p := by rw [hD.1 3 (by decide), ← eA, ep]
  rw [← eA] at hD hV h3
  rw [ep] at h3
  have d6 := hD.2.2.2.2.2.1 p (by omega) h3
  obtain ⟨I2, c2, r2, f2⟩ := mf_takes (L := L) h sx22
  rw [isG_1 h0] at c2 r2
  -- a rule without letters
  have plain : ∀ (r : Nat) (x : Int32) (J : Nat → Nat → Int32), x = nI r → RqM B n (advP B n S) J → FE I J → RqM B n (putA (addPw A r 0 0) (advP B n S)) (up2 (up2 J 102 (9 + 3 * p) x) 102 3 (nI (p + 1))) ∧ ((putA (addPw A r 0 0) (advP B n S)).1.1 = 0 → DrM (putA (addPw A r 0 0) (advP B n S)).2.2 (up2 (up2 J 102 (9 + 3 * p) x) 102 3 (nI (p + 1)))) ∧ FM I (up2 (up2 J 102 (9 + 3 * p) x) 102 3 (nI (p + 1))) := by
    intro r x J ex hJ fJ
    obtain ⟨g1, g2⟩ := fin_put (A := addPw A r 0 0) ((hJ.up (9 + 3 * p) x).up 3 (nI (p + 1))) (fun _ => by
      refine DrM_pw hD hV (by omega) ?_ ?_ ?_ ?_ ?_
      · rw [up2_s, ep]
      · rw [ep, up2_k (by omega), up2_s, ex]
      · rw [ep, up2_k (by omega), up2_k (by omega), fJ.o, d6.2.1]; rfl
      · rw [ep, up2_k (by omega), up2_k (by omega), fJ.o, d6.2.2]; rfl
      · intro k q1 q2 q3 q4
        rw [ep] at q2
        rw [up2_k q1, up2_k q2, fJ.o])
    exact ⟨g1, g2, (fJ.m.tr FM_up).tr FM_up⟩
  have inc : ∀ (J : Nat → Nat → Int32) (x : Int32), FE I J → up2 J 102 (9 + 3 * p) x 102 3 + 1 = nI (p + 1) := fun J x fJ => by
    rw [up2_k (by omega), fJ.o, e3, nI_1]
  have hv9 : vp_in (nI (9 + 3 * p)) 104 := v104 (by omega)
  have hv10 : vp_in (nI (10 + 3 * p)) 104 := v104 (by omega)
  have hv3 : vp_in 3 104 := v104 (k := 3) (by decide)
  have s10 : nI (9 + 3 * p) + 1 = nI (10 + 3 * p) := ixs (k := 1) (by omega)
  have k9 : (nI (9 + 3 * p)).toNatClampNeg = 9 + 3 * p := u_cl (by omega)
  have k10 : (nI (10 + 3 * p)).toNatClampNeg = 10 + 3 * p := u_cl (by omega)
  cases w0 : isWp B w_rest S with
  | true =>
    rw [w0, if_pos rfl] at c2 r2
    have hr : ruleF B S = 0 := by
      unfold ruleF
      rw [if_neg (fun z => absurd (isW_x w0 z) (by decide)), if_neg (fun z => absurd (isW_x w0 z) (by decide)), if_neg (fun z => absurd (isW_x w0 z) (by decide)), if_neg (fun z => absurd (isW_x w0 z) (by decide))]
    rw [rdP2_r hr (by decide) (Or.inr w0), ← eA]
    obtain ⟨g1, g2, g3⟩ := plain 0 0 I2 rfl r2 f2
    refine ⟨_, c0_X12_readPew (vc_X12_readPew_0 ?_), g1, g2, g3⟩
    simp only [cl3, e3, ix9, k9]
    refine ⟨hv3, _, I2, c2, fun z => absurd z (by decide), fun _ => ⟨hv9, fun I25 q => ⟨hv3, hv3, fun I26 q2 => ⟨trivial, ?_, trivial⟩⟩⟩⟩
    rw [q2, q, inc I2 _ f2]
  | false =>
  rw [w0, if_neg (by decide)] at c2 r2
  obtain ⟨I4, c4, r4, f4⟩ := mf_takes (L := L) r2 sx23
  rw [isG_1 h0] at c4 r4
  have F4 := f2.tr f4
  cases w1 : isWp B w_turn S with
  | true =>
    rw [w1, if_pos rfl] at c4 r4
    have hr : ruleF B S = 1 := if_pos w1
    rw [rdP2_r hr (by decide) (Or.inl (by decide)), ← eA]
    obtain ⟨g1, g2, g3⟩ := plain 1 1 I4 rfl r4 F4
    refine ⟨_, c0_X12_readPew (vc_X12_readPew_0 ?_), g1, g2, g3⟩
    simp only [cl3, e3, ix9, k9]
    refine ⟨hv3, _, I2, c2, fun _ => ⟨_, I4, c4, fun z => absurd z (by decide), fun _ => ⟨hv9, fun I25 q => ⟨hv3, hv3, fun I26 q2 => ⟨trivial, ?_, trivial⟩⟩⟩⟩, fun z => absurd rfl z⟩
    rw [q2, q, inc I4 _ F4]
  | false =>
  rw [w1, if_neg (by decide)] at c4 r4
  obtain ⟨I6, c6, r6, f6⟩ := mf_takes (L := L) r4 sx24
  rw [isG_1 h0] at c6 r6
  have F6 := F4.tr f6
  cases w2 : isWp B w_drop S with
  | true =>
    rw [w2, if_pos rfl] at c6 r6
    have hr : ruleF B S = 2 := by unfold ruleF; rw [if_neg (by rw [w1]; decide), if_pos w2]
    rw [rdP2_r hr (by decide) (Or.inl (by decide)), ← eA]
    obtain ⟨g1, g2, g3⟩ := plain 2 2 I6 rfl r6 F6
    refine ⟨_, c0_X12_readPew (vc_X12_readPew_0 ?_), g1, g2, g3⟩
    simp only [cl3, e3, ix9, k9]
    refine ⟨hv3, _, I2, c2, fun _ => ⟨_, I4, c4, fun _ => ⟨_, I6, c6, fun z => absurd z (by decide), fun _ => ⟨hv9, fun I25 q => ⟨hv3, hv3, fun I26 q2 => ⟨trivial, ?_, trivial⟩⟩⟩⟩, fun z => absurd rfl z⟩, fun z => absurd rfl z⟩
    rw [q2, q, inc I6 _ F6]
  | false =>
  rw [w2, if_neg (by decide)] at c6 r6
  obtain ⟨I8, c8, r8, f8⟩ := mf_takes (L := L) r6 sx25
  rw [isG_1 h0] at c8 r8
  have F8 := F6.tr f8
  cases w3 : isWp B w_add S with
  | true =>
    rw [w3, if_pos rfl] at c8 r8
    have hr : ruleF B S = 3 := by unfold ruleF; rw [if_neg (by rw [w1]; decide), if_neg (by rw [w2]; decide), if_pos w3]
    rw [rdP2_3 hr, ← eA]
    obtain ⟨r, K, cK, rK, eK, fK⟩ := mf_number (L := L) (r8.up (9 + 3 * p) 3) (lo := 1) (hi := 4) (x1 := 1) (x2 := 4) rfl (fun _ => rfl) ⟨by decide, by decide⟩ ⟨by decide, by decide⟩
    have kx : ∀ k, k ≠ 9 + 3 * p → K 102 k = I 102 k := fun k q => by rw [fK.o, up2_k q, F8.o]
    obtain ⟨g1, g2⟩ := fin_put (A := addPw A 3 (advP B n S).2.1.2.2.2 0) ((rK.up (10 + 3 * p) r).up 3 (nI (p + 1))) (fun z => by
      refine DrM_pw hD hV (by omega) ?_ ?_ ?_ ?_ ?_
      · rw [up2_s, ep]
      · rw [ep, up2_k (by omega), up2_k (by omega), fK.o, up2_s]; rfl
      · rw [ep, up2_k (by omega), up2_s]; exact eK z
      · rw [ep, up2_k (by omega), up2_k (by omega), kx _ (by omega), d6.2.2]; rfl
      · intro k q1 q2 q3 q4
        rw [ep] at q2 q3
        rw [up2_k q1, up2_k q3, kx k q2])
    refine ⟨_, c0_X12_readPew (vc_X12_readPew_0 ?_), g1, g2, (((F8.m.tr FM_up).tr fK.m).tr FM_up).tr FM_up⟩
    simp only [cl3, e3, ix9, k9, s10, k10]
    refine ⟨hv3, _, I2, c2, fun _ => ⟨_, I4, c4, fun _ => ⟨_, I6, c6, fun _ => ⟨_, I8, c8, fun z => absurd z (by decide), fun _ => ⟨hv9, fun I16 q16 => ?_⟩⟩, fun z => absurd rfl z⟩, fun z => absurd rfl z⟩, fun z => absurd rfl z⟩
    subst q16
    refine ⟨r, K, cK, hv10, fun I19 q19 => ⟨hv3, hv3, fun I20 q20 => ⟨trivial, ?_, trivial⟩⟩⟩
    rw [q20, q19, up2_k (show 3 ≠ 10 + 3 * p by omega), kx 3 (by omega), e3, nI_1]
  | false =>
  rw [w3, if_neg (by decide)] at c8 r8
  obtain ⟨I9, c9, r9, f9⟩ := mf_expects (L := L) r8 sx26
  have F9 := F8.tr f9
  obtain ⟨I', hv, X, eX, g1, g2, g3⟩ := mf_pew4 (L := L) (A := A) r9 h3 ep hV (fun z => DrM_of (fun k => F9.o k) hD)
  refine ⟨I', c0_X12_readPew (vc_X12_readPew_0 ?_), ?_⟩
  · simp only [cl3, e3, ix9, k9, s10, k10]
    refine ⟨hv3, _, I2, c2, fun _ => ⟨_, I4, c4, fun _ => ⟨_, I6, c6, fun _ => ⟨_, I8, c8, fun _ => ⟨I9, c9, hv9, fun I10 q10 => ?_⟩, fun z => absurd rfl z⟩, fun z => absurd rfl z⟩, fun z => absurd rfl z⟩, fun z => absurd rfl z⟩
    subst q10
    exact hv
  · cases w4 : isWp B w_change S with
    | true =>
      have hr : ruleF B S = 4 := by unfold ruleF; rw [if_neg (by rw [w1]; decide), if_neg (by rw [w2]; decide), if_neg (by rw [w3]; decide), if_pos w4]
      have en : needW B n w_change S = advP B n S := needW_1 (by rw [isG_1 h0]; exact w4)
      rw [en] at eX g2
      rw [rdP2_4 hr, ← eA, ← eX]
      obtain ⟨y1, y2⟩ := fin_put g1 g2
      exact ⟨y1, y2, F9.m.tr g3⟩
    | false =>
      have hr : ruleF B S = 0 := by unfold ruleF; rw [if_neg (by rw [w1]; decide), if_neg (by rw [w2]; decide), if_neg (by rw [w3]; decide), if_neg (by rw [w4]; decide)]
      have en : needW B n w_change S = failP 1 S := needW_0 (by rw [isG_1 h0]; exact w4)
      have hf : (failP 1 S).1.1 ≠ 0 := fail_flt (by decide)
      rw [en, needN_id hf, fail_id hf] at eX
      have eX' : X = failP 1 S := by
        rw [eX]
        by_cases q : (failP 1 S).2.1.2.2.1 = 2 ∧ (failP 1 S).2.1.2.2.2 = (failP 1 S).2.1.2.2.2
        · rw [if_pos q, needN_id hf]
        · rw [if_neg q, needN_id hf]
      rw [rdP2_n h0 hr w0, ← eX']
      exact ⟨g1, fun z => absurd z (by rw [eX']; exact hf), F9.m.tr g3⟩
end ML
