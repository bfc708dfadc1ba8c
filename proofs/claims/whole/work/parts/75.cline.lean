/-! THE LINES, read by the class. -/
theorem pwc0 {A : Nt} {r a b j : Nat} (h : j ≠ 3) : (addPw A r a b).1 0 j = A.1 0 j := by
  show up2 (up2 (up2 (up2 A.1 1 (A.1 0 3) r) 2 (A.1 0 3) a) 3 (A.1 0 3) b) 0 3 (A.1 0 3 + 1) 0 j = _
  rw [up2_k h, up2_p (by decide), up2_p (by decide), up2_p (by decide)]
theorem pwc3 {A : Nt} {r a b : Nat} : (addPw A r a b).1 0 3 = A.1 0 3 + 1 := by
  show up2 (up2 (up2 (up2 A.1 1 (A.1 0 3) r) 2 (A.1 0 3) a) 3 (A.1 0 3) b) 0 3 (A.1 0 3 + 1) 0 3 = _
  exact up2_s _ _ _ _
theorem nearF_cg {A A' : Nt} {p : Nat} : ∀ m, (∀ j, j < m → A'.1 4 j = A.1 4 j ∧ A'.1 5 j = A.1 5 j) → nearF A' p m = nearF A p m
  | 0, _ => rfl
  | m + 1, h => by
    show nearF A' p m ||| (if A'.1 4 m = p then 2 ^ A'.1 5 m else if A'.1 5 m = p then 2 ^ A'.1 4 m else 0) = nearF A p m ||| (if A.1 4 m = p then 2 ^ A.1 5 m else if A.1 5 m = p then 2 ^ A.1 4 m else 0)
    rw [nearF_cg m (fun j hj => h j (by omega)), (h m (by omega)).1, (h m (by omega)).2]
theorem near_pw {A : Nt} {r a b i : Nat} : nearB (addPw A r a b) i = nearB A i := by
  show nearF (addPw A r a b) i ((addPw A r a b).1 0 4) = nearF A i (A.1 0 4)
  rw [pwc0 (by decide)]
  exact nearF_cg _ (fun j _ => ⟨pw_x (by decide) (by omega), pw_x (by decide) (by omega)⟩)
theorem near_0 {A : Nt} (hV : NV A) : nearB A (A.1 0 3) = 0 := by
  have h : ∀ m, m ≤ A.1 0 4 → nearF A (A.1 0 3) m = 0 := by
    intro m
    induction m with
    | zero => intro _; rfl
    | succ m ih =>
      intro hm
      have := hV.2.2.2.2.1 m (by omega)
      show nearF A (A.1 0 3) m ||| (if A.1 4 m = A.1 0 3 then 2 ^ A.1 5 m else if A.1 5 m = A.1 0 3 then 2 ^ A.1 4 m else 0) = 0
      rw [ih (by omega), if_neg (by omega), if_neg (by omega)]
      rfl
  exact h _ (Nat.le_refl _)
section AP
variable {A : Nt} {I : Nat → Nat → Int32} {L : Nat → Nat → Int64}
theorem ce_addPw (hD : DrC A I) (hV : NV A) (h3 : A.1 0 3 < 7) (r a b : Nat) : ∃ I2, q_C kX5_addPew [.ref 3, .int (nI r), .int (nI a), .int (nI b)] I L none I2 L ∧ DrC (addPw A r a b) I2 ∧ (∀ x k, (x < 3 ∨ 11 < x) → I2 x k = I x k) := by
  obtain ⟨⟨a1, a2, a3, a4, a5, a6, a7, a8⟩, hb, hc, hd⟩ := hD
  obtain ⟨p, hp⟩ : ∃ p, p = A.1 0 3 := ⟨_, rfl⟩
  have hin : vp_in (nI p) 7 := u_in (by omega) (by decide)
  obtain ⟨J2, e2⟩ : ∃ J, J = up2 (up2 (up2 (up2 (up2 I 7 p 0) 4 p (nI r)) 5 p (nI a)) 6 p (nI b)) 3 4 (nI (p + 1)) := ⟨_, rfl⟩
  have fr : ∀ x k, (x < 3 ∨ 11 < x) → J2 x k = I x k := fun x k q => by
    rw [e2, up2_p (by omega), up2_p (by omega), up2_p (by omega), up2_p (by omega), up2_p (by omega)]
  have c3 : ∀ k, k ≠ 4 → J2 3 k = I 3 k := fun k q => by
    rw [e2, up2_k q, up2_p (by decide), up2_p (by decide), up2_p (by decide), up2_p (by decide)]
  have c34 : J2 3 4 = nI (p + 1) := by rw [e2]; exact up2_s _ _ _ _
  refine ⟨J2, c0_X5_addPew (vc_X5_addPew_0 ?_), ?_, fr⟩
  · rw [a5, ← hp, u_cl (by omega), up2_p (show (3 : Nat) ≠ 7 by decide), a5, ← hp]
    refine ⟨hin, up2 (up2 (up2 (up2 I 7 p 0) 4 p (nI r)) 5 p (nI a)) 6 p (nI b), c0_X5_setRule_3 (vc_X5_setRule_3_0 ⟨hin, hin, hin, fun K hK => ⟨rfl, ?_, rfl⟩⟩), rfl, ?_, rfl⟩
    · rw [hK, u_cl (by omega)]
    · rw [up2_p (show (3 : Nat) ≠ 6 by decide), up2_p (show (3 : Nat) ≠ 5 by decide), up2_p (show (3 : Nat) ≠ 4 by decide), up2_p (show (3 : Nat) ≠ 7 by decide), a5, ← hp, nI_1, e2]
  · unfold DrC
    rw [pwc0 (j := 8) (by decide), pwc0 (j := 0) (by decide), pwc0 (j := 1) (by decide), pwc0 (j := 2) (by decide), pwc3, pwc0 (j := 4) (by decide), pwc0 (j := 5) (by decide), pwc0 (j := 6) (by decide), c3 0 (by decide), c3 1 (by decide), c3 2 (by decide), c3 3 (by decide), c34, c3 5 (by decide), c3 6 (by decide), c3 7 (by decide), ← hp]
    refine ⟨⟨a1, a2, a3, a4, rfl, a6, a7, a8⟩, fun i hi => ?_, fun i hi => ?_, fun i hi => ?_⟩
    · rw [near_pw]
      by_cases e : i = p
      · subst e
        obtain ⟨p1, p2, p3⟩ := pw_n (A := A) (r := r) (a := a) (b := b)
        rw [hp, p1, p2, p3, near_0 hV, ← hp]
        refine ⟨?_, ?_, ?_, ?_⟩
        · rw [e2, up2_p (by decide), up2_p (by decide), up2_p (by decide)]; exact up2_s _ _ _ _
        · rw [e2, up2_p (by decide), up2_p (by decide)]; exact up2_s _ _ _ _
        · rw [e2, up2_p (by decide)]; exact up2_s _ _ _ _
        · rw [e2, up2_p (by decide), up2_p (by decide), up2_p (by decide), up2_p (by decide)]; exact up2_s _ _ _ _
      · have hx : ∀ x, (x = 4 ∨ x = 5 ∨ x = 6 ∨ x = 7) → J2 x i = I x i := fun x hx => by
          rw [e2, up2_p (by omega), up2_k e, up2_k e, up2_k e, up2_k e]
        rw [hx 4 (by omega), hx 5 (by omega), hx 6 (by omega), hx 7 (by omega), pw_x (by decide) (by omega), pw_x (by decide) (by omega), pw_x (by decide) (by omega)]
        exact hb i (by omega)
    · have hx : ∀ x k, (8 ≤ x) → J2 x k = I x k := fun x k hx => by
        rw [e2, up2_p (by omega), up2_p (by omega), up2_p (by omega), up2_p (by omega), up2_p (by omega)]
      rw [hx 8 _ (by omega), hx 9 _ (by omega), pw_x (by decide) (by omega)]
      exact hc i hi
    · have hx : ∀ x k, (8 ≤ x) → J2 x k = I x k := fun x k hx => by
        rw [e2, up2_p (by omega), up2_p (by omega), up2_p (by omega), up2_p (by omega), up2_p (by omega)]
      rw [hx 10 _ (by omega), hx 11 _ (by omega), pw_x (by decide) (by omega), pw_x (by decide) (by omega)]
      exact hd i hi
theorem aic0 {a b j : Nat} (h : j ≠ 4) : (addAi A a b).1 0 j = A.1 0 j := by
  show up2 (up2 (up2 A.1 4 (A.1 0 4) a) 5 (A.1 0 4) b) 0 4 (A.1 0 4 + 1) 0 j = _
  rw [up2_k h, up2_p (by decide), up2_p (by decide)]
theorem aic4 {a b : Nat} : (addAi A a b).1 0 4 = A.1 0 4 + 1 := by
  show up2 (up2 (up2 A.1 4 (A.1 0 4) a) 5 (A.1 0 4) b) 0 4 (A.1 0 4 + 1) 0 4 = _
  exact up2_s _ _ _ _
theorem near_ai {a b i : Nat} : nearB (addAi A a b) i = nearB A i ||| (if a = i then 2 ^ b else if b = i then 2 ^ a else 0) := by
  show nearF (addAi A a b) i ((addAi A a b).1 0 4) = nearF A i (A.1 0 4) ||| _
  rw [aic4]
  show nearF (addAi A a b) i (A.1 0 4) ||| (if (addAi A a b).1 4 (A.1 0 4) = i then 2 ^ (addAi A a b).1 5 (A.1 0 4) else if (addAi A a b).1 5 (A.1 0 4) = i then 2 ^ (addAi A a b).1 4 (A.1 0 4) else 0) = _
  rw [ai_n.1, ai_n.2, nearF_cg (A := A) (A.1 0 4) (fun j hj => ⟨ai_x (by decide) (by omega), ai_x (by decide) (by omega)⟩)]
theorem ce_addAi (hD : DrC A I) (hV : NV A) {a b : Nat} (ha : a < A.1 0 3) (hb : b < A.1 0 3) (hab : a ≠ b) : ∃ I1, q_C kX5_addAisle [.ref 3, .int (nI a), .int (nI b)] I L none I1 L ∧ DrC (addAi A a b) I1 ∧ (∀ x k, (x < 3 ∨ 11 < x) → I1 x k = I x k) := by
  have h3 := hV.1.2.2.2.1
  obtain ⟨⟨a1, a2, a3, a4, a5, a6, a7, a8⟩, hb', hc, hd⟩ := hD
  have ia : vp_in (nI a) 7 := u_in (by omega) (by decide)
  have ib' : vp_in (nI b) 7 := u_in (by omega) (by decide)
  have na := (hb' a ha).2.2.2
  have nb := (hb' b hb).2.2.2
  obtain ⟨J1, e1⟩ : ∃ J, J = up2 I 7 a (nI (nearB A a ||| 2 ^ b)) := ⟨_, rfl⟩
  obtain ⟨J2, e2⟩ : ∃ J, J = up2 J1 7 b (nI (nearB A b ||| 2 ^ a)) := ⟨_, rfl⟩
  obtain ⟨J3, e3⟩ : ∃ J, J = up2 J2 3 5 (nI (A.1 0 4 + 1)) := ⟨_, rfl⟩
  have jb : J1 7 b = nI (nearB A b) := by rw [e1, up2_k (Ne.symm hab)]; exact nb
  have j35 : J2 3 5 = nI (A.1 0 4) := by rw [e2, up2_p (by decide), e1, up2_p (by decide)]; exact a6
  have hx : ∀ x k, (x ≠ 3 ∨ k ≠ 5) → x ≠ 7 → J3 x k = I x k := fun x k q q2 => by rw [e3, up2_o' q, e2, up2_p q2, e1, up2_p q2]
  refine ⟨J3, c0_X5_addAisle (vc_X5_addAisle_0 ⟨ia, ia, fun K1 hK1 => ⟨ib', ib', fun K2 hK2 => ⟨rfl, ?_, rfl⟩⟩⟩), ?_, fun x k q => hx x k (by omega) (by omega)⟩
  · rw [u_cl (by omega), na, u_one (by omega), u_or, ← e1] at hK1
    rw [hK1, u_cl (by omega), jb, u_one (by omega), u_or, ← e2] at hK2
    rw [hK2, j35, nI_1, e3]
  · unfold DrC
    rw [aic0 (j := 8) (by decide), aic0 (j := 0) (by decide), aic0 (j := 1) (by decide), aic0 (j := 2) (by decide), aic0 (j := 3) (by decide), aic4, aic0 (j := 5) (by decide), aic0 (j := 6) (by decide), hx 3 0 (by omega) (by decide), hx 3 1 (by omega) (by decide), hx 3 2 (by omega) (by decide), hx 3 3 (by omega) (by decide), hx 3 4 (by omega) (by decide), hx 3 6 (by omega) (by decide), hx 3 7 (by omega) (by decide)]
    refine ⟨⟨a1, a2, a3, a4, a5, by rw [e3]; exact up2_s _ _ _ _, a7, a8⟩, fun i hi => ?_, fun i hi => ?_, fun i hi => ?_⟩
    · obtain ⟨b1, b2, b3, b4⟩ := hb' i hi
      rw [hx 4 _ (by omega) (by decide), hx 5 _ (by omega) (by decide), hx 6 _ (by omega) (by decide), ai_x (by decide) (by omega), ai_x (by decide) (by omega), ai_x (by decide) (by omega), near_ai]
      refine ⟨b1, b2, b3, ?_⟩
      rw [e3, up2_p (by decide), e2]
      by_cases q : i = b
      · subst q
        rw [up2_s, if_neg hab, if_pos rfl]
      · rw [up2_k q, e1]
        by_cases q2 : i = a
        · subst q2
          rw [up2_s, if_pos rfl]
        · rw [up2_k q2, if_neg (fun z => q2 z.symm), if_neg (fun z => q z.symm), Nat.or_zero]
          exact b4
    · rw [hx 8 _ (by omega) (by decide), hx 9 _ (by omega) (by decide), ai_x (by decide) (by omega)]
      exact hc i hi
    · rw [hx 10 _ (by omega) (by decide), hx 11 _ (by omega) (by decide), ai_x (by decide) (by omega), ai_x (by decide) (by omega)]
      exact hd i hi
theorem lic0 {p j : Nat} {l : List Nat} (h : j ≠ 5) : (addLi A p l).1 0 j = A.1 0 j := by
  show up2 (up2 A.1 6 (A.1 0 5) p) 0 5 (A.1 0 5 + 1) 0 j = _
  rw [up2_k h, up2_p (by decide)]
theorem lic5 {p : Nat} {l : List Nat} : (addLi A p l).1 0 5 = A.1 0 5 + 1 := by
  show up2 (up2 A.1 6 (A.1 0 5) p) 0 5 (A.1 0 5 + 1) 0 5 = _
  exact up2_s _ _ _ _
theorem near_li {p i : Nat} {l : List Nat} : nearB (addLi A p l) i = nearB A i := by
  show nearF (addLi A p l) i ((addLi A p l).1 0 4) = nearF A i (A.1 0 4)
  rw [lic0 (by decide)]
  exact nearF_cg _ (fun j _ => ⟨li_x (by decide) (by omega), li_x (by decide) (by omega)⟩)
theorem ce_addLi (hD : DrC A I) (h5 : A.1 0 5 < 4) (p : Nat) (l : List Nat) : ∃ I1, q_C kX5_addLight [.ref 3, .int (nI p), .int (nI (cE l))] I L none I1 L ∧ DrC (addLi A p l) I1 ∧ (∀ x k, (x < 3 ∨ 11 < x) → I1 x k = I x k) := by
  obtain ⟨⟨a1, a2, a3, a4, a5, a6, a7, a8⟩, hb', hc, hd⟩ := hD
  have ia : vp_in (nI (A.1 0 5)) 4 := u_in h5 (by decide)
  obtain ⟨J1, e1⟩ : ∃ J, J = up2 (up2 I 8 (A.1 0 5) (nI p)) 9 (A.1 0 5) (nI (cE l)) := ⟨_, rfl⟩
  obtain ⟨J3, e3⟩ : ∃ J, J = up2 J1 3 6 (nI (A.1 0 5 + 1)) := ⟨_, rfl⟩
  have j36 : J1 3 6 = nI (A.1 0 5) := by rw [e1, up2_p (by decide), up2_p (by decide)]; exact a7
  have hx : ∀ x k, (x ≠ 3 ∨ k ≠ 6) → x ≠ 8 → x ≠ 9 → J3 x k = I x k := fun x k q q2 q3 => by rw [e3, up2_o' q, e1, up2_p q3, up2_p q2]
  refine ⟨J3, c0_X5_addLight (vc_X5_addLight_0 ?_), ?_, fun x k q => hx x k (by omega) (by omega) (by omega)⟩
  · rw [up2_p (show (3 : Nat) ≠ 8 by decide), a7, u_cl (by omega)]
    refine ⟨ia, ia, fun K1 hK1 => ⟨rfl, ?_, rfl⟩⟩
    rw [← e1] at hK1
    rw [hK1, j36, nI_1, e3]
  · unfold DrC
    rw [lic0 (j := 8) (by decide), lic0 (j := 0) (by decide), lic0 (j := 1) (by decide), lic0 (j := 2) (by decide), lic0 (j := 3) (by decide), lic0 (j := 4) (by decide), lic5, lic0 (j := 6) (by decide), hx 3 0 (by omega) (by decide) (by decide), hx 3 1 (by omega) (by decide) (by decide), hx 3 2 (by omega) (by decide) (by decide), hx 3 3 (by omega) (by decide) (by decide), hx 3 4 (by omega) (by decide) (by decide), hx 3 5 (by omega) (by decide) (by decide), hx 3 7 (by omega) (by decide) (by decide)]
    refine ⟨⟨a1, a2, a3, a4, a5, a6, by rw [e3]; exact up2_s _ _ _ _, a8⟩, fun i hi => ?_, fun i hi => ?_, fun i hi => ?_⟩
    · rw [hx 4 _ (by omega) (by decide) (by decide), hx 5 _ (by omega) (by decide) (by decide), hx 6 _ (by omega) (by decide) (by decide), hx 7 _ (by omega) (by decide) (by decide), li_x (by decide) (by omega), li_x (by decide) (by omega), li_x (by decide) (by omega), near_li]
      exact hb' i hi
    · by_cases q : i = A.1 0 5
      · subst q
        rw [li_n.1, li_n.2, e3, up2_p (by decide), up2_p (by decide), e1]
        exact ⟨by rw [up2_p (by decide)]; exact up2_s _ _ _ _, up2_s _ _ _ _⟩
      · rw [li_x (by decide) (Or.inr q), li_l q, e3, up2_p (by decide), up2_p (by decide), e1, up2_k q, up2_k q, up2_k q, up2_k q]
        exact hc i (by omega)
    · rw [hx 10 _ (by omega) (by decide) (by decide), hx 11 _ (by omega) (by decide) (by decide), li_x (by decide) (by omega), li_x (by decide) (by omega)]
      exact hd i hi
theorem drc0 {a b j : Nat} (h : j ≠ 6) : (addDr A a b).1 0 j = A.1 0 j := by
  show up2 (up2 (up2 A.1 7 (A.1 0 6) a) 8 (A.1 0 6) b) 0 6 (A.1 0 6 + 1) 0 j = _
  rw [up2_k h, up2_p (by decide), up2_p (by decide)]
theorem drc6 {a b : Nat} : (addDr A a b).1 0 6 = A.1 0 6 + 1 := by
  show up2 (up2 (up2 A.1 7 (A.1 0 6) a) 8 (A.1 0 6) b) 0 6 (A.1 0 6 + 1) 0 6 = _
  exact up2_s _ _ _ _
theorem near_dr {a b i : Nat} : nearB (addDr A a b) i = nearB A i := by
  show nearF (addDr A a b) i ((addDr A a b).1 0 4) = nearF A i (A.1 0 4)
  rw [drc0 (by decide)]
  exact nearF_cg _ (fun j _ => ⟨dr_x (by decide) (by omega), dr_x (by decide) (by omega)⟩)
theorem ce_addDr (hD : DrC A I) (h6 : A.1 0 6 < 6) (p t : Nat) : ∃ I1, q_C kX5_addDraught [.ref 3, .int (nI p), .int (nI t)] I L none I1 L ∧ DrC (addDr A p t) I1 ∧ (∀ x k, (x < 3 ∨ 11 < x) → I1 x k = I x k) := by
  obtain ⟨⟨a1, a2, a3, a4, a5, a6, a7, a8⟩, hb', hc, hd⟩ := hD
  have ia : vp_in (nI (A.1 0 6)) 6 := u_in h6 (by decide)
  obtain ⟨J1, e1⟩ : ∃ J, J = up2 (up2 I 10 (A.1 0 6) (nI p)) 11 (A.1 0 6) (nI t) := ⟨_, rfl⟩
  obtain ⟨J3, e3⟩ : ∃ J, J = up2 J1 3 7 (nI (A.1 0 6 + 1)) := ⟨_, rfl⟩
  have j37 : J1 3 7 = nI (A.1 0 6) := by rw [e1, up2_p (by decide), up2_p (by decide)]; exact a8
  have hx : ∀ x k, (x ≠ 3 ∨ k ≠ 7) → x ≠ 10 → x ≠ 11 → J3 x k = I x k := fun x k q q2 q3 => by rw [e3, up2_o' q, e1, up2_p q3, up2_p q2]
  refine ⟨J3, c0_X5_addDraught (vc_X5_addDraught_0 ?_), ?_, fun x k q => hx x k (by omega) (by omega) (by omega)⟩
  · rw [up2_p (show (3 : Nat) ≠ 10 by decide), a8, u_cl (by omega)]
    refine ⟨ia, ia, fun K1 hK1 => ⟨rfl, ?_, rfl⟩⟩
    rw [← e1] at hK1
    rw [hK1, j37, nI_1, e3]
  · unfold DrC
    rw [drc0 (j := 8) (by decide), drc0 (j := 0) (by decide), drc0 (j := 1) (by decide), drc0 (j := 2) (by decide), drc0 (j := 3) (by decide), drc0 (j := 4) (by decide), drc0 (j := 5) (by decide), drc6, hx 3 0 (by omega) (by decide) (by decide), hx 3 1 (by omega) (by decide) (by decide), hx 3 2 (by omega) (by decide) (by decide), hx 3 3 (by omega) (by decide) (by decide), hx 3 4 (by omega) (by decide) (by decide), hx 3 5 (by omega) (by decide) (by decide), hx 3 6 (by omega) (by decide) (by decide)]
    refine ⟨⟨a1, a2, a3, a4, a5, a6, a7, by rw [e3]; exact up2_s _ _ _ _⟩, fun i hi => ?_, fun i hi => ?_, fun i hi => ?_⟩
    · rw [hx 4 _ (by omega) (by decide) (by decide), hx 5 _ (by omega) (by decide) (by decide), hx 6 _ (by omega) (by decide) (by decide), hx 7 _ (by omega) (by decide) (by decide), dr_x (by decide) (by omega), dr_x (by decide) (by omega), dr_x (by decide) (by omega), near_dr]
      exact hb' i hi
    · rw [hx 8 _ (by omega) (by decide) (by decide), hx 9 _ (by omega) (by decide) (by decide), dr_x (by decide) (by omega)]
      exact hc i hi
    · by_cases q : i = A.1 0 6
      · subst q
        rw [dr_n.1, dr_n.2, e3, up2_p (by decide), up2_p (by decide), e1]
        exact ⟨by rw [up2_p (by decide)]; exact up2_s _ _ _ _, up2_s _ _ _ _⟩
      · rw [dr_x (by decide) (Or.inr q), dr_x (by decide) (Or.inr q), e3, up2_p (by decide), up2_p (by decide), e1, up2_k q, up2_k q, up2_k q, up2_k q]
        exact hd i (by omega)
end AP
section CL2
variable {B : Nat → Int32} {n : Nat} {S : Ps} {I : Nat → Nat → Int32} {L : Nat → Nat → Int64}
theorem pew_m1 (p : Nat) : nI p - 1 = iI ((p : Int) - 1) := by
  rw [nI_iI, show (1 : Int32) = iI 1 from rfl, iI_sub]
/-- a new night is put in -/
theorem RpC_put {A : Nt} {J : Nat → Nat → Int32} (h : RpC B n S I) (h0 : S.1.1 = 0) (hD : DrC A J) (hf : ∀ x k, (x < 3 ∨ 11 < x) → J x k = I x k) : RpC B n (putA A S) J ∧ FP I J := by
  rw [put_0 h0]
  exact ⟨⟨TpC_of (hf 2 4 (by omega)) (fun k => hf 1 k (by omega)) h.1, ⟨by rw [hf 2 0 (by omega)]; exact h.2.1.1, by rw [hf 2 1 (by omega)]; exact h.2.1.2⟩, TkC_of (fun k _ => hf 2 k (by omega)) h.2.2.1, h.2.2.2.1, h.2.2.2.2.1, fun _ => hD⟩, fun a k q => hf a k (by omega)⟩
theorem cf_ruleWord (h : RpC B n S I) : ∃ I', q_C kX6_ruleWord [.ref 2] I L (some (.int (nI (ruleF B S)))) I' L ∧ RpC B n (rulS B S) I' ∧ FP I I' := by
  have w1 := cf_isWord (L := L) h sx5
  have w2 := cf_isWord (L := L) h sx6
  have w3 := cf_isWord (L := L) h sx7
  have w4 := cf_isWord (L := L) h sx8
  have w5 := cf_isWord (L := L) h sx9
  cases h1 : isWp B w_turn S with
  | true =>
    have er : ruleF B S = 1 := if_pos h1
    have es : rulS B S = S := if_neg (fun z => by rw [er] at z; exact absurd z.1 (by decide))
    rw [er, es]
    rw [h1] at w1
    exact ⟨I, c0_X6_ruleWord (vc_X6_ruleWord_0 ⟨_, w1, fun z => absurd z (by decide), fun _ => ⟨rfl, rfl, rfl⟩⟩), h, FP.rf⟩
  | false =>
  rw [h1] at w1
  cases h2 : isWp B w_drop S with
  | true =>
    have er : ruleF B S = 2 := by unfold ruleF; rw [if_neg (by rw [h1]; decide), if_pos h2]
    have es : rulS B S = S := if_neg (fun z => by rw [er] at z; exact absurd z.1 (by decide))
    rw [er, es]
    rw [h2] at w2
    exact ⟨I, c0_X6_ruleWord (vc_X6_ruleWord_0 ⟨_, w1, fun _ => ⟨_, w2, fun z => absurd z (by decide), fun _ => ⟨rfl, rfl, rfl⟩⟩, fun z => absurd rfl z⟩), h, FP.rf⟩
  | false =>
  rw [h2] at w2
  cases h3 : isWp B w_add S with
  | true =>
    have er : ruleF B S = 3 := by unfold ruleF; rw [if_neg (by rw [h1]; decide), if_neg (by rw [h2]; decide), if_pos h3]
    have es : rulS B S = S := if_neg (fun z => by rw [er] at z; exact absurd z.1 (by decide))
    rw [er, es]
    rw [h3] at w3
    exact ⟨I, c0_X6_ruleWord (vc_X6_ruleWord_0 ⟨_, w1, fun _ => ⟨_, w2, fun _ => ⟨_, w3, fun z => absurd z (by decide), fun _ => ⟨rfl, rfl, rfl⟩⟩, fun z => absurd rfl z⟩, fun z => absurd rfl z⟩), h, FP.rf⟩
  | false =>
  rw [h3] at w3
  cases h4 : isWp B w_change S with
  | true =>
    have er : ruleF B S = 4 := by unfold ruleF; rw [if_neg (by rw [h1]; decide), if_neg (by rw [h2]; decide), if_neg (by rw [h3]; decide), if_pos h4]
    have es : rulS B S = S := if_neg (fun z => by rw [er] at z; exact absurd z.1 (by decide))
    rw [er, es]
    rw [h4] at w4
    exact ⟨I, c0_X6_ruleWord (vc_X6_ruleWord_0 ⟨_, w1, fun _ => ⟨_, w2, fun _ => ⟨_, w3, fun _ => ⟨_, w4, fun z => absurd z (by decide), fun _ => ⟨rfl, rfl, rfl⟩⟩, fun z => absurd rfl z⟩, fun z => absurd rfl z⟩, fun z => absurd rfl z⟩), h, FP.rf⟩
  | false =>
  rw [h4] at w4
  have er : ruleF B S = 0 := by unfold ruleF; rw [if_neg (by rw [h1]; decide), if_neg (by rw [h2]; decide), if_neg (by rw [h3]; decide), if_neg (by rw [h4]; decide)]
  rw [er]
  cases h5 : isWp B w_rest S with
  | true =>
    have es : rulS B S = S := if_neg (fun z => by rw [h5] at z; exact absurd z.2 (by decide))
    rw [es]
    rw [h5] at w5
    exact ⟨I, c0_X6_ruleWord (vc_X6_ruleWord_0 ⟨_, w1, fun _ => ⟨_, w2, fun _ => ⟨_, w3, fun _ => ⟨_, w4, fun _ => ⟨_, w5, fun z => absurd z (by decide), fun _ => ⟨rfl, rfl, rfl⟩⟩, fun z => absurd rfl z⟩, fun z => absurd rfl z⟩, fun z => absurd rfl z⟩, fun z => absurd rfl z⟩), h, FP.rf⟩
  | false =>
    have es : rulS B S = failP 1 S := if_pos ⟨er, h5⟩
    rw [es]
    rw [h5] at w5
    obtain ⟨I1, c1, r1, f1⟩ := cf_fail (L := L) h (k := 1) ⟨by decide, by decide⟩
    exact ⟨I1, c0_X6_ruleWord (vc_X6_ruleWord_0 ⟨_, w1, fun _ => ⟨_, w2, fun _ => ⟨_, w3, fun _ => ⟨_, w4, fun _ => ⟨_, w5, fun _ => ⟨I1, c1, rfl, rfl, rfl⟩, fun z => absurd rfl z⟩, fun z => absurd rfl z⟩, fun z => absurd rfl z⟩, fun z => absurd rfl z⟩, fun z => absurd rfl z⟩), r1, f1⟩
/-- the last of a pew's line -/
theorem cf_pew80 {A : Nt} (h : RpC B n S I) (hA : S.1.1 = 0 → S.2.2 = A ∧ NV A ∧ A.1 0 3 < 7) (r a b : Nat) : ∃ I', ((I 2 0 = 0 → ∃ I1, q_C kX5_addPew [.ref 3, .int (nI r), .int (nI a), .int (nI b)] I L none I1 L ∧ (none : Option Value) = none ∧ I' = I1 ∧ L = L) ∧ (¬ I 2 0 = 0 → (none : Option Value) = none ∧ I' = I ∧ L = L)) ∧ RpC B n (putA (addPw A r a b) S) I' ∧ FP I I' := by
  by_cases e : S.1.1 = 0
  · obtain ⟨eA, hV, h3⟩ := hA e
    obtain ⟨I2, c2, hD, hf⟩ := ce_addPw (L := L) (A := A) (by rw [← eA]; exact h.2.2.2.2.2 e) hV h3 r a b
    obtain ⟨g1, g2⟩ := RpC_put h e hD hf
    exact ⟨I2, ⟨fun _ => ⟨I2, c2, rfl, rfl, rfl⟩, fun z => absurd (h.flt.mpr e) z⟩, g1, g2⟩
  · rw [put_id e]
    exact ⟨I, ⟨fun z => absurd (h.flt.mp z) e, fun _ => ⟨rfl, rfl, rfl⟩⟩, h, FP.rf⟩
theorem cf_pew47 {A : Nt} (h : RpC B n S I) (hA : S.1.1 = 0 → S.2.2 = A ∧ NV A ∧ A.1 0 3 < 7) {r a : Nat} (hr : r ≤ 4) (ha : a ≤ 1000) : ∃ I', v_X6_readPew_47 none I' L I L (nI a) 0 (nI r) ∧ RpC B n (putA (addPw A r a (pwG r S)) (pwC B n r a S)) I' ∧ FP I I' := by
  obtain ⟨t1, t2, t3, t4⟩ := h.2.2.1
  obtain ⟨k1, k2, k3, k4, k5, k6⟩ := h.2.2.2.1
  unfold pwG pwC
  by_cases e4 : r = 4
  · rw [if_pos e4, if_pos e4]
    have hn4 : nI r = 4 := by rw [e4]; rfl
    have tail : ∀ (X : Ps) (J : Nat → Nat → Int32), RpC B n X J → X.2 = S.2 → (X.1.1 = 0 → S.1.1 = 0) → FP I J → ∃ I', v_X6_readPew_73 none I' L J L (nI a) (nI r) ∧ RpC B n (putA (addPw A r a S.2.1.2.2.2) (needN B n 1 4 X)) I' ∧ FP I I' := by
      intro X J hX eX e0 fX
      obtain ⟨I2, c2, h2, f2⟩ := cf_number (L := L) hX (lo := 1) (hi := 4) (x1 := 1) (x2 := 4) rfl (fun _ => rfl) ⟨by decide, by decide⟩ ⟨by decide, by decide⟩
      obtain ⟨I', hv, h3, f3⟩ := cf_pew80 (L := L) (A := A) h2 (fun z => by
        obtain ⟨z1, -⟩ := needN_ok z
        obtain ⟨q1, q2, q3⟩ := hA (e0 z1)
        exact ⟨by rw [needN_A, eX]; exact q1, q2, q3⟩) r a S.2.1.2.2.2
      exact ⟨I', vc_X6_readPew_73 ⟨_, I2, c2, by rw [eX]; exact hv⟩, h3, fX.tr (f2.tr f3)⟩
    by_cases ek : S.2.1.2.2.1 = 2
    · have ek' : I 2 7 = 2 := by rw [t3, ek]; rfl
      by_cases ev : S.2.1.2.2.2 = a
      · rw [if_pos ⟨ek, ev⟩]
        obtain ⟨I5, c5, h5, f5⟩ := cf_fail (L := L) h (k := 2) ⟨by decide, by decide⟩
        obtain ⟨I', hv, g1, g2⟩ := tail (failP 2 S) I5 h5 (fail_2 _) (fun z => absurd z (fail_flt (by decide))) f5
        exact ⟨I', vc_X6_readPew_47 ⟨fun _ => ⟨fun _ => ⟨fun _ => ⟨I5, c5, hv⟩, fun z => absurd (by rw [t4, ev]) z⟩, fun z => absurd ek' z⟩, fun z => absurd hn4 z⟩, g1, g2⟩
      · rw [if_neg (fun z => ev z.2)]
        obtain ⟨I', hv, g1, g2⟩ := tail S I h rfl (fun z => z) FP.rf
        refine ⟨I', vc_X6_readPew_47 ⟨fun _ => ⟨fun _ => ⟨fun z => absurd ?_ ev, fun _ => hv⟩, fun z => absurd ek' z⟩, fun z => absurd hn4 z⟩, g1, g2⟩
        rw [t4, u_eq (by omega) (by omega)] at z
        exact z
    · rw [if_neg (fun z => ek z.1)]
      obtain ⟨I', hv, g1, g2⟩ := tail S I h rfl (fun z => z) FP.rf
      refine ⟨I', vc_X6_readPew_47 ⟨fun _ => ⟨fun z => absurd ?_ ek, fun _ => hv⟩, fun z => absurd hn4 z⟩, g1, g2⟩
      rw [t3, show (2 : Int32) = nI 2 from rfl, u_eq (by omega) (by decide)] at z
      exact z
  · rw [if_neg e4, if_neg e4]
    obtain ⟨I', hv, g1, g2⟩ := cf_pew80 (L := L) h hA r a 0
    refine ⟨I', vc_X6_readPew_47 ⟨fun z => absurd ?_ e4, fun _ => hv⟩, g1, g2⟩
    rw [show (4 : Int32) = nI 4 from rfl, u_eq (by omega) (by decide)] at z
    exact z
theorem cf_readPew (h : RpC B n S I) (h0 : S.1.1 = 0) (hV : NV S.2.2) : ∃ I', q_C kX6_readPew [.ref 2] I L none I' L ∧ RpC B n (rdP B n S) I' ∧ FP I I' := by
  have h3 := hV.1.2.2.2.1
  have e4 : I 3 4 = nI (S.2.2.1 0 3) := (h.2.2.2.2.2 h0).1.2.2.2.2.1
  obtain ⟨I1, c1, h1, f1⟩ := cf_refuse (L := L) h (m := 7) (c := S.2.2.1 0 3) (by decide) (by omega)
  obtain ⟨I2, c2, h2, f2⟩ := cf_adv (L := L) h1
  unfold rdP
  obtain ⟨S2, eS2⟩ : ∃ X, X = advP B n (refP 7 (S.2.2.1 0 3) S) := ⟨_, rfl⟩
  have hA2 : S2.1.1 = 0 → S2.2.2 = S.2.2 ∧ S.2.2.1 0 3 < 7 := fun z => by
    rw [eS2, adv_1] at z
    exact ⟨by rw [eS2, adv_A, ref_A], (ref_ok z).1⟩
  have hAA : S2.2.2 = S.2.2 := by rw [eS2, adv_A, ref_A]
  rw [← eS2] at h2 ⊢
  obtain ⟨I4, c4, h4, f4⟩ := cf_ruleWord (L := L) h2
  obtain ⟨I5, c5, h5, f5⟩ := cf_adv (L := L) h4
  unfold rdP2
  have hrl := rul_le (B := B) (S := S2)
  obtain ⟨S4, eS4⟩ : ∃ X, X = advP B n (rulS B S2) := ⟨_, rfl⟩
  have hA4 : S4.1.1 = 0 → S4.2.2 = S2.2.2 ∧ NV S2.2.2 ∧ S2.2.2.1 0 3 < 7 := fun z => by
    rw [eS4, adv_1] at z
    have z2 := rul_ok z
    rw [z2] at z
    obtain ⟨q1, q2⟩ := hA2 z
    exact ⟨by rw [eS4, adv_A, z2], by rw [q1]; exact hV, by rw [q1]; exact q2⟩
  rw [← eS4] at h5
  show ∃ I', _ ∧ RpC B n (putA (addPw S2.2.2 (ruleF B S2) (pwF (ruleF B S2) (advP B n (rulS B S2))) (pwG (ruleF B S2) (pwB B n (ruleF B S2) (advP B n (rulS B S2))))) (pwC B n (ruleF B S2) (pwF (ruleF B S2) (advP B n (rulS B S2))) (pwB B n (ruleF B S2) (advP B n (rulS B S2))))) I' ∧ _
  rw [← eS4]
  have k6 := h5.2.2.2.1.2.2.2.2.2
  obtain ⟨r, hr⟩ : ∃ r, r = ruleF B S2 := ⟨_, rfl⟩
  rw [← hr] at c4 hrl ⊢
  have fr := (((f1.tr f2).tr f4).tr f5)
  by_cases e34 : r = 3 ∨ r = 4
  · unfold pwB pwF
    rw [if_pos e34, if_pos e34]
    obtain ⟨I7, c7, h7, f7⟩ := cf_number (L := L) h5 (lo := 1) (hi := 4) (x1 := 1) (x2 := 4) rfl (fun _ => rfl) ⟨by decide, by decide⟩ ⟨by decide, by decide⟩
    obtain ⟨I', hv, g1, g2⟩ := cf_pew47 (L := L) (A := S2.2.2) h7 (fun z => by
      obtain ⟨z1, -⟩ := needN_ok z
      obtain ⟨q1, q2, q3⟩ := hA4 z1
      exact ⟨by rw [needN_A]; exact q1, q2, q3⟩) (r := r) (a := S4.2.1.2.2.2) hrl k6
    refine ⟨I', c0_X6_readPew (vc_X6_readPew_0 ⟨I1, by rw [e4]; exact c1, I2, c2, _, I4, c4, I5, c5, fun _ => ⟨_, I7, c7, hv⟩, fun z => ⟨fun _ => ⟨_, I7, c7, hv⟩, fun z2 => ?_⟩⟩), g1, fr.tr (f7.tr g2)⟩
    exfalso
    rcases e34 with q | q
    · exact z (by rw [q]; rfl)
    · exact z2 (by rw [q]; rfl)
  · unfold pwB pwF
    rw [if_neg e34, if_neg e34]
    obtain ⟨I', hv, g1, g2⟩ := cf_pew47 (L := L) (A := S2.2.2) h5 hA4 (r := r) (a := 0) hrl (by omega)
    refine ⟨I', c0_X6_readPew (vc_X6_readPew_0 ⟨I1, by rw [e4]; exact c1, I2, c2, _, I4, c4, I5, c5, fun z => ?_, fun _ => ⟨fun z => ?_, fun _ => hv⟩⟩), g1, fr.tr g2⟩
    · rw [show (3 : Int32) = nI 3 from rfl, u_eq (by omega) (by decide)] at z
      exact absurd (Or.inl z) e34
    · rw [show (4 : Int32) = nI 4 from rfl, u_eq (by omega) (by decide)] at z
      exact absurd (Or.inr z) e34
end CL2
