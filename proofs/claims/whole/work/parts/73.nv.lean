/-! A LINE READ WELL KEEPS THE NIGHT ONE THAT CAN BE. -/
def lnN (A : Nt) (c : Nat) : Nt := (up2 A.1 0 8 c, A.2)
section NP
variable {A : Nt}
theorem pw_c {r a b c j : Nat} (h1 : j ≠ 3) (h2 : j ≠ 8) : (lnN (addPw A r a b) c).1 0 j = A.1 0 j := by
  show up2 (up2 (up2 (up2 (up2 A.1 1 (A.1 0 3) r) 2 (A.1 0 3) a) 3 (A.1 0 3) b) 0 3 (A.1 0 3 + 1)) 0 8 c 0 j = _
  rw [up2_k h2, up2_k h1, up2_p (by decide), up2_p (by decide), up2_p (by decide)]
theorem pw_3 {r a b c : Nat} : (lnN (addPw A r a b) c).1 0 3 = A.1 0 3 + 1 := by
  show up2 (up2 (up2 (up2 (up2 A.1 1 (A.1 0 3) r) 2 (A.1 0 3) a) 3 (A.1 0 3) b) 0 3 (A.1 0 3 + 1)) 0 8 c 0 3 = _
  rw [up2_k (by decide), up2_s]
theorem ln_8 {c : Nat} : (lnN A c).1 0 8 = c := by
  show up2 A.1 0 8 c 0 8 = c
  exact up2_s _ _ _ _
theorem ln_o {c x j : Nat} (h : x ≠ 0) : (lnN A c).1 x j = A.1 x j := up2_p h
theorem pw_x {r a b x i : Nat} (h0 : x ≠ 0) (h : x ≠ 1 ∧ x ≠ 2 ∧ x ≠ 3 ∨ i ≠ A.1 0 3) : (addPw A r a b).1 x i = A.1 x i := by
  show up2 (up2 (up2 (up2 A.1 1 (A.1 0 3) r) 2 (A.1 0 3) a) 3 (A.1 0 3) b) 0 3 (A.1 0 3 + 1) x i = _
  rw [up2_p h0, up2_o' (by omega), up2_o' (by omega), up2_o' (by omega)]
theorem pw_n {r a b : Nat} : (addPw A r a b).1 1 (A.1 0 3) = r ∧ (addPw A r a b).1 2 (A.1 0 3) = a ∧ (addPw A r a b).1 3 (A.1 0 3) = b := by
  refine ⟨?_, ?_, ?_⟩
  · show up2 (up2 (up2 (up2 A.1 1 (A.1 0 3) r) 2 (A.1 0 3) a) 3 (A.1 0 3) b) 0 3 (A.1 0 3 + 1) 1 _ = _
    rw [up2_p (by decide), up2_p (by decide), up2_p (by decide), up2_s]
  · show up2 (up2 (up2 (up2 A.1 1 (A.1 0 3) r) 2 (A.1 0 3) a) 3 (A.1 0 3) b) 0 3 (A.1 0 3 + 1) 2 _ = _
    rw [up2_p (by decide), up2_p (by decide), up2_s]
  · show up2 (up2 (up2 (up2 A.1 1 (A.1 0 3) r) 2 (A.1 0 3) a) 3 (A.1 0 3) b) 0 3 (A.1 0 3 + 1) 3 _ = _
    rw [up2_p (by decide), up2_s]
theorem NV_pw (hV : NV A) (h8 : A.1 0 8 ≠ 0) (hl : A.1 0 8 < 600) (h3 : A.1 0 3 < 7) {r a b : Nat} (hr : r ≤ 4 ∧ a ≤ 4 ∧ b ≤ 4 ∧ (r = 3 ∨ r = 4 → 1 ≤ a) ∧ (r = 4 → 1 ≤ b)) : NV (lnN (addPw A r a b) (A.1 0 8 + 1)) := by
  obtain ⟨⟨n0, n1, n2, n3, n4, n5, n6, n7, n8⟩, v0, v1, v2, v3, v4, v5, v6⟩ := hV
  unfold NV
  rw [pw_c (j := 0) (by decide) (by decide), pw_c (j := 1) (by decide) (by decide), pw_c (j := 2) (by decide) (by decide), pw_3, pw_c (j := 4) (by decide) (by decide), pw_c (j := 5) (by decide) (by decide), pw_c (j := 6) (by decide) (by decide), pw_c (j := 7) (by decide) (by decide), ln_8]
  refine ⟨⟨n0, n1, n2, by omega, n4, n5, n6, n7, by omega⟩, fun z => absurd z (by omega), fun _ => v1 (by omega), fun i hi => ?_, fun k hk => ?_, fun k hk => ?_, fun k hk => ?_, fun k hk => ?_⟩
  · rw [ln_o (by decide), ln_o (by decide), ln_o (by decide)]
    by_cases e : i = A.1 0 3
    · subst e
      obtain ⟨p1, p2, p3⟩ := pw_n (A := A) (r := r) (a := a) (b := b)
      rw [p1, p2, p3]; exact hr
    · rw [pw_x (by decide) (Or.inr e), pw_x (by decide) (Or.inr e), pw_x (by decide) (Or.inr e)]
      exact v2 i (by omega)
  · rw [ln_o (by decide), ln_o (by decide), pw_x (by decide) (by omega), pw_x (by decide) (by omega)]
    have := v3 k hk; omega
  · rw [ln_o (by decide), pw_x (by decide) (by omega)]
    have := v4 k hk; exact ⟨by omega, this.2⟩
  · rw [ln_o (by decide), ln_o (by decide), pw_x (by decide) (by omega), pw_x (by decide) (by omega)]
    have := v5 k hk; omega
  · rw [ln_o (by decide), ln_o (by decide), ln_o (by decide), pw_x (by decide) (by omega), pw_x (by decide) (by omega), pw_x (by decide) (by omega)]
    have := v6 k hk; exact ⟨by omega, this.2⟩
theorem ai_c {a b c j : Nat} (h1 : j ≠ 4) (h2 : j ≠ 8) : (lnN (addAi A a b) c).1 0 j = A.1 0 j := by
  show up2 (up2 (up2 (up2 A.1 4 (A.1 0 4) a) 5 (A.1 0 4) b) 0 4 (A.1 0 4 + 1)) 0 8 c 0 j = _
  rw [up2_k h2, up2_k h1, up2_p (by decide), up2_p (by decide)]
theorem ai_4 {a b c : Nat} : (lnN (addAi A a b) c).1 0 4 = A.1 0 4 + 1 := by
  show up2 (up2 (up2 (up2 A.1 4 (A.1 0 4) a) 5 (A.1 0 4) b) 0 4 (A.1 0 4 + 1)) 0 8 c 0 4 = _
  rw [up2_k (by decide), up2_s]
theorem ai_x {a b x i : Nat} (h0 : x ≠ 0) (h : x ≠ 4 ∧ x ≠ 5 ∨ i ≠ A.1 0 4) : (addAi A a b).1 x i = A.1 x i := by
  show up2 (up2 (up2 A.1 4 (A.1 0 4) a) 5 (A.1 0 4) b) 0 4 (A.1 0 4 + 1) x i = _
  rw [up2_p h0, up2_o' (by omega), up2_o' (by omega)]
theorem ai_n {a b : Nat} : (addAi A a b).1 4 (A.1 0 4) = a ∧ (addAi A a b).1 5 (A.1 0 4) = b := by
  refine ⟨?_, ?_⟩
  · show up2 (up2 (up2 A.1 4 (A.1 0 4) a) 5 (A.1 0 4) b) 0 4 (A.1 0 4 + 1) 4 _ = _
    rw [up2_p (by decide), up2_p (by decide), up2_s]
  · show up2 (up2 (up2 A.1 4 (A.1 0 4) a) 5 (A.1 0 4) b) 0 4 (A.1 0 4 + 1) 5 _ = _
    rw [up2_p (by decide), up2_s]
theorem NV_ai (hV : NV A) (h8 : A.1 0 8 ≠ 0) (hl : A.1 0 8 < 600) (h4 : A.1 0 4 < 12) {a b : Nat} (ha : a < A.1 0 3) (hb : b < A.1 0 3) : NV (lnN (addAi A a b) (A.1 0 8 + 1)) := by
  obtain ⟨⟨n0, n1, n2, n3, n4, n5, n6, n7, n8⟩, v0, v1, v2, v3, v4, v5, v6⟩ := hV
  unfold NV
  rw [ai_c (j := 0) (by decide) (by decide), ai_c (j := 1) (by decide) (by decide), ai_c (j := 2) (by decide) (by decide), ai_c (j := 3) (by decide) (by decide), ai_4, ai_c (j := 5) (by decide) (by decide), ai_c (j := 6) (by decide) (by decide), ai_c (j := 7) (by decide) (by decide), ln_8]
  refine ⟨⟨n0, n1, n2, n3, by omega, n5, n6, n7, by omega⟩, fun z => absurd z (by omega), fun _ => v1 (by omega), fun i hi => ?_, fun k hk => ?_, fun k hk => ?_, fun k hk => ?_, fun k hk => ?_⟩
  · rw [ln_o (by decide), ln_o (by decide), ln_o (by decide), ai_x (by decide) (by omega), ai_x (by decide) (by omega), ai_x (by decide) (by omega)]
    exact v2 i hi
  · rw [ln_o (by decide), ln_o (by decide)]
    by_cases e : k = A.1 0 4
    · subst e
      obtain ⟨p1, p2⟩ := ai_n (A := A) (a := a) (b := b)
      rw [p1, p2]; exact ⟨ha, hb⟩
    · rw [ai_x (by decide) (Or.inr e), ai_x (by decide) (Or.inr e)]
      exact v3 k (by omega)
  · rw [ln_o (by decide), ai_x (by decide) (by omega)]
    exact v4 k hk
  · rw [ln_o (by decide), ln_o (by decide), ai_x (by decide) (by omega), ai_x (by decide) (by omega)]
    exact v5 k hk
  · rw [ln_o (by decide), ln_o (by decide), ln_o (by decide), ai_x (by decide) (by omega), ai_x (by decide) (by omega), ai_x (by decide) (by omega)]
    exact v6 k hk
theorem li_c {p c j : Nat} {l : List Nat} (h1 : j ≠ 5) (h2 : j ≠ 8) : (lnN (addLi A p l) c).1 0 j = A.1 0 j := by
  show up2 (up2 (up2 A.1 6 (A.1 0 5) p) 0 5 (A.1 0 5 + 1)) 0 8 c 0 j = _
  rw [up2_k h2, up2_k h1, up2_p (by decide)]
theorem li_5 {p c : Nat} {l : List Nat} : (lnN (addLi A p l) c).1 0 5 = A.1 0 5 + 1 := by
  show up2 (up2 (up2 A.1 6 (A.1 0 5) p) 0 5 (A.1 0 5 + 1)) 0 8 c 0 5 = _
  rw [up2_k (by decide), up2_s]
theorem li_x {p x i : Nat} {l : List Nat} (h0 : x ≠ 0) (h : x ≠ 6 ∨ i ≠ A.1 0 5) : (addLi A p l).1 x i = A.1 x i := by
  show up2 (up2 A.1 6 (A.1 0 5) p) 0 5 (A.1 0 5 + 1) x i = _
  rw [up2_p h0, up2_o' h]
theorem li_n {p : Nat} {l : List Nat} : (addLi A p l).1 6 (A.1 0 5) = p ∧ (addLi A p l).2 (A.1 0 5) = l := by
  refine ⟨?_, if_pos rfl⟩
  show up2 (up2 A.1 6 (A.1 0 5) p) 0 5 (A.1 0 5 + 1) 6 _ = _
  rw [up2_p (by decide), up2_s]
theorem li_l {p i : Nat} {l : List Nat} (h : i ≠ A.1 0 5) : (addLi A p l).2 i = A.2 i := if_neg h
theorem NV_li (hV : NV A) (h8 : A.1 0 8 ≠ 0) (hl : A.1 0 8 < 600) (h5 : A.1 0 5 < 4) {p : Nat} {l : List Nat} (hp : p < A.1 0 3) (hS : Sg l) (hne : l ≠ []) : NV (lnN (addLi A p l) (A.1 0 8 + 1)) := by
  obtain ⟨⟨n0, n1, n2, n3, n4, n5, n6, n7, n8⟩, v0, v1, v2, v3, v4, v5, v6⟩ := hV
  unfold NV
  rw [li_c (j := 0) (by decide) (by decide), li_c (j := 1) (by decide) (by decide), li_c (j := 2) (by decide) (by decide), li_c (j := 3) (by decide) (by decide), li_c (j := 4) (by decide) (by decide), li_5, li_c (j := 6) (by decide) (by decide), li_c (j := 7) (by decide) (by decide), ln_8]
  refine ⟨⟨n0, n1, n2, n3, n4, by omega, n6, n7, by omega⟩, fun z => absurd z (by omega), fun _ => v1 (by omega), fun i hi => ?_, fun k hk => ?_, fun k hk => ?_, fun k hk => ?_, fun k hk => ?_⟩
  · rw [ln_o (by decide), ln_o (by decide), ln_o (by decide), li_x (by decide) (by omega), li_x (by decide) (by omega), li_x (by decide) (by omega)]
    exact v2 i hi
  · rw [ln_o (by decide), ln_o (by decide), li_x (by decide) (by omega), li_x (by decide) (by omega)]
    exact v3 k hk
  · rw [ln_o (by decide)]
    show (addLi A p l).1 6 k < _ ∧ Sg ((addLi A p l).2 k) ∧ (addLi A p l).2 k ≠ []
    by_cases e : k = A.1 0 5
    · subst e
      obtain ⟨p1, p2⟩ := li_n (A := A) (p := p) (l := l)
      rw [p1, p2]; exact ⟨hp, hS, hne⟩
    · rw [li_x (by decide) (Or.inr e), li_l e]
      exact v4 k (by omega)
  · rw [ln_o (by decide), ln_o (by decide), li_x (by decide) (by omega), li_x (by decide) (by omega)]
    exact v5 k hk
  · rw [ln_o (by decide), ln_o (by decide), ln_o (by decide), li_x (by decide) (by omega), li_x (by decide) (by omega), li_x (by decide) (by omega)]
    exact v6 k hk
theorem dr_c {a b c j : Nat} (h1 : j ≠ 6) (h2 : j ≠ 8) : (lnN (addDr A a b) c).1 0 j = A.1 0 j := by
  show up2 (up2 (up2 (up2 A.1 7 (A.1 0 6) a) 8 (A.1 0 6) b) 0 6 (A.1 0 6 + 1)) 0 8 c 0 j = _
  rw [up2_k h2, up2_k h1, up2_p (by decide), up2_p (by decide)]
theorem dr_6 {a b c : Nat} : (lnN (addDr A a b) c).1 0 6 = A.1 0 6 + 1 := by
  show up2 (up2 (up2 (up2 A.1 7 (A.1 0 6) a) 8 (A.1 0 6) b) 0 6 (A.1 0 6 + 1)) 0 8 c 0 6 = _
  rw [up2_k (by decide), up2_s]
theorem dr_x {a b x i : Nat} (h0 : x ≠ 0) (h : x ≠ 7 ∧ x ≠ 8 ∨ i ≠ A.1 0 6) : (addDr A a b).1 x i = A.1 x i := by
  show up2 (up2 (up2 A.1 7 (A.1 0 6) a) 8 (A.1 0 6) b) 0 6 (A.1 0 6 + 1) x i = _
  rw [up2_p h0, up2_o' (by omega), up2_o' (by omega)]
theorem dr_n {a b : Nat} : (addDr A a b).1 7 (A.1 0 6) = a ∧ (addDr A a b).1 8 (A.1 0 6) = b := by
  refine ⟨?_, ?_⟩
  · show up2 (up2 (up2 A.1 7 (A.1 0 6) a) 8 (A.1 0 6) b) 0 6 (A.1 0 6 + 1) 7 _ = _
    rw [up2_p (by decide), up2_p (by decide), up2_s]
  · show up2 (up2 (up2 A.1 7 (A.1 0 6) a) 8 (A.1 0 6) b) 0 6 (A.1 0 6 + 1) 8 _ = _
    rw [up2_p (by decide), up2_s]
theorem NV_dr (hV : NV A) (h8 : A.1 0 8 ≠ 0) (hl : A.1 0 8 < 600) (h6 : A.1 0 6 < 6) {a b : Nat} (ha : a < A.1 0 3) (hb : b ≤ 11) : NV (lnN (addDr A a b) (A.1 0 8 + 1)) := by
  obtain ⟨⟨n0, n1, n2, n3, n4, n5, n6, n7, n8⟩, v0, v1, v2, v3, v4, v5, v6⟩ := hV
  unfold NV
  rw [dr_c (j := 0) (by decide) (by decide), dr_c (j := 1) (by decide) (by decide), dr_c (j := 2) (by decide) (by decide), dr_c (j := 3) (by decide) (by decide), dr_c (j := 4) (by decide) (by decide), dr_c (j := 5) (by decide) (by decide), dr_6, dr_c (j := 7) (by decide) (by decide), ln_8]
  refine ⟨⟨n0, n1, n2, n3, n4, n5, by omega, n7, by omega⟩, fun z => absurd z (by omega), fun _ => v1 (by omega), fun i hi => ?_, fun k hk => ?_, fun k hk => ?_, fun k hk => ?_, fun k hk => ?_⟩
  · rw [ln_o (by decide), ln_o (by decide), ln_o (by decide), dr_x (by decide) (by omega), dr_x (by decide) (by omega), dr_x (by decide) (by omega)]
    exact v2 i hi
  · rw [ln_o (by decide), ln_o (by decide), dr_x (by decide) (by omega), dr_x (by decide) (by omega)]
    exact v3 k hk
  · rw [ln_o (by decide), dr_x (by decide) (by omega)]
    exact v4 k hk
  · rw [ln_o (by decide), ln_o (by decide)]
    by_cases e : k = A.1 0 6
    · subst e
      obtain ⟨p1, p2⟩ := dr_n (A := A) (a := a) (b := b)
      rw [p1, p2]; exact ⟨ha, hb⟩
    · rw [dr_x (by decide) (Or.inr e), dr_x (by decide) (Or.inr e)]
      exact v5 k (by omega)
  · rw [ln_o (by decide), ln_o (by decide), ln_o (by decide), dr_x (by decide) (by omega), dr_x (by decide) (by omega), dr_x (by decide) (by omega)]
    exact v6 k hk
def nigN (A : Nt) (h l o : Nat) : Nt := (up2 (up2 (up2 A.1 0 0 h) 0 1 l) 0 2 o, A.2)
theorem NV_nig (hV : NV A) (h8 : A.1 0 8 = 0) {h l o : Nat} (hh : 1 ≤ h ∧ h ≤ 12) (hl : l ≤ 3) (ho : o ≤ 10) : NV (lnN (nigN A h l o) 1) := by
  have z := hV.2.1 h8
  have e : ∀ j, j ≠ 0 → j ≠ 1 → j ≠ 2 → j < 8 → (lnN (nigN A h l o) 1).1 0 j = 0 := fun j q0 q1 q2 q => by
    show up2 (up2 (up2 (up2 A.1 0 0 h) 0 1 l) 0 2 o) 0 8 1 0 j = 0
    rw [up2_k (by omega), up2_k q2, up2_k q1, up2_k q0]
    exact z j q
  have e0 : (lnN (nigN A h l o) 1).1 0 0 = h := by
    show up2 (up2 (up2 (up2 A.1 0 0 h) 0 1 l) 0 2 o) 0 8 1 0 0 = h
    rw [up2_k (by decide), up2_k (by decide), up2_k (by decide), up2_s]
  have e1 : (lnN (nigN A h l o) 1).1 0 1 = l := by
    show up2 (up2 (up2 (up2 A.1 0 0 h) 0 1 l) 0 2 o) 0 8 1 0 1 = l
    rw [up2_k (by decide), up2_k (by decide), up2_s]
  have e2 : (lnN (nigN A h l o) 1).1 0 2 = o := by
    show up2 (up2 (up2 (up2 A.1 0 0 h) 0 1 l) 0 2 o) 0 8 1 0 2 = o
    rw [up2_k (by decide), up2_s]
  unfold NV
  rw [e0, e1, e2, e 3 (by decide) (by decide) (by decide) (by decide), e 4 (by decide) (by decide) (by decide) (by decide), e 5 (by decide) (by decide) (by decide) (by decide), e 6 (by decide) (by decide) (by decide) (by decide), e 7 (by decide) (by decide) (by decide) (by decide), ln_8]
  exact ⟨⟨hh.2, hl, ho, by omega, by omega, by omega, by omega, by omega, by omega⟩, fun q => absurd q (by decide), fun _ => hh.1, fun i hi => absurd hi (by omega), fun i hi => absurd hi (by omega), fun i hi => absurd hi (by omega), fun i hi => absurd hi (by omega), fun i hi => absurd hi (by omega)⟩
end NP
section OK
variable {B : Nat → Int32} {n : Nat} {S : Ps}
theorem ref_ok {m c : Nat} (h : (refP m c S).1.1 = 0) : c < m ∧ refP m c S = S := by
  unfold refP at h ⊢
  by_cases e : m ≤ c
  · rw [if_pos e] at h; exact absurd h (fail_flt (by decide))
  · rw [if_neg e]; exact ⟨by omega, rfl⟩
theorem ref_A {m c : Nat} : (refP m c S).2.2 = S.2.2 := by
  unfold refP
  by_cases e : m ≤ c
  · rw [if_pos e, fail_2]
  · rw [if_neg e]
theorem rul_ok (h : (rulS B S).1.1 = 0) : rulS B S = S := by
  unfold rulS at h ⊢
  by_cases e : ruleF B S = 0 ∧ isWp B w_rest S = false
  · rw [if_pos e] at h; exact absurd h (fail_flt (by decide))
  · rw [if_neg e]
theorem rul_le : ruleF B S ≤ 4 := by
  unfold ruleF
  by_cases h1 : isWp B w_turn S = true
  · rw [if_pos h1]; omega
  · rw [if_neg h1]
    by_cases h2 : isWp B w_drop S = true
    · rw [if_pos h2]; omega
    · rw [if_neg h2]
      by_cases h3 : isWp B w_add S = true
      · rw [if_pos h3]; omega
      · rw [if_neg h3]
        by_cases h4 : isWp B w_change S = true
        · rw [if_pos h4]; omega
        · rw [if_neg h4]; omega
theorem pwB_ok {k : Nat} (h : (pwB B n k S).1.1 = 0) : S.1.1 = 0 ∧ pwF k S ≤ 4 ∧ (k = 3 ∨ k = 4 → 1 ≤ pwF k S) := by
  unfold pwB at h
  unfold pwF
  by_cases e : k = 3 ∨ k = 4
  · rw [if_pos e] at h ⊢
    obtain ⟨a, b, c, d⟩ := needN_ok h
    exact ⟨a, by omega, fun _ => by omega⟩
  · rw [if_neg e] at h ⊢
    exact ⟨h, by omega, fun z => absurd z e⟩
theorem pwC_ok {k f : Nat} (h : (pwC B n k f S).1.1 = 0) : S.1.1 = 0 ∧ pwG k S ≤ 4 ∧ (k = 4 → 1 ≤ pwG k S) := by
  unfold pwC at h
  unfold pwG
  by_cases e : k = 4
  · rw [if_pos e] at h ⊢
    obtain ⟨a, b, c, d⟩ := needN_ok h
    by_cases e2 : S.2.1.2.2.1 = 2 ∧ S.2.1.2.2.2 = f
    · rw [if_pos e2] at a; exact absurd a (fail_flt (by decide))
    · rw [if_neg e2] at a b c d
      exact ⟨a, by omega, fun _ => by omega⟩
  · rw [if_neg e] at h ⊢
    exact ⟨h, by omega, fun z => absurd z e⟩
theorem rdP2_ok (h : (rdP2 B n S).1.1 = 0) : S.1.1 = 0 ∧ ∃ r a b, (rdP2 B n S).2.2 = addPw S.2.2 r a b ∧ r ≤ 4 ∧ a ≤ 4 ∧ b ≤ 4 ∧ (r = 3 ∨ r = 4 → 1 ≤ a) ∧ (r = 4 → 1 ≤ b) := by
  unfold rdP2 at h ⊢
  rw [put_1] at h
  rw [put_0 h]
  obtain ⟨c1, c2, c3⟩ := pwC_ok h
  obtain ⟨b1, b2, b3⟩ := pwB_ok c1
  rw [adv_1] at b1
  rw [rul_ok b1] at b1
  exact ⟨b1, _, _, _, rfl, rul_le, b2, c2, b3, c3⟩
theorem rdP_ok (h : (rdP B n S).1.1 = 0) : S.1.1 = 0 ∧ S.2.2.1 0 3 < 7 ∧ ∃ r a b, (rdP B n S).2.2 = addPw S.2.2 r a b ∧ r ≤ 4 ∧ a ≤ 4 ∧ b ≤ 4 ∧ (r = 3 ∨ r = 4 → 1 ≤ a) ∧ (r = 4 → 1 ≤ b) := by
  unfold rdP at h ⊢
  obtain ⟨h1, r, a, b, h2⟩ := rdP2_ok h
  rw [adv_1] at h1
  obtain ⟨q1, q2⟩ := ref_ok h1
  rw [adv_A, ref_A] at h2
  rw [q2] at h1
  exact ⟨h1, q1, r, a, b, h2⟩
theorem rdA2_ok (h : (rdA2 B n S).1.1 = 0) : S.1.1 = 0 ∧ ∃ a b, (rdA2 B n S).2.2 = addAi S.2.2 a b ∧ a < S.2.2.1 0 3 ∧ b < S.2.2.1 0 3 := by
  unfold rdA2 at h ⊢
  rw [put_1] at h
  rw [put_0 h]
  obtain ⟨a1, a2, a3, a4⟩ := needN_ok h
  by_cases e : (needN B n 0 ((S.2.2.1 0 3 : Int) - 1) S).1.1 = 0 ∧ (needN B n 0 ((S.2.2.1 0 3 : Int) - 1) S).2.1.2.2.1 = 2 ∧ ((needN B n 0 ((S.2.2.1 0 3 : Int) - 1) S).2.1.2.2.2 = S.2.1.2.2.2 ∨ joi S.2.2 S.2.1.2.2.2 (needN B n 0 ((S.2.2.1 0 3 : Int) - 1) S).2.1.2.2.2)
  · rw [if_pos e] at a1; exact absurd a1 (fail_flt (by decide))
  · rw [if_neg e] at a1 a3 a4
    obtain ⟨b1, b2, b3, b4⟩ := needN_ok a1
    exact ⟨b1, _, _, rfl, by omega, by omega⟩
theorem rdA_ok (h : (rdA B n S).1.1 = 0) : S.1.1 = 0 ∧ S.2.2.1 0 4 < 12 ∧ ∃ a b, (rdA B n S).2.2 = addAi S.2.2 a b ∧ a < S.2.2.1 0 3 ∧ b < S.2.2.1 0 3 := by
  unfold rdA at h ⊢
  obtain ⟨h1, a, b, h2⟩ := rdA2_ok h
  rw [adv_1] at h1
  obtain ⟨q1, q2⟩ := ref_ok h1
  rw [adv_A, ref_A] at h2
  rw [q2] at h1
  exact ⟨h1, q1, a, b, h2⟩
theorem lgF_ok : ∀ (m : Nat) (l : List Nat) (S : Ps), (lgF B n m l S).2.1.1 = 0 → S.1.1 = 0 ∧ (∀ a ∈ (lgF B n m l S).1, a ∈ l ∨ 1 ≤ a ∧ a ≤ 4) ∧ (lgF B n m l S).1.length ≤ l.length + m ∧ l.length ≤ (lgF B n m l S).1.length
  | 0, l, S, h => ⟨h, fun a ha => Or.inl ha, Nat.le_refl _, Nat.le_refl _⟩
  | m + 1, l, S, h => by
    have e0 : lgF B n (m + 1) l S = if S.2.1.2.2.1 = 2 then lgF B n m (l ++ [S.2.1.2.2.2]) (needN B n 1 4 S) else (l, S) := rfl
    rw [e0] at h ⊢
    by_cases e : S.2.1.2.2.1 = 2
    · rw [if_pos e] at h ⊢
      obtain ⟨h1, h2, h3, h4⟩ := lgF_ok m _ _ h
      obtain ⟨a1, a2, a3, a4⟩ := needN_ok h1
      rw [List.length_append] at h3 h4
      refine ⟨a1, fun a ha => ?_, by show _ ≤ l.length + (m + 1); have : [S.2.1.2.2.2].length = 1 := rfl; omega, by omega⟩
      rcases h2 a ha with q | q
      · rcases List.mem_append.mp q with q | q
        · exact Or.inl q
        · have : a = S.2.1.2.2.2 := by simpa using q
          exact Or.inr (by omega)
      · exact Or.inr q
    · rw [if_neg e] at h ⊢
      exact ⟨h, fun a ha => Or.inl ha, by show l.length ≤ _; omega, Nat.le_refl _⟩
theorem lgE_ok (h : (lgE S).1.1 = 0) : S.1.1 = 0 ∧ S.2.1.2.2.1 ≠ 2 ∧ lgE S = S := by
  unfold lgE at h ⊢
  by_cases e : S.2.1.2.2.1 = 2
  · rw [if_pos e] at h
    refine absurd h (fail_flt ?_)
    by_cases q : S.2.1.2.2.2 < 1 ∨ 4 < S.2.1.2.2.2
    · rw [if_pos q]; decide
    · rw [if_neg q]; decide
  · rw [if_neg e] at h ⊢; exact ⟨h, e, rfl⟩
theorem lgF_A : ∀ (m : Nat) (l : List Nat) (S : Ps), (lgF B n m l S).2.2.2 = S.2.2
  | 0, l, S => rfl
  | m + 1, l, S => by
    show (if S.2.1.2.2.1 = 2 then lgF B n m (l ++ [S.2.1.2.2.2]) (needN B n 1 4 S) else (l, S)).2.2.2 = _
    by_cases e : S.2.1.2.2.1 = 2
    · rw [if_pos e, lgF_A m, needN_A]
    · rw [if_neg e]
theorem rdL2_ok (h : (rdL2 B n S).1.1 = 0) : S.1.1 = 0 ∧ ∃ p l, (rdL2 B n S).2.2 = addLi S.2.2 p l ∧ p < S.2.2.1 0 3 ∧ Sg l ∧ l ≠ [] := by
  unfold rdL2 at h ⊢
  rw [put_1] at h
  rw [put_0 h]
  obtain ⟨a1, a2, a3⟩ := lgE_ok h
  obtain ⟨b1, b2, b3, b4⟩ := lgF_ok 5 _ _ a1
  obtain ⟨c1, c2, c3, c4⟩ := needN_ok b1
  obtain ⟨d1, d2, d3, d4⟩ := needN_ok c1
  have e1 : ([(needN B n 0 ((S.2.2.1 0 3 : Int) - 1) S).2.1.2.2.2] : List Nat).length = 1 := rfl
  rw [e1] at b3 b4
  refine ⟨d1, _, _, rfl, by omega, ⟨by omega, fun a ha => ?_⟩, fun z => ?_⟩
  · rcases b2 a ha with q | q
    · have : a = (needN B n 0 ((S.2.2.1 0 3 : Int) - 1) S).2.1.2.2.2 := by simpa using q
      omega
    · exact q
  · rw [z] at b4
    exact absurd b4 (by decide)
theorem rdL_ok (h : (rdL B n S).1.1 = 0) : S.1.1 = 0 ∧ S.2.2.1 0 5 < 4 ∧ ∃ p l, (rdL B n S).2.2 = addLi S.2.2 p l ∧ p < S.2.2.1 0 3 ∧ Sg l ∧ l ≠ [] := by
  unfold rdL at h ⊢
  obtain ⟨h1, p, l, h2⟩ := rdL2_ok h
  rw [adv_1] at h1
  obtain ⟨q1, q2⟩ := ref_ok h1
  rw [adv_A, ref_A] at h2
  rw [q2] at h1
  exact ⟨h1, q1, p, l, h2⟩
theorem rdD2_ok (h : (rdD2 B n S).1.1 = 0) : S.1.1 = 0 ∧ ∃ p t, (rdD2 B n S).2.2 = addDr S.2.2 p t ∧ p < S.2.2.1 0 3 ∧ t ≤ 11 := by
  unfold rdD2 at h ⊢
  rw [put_1] at h
  rw [put_0 h]
  obtain ⟨a1, a2, a3, a4⟩ := needN_ok h
  obtain ⟨b1, -⟩ := needW_ok a1
  obtain ⟨c1, c2, c3, c4⟩ := needN_ok b1
  exact ⟨c1, _, _, rfl, by omega, by omega⟩
theorem rdD_ok (h : (rdD B n S).1.1 = 0) : S.1.1 = 0 ∧ S.2.2.1 0 6 < 6 ∧ ∃ p t, (rdD B n S).2.2 = addDr S.2.2 p t ∧ p < S.2.2.1 0 3 ∧ t ≤ 11 := by
  unfold rdD at h ⊢
  obtain ⟨h1, p, t, h2⟩ := rdD2_ok h
  rw [adv_1] at h1
  obtain ⟨q1, q2⟩ := ref_ok h1
  rw [adv_A, ref_A] at h2
  rw [q2] at h1
  exact ⟨h1, q1, p, t, h2⟩
theorem set_1 {k v : Nat} : (setN k v S).1 = S.1 := rfl
theorem set_A {k v : Nat} : (setN k v S).2.2 = (up2 S.2.2.1 0 k v, S.2.2.2) := rfl
theorem rdN_ok (h : (rdN B n S).1.1 = 0) : ∃ a b c, (rdN B n S).2.2 = nigN S.2.2 a b c ∧ (1 ≤ a ∧ a ≤ 12) ∧ b ≤ 3 ∧ c ≤ 10 := by
  unfold rdN at h ⊢
  obtain ⟨S2, h2⟩ : ∃ X, X = rdN1 B n S := ⟨_, rfl⟩
  have k2 : S2.2.2 = S.2.2 := by rw [h2]; unfold rdN1; rw [needW_A, needW_A]
  rw [← h2] at h ⊢
  obtain ⟨S4, h4⟩ : ∃ X, X = rdN2 B n S2 := ⟨_, rfl⟩
  have k4 : S4.2.2 = (up2 S2.2.2.1 0 0 S2.2.1.2.2.2, S2.2.2.2) := by rw [h4]; unfold rdN2; rw [needW_A, set_A, needN_A]
  rw [← h4] at h ⊢
  obtain ⟨S6, h6⟩ : ∃ X, X = rdN3 B n S4 := ⟨_, rfl⟩
  have k6 : S6.2.2 = (up2 S4.2.2.1 0 1 S4.2.1.2.2.2, S4.2.2.2) := by rw [h6]; unfold rdN3; rw [needW_A, set_A, needN_A]
  rw [← h6] at h ⊢
  unfold rdN4 at h ⊢
  rw [set_1] at h
  obtain ⟨a1, a2, a3, a4⟩ := needN_ok h
  rw [h6] at a1
  unfold rdN3 at a1
  obtain ⟨b1, -⟩ := needW_ok a1
  rw [set_1] at b1
  obtain ⟨c1, c2, c3, c4⟩ := needN_ok b1
  rw [h4] at c1
  unfold rdN2 at c1
  obtain ⟨d1, -⟩ := needW_ok c1
  rw [set_1] at d1
  obtain ⟨e1, e2, e3, e4⟩ := needN_ok d1
  refine ⟨S2.2.1.2.2.2, S4.2.1.2.2.2, S6.2.1.2.2.2, ?_, ⟨by omega, by omega⟩, by omega, by omega⟩
  rw [set_A, needN_A, k6, k4, k2]
  rfl
theorem line_A : (lineP B n S).2.2 = lnN (semP (rdX B n S)).2.2 (S.2.2.1 0 8 + 1) := by
  unfold lineP
  rw [adv_A]
  rfl
theorem line_NV (hV : NV S.2.2) (h7 : S.2.2.1 0 7 = 0) (hl : S.2.2.1 0 8 < 600) (h0 : (lineP B n S).1.1 = 0) : NV (lineP B n S).2.2 ∧ (lineP B n S).2.2.1 0 7 = 0 ∧ (lineP B n S).2.2.1 0 8 = S.2.2.1 0 8 + 1 := by
  rw [line_A]
  unfold lineP at h0
  rw [adv_1] at h0
  obtain ⟨g1, g2, g3⟩ := sem_ok (S := rdX B n S) h0
  rw [g3, ln_8]
  unfold rdX at g1 ⊢
  by_cases e8 : S.2.2.1 0 8 = 0
  · rw [if_pos e8] at g1 ⊢
    obtain ⟨a, b, c, q1, q2, q3, q4⟩ := rdN_ok g1
    rw [q1, e8]
    refine ⟨NV_nig hV e8 q2 q3 q4, ?_, rfl⟩
    show up2 (up2 (up2 (up2 S.2.2.1 0 0 a) 0 1 b) 0 2 c) 0 8 (0 + 1) 0 7 = 0
    rw [up2_k (by decide), up2_k (by decide), up2_k (by decide), up2_k (by decide)]
    exact h7
  rw [if_neg e8] at g1 ⊢
  by_cases e1 : isWp B w_pew S = true
  · rw [if_pos e1] at g1 ⊢
    obtain ⟨-, q1, r, a, b, q2, q3⟩ := rdP_ok g1
    rw [q2, pw_c (by decide) (by decide)]
    exact ⟨NV_pw hV e8 hl q1 q3, h7, rfl⟩
  rw [if_neg e1] at g1 ⊢
  by_cases e2 : isWp B w_aisle S = true
  · rw [if_pos e2] at g1 ⊢
    obtain ⟨-, q1, a, b, q2, q3, q4⟩ := rdA_ok g1
    rw [q2, ai_c (by decide) (by decide)]
    exact ⟨NV_ai hV e8 hl q1 q3 q4, h7, rfl⟩
  rw [if_neg e2] at g1 ⊢
  by_cases e3 : isWp B w_light S = true
  · rw [if_pos e3] at g1 ⊢
    obtain ⟨-, q1, p, l, q2, q3, q4, q5⟩ := rdL_ok g1
    rw [q2, li_c (by decide) (by decide)]
    exact ⟨NV_li hV e8 hl q1 q3 q4 q5, h7, rfl⟩
  rw [if_neg e3] at g1 ⊢
  by_cases e4 : isWp B w_draught S = true
  · rw [if_pos e4] at g1 ⊢
    obtain ⟨-, q1, p, t, q2, q3, q4⟩ := rdD_ok g1
    rw [q2, dr_c (by decide) (by decide)]
    exact ⟨NV_dr hV e8 hl q1 q3 q4, h7, rfl⟩
  rw [if_neg e4] at g1
  exact absurd g1 (fail_flt (by decide))
end OK
