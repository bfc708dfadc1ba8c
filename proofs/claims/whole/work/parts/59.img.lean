/-! HUSHES, IMAGES. -/
def tkA (p q : Nat) (I J : Nat → Nat → Int32) (m : Nat) : Prop := (∀ k, k < m → J p k = I q k) ∧ ∀ a k, a ≠ p → J a k = I a k
theorem tk_0 {p q : Nat} {I : Nat → Nat → Int32} : tkA p q I I 0 := ⟨fun k h => absurd h (by omega), fun _ _ _ => rfl⟩
theorem tk_up {p q m : Nat} {I J : Nat → Nat → Int32} (h : q ≠ p) (t : tkA p q I J m) : tkA p q I (up2 J p m (J q m)) (m + 1) := ⟨fun k hk => by
  by_cases e : k = m
  · subst e; rw [up2_s]; exact t.2 q k h
  · rw [up2_k e]; exact t.1 k (by omega), fun a k z => by rw [up2_p z]; exact t.2 a k z⟩
def lnT (j : Nat) : Nat := if j ≤ 4 then 7 else if j ≤ 6 then 4 else 6
def tk5 (I J : Nat → Nat → Int32) (p q m : Nat) : Prop := (∀ k, k < 8 → J p k = I q k) ∧ (∀ j, 1 ≤ j → j ≤ m → ∀ k, k < lnT j → J (p + j) k = I (q + j) k) ∧ ∀ a k, (a < p ∨ p + m < a) → J a k = I a k
theorem tk5_0 {p q : Nat} {I J : Nat → Nat → Int32} (t : tkA p q I J 8) : tk5 I J p q 0 := ⟨t.1, fun j h1 h2 => absurd h1 (by omega), fun a k h => t.2 a k (by omega)⟩
theorem tk5_s {p q m n : Nat} {I J : Nat → Nat → Int32} (hn : n = lnT (m + 1)) (hd : q + (m + 1) < p ∨ p + m < q + (m + 1)) (t : tk5 I J p q m) : tk5 I (upr J (p + (m + 1)) (va_cpy (J (q + (m + 1))) (J (p + (m + 1))) 0 0 n)) p q (m + 1) := by
  refine ⟨fun k hk => ?_, fun j h1 h2 k hk => ?_, fun a k h => ?_⟩
  · unfold upr; rw [if_neg (by omega)]; exact t.1 k hk
  · by_cases e : j = m + 1
    · subst e
      unfold upr va_cpy
      rw [if_pos rfl, if_pos (by omega), show 0 + (k - 0) = k by omega]
      exact t.2.2 _ k hd
    · unfold upr
      rw [if_neg (by omega)]
      exact t.2.1 j h1 (by omega) k hk
  · unfold upr; rw [if_neg (by omega)]; exact t.2.2 a k (by omega)
def tk0 (I J : Nat → Nat → Int32) (p q m : Nat) : Prop := J p 0 = I q 0 ∧ (∀ j, 1 ≤ j → j ≤ m → ∀ k, k < 30 → J (p + j) k = I (q + j) k) ∧ ∀ a k, (a < p ∨ p + m < a) → J a k = I a k
theorem tk0_0 {p q : Nat} {I : Nat → Nat → Int32} : tk0 I (up2 I p 0 (I q 0)) p q 0 := ⟨up2_s _ _ _ _, fun j h1 h2 => absurd h1 (by omega), fun a k h => up2_p (by omega)⟩
theorem tk0_s {p q m n : Nat} {I J : Nat → Nat → Int32} (hn : n = 30) (hd : q + (m + 1) < p ∨ p + m < q + (m + 1)) (t : tk0 I J p q m) : tk0 I (upr J (p + (m + 1)) (va_cpy (J (q + (m + 1))) (J (p + (m + 1))) 0 0 n)) p q (m + 1) := by
  refine ⟨?_, fun j h1 h2 k hk => ?_, fun a k h => ?_⟩
  · unfold upr; rw [if_neg (by omega)]; exact t.1
  · by_cases e : j = m + 1
    · subst e
      unfold upr va_cpy
      rw [if_pos rfl, if_pos (by omega), show 0 + (k - 0) = k by omega]
      exact t.2.2 _ k hd
    · unfold upr
      rw [if_neg (by omega)]
      exact t.2.1 j h1 (by omega) k hk
  · unfold upr; rw [if_neg (by omega)]; exact t.2.2 a k (by omega)
section TK
variable {I : Nat → Nat → Int32} {L : Nat → Nat → Int64}
theorem ce_take5_12_36 : ∃ I', q_C kX5_take [.ref 12, .ref 36] I L none I' L ∧ tk5 I I' 12 36 8 := by
  obtain ⟨I1, h1⟩ : ∃ J, J = (up2 (up2 (up2 I 12 0 (I 36 0)) 12 1 ((up2 I 12 0 (I 36 0)) 36 1)) 12 2 ((up2 (up2 I 12 0 (I 36 0)) 12 1 ((up2 I 12 0 (I 36 0)) 36 1)) 36 2)) := ⟨_, rfl⟩
  obtain ⟨I2, h2⟩ : ∃ J, J = (up2 (up2 (up2 I1 12 3 (I1 36 3)) 12 4 ((up2 I1 12 3 (I1 36 3)) 36 4)) 12 5 ((up2 (up2 I1 12 3 (I1 36 3)) 12 4 ((up2 I1 12 3 (I1 36 3)) 36 4)) 36 5)) := ⟨_, rfl⟩
  obtain ⟨I3, h3⟩ : ∃ J, J = (upr (up2 (up2 I2 12 6 (I2 36 6)) 12 7 ((up2 I2 12 6 (I2 36 6)) 36 7)) 13 (va_cpy ((up2 (up2 I2 12 6 (I2 36 6)) 12 7 ((up2 I2 12 6 (I2 36 6)) 36 7)) 37) ((up2 (up2 I2 12 6 (I2 36 6)) 12 7 ((up2 I2 12 6 (I2 36 6)) 36 7)) 13) 0 0 7)) := ⟨_, rfl⟩
  obtain ⟨I4, h4⟩ : ∃ J, J = (upr I3 14 (va_cpy (I3 38) (I3 14) 0 0 7)) := ⟨_, rfl⟩
  obtain ⟨I5, h5⟩ : ∃ J, J = (upr I4 15 (va_cpy (I4 39) (I4 15) 0 0 7)) := ⟨_, rfl⟩
  obtain ⟨I6, h6⟩ : ∃ J, J = (upr I5 16 (va_cpy (I5 40) (I5 16) 0 0 7)) := ⟨_, rfl⟩
  obtain ⟨I7, h7⟩ : ∃ J, J = (upr I6 17 (va_cpy (I6 41) (I6 17) 0 0 4)) := ⟨_, rfl⟩
  obtain ⟨I8, h8⟩ : ∃ J, J = (upr I7 18 (va_cpy (I7 42) (I7 18) 0 0 4)) := ⟨_, rfl⟩
  obtain ⟨I9, h9⟩ : ∃ J, J = (upr I8 19 (va_cpy (I8 43) (I8 19) 0 0 6)) := ⟨_, rfl⟩
  obtain ⟨I10, h10⟩ : ∃ J, J = (upr I9 20 (va_cpy (I9 44) (I9 20) 0 0 6)) := ⟨_, rfl⟩
  refine ⟨I10, c0_X5_take_12_36 (vc_X5_take_12_36_0 ?_), ?_⟩
  · intro J1 k1; obtain rfl : J1 = I1 := k1.trans h1.symm
    intro J2 k2; obtain rfl : J2 = I2 := k2.trans h2.symm
    refine ⟨⟨by decide, by decide, by decide, by decide, by decide⟩, ?_⟩
    intro J3 k3; obtain rfl : J3 = I3 := k3.trans h3.symm
    refine ⟨⟨by decide, by decide, by decide, by decide, by decide⟩, ?_⟩
    intro J4 k4; obtain rfl : J4 = I4 := k4.trans h4.symm
    refine ⟨⟨by decide, by decide, by decide, by decide, by decide⟩, ?_⟩
    intro J5 k5; obtain rfl : J5 = I5 := k5.trans h5.symm
    refine ⟨⟨by decide, by decide, by decide, by decide, by decide⟩, ?_⟩
    intro J6 k6; obtain rfl : J6 = I6 := k6.trans h6.symm
    refine ⟨⟨by decide, by decide, by decide, by decide, by decide⟩, ?_⟩
    intro J7 k7; obtain rfl : J7 = I7 := k7.trans h7.symm
    refine ⟨⟨by decide, by decide, by decide, by decide, by decide⟩, ?_⟩
    intro J8 k8; obtain rfl : J8 = I8 := k8.trans h8.symm
    refine ⟨⟨by decide, by decide, by decide, by decide, by decide⟩, ?_⟩
    intro J9 k9; obtain rfl : J9 = I9 := k9.trans h9.symm
    refine ⟨⟨by decide, by decide, by decide, by decide, by decide⟩, ?_⟩
    intro J10 k10; obtain rfl : J10 = I10 := k10.trans h10.symm
    exact ⟨rfl, rfl, rfl⟩
  · have t1 : tkA 12 36 I I1 3 := by rw [h1]; exact tk_up (by decide) (tk_up (by decide) (tk_up (by decide) tk_0))
    have t2 : tkA 12 36 I I2 6 := by rw [h2]; exact tk_up (by decide) (tk_up (by decide) (tk_up (by decide) t1))
    have t3 : tk5 I (up2 (up2 I2 12 6 (I2 36 6)) 12 7 ((up2 I2 12 6 (I2 36 6)) 36 7)) 12 36 0 := tk5_0 (tk_up (by decide) (tk_up (by decide) t2))
    have t4 : tk5 I I3 12 36 1 := by rw [h3]; exact tk5_s (by decide) (by decide) t3
    have t5 : tk5 I I4 12 36 2 := by rw [h4]; exact tk5_s (by decide) (by decide) t4
    have t6 : tk5 I I5 12 36 3 := by rw [h5]; exact tk5_s (by decide) (by decide) t5
    have t7 : tk5 I I6 12 36 4 := by rw [h6]; exact tk5_s (by decide) (by decide) t6
    have t8 : tk5 I I7 12 36 5 := by rw [h7]; exact tk5_s (by decide) (by decide) t7
    have t9 : tk5 I I8 12 36 6 := by rw [h8]; exact tk5_s (by decide) (by decide) t8
    have t10 : tk5 I I9 12 36 7 := by rw [h9]; exact tk5_s (by decide) (by decide) t9
    have t11 : tk5 I I10 12 36 8 := by rw [h10]; exact tk5_s (by decide) (by decide) t10
    exact t11
theorem ce_take5_12_49 : ∃ I', q_C kX5_take [.ref 12, .ref 49] I L none I' L ∧ tk5 I I' 12 49 8 := by
  obtain ⟨I1, h1⟩ : ∃ J, J = (up2 (up2 (up2 I 12 0 (I 49 0)) 12 1 ((up2 I 12 0 (I 49 0)) 49 1)) 12 2 ((up2 (up2 I 12 0 (I 49 0)) 12 1 ((up2 I 12 0 (I 49 0)) 49 1)) 49 2)) := ⟨_, rfl⟩
  obtain ⟨I2, h2⟩ : ∃ J, J = (up2 (up2 (up2 I1 12 3 (I1 49 3)) 12 4 ((up2 I1 12 3 (I1 49 3)) 49 4)) 12 5 ((up2 (up2 I1 12 3 (I1 49 3)) 12 4 ((up2 I1 12 3 (I1 49 3)) 49 4)) 49 5)) := ⟨_, rfl⟩
  obtain ⟨I3, h3⟩ : ∃ J, J = (upr (up2 (up2 I2 12 6 (I2 49 6)) 12 7 ((up2 I2 12 6 (I2 49 6)) 49 7)) 13 (va_cpy ((up2 (up2 I2 12 6 (I2 49 6)) 12 7 ((up2 I2 12 6 (I2 49 6)) 49 7)) 50) ((up2 (up2 I2 12 6 (I2 49 6)) 12 7 ((up2 I2 12 6 (I2 49 6)) 49 7)) 13) 0 0 7)) := ⟨_, rfl⟩
  obtain ⟨I4, h4⟩ : ∃ J, J = (upr I3 14 (va_cpy (I3 51) (I3 14) 0 0 7)) := ⟨_, rfl⟩
  obtain ⟨I5, h5⟩ : ∃ J, J = (upr I4 15 (va_cpy (I4 52) (I4 15) 0 0 7)) := ⟨_, rfl⟩
  obtain ⟨I6, h6⟩ : ∃ J, J = (upr I5 16 (va_cpy (I5 53) (I5 16) 0 0 7)) := ⟨_, rfl⟩
  obtain ⟨I7, h7⟩ : ∃ J, J = (upr I6 17 (va_cpy (I6 54) (I6 17) 0 0 4)) := ⟨_, rfl⟩
  obtain ⟨I8, h8⟩ : ∃ J, J = (upr I7 18 (va_cpy (I7 55) (I7 18) 0 0 4)) := ⟨_, rfl⟩
  obtain ⟨I9, h9⟩ : ∃ J, J = (upr I8 19 (va_cpy (I8 56) (I8 19) 0 0 6)) := ⟨_, rfl⟩
  obtain ⟨I10, h10⟩ : ∃ J, J = (upr I9 20 (va_cpy (I9 57) (I9 20) 0 0 6)) := ⟨_, rfl⟩
  refine ⟨I10, c0_X5_take_12_49 (vc_X5_take_12_49_0 ?_), ?_⟩
  · intro J1 k1; obtain rfl : J1 = I1 := k1.trans h1.symm
    intro J2 k2; obtain rfl : J2 = I2 := k2.trans h2.symm
    refine ⟨⟨by decide, by decide, by decide, by decide, by decide⟩, ?_⟩
    intro J3 k3; obtain rfl : J3 = I3 := k3.trans h3.symm
    refine ⟨⟨by decide, by decide, by decide, by decide, by decide⟩, ?_⟩
    intro J4 k4; obtain rfl : J4 = I4 := k4.trans h4.symm
    refine ⟨⟨by decide, by decide, by decide, by decide, by decide⟩, ?_⟩
    intro J5 k5; obtain rfl : J5 = I5 := k5.trans h5.symm
    refine ⟨⟨by decide, by decide, by decide, by decide, by decide⟩, ?_⟩
    intro J6 k6; obtain rfl : J6 = I6 := k6.trans h6.symm
    refine ⟨⟨by decide, by decide, by decide, by decide, by decide⟩, ?_⟩
    intro J7 k7; obtain rfl : J7 = I7 := k7.trans h7.symm
    refine ⟨⟨by decide, by decide, by decide, by decide, by decide⟩, ?_⟩
    intro J8 k8; obtain rfl : J8 = I8 := k8.trans h8.symm
    refine ⟨⟨by decide, by decide, by decide, by decide, by decide⟩, ?_⟩
    intro J9 k9; obtain rfl : J9 = I9 := k9.trans h9.symm
    refine ⟨⟨by decide, by decide, by decide, by decide, by decide⟩, ?_⟩
    intro J10 k10; obtain rfl : J10 = I10 := k10.trans h10.symm
    exact ⟨rfl, rfl, rfl⟩
  · have t1 : tkA 12 49 I I1 3 := by rw [h1]; exact tk_up (by decide) (tk_up (by decide) (tk_up (by decide) tk_0))
    have t2 : tkA 12 49 I I2 6 := by rw [h2]; exact tk_up (by decide) (tk_up (by decide) (tk_up (by decide) t1))
    have t3 : tk5 I (up2 (up2 I2 12 6 (I2 49 6)) 12 7 ((up2 I2 12 6 (I2 49 6)) 49 7)) 12 49 0 := tk5_0 (tk_up (by decide) (tk_up (by decide) t2))
    have t4 : tk5 I I3 12 49 1 := by rw [h3]; exact tk5_s (by decide) (by decide) t3
    have t5 : tk5 I I4 12 49 2 := by rw [h4]; exact tk5_s (by decide) (by decide) t4
    have t6 : tk5 I I5 12 49 3 := by rw [h5]; exact tk5_s (by decide) (by decide) t5
    have t7 : tk5 I I6 12 49 4 := by rw [h6]; exact tk5_s (by decide) (by decide) t6
    have t8 : tk5 I I7 12 49 5 := by rw [h7]; exact tk5_s (by decide) (by decide) t7
    have t9 : tk5 I I8 12 49 6 := by rw [h8]; exact tk5_s (by decide) (by decide) t8
    have t10 : tk5 I I9 12 49 7 := by rw [h9]; exact tk5_s (by decide) (by decide) t9
    have t11 : tk5 I I10 12 49 8 := by rw [h10]; exact tk5_s (by decide) (by decide) t10
    exact t11
theorem ce_take5_12_62 : ∃ I', q_C kX5_take [.ref 12, .ref 62] I L none I' L ∧ tk5 I I' 12 62 8 := by
  obtain ⟨I1, h1⟩ : ∃ J, J = (up2 (up2 (up2 I 12 0 (I 62 0)) 12 1 ((up2 I 12 0 (I 62 0)) 62 1)) 12 2 ((up2 (up2 I 12 0 (I 62 0)) 12 1 ((up2 I 12 0 (I 62 0)) 62 1)) 62 2)) := ⟨_, rfl⟩
  obtain ⟨I2, h2⟩ : ∃ J, J = (up2 (up2 (up2 I1 12 3 (I1 62 3)) 12 4 ((up2 I1 12 3 (I1 62 3)) 62 4)) 12 5 ((up2 (up2 I1 12 3 (I1 62 3)) 12 4 ((up2 I1 12 3 (I1 62 3)) 62 4)) 62 5)) := ⟨_, rfl⟩
  obtain ⟨I3, h3⟩ : ∃ J, J = (upr (up2 (up2 I2 12 6 (I2 62 6)) 12 7 ((up2 I2 12 6 (I2 62 6)) 62 7)) 13 (va_cpy ((up2 (up2 I2 12 6 (I2 62 6)) 12 7 ((up2 I2 12 6 (I2 62 6)) 62 7)) 63) ((up2 (up2 I2 12 6 (I2 62 6)) 12 7 ((up2 I2 12 6 (I2 62 6)) 62 7)) 13) 0 0 7)) := ⟨_, rfl⟩
  obtain ⟨I4, h4⟩ : ∃ J, J = (upr I3 14 (va_cpy (I3 64) (I3 14) 0 0 7)) := ⟨_, rfl⟩
  obtain ⟨I5, h5⟩ : ∃ J, J = (upr I4 15 (va_cpy (I4 65) (I4 15) 0 0 7)) := ⟨_, rfl⟩
  obtain ⟨I6, h6⟩ : ∃ J, J = (upr I5 16 (va_cpy (I5 66) (I5 16) 0 0 7)) := ⟨_, rfl⟩
  obtain ⟨I7, h7⟩ : ∃ J, J = (upr I6 17 (va_cpy (I6 67) (I6 17) 0 0 4)) := ⟨_, rfl⟩
  obtain ⟨I8, h8⟩ : ∃ J, J = (upr I7 18 (va_cpy (I7 68) (I7 18) 0 0 4)) := ⟨_, rfl⟩
  obtain ⟨I9, h9⟩ : ∃ J, J = (upr I8 19 (va_cpy (I8 69) (I8 19) 0 0 6)) := ⟨_, rfl⟩
  obtain ⟨I10, h10⟩ : ∃ J, J = (upr I9 20 (va_cpy (I9 70) (I9 20) 0 0 6)) := ⟨_, rfl⟩
  refine ⟨I10, c0_X5_take_12_62 (vc_X5_take_12_62_0 ?_), ?_⟩
  · intro J1 k1; obtain rfl : J1 = I1 := k1.trans h1.symm
    intro J2 k2; obtain rfl : J2 = I2 := k2.trans h2.symm
    refine ⟨⟨by decide, by decide, by decide, by decide, by decide⟩, ?_⟩
    intro J3 k3; obtain rfl : J3 = I3 := k3.trans h3.symm
    refine ⟨⟨by decide, by decide, by decide, by decide, by decide⟩, ?_⟩
    intro J4 k4; obtain rfl : J4 = I4 := k4.trans h4.symm
    refine ⟨⟨by decide, by decide, by decide, by decide, by decide⟩, ?_⟩
    intro J5 k5; obtain rfl : J5 = I5 := k5.trans h5.symm
    refine ⟨⟨by decide, by decide, by decide, by decide, by decide⟩, ?_⟩
    intro J6 k6; obtain rfl : J6 = I6 := k6.trans h6.symm
    refine ⟨⟨by decide, by decide, by decide, by decide, by decide⟩, ?_⟩
    intro J7 k7; obtain rfl : J7 = I7 := k7.trans h7.symm
    refine ⟨⟨by decide, by decide, by decide, by decide, by decide⟩, ?_⟩
    intro J8 k8; obtain rfl : J8 = I8 := k8.trans h8.symm
    refine ⟨⟨by decide, by decide, by decide, by decide, by decide⟩, ?_⟩
    intro J9 k9; obtain rfl : J9 = I9 := k9.trans h9.symm
    refine ⟨⟨by decide, by decide, by decide, by decide, by decide⟩, ?_⟩
    intro J10 k10; obtain rfl : J10 = I10 := k10.trans h10.symm
    exact ⟨rfl, rfl, rfl⟩
  · have t1 : tkA 12 62 I I1 3 := by rw [h1]; exact tk_up (by decide) (tk_up (by decide) (tk_up (by decide) tk_0))
    have t2 : tkA 12 62 I I2 6 := by rw [h2]; exact tk_up (by decide) (tk_up (by decide) (tk_up (by decide) t1))
    have t3 : tk5 I (up2 (up2 I2 12 6 (I2 62 6)) 12 7 ((up2 I2 12 6 (I2 62 6)) 62 7)) 12 62 0 := tk5_0 (tk_up (by decide) (tk_up (by decide) t2))
    have t4 : tk5 I I3 12 62 1 := by rw [h3]; exact tk5_s (by decide) (by decide) t3
    have t5 : tk5 I I4 12 62 2 := by rw [h4]; exact tk5_s (by decide) (by decide) t4
    have t6 : tk5 I I5 12 62 3 := by rw [h5]; exact tk5_s (by decide) (by decide) t5
    have t7 : tk5 I I6 12 62 4 := by rw [h6]; exact tk5_s (by decide) (by decide) t6
    have t8 : tk5 I I7 12 62 5 := by rw [h7]; exact tk5_s (by decide) (by decide) t7
    have t9 : tk5 I I8 12 62 6 := by rw [h8]; exact tk5_s (by decide) (by decide) t8
    have t10 : tk5 I I9 12 62 7 := by rw [h9]; exact tk5_s (by decide) (by decide) t9
    have t11 : tk5 I I10 12 62 8 := by rw [h10]; exact tk5_s (by decide) (by decide) t10
    exact t11
theorem ce_take5_36_12 : ∃ I', q_C kX5_take [.ref 36, .ref 12] I L none I' L ∧ tk5 I I' 36 12 8 := by
  obtain ⟨I1, h1⟩ : ∃ J, J = (up2 (up2 (up2 I 36 0 (I 12 0)) 36 1 ((up2 I 36 0 (I 12 0)) 12 1)) 36 2 ((up2 (up2 I 36 0 (I 12 0)) 36 1 ((up2 I 36 0 (I 12 0)) 12 1)) 12 2)) := ⟨_, rfl⟩
  obtain ⟨I2, h2⟩ : ∃ J, J = (up2 (up2 (up2 I1 36 3 (I1 12 3)) 36 4 ((up2 I1 36 3 (I1 12 3)) 12 4)) 36 5 ((up2 (up2 I1 36 3 (I1 12 3)) 36 4 ((up2 I1 36 3 (I1 12 3)) 12 4)) 12 5)) := ⟨_, rfl⟩
  obtain ⟨I3, h3⟩ : ∃ J, J = (upr (up2 (up2 I2 36 6 (I2 12 6)) 36 7 ((up2 I2 36 6 (I2 12 6)) 12 7)) 37 (va_cpy ((up2 (up2 I2 36 6 (I2 12 6)) 36 7 ((up2 I2 36 6 (I2 12 6)) 12 7)) 13) ((up2 (up2 I2 36 6 (I2 12 6)) 36 7 ((up2 I2 36 6 (I2 12 6)) 12 7)) 37) 0 0 7)) := ⟨_, rfl⟩
  obtain ⟨I4, h4⟩ : ∃ J, J = (upr I3 38 (va_cpy (I3 14) (I3 38) 0 0 7)) := ⟨_, rfl⟩
  obtain ⟨I5, h5⟩ : ∃ J, J = (upr I4 39 (va_cpy (I4 15) (I4 39) 0 0 7)) := ⟨_, rfl⟩
  obtain ⟨I6, h6⟩ : ∃ J, J = (upr I5 40 (va_cpy (I5 16) (I5 40) 0 0 7)) := ⟨_, rfl⟩
  obtain ⟨I7, h7⟩ : ∃ J, J = (upr I6 41 (va_cpy (I6 17) (I6 41) 0 0 4)) := ⟨_, rfl⟩
  obtain ⟨I8, h8⟩ : ∃ J, J = (upr I7 42 (va_cpy (I7 18) (I7 42) 0 0 4)) := ⟨_, rfl⟩
  obtain ⟨I9, h9⟩ : ∃ J, J = (upr I8 43 (va_cpy (I8 19) (I8 43) 0 0 6)) := ⟨_, rfl⟩
  obtain ⟨I10, h10⟩ : ∃ J, J = (upr I9 44 (va_cpy (I9 20) (I9 44) 0 0 6)) := ⟨_, rfl⟩
  refine ⟨I10, c0_X5_take_36_12 (vc_X5_take_36_12_0 ?_), ?_⟩
  · intro J1 k1; obtain rfl : J1 = I1 := k1.trans h1.symm
    intro J2 k2; obtain rfl : J2 = I2 := k2.trans h2.symm
    refine ⟨⟨by decide, by decide, by decide, by decide, by decide⟩, ?_⟩
    intro J3 k3; obtain rfl : J3 = I3 := k3.trans h3.symm
    refine ⟨⟨by decide, by decide, by decide, by decide, by decide⟩, ?_⟩
    intro J4 k4; obtain rfl : J4 = I4 := k4.trans h4.symm
    refine ⟨⟨by decide, by decide, by decide, by decide, by decide⟩, ?_⟩
    intro J5 k5; obtain rfl : J5 = I5 := k5.trans h5.symm
    refine ⟨⟨by decide, by decide, by decide, by decide, by decide⟩, ?_⟩
    intro J6 k6; obtain rfl : J6 = I6 := k6.trans h6.symm
    refine ⟨⟨by decide, by decide, by decide, by decide, by decide⟩, ?_⟩
    intro J7 k7; obtain rfl : J7 = I7 := k7.trans h7.symm
    refine ⟨⟨by decide, by decide, by decide, by decide, by decide⟩, ?_⟩
    intro J8 k8; obtain rfl : J8 = I8 := k8.trans h8.symm
    refine ⟨⟨by decide, by decide, by decide, by decide, by decide⟩, ?_⟩
    intro J9 k9; obtain rfl : J9 = I9 := k9.trans h9.symm
    refine ⟨⟨by decide, by decide, by decide, by decide, by decide⟩, ?_⟩
    intro J10 k10; obtain rfl : J10 = I10 := k10.trans h10.symm
    exact ⟨rfl, rfl, rfl⟩
  · have t1 : tkA 36 12 I I1 3 := by rw [h1]; exact tk_up (by decide) (tk_up (by decide) (tk_up (by decide) tk_0))
    have t2 : tkA 36 12 I I2 6 := by rw [h2]; exact tk_up (by decide) (tk_up (by decide) (tk_up (by decide) t1))
    have t3 : tk5 I (up2 (up2 I2 36 6 (I2 12 6)) 36 7 ((up2 I2 36 6 (I2 12 6)) 12 7)) 36 12 0 := tk5_0 (tk_up (by decide) (tk_up (by decide) t2))
    have t4 : tk5 I I3 36 12 1 := by rw [h3]; exact tk5_s (by decide) (by decide) t3
    have t5 : tk5 I I4 36 12 2 := by rw [h4]; exact tk5_s (by decide) (by decide) t4
    have t6 : tk5 I I5 36 12 3 := by rw [h5]; exact tk5_s (by decide) (by decide) t5
    have t7 : tk5 I I6 36 12 4 := by rw [h6]; exact tk5_s (by decide) (by decide) t6
    have t8 : tk5 I I7 36 12 5 := by rw [h7]; exact tk5_s (by decide) (by decide) t7
    have t9 : tk5 I I8 36 12 6 := by rw [h8]; exact tk5_s (by decide) (by decide) t8
    have t10 : tk5 I I9 36 12 7 := by rw [h9]; exact tk5_s (by decide) (by decide) t9
    have t11 : tk5 I I10 36 12 8 := by rw [h10]; exact tk5_s (by decide) (by decide) t10
    exact t11
theorem ce_take5_49_12 : ∃ I', q_C kX5_take [.ref 49, .ref 12] I L none I' L ∧ tk5 I I' 49 12 8 := by
  obtain ⟨I1, h1⟩ : ∃ J, J = (up2 (up2 (up2 I 49 0 (I 12 0)) 49 1 ((up2 I 49 0 (I 12 0)) 12 1)) 49 2 ((up2 (up2 I 49 0 (I 12 0)) 49 1 ((up2 I 49 0 (I 12 0)) 12 1)) 12 2)) := ⟨_, rfl⟩
  obtain ⟨I2, h2⟩ : ∃ J, J = (up2 (up2 (up2 I1 49 3 (I1 12 3)) 49 4 ((up2 I1 49 3 (I1 12 3)) 12 4)) 49 5 ((up2 (up2 I1 49 3 (I1 12 3)) 49 4 ((up2 I1 49 3 (I1 12 3)) 12 4)) 12 5)) := ⟨_, rfl⟩
  obtain ⟨I3, h3⟩ : ∃ J, J = (upr (up2 (up2 I2 49 6 (I2 12 6)) 49 7 ((up2 I2 49 6 (I2 12 6)) 12 7)) 50 (va_cpy ((up2 (up2 I2 49 6 (I2 12 6)) 49 7 ((up2 I2 49 6 (I2 12 6)) 12 7)) 13) ((up2 (up2 I2 49 6 (I2 12 6)) 49 7 ((up2 I2 49 6 (I2 12 6)) 12 7)) 50) 0 0 7)) := ⟨_, rfl⟩
  obtain ⟨I4, h4⟩ : ∃ J, J = (upr I3 51 (va_cpy (I3 14) (I3 51) 0 0 7)) := ⟨_, rfl⟩
  obtain ⟨I5, h5⟩ : ∃ J, J = (upr I4 52 (va_cpy (I4 15) (I4 52) 0 0 7)) := ⟨_, rfl⟩
  obtain ⟨I6, h6⟩ : ∃ J, J = (upr I5 53 (va_cpy (I5 16) (I5 53) 0 0 7)) := ⟨_, rfl⟩
  obtain ⟨I7, h7⟩ : ∃ J, J = (upr I6 54 (va_cpy (I6 17) (I6 54) 0 0 4)) := ⟨_, rfl⟩
  obtain ⟨I8, h8⟩ : ∃ J, J = (upr I7 55 (va_cpy (I7 18) (I7 55) 0 0 4)) := ⟨_, rfl⟩
  obtain ⟨I9, h9⟩ : ∃ J, J = (upr I8 56 (va_cpy (I8 19) (I8 56) 0 0 6)) := ⟨_, rfl⟩
  obtain ⟨I10, h10⟩ : ∃ J, J = (upr I9 57 (va_cpy (I9 20) (I9 57) 0 0 6)) := ⟨_, rfl⟩
  refine ⟨I10, c0_X5_take_49_12 (vc_X5_take_49_12_0 ?_), ?_⟩
  · intro J1 k1; obtain rfl : J1 = I1 := k1.trans h1.symm
    intro J2 k2; obtain rfl : J2 = I2 := k2.trans h2.symm
    refine ⟨⟨by decide, by decide, by decide, by decide, by decide⟩, ?_⟩
    intro J3 k3; obtain rfl : J3 = I3 := k3.trans h3.symm
    refine ⟨⟨by decide, by decide, by decide, by decide, by decide⟩, ?_⟩
    intro J4 k4; obtain rfl : J4 = I4 := k4.trans h4.symm
    refine ⟨⟨by decide, by decide, by decide, by decide, by decide⟩, ?_⟩
    intro J5 k5; obtain rfl : J5 = I5 := k5.trans h5.symm
    refine ⟨⟨by decide, by decide, by decide, by decide, by decide⟩, ?_⟩
    intro J6 k6; obtain rfl : J6 = I6 := k6.trans h6.symm
    refine ⟨⟨by decide, by decide, by decide, by decide, by decide⟩, ?_⟩
    intro J7 k7; obtain rfl : J7 = I7 := k7.trans h7.symm
    refine ⟨⟨by decide, by decide, by decide, by decide, by decide⟩, ?_⟩
    intro J8 k8; obtain rfl : J8 = I8 := k8.trans h8.symm
    refine ⟨⟨by decide, by decide, by decide, by decide, by decide⟩, ?_⟩
    intro J9 k9; obtain rfl : J9 = I9 := k9.trans h9.symm
    refine ⟨⟨by decide, by decide, by decide, by decide, by decide⟩, ?_⟩
    intro J10 k10; obtain rfl : J10 = I10 := k10.trans h10.symm
    exact ⟨rfl, rfl, rfl⟩
  · have t1 : tkA 49 12 I I1 3 := by rw [h1]; exact tk_up (by decide) (tk_up (by decide) (tk_up (by decide) tk_0))
    have t2 : tkA 49 12 I I2 6 := by rw [h2]; exact tk_up (by decide) (tk_up (by decide) (tk_up (by decide) t1))
    have t3 : tk5 I (up2 (up2 I2 49 6 (I2 12 6)) 49 7 ((up2 I2 49 6 (I2 12 6)) 12 7)) 49 12 0 := tk5_0 (tk_up (by decide) (tk_up (by decide) t2))
    have t4 : tk5 I I3 49 12 1 := by rw [h3]; exact tk5_s (by decide) (by decide) t3
    have t5 : tk5 I I4 49 12 2 := by rw [h4]; exact tk5_s (by decide) (by decide) t4
    have t6 : tk5 I I5 49 12 3 := by rw [h5]; exact tk5_s (by decide) (by decide) t5
    have t7 : tk5 I I6 49 12 4 := by rw [h6]; exact tk5_s (by decide) (by decide) t6
    have t8 : tk5 I I7 49 12 5 := by rw [h7]; exact tk5_s (by decide) (by decide) t7
    have t9 : tk5 I I8 49 12 6 := by rw [h8]; exact tk5_s (by decide) (by decide) t8
    have t10 : tk5 I I9 49 12 7 := by rw [h9]; exact tk5_s (by decide) (by decide) t9
    have t11 : tk5 I I10 49 12 8 := by rw [h10]; exact tk5_s (by decide) (by decide) t10
    exact t11
theorem ce_take5_62_12 : ∃ I', q_C kX5_take [.ref 62, .ref 12] I L none I' L ∧ tk5 I I' 62 12 8 := by
  obtain ⟨I1, h1⟩ : ∃ J, J = (up2 (up2 (up2 I 62 0 (I 12 0)) 62 1 ((up2 I 62 0 (I 12 0)) 12 1)) 62 2 ((up2 (up2 I 62 0 (I 12 0)) 62 1 ((up2 I 62 0 (I 12 0)) 12 1)) 12 2)) := ⟨_, rfl⟩
  obtain ⟨I2, h2⟩ : ∃ J, J = (up2 (up2 (up2 I1 62 3 (I1 12 3)) 62 4 ((up2 I1 62 3 (I1 12 3)) 12 4)) 62 5 ((up2 (up2 I1 62 3 (I1 12 3)) 62 4 ((up2 I1 62 3 (I1 12 3)) 12 4)) 12 5)) := ⟨_, rfl⟩
  obtain ⟨I3, h3⟩ : ∃ J, J = (upr (up2 (up2 I2 62 6 (I2 12 6)) 62 7 ((up2 I2 62 6 (I2 12 6)) 12 7)) 63 (va_cpy ((up2 (up2 I2 62 6 (I2 12 6)) 62 7 ((up2 I2 62 6 (I2 12 6)) 12 7)) 13) ((up2 (up2 I2 62 6 (I2 12 6)) 62 7 ((up2 I2 62 6 (I2 12 6)) 12 7)) 63) 0 0 7)) := ⟨_, rfl⟩
  obtain ⟨I4, h4⟩ : ∃ J, J = (upr I3 64 (va_cpy (I3 14) (I3 64) 0 0 7)) := ⟨_, rfl⟩
  obtain ⟨I5, h5⟩ : ∃ J, J = (upr I4 65 (va_cpy (I4 15) (I4 65) 0 0 7)) := ⟨_, rfl⟩
  obtain ⟨I6, h6⟩ : ∃ J, J = (upr I5 66 (va_cpy (I5 16) (I5 66) 0 0 7)) := ⟨_, rfl⟩
  obtain ⟨I7, h7⟩ : ∃ J, J = (upr I6 67 (va_cpy (I6 17) (I6 67) 0 0 4)) := ⟨_, rfl⟩
  obtain ⟨I8, h8⟩ : ∃ J, J = (upr I7 68 (va_cpy (I7 18) (I7 68) 0 0 4)) := ⟨_, rfl⟩
  obtain ⟨I9, h9⟩ : ∃ J, J = (upr I8 69 (va_cpy (I8 19) (I8 69) 0 0 6)) := ⟨_, rfl⟩
  obtain ⟨I10, h10⟩ : ∃ J, J = (upr I9 70 (va_cpy (I9 20) (I9 70) 0 0 6)) := ⟨_, rfl⟩
  refine ⟨I10, c0_X5_take_62_12 (vc_X5_take_62_12_0 ?_), ?_⟩
  · intro J1 k1; obtain rfl : J1 = I1 := k1.trans h1.symm
    intro J2 k2; obtain rfl : J2 = I2 := k2.trans h2.symm
    refine ⟨⟨by decide, by decide, by decide, by decide, by decide⟩, ?_⟩
    intro J3 k3; obtain rfl : J3 = I3 := k3.trans h3.symm
    refine ⟨⟨by decide, by decide, by decide, by decide, by decide⟩, ?_⟩
    intro J4 k4; obtain rfl : J4 = I4 := k4.trans h4.symm
    refine ⟨⟨by decide, by decide, by decide, by decide, by decide⟩, ?_⟩
    intro J5 k5; obtain rfl : J5 = I5 := k5.trans h5.symm
    refine ⟨⟨by decide, by decide, by decide, by decide, by decide⟩, ?_⟩
    intro J6 k6; obtain rfl : J6 = I6 := k6.trans h6.symm
    refine ⟨⟨by decide, by decide, by decide, by decide, by decide⟩, ?_⟩
    intro J7 k7; obtain rfl : J7 = I7 := k7.trans h7.symm
    refine ⟨⟨by decide, by decide, by decide, by decide, by decide⟩, ?_⟩
    intro J8 k8; obtain rfl : J8 = I8 := k8.trans h8.symm
    refine ⟨⟨by decide, by decide, by decide, by decide, by decide⟩, ?_⟩
    intro J9 k9; obtain rfl : J9 = I9 := k9.trans h9.symm
    refine ⟨⟨by decide, by decide, by decide, by decide, by decide⟩, ?_⟩
    intro J10 k10; obtain rfl : J10 = I10 := k10.trans h10.symm
    exact ⟨rfl, rfl, rfl⟩
  · have t1 : tkA 62 12 I I1 3 := by rw [h1]; exact tk_up (by decide) (tk_up (by decide) (tk_up (by decide) tk_0))
    have t2 : tkA 62 12 I I2 6 := by rw [h2]; exact tk_up (by decide) (tk_up (by decide) (tk_up (by decide) t1))
    have t3 : tk5 I (up2 (up2 I2 62 6 (I2 12 6)) 62 7 ((up2 I2 62 6 (I2 12 6)) 12 7)) 62 12 0 := tk5_0 (tk_up (by decide) (tk_up (by decide) t2))
    have t4 : tk5 I I3 62 12 1 := by rw [h3]; exact tk5_s (by decide) (by decide) t3
    have t5 : tk5 I I4 62 12 2 := by rw [h4]; exact tk5_s (by decide) (by decide) t4
    have t6 : tk5 I I5 62 12 3 := by rw [h5]; exact tk5_s (by decide) (by decide) t5
    have t7 : tk5 I I6 62 12 4 := by rw [h6]; exact tk5_s (by decide) (by decide) t6
    have t8 : tk5 I I7 62 12 5 := by rw [h7]; exact tk5_s (by decide) (by decide) t7
    have t9 : tk5 I I8 62 12 6 := by rw [h8]; exact tk5_s (by decide) (by decide) t8
    have t10 : tk5 I I9 62 12 7 := by rw [h9]; exact tk5_s (by decide) (by decide) t9
    have t11 : tk5 I I10 62 12 8 := by rw [h10]; exact tk5_s (by decide) (by decide) t10
    exact t11
theorem ce_take5_12_3 : ∃ I', q_C kX5_take [.ref 12, .ref 3] I L none I' L ∧ tk5 I I' 12 3 8 := by
  obtain ⟨I1, h1⟩ : ∃ J, J = (up2 (up2 (up2 I 12 0 (I 3 0)) 12 1 ((up2 I 12 0 (I 3 0)) 3 1)) 12 2 ((up2 (up2 I 12 0 (I 3 0)) 12 1 ((up2 I 12 0 (I 3 0)) 3 1)) 3 2)) := ⟨_, rfl⟩
  obtain ⟨I2, h2⟩ : ∃ J, J = (up2 (up2 (up2 I1 12 3 (I1 3 3)) 12 4 ((up2 I1 12 3 (I1 3 3)) 3 4)) 12 5 ((up2 (up2 I1 12 3 (I1 3 3)) 12 4 ((up2 I1 12 3 (I1 3 3)) 3 4)) 3 5)) := ⟨_, rfl⟩
  obtain ⟨I3, h3⟩ : ∃ J, J = (upr (up2 (up2 I2 12 6 (I2 3 6)) 12 7 ((up2 I2 12 6 (I2 3 6)) 3 7)) 13 (va_cpy ((up2 (up2 I2 12 6 (I2 3 6)) 12 7 ((up2 I2 12 6 (I2 3 6)) 3 7)) 4) ((up2 (up2 I2 12 6 (I2 3 6)) 12 7 ((up2 I2 12 6 (I2 3 6)) 3 7)) 13) 0 0 7)) := ⟨_, rfl⟩
  obtain ⟨I4, h4⟩ : ∃ J, J = (upr I3 14 (va_cpy (I3 5) (I3 14) 0 0 7)) := ⟨_, rfl⟩
  obtain ⟨I5, h5⟩ : ∃ J, J = (upr I4 15 (va_cpy (I4 6) (I4 15) 0 0 7)) := ⟨_, rfl⟩
  obtain ⟨I6, h6⟩ : ∃ J, J = (upr I5 16 (va_cpy (I5 7) (I5 16) 0 0 7)) := ⟨_, rfl⟩
  obtain ⟨I7, h7⟩ : ∃ J, J = (upr I6 17 (va_cpy (I6 8) (I6 17) 0 0 4)) := ⟨_, rfl⟩
  obtain ⟨I8, h8⟩ : ∃ J, J = (upr I7 18 (va_cpy (I7 9) (I7 18) 0 0 4)) := ⟨_, rfl⟩
  obtain ⟨I9, h9⟩ : ∃ J, J = (upr I8 19 (va_cpy (I8 10) (I8 19) 0 0 6)) := ⟨_, rfl⟩
  obtain ⟨I10, h10⟩ : ∃ J, J = (upr I9 20 (va_cpy (I9 11) (I9 20) 0 0 6)) := ⟨_, rfl⟩
  refine ⟨I10, c0_X5_take_12_3 (vc_X5_take_12_3_0 ?_), ?_⟩
  · intro J1 k1; obtain rfl : J1 = I1 := k1.trans h1.symm
    intro J2 k2; obtain rfl : J2 = I2 := k2.trans h2.symm
    refine ⟨⟨by decide, by decide, by decide, by decide, by decide⟩, ?_⟩
    intro J3 k3; obtain rfl : J3 = I3 := k3.trans h3.symm
    refine ⟨⟨by decide, by decide, by decide, by decide, by decide⟩, ?_⟩
    intro J4 k4; obtain rfl : J4 = I4 := k4.trans h4.symm
    refine ⟨⟨by decide, by decide, by decide, by decide, by decide⟩, ?_⟩
    intro J5 k5; obtain rfl : J5 = I5 := k5.trans h5.symm
    refine ⟨⟨by decide, by decide, by decide, by decide, by decide⟩, ?_⟩
    intro J6 k6; obtain rfl : J6 = I6 := k6.trans h6.symm
    refine ⟨⟨by decide, by decide, by decide, by decide, by decide⟩, ?_⟩
    intro J7 k7; obtain rfl : J7 = I7 := k7.trans h7.symm
    refine ⟨⟨by decide, by decide, by decide, by decide, by decide⟩, ?_⟩
    intro J8 k8; obtain rfl : J8 = I8 := k8.trans h8.symm
    refine ⟨⟨by decide, by decide, by decide, by decide, by decide⟩, ?_⟩
    intro J9 k9; obtain rfl : J9 = I9 := k9.trans h9.symm
    refine ⟨⟨by decide, by decide, by decide, by decide, by decide⟩, ?_⟩
    intro J10 k10; obtain rfl : J10 = I10 := k10.trans h10.symm
    exact ⟨rfl, rfl, rfl⟩
  · have t1 : tkA 12 3 I I1 3 := by rw [h1]; exact tk_up (by decide) (tk_up (by decide) (tk_up (by decide) tk_0))
    have t2 : tkA 12 3 I I2 6 := by rw [h2]; exact tk_up (by decide) (tk_up (by decide) (tk_up (by decide) t1))
    have t3 : tk5 I (up2 (up2 I2 12 6 (I2 3 6)) 12 7 ((up2 I2 12 6 (I2 3 6)) 3 7)) 12 3 0 := tk5_0 (tk_up (by decide) (tk_up (by decide) t2))
    have t4 : tk5 I I3 12 3 1 := by rw [h3]; exact tk5_s (by decide) (by decide) t3
    have t5 : tk5 I I4 12 3 2 := by rw [h4]; exact tk5_s (by decide) (by decide) t4
    have t6 : tk5 I I5 12 3 3 := by rw [h5]; exact tk5_s (by decide) (by decide) t5
    have t7 : tk5 I I6 12 3 4 := by rw [h6]; exact tk5_s (by decide) (by decide) t6
    have t8 : tk5 I I7 12 3 5 := by rw [h7]; exact tk5_s (by decide) (by decide) t7
    have t9 : tk5 I I8 12 3 6 := by rw [h8]; exact tk5_s (by decide) (by decide) t8
    have t10 : tk5 I I9 12 3 7 := by rw [h9]; exact tk5_s (by decide) (by decide) t9
    have t11 : tk5 I I10 12 3 8 := by rw [h10]; exact tk5_s (by decide) (by decide) t10
    exact t11
theorem ce_take0_21_45 : ∃ I', q_C kX0_take [.ref 21, .ref 45] I L none I' L ∧ tk0 I I' 21 45 3 := by
  obtain ⟨I1, h1⟩ : ∃ J, J = (upr (up2 I 21 0 (I 45 0)) 22 (va_cpy ((up2 I 21 0 (I 45 0)) 46) ((up2 I 21 0 (I 45 0)) 22) 0 0 30)) := ⟨_, rfl⟩
  obtain ⟨I2, h2⟩ : ∃ J, J = (upr I1 23 (va_cpy (I1 47) (I1 23) 0 0 30)) := ⟨_, rfl⟩
  obtain ⟨I3, h3⟩ : ∃ J, J = (upr I2 24 (va_cpy (I2 48) (I2 24) 0 0 30)) := ⟨_, rfl⟩
  refine ⟨I3, c0_X0_take_21_45 (vc_X0_take_21_45_0 ?_), ?_⟩
  · refine ⟨⟨by decide, by decide, by decide, by decide, by decide⟩, ?_⟩
    intro J1 k1; obtain rfl : J1 = I1 := k1.trans h1.symm
    refine ⟨⟨by decide, by decide, by decide, by decide, by decide⟩, ?_⟩
    intro J2 k2; obtain rfl : J2 = I2 := k2.trans h2.symm
    refine ⟨⟨by decide, by decide, by decide, by decide, by decide⟩, ?_⟩
    intro J3 k3; obtain rfl : J3 = I3 := k3.trans h3.symm
    exact ⟨rfl, rfl, rfl⟩
  · have t0 : tk0 I (up2 I 21 0 (I 45 0)) 21 45 0 := tk0_0
    have t1 : tk0 I I1 21 45 1 := by rw [h1]; exact tk0_s (by decide) (by decide) t0
    have t2 : tk0 I I2 21 45 2 := by rw [h2]; exact tk0_s (by decide) (by decide) t1
    have t3 : tk0 I I3 21 45 3 := by rw [h3]; exact tk0_s (by decide) (by decide) t2
    exact t3
theorem ce_take0_21_58 : ∃ I', q_C kX0_take [.ref 21, .ref 58] I L none I' L ∧ tk0 I I' 21 58 3 := by
  obtain ⟨I1, h1⟩ : ∃ J, J = (upr (up2 I 21 0 (I 58 0)) 22 (va_cpy ((up2 I 21 0 (I 58 0)) 59) ((up2 I 21 0 (I 58 0)) 22) 0 0 30)) := ⟨_, rfl⟩
  obtain ⟨I2, h2⟩ : ∃ J, J = (upr I1 23 (va_cpy (I1 60) (I1 23) 0 0 30)) := ⟨_, rfl⟩
  obtain ⟨I3, h3⟩ : ∃ J, J = (upr I2 24 (va_cpy (I2 61) (I2 24) 0 0 30)) := ⟨_, rfl⟩
  refine ⟨I3, c0_X0_take_21_58 (vc_X0_take_21_58_0 ?_), ?_⟩
  · refine ⟨⟨by decide, by decide, by decide, by decide, by decide⟩, ?_⟩
    intro J1 k1; obtain rfl : J1 = I1 := k1.trans h1.symm
    refine ⟨⟨by decide, by decide, by decide, by decide, by decide⟩, ?_⟩
    intro J2 k2; obtain rfl : J2 = I2 := k2.trans h2.symm
    refine ⟨⟨by decide, by decide, by decide, by decide, by decide⟩, ?_⟩
    intro J3 k3; obtain rfl : J3 = I3 := k3.trans h3.symm
    exact ⟨rfl, rfl, rfl⟩
  · have t0 : tk0 I (up2 I 21 0 (I 58 0)) 21 58 0 := tk0_0
    have t1 : tk0 I I1 21 58 1 := by rw [h1]; exact tk0_s (by decide) (by decide) t0
    have t2 : tk0 I I2 21 58 2 := by rw [h2]; exact tk0_s (by decide) (by decide) t1
    have t3 : tk0 I I3 21 58 3 := by rw [h3]; exact tk0_s (by decide) (by decide) t2
    exact t3
theorem ce_take0_21_71 : ∃ I', q_C kX0_take [.ref 21, .ref 71] I L none I' L ∧ tk0 I I' 21 71 3 := by
  obtain ⟨I1, h1⟩ : ∃ J, J = (upr (up2 I 21 0 (I 71 0)) 22 (va_cpy ((up2 I 21 0 (I 71 0)) 72) ((up2 I 21 0 (I 71 0)) 22) 0 0 30)) := ⟨_, rfl⟩
  obtain ⟨I2, h2⟩ : ∃ J, J = (upr I1 23 (va_cpy (I1 73) (I1 23) 0 0 30)) := ⟨_, rfl⟩
  obtain ⟨I3, h3⟩ : ∃ J, J = (upr I2 24 (va_cpy (I2 74) (I2 24) 0 0 30)) := ⟨_, rfl⟩
  refine ⟨I3, c0_X0_take_21_71 (vc_X0_take_21_71_0 ?_), ?_⟩
  · refine ⟨⟨by decide, by decide, by decide, by decide, by decide⟩, ?_⟩
    intro J1 k1; obtain rfl : J1 = I1 := k1.trans h1.symm
    refine ⟨⟨by decide, by decide, by decide, by decide, by decide⟩, ?_⟩
    intro J2 k2; obtain rfl : J2 = I2 := k2.trans h2.symm
    refine ⟨⟨by decide, by decide, by decide, by decide, by decide⟩, ?_⟩
    intro J3 k3; obtain rfl : J3 = I3 := k3.trans h3.symm
    exact ⟨rfl, rfl, rfl⟩
  · have t0 : tk0 I (up2 I 21 0 (I 71 0)) 21 71 0 := tk0_0
    have t1 : tk0 I I1 21 71 1 := by rw [h1]; exact tk0_s (by decide) (by decide) t0
    have t2 : tk0 I I2 21 71 2 := by rw [h2]; exact tk0_s (by decide) (by decide) t1
    have t3 : tk0 I I3 21 71 3 := by rw [h3]; exact tk0_s (by decide) (by decide) t2
    exact t3
theorem ce_take0_45_21 : ∃ I', q_C kX0_take [.ref 45, .ref 21] I L none I' L ∧ tk0 I I' 45 21 3 := by
  obtain ⟨I1, h1⟩ : ∃ J, J = (upr (up2 I 45 0 (I 21 0)) 46 (va_cpy ((up2 I 45 0 (I 21 0)) 22) ((up2 I 45 0 (I 21 0)) 46) 0 0 30)) := ⟨_, rfl⟩
  obtain ⟨I2, h2⟩ : ∃ J, J = (upr I1 47 (va_cpy (I1 23) (I1 47) 0 0 30)) := ⟨_, rfl⟩
  obtain ⟨I3, h3⟩ : ∃ J, J = (upr I2 48 (va_cpy (I2 24) (I2 48) 0 0 30)) := ⟨_, rfl⟩
  refine ⟨I3, c0_X0_take_45_21 (vc_X0_take_45_21_0 ?_), ?_⟩
  · refine ⟨⟨by decide, by decide, by decide, by decide, by decide⟩, ?_⟩
    intro J1 k1; obtain rfl : J1 = I1 := k1.trans h1.symm
    refine ⟨⟨by decide, by decide, by decide, by decide, by decide⟩, ?_⟩
    intro J2 k2; obtain rfl : J2 = I2 := k2.trans h2.symm
    refine ⟨⟨by decide, by decide, by decide, by decide, by decide⟩, ?_⟩
    intro J3 k3; obtain rfl : J3 = I3 := k3.trans h3.symm
    exact ⟨rfl, rfl, rfl⟩
  · have t0 : tk0 I (up2 I 45 0 (I 21 0)) 45 21 0 := tk0_0
    have t1 : tk0 I I1 45 21 1 := by rw [h1]; exact tk0_s (by decide) (by decide) t0
    have t2 : tk0 I I2 45 21 2 := by rw [h2]; exact tk0_s (by decide) (by decide) t1
    have t3 : tk0 I I3 45 21 3 := by rw [h3]; exact tk0_s (by decide) (by decide) t2
    exact t3
theorem ce_take0_58_21 : ∃ I', q_C kX0_take [.ref 58, .ref 21] I L none I' L ∧ tk0 I I' 58 21 3 := by
  obtain ⟨I1, h1⟩ : ∃ J, J = (upr (up2 I 58 0 (I 21 0)) 59 (va_cpy ((up2 I 58 0 (I 21 0)) 22) ((up2 I 58 0 (I 21 0)) 59) 0 0 30)) := ⟨_, rfl⟩
  obtain ⟨I2, h2⟩ : ∃ J, J = (upr I1 60 (va_cpy (I1 23) (I1 60) 0 0 30)) := ⟨_, rfl⟩
  obtain ⟨I3, h3⟩ : ∃ J, J = (upr I2 61 (va_cpy (I2 24) (I2 61) 0 0 30)) := ⟨_, rfl⟩
  refine ⟨I3, c0_X0_take_58_21 (vc_X0_take_58_21_0 ?_), ?_⟩
  · refine ⟨⟨by decide, by decide, by decide, by decide, by decide⟩, ?_⟩
    intro J1 k1; obtain rfl : J1 = I1 := k1.trans h1.symm
    refine ⟨⟨by decide, by decide, by decide, by decide, by decide⟩, ?_⟩
    intro J2 k2; obtain rfl : J2 = I2 := k2.trans h2.symm
    refine ⟨⟨by decide, by decide, by decide, by decide, by decide⟩, ?_⟩
    intro J3 k3; obtain rfl : J3 = I3 := k3.trans h3.symm
    exact ⟨rfl, rfl, rfl⟩
  · have t0 : tk0 I (up2 I 58 0 (I 21 0)) 58 21 0 := tk0_0
    have t1 : tk0 I I1 58 21 1 := by rw [h1]; exact tk0_s (by decide) (by decide) t0
    have t2 : tk0 I I2 58 21 2 := by rw [h2]; exact tk0_s (by decide) (by decide) t1
    have t3 : tk0 I I3 58 21 3 := by rw [h3]; exact tk0_s (by decide) (by decide) t2
    exact t3
theorem ce_take0_71_21 : ∃ I', q_C kX0_take [.ref 71, .ref 21] I L none I' L ∧ tk0 I I' 71 21 3 := by
  obtain ⟨I1, h1⟩ : ∃ J, J = (upr (up2 I 71 0 (I 21 0)) 72 (va_cpy ((up2 I 71 0 (I 21 0)) 22) ((up2 I 71 0 (I 21 0)) 72) 0 0 30)) := ⟨_, rfl⟩
  obtain ⟨I2, h2⟩ : ∃ J, J = (upr I1 73 (va_cpy (I1 23) (I1 73) 0 0 30)) := ⟨_, rfl⟩
  obtain ⟨I3, h3⟩ : ∃ J, J = (upr I2 74 (va_cpy (I2 24) (I2 74) 0 0 30)) := ⟨_, rfl⟩
  refine ⟨I3, c0_X0_take_71_21 (vc_X0_take_71_21_0 ?_), ?_⟩
  · refine ⟨⟨by decide, by decide, by decide, by decide, by decide⟩, ?_⟩
    intro J1 k1; obtain rfl : J1 = I1 := k1.trans h1.symm
    refine ⟨⟨by decide, by decide, by decide, by decide, by decide⟩, ?_⟩
    intro J2 k2; obtain rfl : J2 = I2 := k2.trans h2.symm
    refine ⟨⟨by decide, by decide, by decide, by decide, by decide⟩, ?_⟩
    intro J3 k3; obtain rfl : J3 = I3 := k3.trans h3.symm
    exact ⟨rfl, rfl, rfl⟩
  · have t0 : tk0 I (up2 I 71 0 (I 21 0)) 71 21 0 := tk0_0
    have t1 : tk0 I I1 71 21 1 := by rw [h1]; exact tk0_s (by decide) (by decide) t0
    have t2 : tk0 I I2 71 21 2 := by rw [h2]; exact tk0_s (by decide) (by decide) t1
    have t3 : tk0 I I3 71 21 3 := by rw [h3]; exact tk0_s (by decide) (by decide) t2
    exact t3
end TK
theorem lnT_7 {j : Nat} (h : 1 ≤ j ∧ j ≤ 4) : lnT j = 7 := if_pos h.2
theorem lnT_4 {j : Nat} (h : 5 ≤ j ∧ j ≤ 6) : lnT j = 4 := by unfold lnT; rw [if_neg (by omega), if_pos (by omega)]
theorem lnT_6 {j : Nat} (h : 7 ≤ j) : lnT j = 6 := by unfold lnT; rw [if_neg (by omega), if_neg (by omega)]
theorem RC_tk {A : Nt} {I J K : Nat → Nat → Int32} {p q p' q' : Nat} (hV : NV A) (h5 : tk5 I J p q 8) (h0 : tk0 J K p' q' 3) (hd : p + 8 < p') (hq : q' + 3 < p ∨ p + 8 < q') (hR : RC A I q q') : RC A K p p' := by
  obtain ⟨⟨n0, n1, n2, n3, n4, n5, n6, n7, n8⟩, -⟩ := hV
  have kp : ∀ j k, j ≤ 8 → K (p + j) k = J (p + j) k := fun j k hj => h0.2.2 _ k (by omega)
  have c0 : ∀ k, k < 8 → K p k = I q k := fun k hk => (kp 0 k (by omega)).trans (h5.1 k hk)
  have cj : ∀ j k, 1 ≤ j → j ≤ 8 → k < lnT j → K (p + j) k = I (q + j) k := fun j k h1 h2 hk => (kp j k h2).trans (h5.2.1 j h1 h2 k hk)
  have ca : ∀ j k, 1 ≤ j → j ≤ 3 → k < 30 → K (p' + j) k = I (q' + j) k := fun j k h1 h2 hk => (h0.2.1 j h1 h2 k hk).trans (h5.2.2 _ k (by omega))
  obtain ⟨⟨a1, a2, a3, a4, a5, a6, a7, a8⟩, b, c, d, e, f⟩ := hR
  refine ⟨⟨(c0 0 (by omega)).trans a1, (c0 1 (by omega)).trans a2, (c0 2 (by omega)).trans a3, (c0 3 (by omega)).trans a4, (c0 4 (by omega)).trans a5, (c0 5 (by omega)).trans a6, (c0 6 (by omega)).trans a7, (c0 7 (by omega)).trans a8⟩, fun i hi => ?_, fun i hi => ?_, fun i hi => ?_, ?_, fun i hi => ?_⟩
  · have x := b i hi
    exact ⟨(cj 1 i (by omega) (by omega) (by rw [lnT_7 (by omega)]; omega)).trans x.1, (cj 2 i (by omega) (by omega) (by rw [lnT_7 (by omega)]; omega)).trans x.2.1, (cj 3 i (by omega) (by omega) (by rw [lnT_7 (by omega)]; omega)).trans x.2.2.1, (cj 4 i (by omega) (by omega) (by rw [lnT_7 (by omega)]; omega)).trans x.2.2.2⟩
  · have x := c i hi
    exact ⟨(cj 5 i (by omega) (by omega) (by rw [lnT_4 (by omega)]; omega)).trans x.1, (cj 6 i (by omega) (by omega) (by rw [lnT_4 (by omega)]; omega)).trans x.2⟩
  · have x := d i hi
    exact ⟨(cj 7 i (by omega) (by omega) (by rw [lnT_6 (by omega)]; omega)).trans x.1, (cj 8 i (by omega) (by omega) (by rw [lnT_6 (by omega)]; omega)).trans x.2⟩
  · rw [h0.1, h5.2.2 _ _ (by omega)]; exact e
  · have x := f i hi
    exact ⟨(ca 1 i (by omega) (by omega) (by omega)).trans x.1, (ca 2 i (by omega) (by omega) (by omega)).trans x.2.1, (ca 3 i (by omega) (by omega) (by omega)).trans x.2.2⟩
theorem RM_tk {A : Nt} {I I' : Nat → Nat → Int32} {p o p' o' : Nat} (hV : NV A) (h : ∀ i, i < 104 → I' p' (o' + i) = I p (o + i)) (hR : RM A I p o) : RM A I' p' o' := by
  obtain ⟨⟨n0, n1, n2, n3, n4, n5, n6, n7, n8⟩, -⟩ := hV
  obtain ⟨a, b, c, d, e, f⟩ := hR
  refine ⟨fun k hk => (h k (by omega)).trans (a k hk), fun i hi => ?_, fun i hi => ?_, fun i hi => ?_, fun i hi => ?_, fun i hi => ?_⟩
  · have x := b i hi
    rw [Nat.add_assoc] at x
    rw [Nat.add_assoc o 10, Nat.add_assoc o 11] at x
    rw [Nat.add_assoc, h _ (by omega), Nat.add_assoc o' 10, h _ (by omega), Nat.add_assoc o' 11, h _ (by omega)]
    exact x
  · have x := c i hi
    rw [Nat.add_assoc, Nat.add_assoc o 31] at x
    rw [Nat.add_assoc, h _ (by omega), Nat.add_assoc o' 31, h _ (by omega)]
    exact x
  · have x := d i hi
    rw [Nat.add_assoc, Nat.add_assoc o 55] at x
    rw [Nat.add_assoc, h _ (by omega), Nat.add_assoc o' 55, h _ (by omega)]
    exact x
  · have x := e i hi
    rw [Nat.add_assoc, Nat.add_assoc o 63] at x
    rw [Nat.add_assoc, h _ (by omega), Nat.add_assoc o' 63, h _ (by omega)]
    exact x
  · have x := f i hi
    rw [Nat.add_assoc] at x
    rw [Nat.add_assoc, h _ (by omega)]
    exact x
/-- both copies -/
def tkB (I K : Nat → Nat → Int32) (p q p' q' : Nat) : Prop := ∃ J, tk5 I J p q 8 ∧ tk0 J K p' q' 3
theorem tkB.fr {I K : Nat → Nat → Int32} {p q p' q' : Nat} (h : tkB I K p q p' q') : ∀ a k, (a < p ∨ p + 8 < a) → (a < p' ∨ p' + 3 < a) → K a k = I a k := by
  obtain ⟨J, h5, h0⟩ := h
  exact fun a k q1 q2 => (h0.2.2 a k q2).trans (h5.2.2 a k q1)
def imU (Z : St) (k : Nat) : St := (Z.1, Z.2.1, Z.2.2.1, (fun j => if j = k then some Z.1 else Z.2.2.2.1 j), Z.2.2.2.2)
theorem Bc_im {Z : St} {I K : Nat → Nat → Int32} {L : Nat → Nat → Int64} {k : Nat} (hk : k < 3) (hB : Bc Z I L) (ht : tkB I K (36 + 13 * k) 12 (45 + 13 * k) 21) : Bc (imU Z k) (up2 K 35 k 1) L := by
  have hf := ht.fr
  obtain ⟨⟨b1, b2⟩, ⟨b3, b4, b5⟩, ⟨b6, b7⟩, b8, b9⟩ := hB
  have g : ∀ a j, (a < 36 + 13 * k ∨ 44 + 13 * k < a) → (a < 45 + 13 * k ∨ 48 + 13 * k < a) → a ≠ 35 → up2 K 35 k 1 a j = I a j := fun a j q1 q2 q3 => by rw [up2_p q3]; exact hf a j (by omega) (by omega)
  refine ⟨⟨RC_of2 (fun a j q => g a j (by omega) (by omega) (by omega)) b1, b2⟩, ⟨b3, by rw [g 0 1 (by omega) (by omega) (by omega)]; exact b4, fun j hj => by rw [g 1 j (by omega) (by omega) (by omega)]; exact b5 j hj⟩, ⟨by rw [g 0 2 (by omega) (by omega) (by omega)]; exact b6, by rw [g 0 3 (by omega) (by omega) (by omega)]; exact b7⟩, fun j hj => ?_, fun s hs => ⟨fun z => ?_, fun w n f z => ?_⟩⟩
  · show ((if j = k then some Z.1 else Z.2.2.2.1 j) = none → _) ∧ (∀ B, (if j = k then some Z.1 else Z.2.2.2.1 j) = some B → _)
    by_cases e : j = k
    · subst e
      rw [if_pos rfl]
      refine ⟨fun z => (by cases z), fun B z => ?_⟩
      obtain rfl : Z.1 = B := Option.some.inj z
      obtain ⟨J, h5, h0⟩ := ht
      refine ⟨up2_s _ _ _ _, RC_of2 (fun a i q => up2_p (by omega)) (RC_tk b2 h5 h0 (by omega) (by omega) b1), b2⟩
    · rw [if_neg e]
      refine ⟨fun z => by rw [up2_k e, hf 35 j (by omega) (by omega)]; exact (b8 j hj).1 z, fun B z => ?_⟩
      obtain ⟨c1, c2, c3⟩ := (b8 j hj).2 B z
      exact ⟨by rw [up2_k e, hf 35 j (by omega) (by omega)]; exact c1, RC_of2 (fun a i q => g a i (by omega) (by omega) (by omega)) c2, c3⟩
  · rw [g 26 s (by omega) (by omega) (by omega)]; exact (b9 s hs).1 z
  · rw [g 26 s (by omega) (by omega) (by omega), g 27 s (by omega) (by omega) (by omega)]; exact (b9 s hs).2 w n f z
theorem q_image (Z : St) (x : Int32) : ∃ Z' v, Q2 Z Z' kX11_image kX12_image [.int x] (.int v) := by
  by_cases hx : ib 0 2 x
  · refine ⟨Z, -2, QC_q fun I L hr => ⟨I, c0_X11_image (vc_X11_image_0 ⟨fun _ => ⟨rfl, rfl, rfl⟩, fun z => ⟨fun z2 => ?_, fun _ => ⟨rfl, rfl, rfl⟩⟩⟩), Fq.rf, hr.2.1, hr.2.2⟩, QM_q fun I L hr => ⟨I, c0_X12_image (vc_X12_image_0 ⟨_, ct_inI x 0 2, g0p hx ⟨rfl, rfl, rfl⟩⟩), Mq.rf⟩⟩
    rw [t_lt, show (3 : Int32).toInt = 3 by decide] at z2
    rcases hx with q | q
    · exact absurd q z
    · rw [t_lt, show (2 : Int32).toInt = 2 by decide] at q
      omega
  obtain ⟨k, -, hk, hxk⟩ := xIn (a := 0) (b := 2) (by decide) (by decide) hx
  refine ⟨imU Z k, 0, QC_d fun I L hr => ?_, QM_d fun I L hr => ?_⟩
  · have key : ∀ I', Bc (imU Z k) I' L → (∀ a j, (a < 12 ∨ 74 < a) → I' a j = I a j) → RelC (imU Z k) I' L ∧ ∀ a j, 95 < a → I' a j = I a j := fun I' hB hf => ⟨⟨hB, Se_of (fun a j q => hf a j (by omega)) hr.2.1, Wo_of (fun j => hf 89 j (by omega)) hr.2.2⟩, fun a j q => hf a j (by omega)⟩
    have hc : k = 0 ∨ k = 1 ∨ k = 2 := by omega
    rcases hc with h | h | h <;> subst h <;> subst hxk
    · obtain ⟨I1, c1, h1⟩ := ce_take5_36_12 (I := I) (L := L)
      obtain ⟨I2, c2, h2⟩ := ce_take0_45_21 (I := I1) (L := L)
      have ht : tkB I I2 (36 + 13 * 0) 12 (45 + 13 * 0) 21 := ⟨I1, h1, h2⟩
      have hin : vp_in (nI 0) 3 := u_in (by decide) (by decide)
      refine ⟨up2 I2 35 0 1, c0_X11_image (vc_X11_image_0 ⟨fun z => absurd z (by decide), fun _ => ⟨fun _ => ⟨hin, fun _ => ⟨I1, c1, hin, fun _ => ⟨I2, c2, hin, rfl, rfl, rfl⟩, fun z => absurd z (by decide), fun z => absurd z (by decide)⟩, fun z => absurd z (by decide), fun z => absurd z (by decide)⟩, fun z => absurd (by decide) z⟩⟩), key _ (Bc_im (by decide) hr.1 ht) (fun a j q => by rw [up2_p (by omega)]; exact ht.fr a j (by omega) (by omega))⟩
    · obtain ⟨I1, c1, h1⟩ := ce_take5_49_12 (I := I) (L := L)
      obtain ⟨I2, c2, h2⟩ := ce_take0_58_21 (I := I1) (L := L)
      have ht : tkB I I2 (36 + 13 * 1) 12 (45 + 13 * 1) 21 := ⟨I1, h1, h2⟩
      have hin : vp_in (nI 1) 3 := u_in (by decide) (by decide)
      refine ⟨up2 I2 35 1 1, c0_X11_image (vc_X11_image_0 ⟨fun z => absurd z (by decide), fun _ => ⟨fun _ => ⟨hin, fun z => absurd z (by decide), fun _ => ⟨I1, c1, hin, fun z => absurd z (by decide), fun _ => ⟨I2, c2, hin, rfl, rfl, rfl⟩, fun z => absurd z (by decide)⟩, fun z => absurd z (by decide)⟩, fun z => absurd (by decide) z⟩⟩), key _ (Bc_im (by decide) hr.1 ht) (fun a j q => by rw [up2_p (by omega)]; exact ht.fr a j (by omega) (by omega))⟩
    · obtain ⟨I1, c1, h1⟩ := ce_take5_62_12 (I := I) (L := L)
      obtain ⟨I2, c2, h2⟩ := ce_take0_71_21 (I := I1) (L := L)
      have ht : tkB I I2 (36 + 13 * 2) 12 (45 + 13 * 2) 21 := ⟨I1, h1, h2⟩
      have hin : vp_in (nI 2) 3 := u_in (by decide) (by decide)
      refine ⟨up2 I2 35 2 1, c0_X11_image (vc_X11_image_0 ⟨fun z => absurd z (by decide), fun _ => ⟨fun _ => ⟨hin, fun z => absurd z (by decide), fun z => absurd z (by decide), fun _ => ⟨I1, c1, hin, fun z => absurd z (by decide), fun z => absurd z (by decide), fun _ => ⟨I2, c2, hin, rfl, rfl, rfl⟩⟩⟩, fun z => absurd (by decide) z⟩⟩), key _ (Bc_im (by decide) hr.1 ht) (fun a j q => by rw [up2_p (by omega)]; exact ht.fr a j (by omega) (by omega))⟩
  · have h := mloop (V := fun i I' J => v_X12_image_17 (some (.int 0)) I' L J L (nI k) (nI i)) (Inv := fun i J => (∀ j, j < i → J 98 (104 * k + j) = I 97 j) ∧ ∀ a j, (a ≠ 98 ∨ j < 104 * k ∨ 104 * k + 104 ≤ j) → J a j = I a j) (n := 104) (Q := fun I' => ∃ J, I' = up2 J 99 k 1 ∧ (∀ j, j < 104 → J 98 (104 * k + j) = I 97 j) ∧ ∀ a j, (a ≠ 98 ∨ j < 104 * k ∨ 104 * k + 104 ≤ j) → J a j = I a j) ?_ ?_ I ⟨fun j hj => absurd hj (by omega), fun _ _ _ => rfl⟩
    · obtain ⟨I', hw, J, hJ, h1, h2⟩ := h
      refine ⟨I', c0_X12_image (vc_X12_image_0 ⟨_, ct_inI x 0 2, g0n hx (by rw [hxk]; exact hw)⟩), ?_, fun a j q => by rw [hJ, up2_p (by omega)]; exact h2 a j (by omega)⟩
      subst hJ
      have g : ∀ a j, a ≠ 98 → a ≠ 99 → up2 J 99 k 1 a j = I a j := fun a j q1 q2 => by rw [up2_p q2]; exact h2 a j (by omega)
      obtain ⟨⟨b1, b2⟩, ⟨b3, b4, b5⟩, ⟨b6, b7⟩, b8, b9⟩ := hr
      refine ⟨⟨RM_of (fun j => g 97 j (by omega) (by omega)) b1, b2⟩, ⟨b3, by rw [g 96 5 (by omega) (by omega)]; exact b4, fun j hj => by rw [g 100 j (by omega) (by omega)]; exact b5 j hj⟩, ⟨by rw [g 96 12 (by omega) (by omega)]; exact b6, by rw [g 96 13 (by omega) (by omega)]; exact b7⟩, fun j hj => ?_, fun s hs => ⟨fun z => ?_, fun w n f z => ?_⟩⟩
      · show ((if j = k then some Z.1 else Z.2.2.2.1 j) = none → _) ∧ (∀ B, (if j = k then some Z.1 else Z.2.2.2.1 j) = some B → _)
        by_cases e : j = k
        · subst e
          rw [if_pos rfl]
          refine ⟨fun z => (by cases z), fun B z => ?_⟩
          obtain rfl : Z.1 = B := Option.some.inj z
          exact ⟨up2_s _ _ _ _, RM_tk b2 (fun i hi => by rw [up2_p (by decide), h1 i hi, Nat.zero_add]) b1, b2⟩
        · rw [if_neg e]
          refine ⟨fun z => by rw [up2_k e, h2 99 j (by omega)]; exact (b8 j hj).1 z, fun B z => ?_⟩
          obtain ⟨c1, c2, c3⟩ := (b8 j hj).2 B z
          exact ⟨by rw [up2_k e, h2 99 j (by omega)]; exact c1, RM_tk c3 (fun i hi => by rw [up2_p (by decide), h2 98 _ (by omega)]) c2, c3⟩
      · rw [g 109 s (by omega) (by omega)]; exact (b9 s hs).1 z
      · rw [g 109 s (by omega) (by omega), g 110 s (by omega) (by omega)]; exact (b9 s hs).2 w n f z
    · rintro J ⟨h1, h2⟩
      refine ⟨up2 J 99 k 1, vc_X12_image_17 ⟨fun _ => ⟨u_in (by omega) (by decide), ?_⟩, fun z => absurd (by decide) z⟩, J, rfl, h1, h2⟩
      rw [u_cl (by omega)]
      exact ⟨rfl, rfl, rfl⟩
    · rintro i J hi ⟨h1, h2⟩
      refine ⟨up2 J 98 (104 * k + i) (J 97 i), ⟨fun j hj => ?_, fun a j q => ?_⟩, fun I' hw => vc_X12_image_17 ?_⟩
      · by_cases e : j = i
        · subst e; rw [up2_s]; exact h2 97 j (by omega)
        · rw [up2_k (by omega)]; exact h1 j (by omega)
      · rw [up2_o' (by omega)]; exact h2 a j q
      · rw [show (104 : Int32) * nI k + nI i = nI (104 * k + i) by rw [show (104 : Int32) = nI 104 from rfl, u_mul, u_add], u_cl (n := 104 * k + i) (by omega), u_cl (n := i) (by omega), nI_1]
        refine ⟨fun z => absurd z (nI_ge (b := 104) hi (by decide)), fun _ => ⟨u_in hi (by decide), u_in (by omega) (by decide), fun I1 e1 => ?_⟩⟩
        rw [e1]
        exact hw
theorem qz_back (Z : St) (x : Int32) : ∃ Z' v, Q2 Z Z' kX11_back kX12_back [.int x] (.int v) := by
  by_cases hx : ib 0 2 x
  · refine ⟨Z, -2, QC_q fun I L hr => ⟨I, c0_X11_back (vc_X11_back_0 ⟨fun _ => ⟨rfl, rfl, rfl⟩, fun z => ⟨fun z2 => ?_, fun _ => ⟨rfl, rfl, rfl⟩⟩⟩), Fq.rf, hr.2.1, hr.2.2⟩, QM_q fun I L hr => ⟨I, c0_X12_back (vc_X12_back_0 ⟨_, ct_inI x 0 2, g0p hx ⟨rfl, rfl, rfl⟩⟩), Mq.rf⟩⟩
    rw [t_lt, show (3 : Int32).toInt = 3 by decide] at z2
    rcases hx with q | q
    · exact absurd q z
    · rw [t_lt, show (2 : Int32).toInt = 2 by decide] at q
      omega
  obtain ⟨k, -, hk, hxk⟩ := xIn (a := 0) (b := 2) (by decide) (by decide) hx
  have hx3 : x < 3 := by rw [hxk]; exact nI_lt (b := 3) (by omega) (by decide)
  have hx0 : ¬ x < 0 := fun z => hx (Or.inl z)
  have hin : vp_in x 3 := by rw [hxk]; exact u_in (by omega) (by decide)
  have hcl : x.toNatClampNeg = k := by rw [hxk]; exact u_cl (by omega)
  cases hz : Z.2.2.2.1 k with
  | none =>
    refine ⟨Z, -6, QC_q fun I L hr => ⟨I, c0_X11_back (vc_X11_back_0 ⟨fun z => absurd z hx0, fun _ => ⟨fun _ => ⟨hin, fun _ => ⟨rfl, rfl, rfl⟩, fun z => absurd ?_ z⟩, fun z => absurd hx3 z⟩⟩), Fq.rf, hr.2.1, hr.2.2⟩, QM_q fun I L hr => ⟨I, c0_X12_back (vc_X12_back_0 ⟨_, ct_inI x 0 2, g0n hx ⟨hin, fun _ => ⟨rfl, rfl, rfl⟩, fun z => absurd ?_ z⟩⟩), Mq.rf⟩⟩
    · rw [hcl]; exact (hr.1.2.2.2.1 k (by omega)).1 hz
    · rw [hcl]; exact (hr.2.2.2.1 k (by omega)).1 hz
  | some B =>
    refine ⟨(B, Z.2), 0, QC_d fun I L hr => ?_, QM_d fun I L hr => ?_⟩
    · obtain ⟨f1, hRB, hVB⟩ := (hr.1.2.2.2.1 k (by omega)).2 B hz
      have hne : ¬ I 35 x.toNatClampNeg = 0 := by rw [hcl, f1]; decide
      have key : ∀ I2, tkB I I2 12 (36 + 13 * k) 21 (45 + 13 * k) → ∃ I3, q_C kX11_unsettle [.ref 0] I2 L none I3 L ∧ RelC (B, Z.2) I3 L ∧ ∀ a j, 95 < a → I3 a j = I a j := by
        rintro I2 ⟨J, h5, h0⟩
        obtain ⟨I3, c3, hr3, hf3⟩ := ce_unsettle (Bc_night (I' := I2) hr.1 (fun a j q => tkB.fr ⟨J, h5, h0⟩ a j (by omega) (by omega)) (RC_tk hVB h5 h0 (by omega) (by omega) hRB) hVB)
        exact ⟨I3, c3, hr3, fun a j q => by rw [hf3 a j (by omega) (by omega)]; exact tkB.fr ⟨J, h5, h0⟩ a j (by omega) (by omega)⟩
      have hc : k = 0 ∨ k = 1 ∨ k = 2 := by omega
      rcases hc with h | h | h <;> subst h <;> subst hxk
      · obtain ⟨I1, c1, h1⟩ := ce_take5_12_36 (I := I) (L := L)
        obtain ⟨I2, c2, h2⟩ := ce_take0_21_45 (I := I1) (L := L)
        obtain ⟨I3, c3, hr3, hf3⟩ := key I2 ⟨I1, h1, h2⟩
        exact ⟨I3, c0_X11_back (vc_X11_back_0 ⟨fun z => absurd z hx0, fun _ => ⟨fun _ => ⟨hin, fun z => absurd z hne, fun _ => ⟨hin, fun _ => ⟨I1, c1, hin, fun _ => ⟨I2, c2, I3, c3, rfl, rfl, rfl⟩, fun z => absurd z (by decide), fun z => absurd z (by decide)⟩, fun z => absurd z (by decide), fun z => absurd z (by decide)⟩⟩, fun z => absurd hx3 z⟩⟩), hr3, hf3⟩
      · obtain ⟨I1, c1, h1⟩ := ce_take5_12_49 (I := I) (L := L)
        obtain ⟨I2, c2, h2⟩ := ce_take0_21_58 (I := I1) (L := L)
        obtain ⟨I3, c3, hr3, hf3⟩ := key I2 ⟨I1, h1, h2⟩
        exact ⟨I3, c0_X11_back (vc_X11_back_0 ⟨fun z => absurd z hx0, fun _ => ⟨fun _ => ⟨hin, fun z => absurd z hne, fun _ => ⟨hin, fun z => absurd z (by decide), fun _ => ⟨I1, c1, hin, fun z => absurd z (by decide), fun _ => ⟨I2, c2, I3, c3, rfl, rfl, rfl⟩, fun z => absurd z (by decide)⟩, fun z => absurd z (by decide)⟩⟩, fun z => absurd hx3 z⟩⟩), hr3, hf3⟩
      · obtain ⟨I1, c1, h1⟩ := ce_take5_12_62 (I := I) (L := L)
        obtain ⟨I2, c2, h2⟩ := ce_take0_21_71 (I := I1) (L := L)
        obtain ⟨I3, c3, hr3, hf3⟩ := key I2 ⟨I1, h1, h2⟩
        exact ⟨I3, c0_X11_back (vc_X11_back_0 ⟨fun z => absurd z hx0, fun _ => ⟨fun _ => ⟨hin, fun z => absurd z hne, fun _ => ⟨hin, fun z => absurd z (by decide), fun z => absurd z (by decide), fun _ => ⟨I1, c1, hin, fun z => absurd z (by decide), fun z => absurd z (by decide), fun _ => ⟨I2, c2, I3, c3, rfl, rfl, rfl⟩⟩⟩⟩, fun z => absurd hx3 z⟩⟩), hr3, hf3⟩
    · obtain ⟨f1, hRB, hVB⟩ := (hr.2.2.2.1 k (by omega)).2 B hz
      have hne : ¬ I 99 x.toNatClampNeg = 0 := by rw [hcl, f1]; decide
      have h := mloop (V := fun i I' J => v_X12_back_29 (some (.int 0)) I' L J L (nI k) (nI i)) (Inv := fun i J => (∀ j, j < i → J 97 j = I 98 (104 * k + j)) ∧ ∀ a j, a ≠ 97 → J a j = I a j) (n := 104) (Q := fun J => (∀ j, j < 104 → J 97 j = I 98 (104 * k + j)) ∧ ∀ a j, a ≠ 97 → J a j = I a j) ?_ ?_ I ⟨fun j hj => absurd hj (by omega), fun _ _ _ => rfl⟩
      · obtain ⟨I', hw, h1, h2⟩ := h
        refine ⟨I', c0_X12_back (vc_X12_back_0 ⟨_, ct_inI x 0 2, g0n hx ⟨hin, fun z => absurd z hne, fun _ => by rw [hxk]; exact hw⟩⟩), RelM_night hr (fun a j q => h2 a j (by omega)) (RM_tk hVB (fun i hi => by rw [Nat.zero_add]; exact h1 i hi) hRB) hVB, fun a j q => h2 a j (by omega)⟩
      · rintro J hJ
        exact ⟨J, vc_X12_back_29 ⟨fun _ => ⟨rfl, rfl, rfl⟩, fun z => absurd (by decide) z⟩, hJ⟩
      · rintro i J hi ⟨h1, h2⟩
        refine ⟨up2 J 97 i (J 98 (104 * k + i)), ⟨fun j hj => ?_, fun a j q => ?_⟩, fun I' hw => vc_X12_back_29 ?_⟩
        · by_cases e : j = i
          · subst e; rw [up2_s]; exact h2 98 _ (by omega)
          · rw [up2_k (by omega)]; exact h1 j (by omega)
        · rw [up2_p q]; exact h2 a j q
        · rw [show (104 : Int32) * nI k + nI i = nI (104 * k + i) by rw [show (104 : Int32) = nI 104 from rfl, u_mul, u_add], u_cl (n := 104 * k + i) (by omega), u_cl (n := i) (by omega), nI_1]
          refine ⟨fun z => absurd z (nI_ge (b := 104) hi (by decide)), fun _ => ⟨u_in (by omega) (by decide), u_in hi (by decide), fun I1 e1 => ?_⟩⟩
          rw [e1]
          exact hw
/-- a pew's rule is rest -/
def hshN (A : Nt) (p : Nat) : Nt := (up2 (up2 (up2 A.1 1 p 0) 2 p 0) 3 p 0, A.2)
theorem hshN_o {A : Nt} {p a k : Nat} (h : a ≠ 1 ∧ a ≠ 2 ∧ a ≠ 3 ∨ k ≠ p) : (hshN A p).1 a k = A.1 a k := by
  show up2 (up2 (up2 A.1 1 p 0) 2 p 0) 3 p 0 a k = _
  rw [up2_o' (by omega), up2_o' (by omega), up2_o' (by omega)]
theorem hshN_p (A : Nt) (p : Nat) : (hshN A p).1 1 p = 0 ∧ (hshN A p).1 2 p = 0 ∧ (hshN A p).1 3 p = 0 := by
  refine ⟨?_, ?_, ?_⟩
  · show up2 (up2 (up2 A.1 1 p 0) 2 p 0) 3 p 0 1 p = 0
    rw [up2_p (by decide), up2_p (by decide), up2_s]
  · show up2 (up2 (up2 A.1 1 p 0) 2 p 0) 3 p 0 2 p = 0
    rw [up2_p (by decide), up2_s]
  · exact up2_s _ _ _ _
theorem hshN_V {A : Nt} {p : Nat} (hV : NV A) : NV (hshN A p) := by
  have e : ∀ a k, a = 0 ∨ 4 ≤ a → (hshN A p).1 a k = A.1 a k := fun a k h => hshN_o (by omega)
  obtain ⟨⟨n0, n1, n2, n3, n4, n5, n6, n7, n8⟩, v0, v1, v2, v3, v4, v5, v6⟩ := hV
  unfold NV
  rw [e 0 0 (by omega), e 0 1 (by omega), e 0 2 (by omega), e 0 3 (by omega), e 0 4 (by omega), e 0 5 (by omega), e 0 6 (by omega), e 0 7 (by omega), e 0 8 (by omega)]
  refine ⟨⟨n0, n1, n2, n3, n4, n5, n6, n7, n8⟩, fun z k hk => by rw [e 0 k (by omega)]; exact v0 z k hk, v1, fun i hi => ?_, fun k hk => ?_, fun k hk => ?_, fun k hk => ?_, fun k hk => ?_⟩
  · by_cases q : i = p
    · subst q
      obtain ⟨q1, q2, q3⟩ := hshN_p A i
      rw [q1, q2, q3]
      omega
    · rw [hshN_o (by omega), hshN_o (by omega), hshN_o (by omega)]; exact v2 i hi
  · rw [e 4 k (by omega), e 5 k (by omega)]; exact v3 k hk
  · rw [e 6 k (by omega)]; exact v4 k hk
  · rw [e 7 k (by omega), e 8 k (by omega)]; exact v5 k hk
  · rw [e 9 k (by omega), e 10 k (by omega), e 11 k (by omega)]; exact v6 k hk
theorem hshN_nb (A : Nt) (p q : Nat) : nearB (hshN A p) q = nearB A q := by
  unfold nearB
  rw [nearF_of (fun k => hshN_o (by omega)) (fun k => hshN_o (by omega)), hshN_o (by omega)]
theorem hshN_C {A : Nt} {I : Nat → Nat → Int32} {p : Nat} (hR : RC A I 12 21) : RC (hshN A p) (up2 (up2 (up2 I 13 p 0) 14 p 0) 15 p 0) 12 21 := by
  have e : ∀ a k, a = 0 ∨ 4 ≤ a → (hshN A p).1 a k = A.1 a k := fun a k h => hshN_o (by omega)
  have g : ∀ a k, (a < 13 ∨ 15 < a ∨ k ≠ p) → up2 (up2 (up2 I 13 p 0) 14 p 0) 15 p 0 a k = I a k := fun a k h => by rw [up2_o' (by omega), up2_o' (by omega), up2_o' (by omega)]
  obtain ⟨⟨a1, a2, a3, a4, a5, a6, a7, a8⟩, b, c, d, f, f2⟩ := hR
  refine ⟨⟨?_, ?_, ?_, ?_, ?_, ?_, ?_, ?_⟩, fun i hi => ?_, fun i hi => ?_, fun i hi => ?_, ?_, fun i hi => ?_⟩
  · rw [g 12 0 (by omega), e 0 8 (by omega)]; exact a1
  · rw [g 12 1 (by omega), e 0 0 (by omega)]; exact a2
  · rw [g 12 2 (by omega), e 0 1 (by omega)]; exact a3
  · rw [g 12 3 (by omega), e 0 2 (by omega)]; exact a4
  · rw [g 12 4 (by omega), e 0 3 (by omega)]; exact a5
  · rw [g 12 5 (by omega), e 0 4 (by omega)]; exact a6
  · rw [g 12 6 (by omega), e 0 5 (by omega)]; exact a7
  · rw [g 12 7 (by omega), e 0 6 (by omega)]; exact a8
  · rw [e 0 3 (by omega)] at hi
    have x := b i hi
    show up2 (up2 (up2 I 13 p 0) 14 p 0) 15 p 0 13 i = _ ∧ up2 (up2 (up2 I 13 p 0) 14 p 0) 15 p 0 14 i = _ ∧ up2 (up2 (up2 I 13 p 0) 14 p 0) 15 p 0 15 i = _ ∧ up2 (up2 (up2 I 13 p 0) 14 p 0) 15 p 0 16 i = _
    by_cases q : i = p
    · subst q
      obtain ⟨q1, q2, q3⟩ := hshN_p A i
      rw [q1, q2, q3, hshN_nb]
      refine ⟨?_, ?_, ?_, ?_⟩
      · rw [up2_p (by decide), up2_p (by decide), up2_s]; rfl
      · rw [up2_p (by decide), up2_s]; rfl
      · rw [up2_s]; rfl
      · rw [g 16 i (by omega)]; exact x.2.2.2
    · rw [g 13 i (by omega), g 14 i (by omega), g 15 i (by omega), g 16 i (by omega), hshN_nb, hshN_o (a := 1) (by omega), hshN_o (a := 2) (by omega), hshN_o (a := 3) (by omega)]
      exact x
  · rw [e 0 5 (by omega)] at hi
    rw [g _ i (by omega), g _ i (by omega), e 6 i (by omega)]; exact c i hi
  · rw [e 0 6 (by omega)] at hi
    rw [g _ i (by omega), g _ i (by omega), e 7 i (by omega), e 8 i (by omega)]; exact d i hi
  · rw [g 21 0 (by omega), e 0 7 (by omega)]; exact f
  · rw [e 0 7 (by omega)] at hi
    rw [g _ i (by omega), g _ i (by omega), g _ i (by omega), e 9 i (by omega), e 10 i (by omega), e 11 i (by omega)]; exact f2 i hi
theorem hshN_M {A : Nt} {I I' : Nat → Nat → Int32} {p : Nat} (hV : NV A) (hp : p < A.1 0 3) (hR : RM A I 97 0) (h0 : ∀ j, j < 3 → I' 97 (9 + 3 * p + j) = 0) (hI : ∀ k, (k < 9 + 3 * p ∨ 9 + 3 * p + 3 ≤ k) → I' 97 k = I 97 k) : RM (hshN A p) I' 97 0 := by
  have e : ∀ a k, a = 0 ∨ 4 ≤ a → (hshN A p).1 a k = A.1 a k := fun a k h => hshN_o (by omega)
  obtain ⟨⟨n0, n1, n2, n3, n4, n5, n6, n7, n8⟩, -⟩ := hV
  obtain ⟨a, b, c, d, f, f2⟩ := hR
  refine ⟨fun k hk => ?_, fun i hi => ?_, fun i hi => ?_, fun i hi => ?_, fun i hi => ?_, fun i hi => ?_⟩
  · rw [hI _ (by omega), e 0 k (by omega)]; exact a k hk
  · rw [e 0 3 (by omega)] at hi
    by_cases q : i = p
    · subst q
      obtain ⟨q1, q2, q3⟩ := hshN_p A i
      rw [q1, q2, q3]
      refine ⟨?_, ?_, ?_⟩
      · have := h0 0 (by omega); rw [show 0 + 9 + 3 * i = 9 + 3 * i + 0 by omega]; exact this
      · have := h0 1 (by omega); rw [show 0 + 10 + 3 * i = 9 + 3 * i + 1 by omega]; exact this
      · have := h0 2 (by omega); rw [show 0 + 11 + 3 * i = 9 + 3 * i + 2 by omega]; exact this
    · rw [hI (0 + 9 + 3 * i) (by omega), hI (0 + 10 + 3 * i) (by omega), hI (0 + 11 + 3 * i) (by omega), hshN_o (a := 1) (by omega), hshN_o (a := 2) (by omega), hshN_o (a := 3) (by omega)]
      exact b i hi
  · rw [e 0 4 (by omega)] at hi
    rw [hI (0 + 30 + 2 * i) (by omega), hI (0 + 31 + 2 * i) (by omega), e 4 i (by omega), e 5 i (by omega)]; exact c i hi
  · rw [e 0 5 (by omega)] at hi
    rw [hI (0 + 54 + 2 * i) (by omega), hI (0 + 55 + 2 * i) (by omega), e 6 i (by omega)]; exact d i hi
  · rw [e 0 6 (by omega)] at hi
    rw [hI (0 + 62 + 2 * i) (by omega), hI (0 + 63 + 2 * i) (by omega), e 7 i (by omega), e 8 i (by omega)]; exact f i hi
  · rw [e 0 7 (by omega)] at hi
    rw [hI (0 + 74 + i) (by omega), e 9 i (by omega), e 10 i (by omega), e 11 i (by omega)]; exact f2 i hi
theorem q_hushes (Z : St) (x : Int32) : ∃ Z' v, Q2 Z Z' kX11_hushes kX12_hushes [.int x] (.int v) := by
  have hi7 : vp_in 7 104 := by unfold vp_in; decide
  by_cases hx : bp Z.1 x
  · exact ⟨Z, -2, QC_q fun I L hr => ⟨I, c0_X11_hushes (vc_X11_hushes_0 ⟨_, ct_noPew hr.1.1.1 x, g1p hx ⟨rfl, rfl, rfl⟩⟩), Fq.rf, hr.2.1, hr.2.2⟩, QM_q fun I L hr => ⟨I, c0_X12_hushes (vc_X12_hushes_0 ⟨_, ct_isPew hr.1.1 hr.1.2 x, g0p hx ⟨rfl, rfl, rfl⟩⟩), Mq.rf⟩⟩
  by_cases hn : Z.1.1 0 7 = 0
  · refine ⟨(hshN Z.1 x.toNatClampNeg, Z.2), nI (Z.1.1 1 x.toNatClampNeg), QC_d fun I L hr => ?_, QM_d fun I L hr => ?_⟩
    · have hR := hr.1.1.1
      have hV := hr.1.1.2
      have h3 := hV.1.2.2.2.1
      obtain ⟨p, hp, ex⟩ := xPew hV hx
      have hcl : x.toNatClampNeg = p := by rw [ex]; exact u_cl (by omega)
      have hin : vp_in x 7 := by rw [ex]; exact u_in (by omega) (by decide)
      have e0 : I 21 0 = nI (Z.1.1 0 7) := hR.2.2.2.2.1
      rw [hcl]
      have c1 : q_C kX5_setRule [.ref 12, .int x, .int 0, .int 0, .int 0] I L none (up2 (up2 (up2 I 13 p 0) 14 p 0) 15 p 0) L := by
        refine c0_X5_setRule_12 (vc_X5_setRule_12_0 ?_)
        rw [hcl]
        exact ⟨hin, hin, hin, fun I1 h1 => ⟨rfl, h1.symm, rfl⟩⟩
      obtain ⟨I3, c3, hr3, hf3⟩ := ce_unsettle (Bc_night (I' := up2 (up2 (up2 I 13 p 0) 14 p 0) 15 p 0) hr.1 (fun a k q => by rw [up2_p (by omega), up2_p (by omega), up2_p (by omega)]) (hshN_C hR) (hshN_V hV))
      refine ⟨I3, c0_X11_hushes (vc_X11_hushes_0 ⟨_, ct_noPew hR x, g1n hx ⟨fun _ => ⟨hin, _, c1, I3, c3, ?_, rfl, rfl⟩, fun z => absurd ?_ z⟩⟩), hr3, fun a k q => by rw [hf3 a k (by omega) (by omega), up2_p (by omega), up2_p (by omega), up2_p (by omega)]⟩
      · rw [hcl, (hR.2.1 p hp).1]
      · rw [e0, hn]; decide
    · have hR := hr.1.1
      have hV := hr.1.2
      have h3 := hV.1.2.2.2.1
      obtain ⟨p, hp, ex⟩ := xPew hV hx
      have hcl : x.toNatClampNeg = p := by rw [ex]; exact u_cl (by omega)
      have e7 : I 97 (7 : Int32).toNatClampNeg = nI (Z.1.1 0 7) := hR.1 7 (by decide)
      rw [hcl]
      have h := mloop (V := fun i I' J => v_X12_hushes_34 (some (.int (nI (Z.1.1 1 p)))) I' L J L (nI p) (nI (Z.1.1 1 p)) (nI i)) (Inv := fun i J => (∀ j, j < i → J 97 (9 + 3 * p + j) = 0) ∧ ∀ a j, (a ≠ 97 ∨ j < 9 + 3 * p ∨ 9 + 3 * p + 3 ≤ j) → J a j = I a j) (n := 3) (Q := fun J => (∀ j, j < 3 → J 97 (9 + 3 * p + j) = 0) ∧ ∀ a j, (a ≠ 97 ∨ j < 9 + 3 * p ∨ 9 + 3 * p + 3 ≤ j) → J a j = I a j) (fun J hJ => ⟨J, vc_X12_hushes_34 ⟨fun _ => ⟨rfl, rfl, rfl⟩, fun z => absurd (by decide) z⟩, hJ⟩) ?_ I ⟨fun j hj => absurd hj (by omega), fun _ _ _ => rfl⟩
      · obtain ⟨I', hw, h1, h2⟩ := h
        refine ⟨I', c0_X12_hushes (vc_X12_hushes_0 ⟨_, ct_isPew hR hV x, g0n hx ⟨hi7, fun _ => ⟨_, by rw [ex]; exact ct_ruleOf hR hV hp (k := 0) (by decide), by rw [ex]; exact hw⟩, fun z => absurd (by rw [e7, hn]; decide) z⟩⟩), RelM_night hr (fun a j q => h2 a j (by omega)) (hshN_M hV hp hR h1 (fun j q => h2 97 j (by omega))) (hshN_V hV), fun a j q => h2 a j (by omega)⟩
      · rintro i J hi ⟨h1, h2⟩
        refine ⟨up2 J 97 (9 + 3 * p + i) 0, ⟨fun j hj => ?_, fun a j q => ?_⟩, fun I' hw => vc_X12_hushes_34 ?_⟩
        · by_cases e : j = i
          · subst e; exact up2_s _ _ _ _
          · rw [up2_k (by omega)]; exact h1 j (by omega)
        · rw [up2_o' (by omega)]; exact h2 a j q
        · rw [show (9 : Int32) + 3 * nI p + nI i = nI (9 + 3 * p + i) by rw [show (9 : Int32) = nI 9 from rfl, show (3 : Int32) = nI 3 from rfl, u_mul, u_add, u_add], u_cl (by omega), nI_1]
          exact ⟨fun z => absurd z (nI_ge (b := 3) hi (by decide)), fun _ => ⟨u_in (by omega) (by decide), hw⟩⟩
  · refine ⟨Z, -5, QC_q fun I L hr => ⟨I, c0_X11_hushes (vc_X11_hushes_0 ⟨_, ct_noPew hr.1.1.1 x, g1n hx ⟨fun z => ?_, fun _ => ⟨rfl, rfl, rfl⟩⟩⟩), Fq.rf, hr.2.1, hr.2.2⟩, QM_q fun I L hr => ⟨I, c0_X12_hushes (vc_X12_hushes_0 ⟨_, ct_isPew hr.1.1 hr.1.2 x, g0n hx ⟨hi7, fun z => ?_, fun _ => ⟨rfl, rfl, rfl⟩⟩⟩), Mq.rf⟩⟩
    · have h7 := hr.1.1.2.1.2.2.2.2.2.2.2.1
      rw [hr.1.1.1.2.2.2.2.1] at z
      exact absurd z (nI_nle (by omega) (by omega))
    · have h7 := hr.1.2.1.2.2.2.2.2.2.2.1
      have e7 : I 97 (7 : Int32).toNatClampNeg = nI (Z.1.1 0 7) := hr.1.1.1 7 (by decide)
      rw [e7] at z
      exact absurd z (nI_nle (by omega) (by omega))
