/-! NUMBERS: ints as natural numbers. -/
theorem u_and (a b : Nat) : nI a &&& nI b = nI (a &&& b) := by
  apply Int32.toBitVec_inj.mp
  show BitVec.ofNat 32 a &&& BitVec.ofNat 32 b = BitVec.ofNat 32 (a &&& b)
  apply BitVec.eq_of_getLsbD_eq
  intro i hi
  simp [hi]
theorem u_or (a b : Nat) : nI a ||| nI b = nI (a ||| b) := by
  apply Int32.toBitVec_inj.mp
  show BitVec.ofNat 32 a ||| BitVec.ofNat 32 b = BitVec.ofNat 32 (a ||| b)
  apply BitVec.eq_of_getLsbD_eq
  intro i hi
  simp [hi]
theorem u_xor (a b : Nat) : nI a ^^^ nI b = nI (a ^^^ b) := by
  apply Int32.toBitVec_inj.mp
  show BitVec.ofNat 32 a ^^^ BitVec.ofNat 32 b = BitVec.ofNat 32 (a ^^^ b)
  apply BitVec.eq_of_getLsbD_eq
  intro i hi
  simp [hi]
theorem u_m1 : (-1 : Int32) = nI 4294967295 := by decide
theorem u_sh : ∀ n, n < 32 → ((nI n &&& 31).toBitVec.smod 32).toNat = n := by decide
theorem u_shl {a k : Nat} (hk : k < 32) (h : a * 2 ^ k < 2 ^ 32) : nI a <<< (nI k &&& 31) = nI (a * 2 ^ k) := pk_shlN _ k (u_sh k hk) h
theorem u_shr {a k : Nat} (ha : a < 2 ^ 31) (hk : k < 32) : nI a >>> (nI k &&& 31) = nI (a / 2 ^ k) := pk_shrN ha _ k (u_sh k hk)
theorem u_bit {a k : Nat} (ha : a < 2 ^ 31) (hk : k < 32) : (nI a >>> (nI k &&& 31)) &&& 1 = nI (a / 2 ^ k % 2) := by
  rw [u_shr ha hk, show (1 : Int32) = nI 1 from rfl, u_and, Nat.and_one_is_mod]
theorem u_one {k : Nat} (hk : k < 31) : (1 : Int32) <<< (nI k &&& 31) = nI (2 ^ k) := by
  have h := u_shl (a := 1) (k := k) (by omega) (by rw [Nat.one_mul]; exact Nat.pow_lt_pow_right (by decide) (by omega))
  rw [Nat.one_mul] at h
  exact h
theorem u_0 {a : Nat} (ha : a < 4294967296) : nI a = 0 ↔ a = 0 := by
  constructor
  · intro h
    have h1 := congrArg (fun x : Int32 => x.toBitVec.toNat) h
    have h2 : (nI a).toBitVec.toNat = a := pk_tn ha
    have h3 : (nI a).toBitVec.toNat = 0 := h1
    omega
  · intro h
    rw [h]
    rfl
theorem u_eq {a b : Nat} (ha : a < 4294967296) (hb : b < 4294967296) : nI a = nI b ↔ a = b := by
  constructor
  · intro h
    have h1 : (nI a).toBitVec.toNat = (nI b).toBitVec.toNat := by rw [h]
    rw [pk_tn ha, pk_tn hb] at h1
    exact h1
  · intro h
    rw [h]
theorem u_add (a b : Nat) : nI a + nI b = nI (a + b) := nI_add a b
theorem u_mul (a b : Nat) : nI a * nI b = nI (a * b) := pk_mul a b
theorem u_cl {n : Nat} (h : n < 2147483648) : (nI n).toNatClampNeg = n := nI_clamp h
theorem u_in {n N : Nat} (h : n < N) (hN : N < 2147483648) : vp_in (nI n) N := vp_in_nI h hN
/-- digits -/
theorem u_xorD {k a b : Nat} (d : Nat) (hb : b < 2 ^ k) : (2 ^ k * a + b) ^^^ (d * 2 ^ k) = 2 ^ k * (a ^^^ d) + b := by
  apply Nat.eq_of_testBit_eq
  intro j
  rw [Nat.testBit_xor, Nat.testBit_two_pow_mul_add a hb, Nat.testBit_two_pow_mul_add _ hb, Nat.mul_comm d, show 2 ^ k * d = 2 ^ k * d + 0 from rfl, Nat.testBit_two_pow_mul_add d (Nat.two_pow_pos k)]
  by_cases h : j < k
  · simp [h]
  · simp [h, Nat.testBit_xor]
theorem u_orD {k a b : Nat} (d : Nat) (hb : b < 2 ^ k) : (2 ^ k * a + b) ||| (d * 2 ^ k) = 2 ^ k * (a ||| d) + b := by
  apply Nat.eq_of_testBit_eq
  intro j
  rw [Nat.testBit_or, Nat.testBit_two_pow_mul_add a hb, Nat.testBit_two_pow_mul_add _ hb, Nat.mul_comm d, show 2 ^ k * d = 2 ^ k * d + 0 from rfl, Nat.testBit_two_pow_mul_add d (Nat.two_pow_pos k)]
  by_cases h : j < k
  · simp [h]
  · simp [h, Nat.testBit_or]
/-- a digit of three bits is put away -/
theorem u_mask {k a b : Nat} (ha : a < 8) (hb : b < 2 ^ k) (hk : k + 3 ≤ 32) : (2 ^ k * a + b) &&& (4294967295 ^^^ (7 * 2 ^ k)) = b := by
  apply Nat.eq_of_testBit_eq
  intro j
  rw [Nat.testBit_and, Nat.testBit_xor, Nat.testBit_two_pow_mul_add a hb, Nat.mul_comm 7, show 2 ^ k * 7 = 2 ^ k * 7 + 0 from rfl, Nat.testBit_two_pow_mul_add 7 (Nat.two_pow_pos k), show (4294967295 : Nat) = 2 ^ 32 - 1 from rfl, Nat.testBit_two_pow_sub_one]
  by_cases h : j < k
  · simp [h, show j < 32 by omega]
  · rw [if_neg h, if_neg h]
    have hbj : b.testBit j = false := Nat.testBit_lt_two_pow (Nat.lt_of_lt_of_le hb (Nat.pow_le_pow_right (by decide) (by omega)))
    rw [hbj]
    by_cases h3 : j - k < 3
    · have h7 : (7 : Nat).testBit (j - k) = true := by
        have : j - k = 0 ∨ j - k = 1 ∨ j - k = 2 := by omega
        rcases this with e | e | e <;> rw [e] <;> rfl
      rw [h7, show decide (j < 32) = true by simp; omega]
      simp
    · have ha2 : a.testBit (j - k) = false := Nat.testBit_lt_two_pow (Nat.lt_of_lt_of_le ha (by show 2 ^ 3 ≤ _; exact Nat.pow_le_pow_right (by decide) (by omega)))
      rw [ha2]
      simp
