/-! SHORT WAYS: literals and comparisons, for rewriting. -/
theorem l_0 : (0 : Int32) = nI 0 := rfl
theorem l_1 : (1 : Int32) = nI 1 := rfl
theorem l_2 : (2 : Int32) = nI 2 := rfl
theorem l_3 : (3 : Int32) = nI 3 := rfl
theorem l_4 : (4 : Int32) = nI 4 := rfl
theorem l_5 : (5 : Int32) = nI 5 := rfl
theorem l_6 : (6 : Int32) = nI 6 := rfl
theorem l_7 : (7 : Int32) = nI 7 := rfl
theorem l_8 : (8 : Int32) = nI 8 := rfl
theorem l_9 : (9 : Int32) = nI 9 := rfl
theorem l_10 : (10 : Int32) = nI 10 := rfl
theorem l_11 : (11 : Int32) = nI 11 := rfl
theorem l_12 : (12 : Int32) = nI 12 := rfl
theorem l_15 : (15 : Int32) = nI 15 := rfl
theorem l_16 : (16 : Int32) = nI 16 := rfl
theorem l_20 : (20 : Int32) = nI 20 := rfl
theorem l_24 : (24 : Int32) = nI 24 := rfl
theorem l_30 : (30 : Int32) = nI 30 := rfl
theorem l_31 : (31 : Int32) = nI 31 := rfl
theorem l_32 : (32 : Int32) = nI 32 := rfl
theorem l_50 : (50 : Int32) = nI 50 := rfl
theorem l_54 : (54 : Int32) = nI 54 := rfl
theorem l_60 : (60 : Int32) = nI 60 := rfl
theorem l_62 : (62 : Int32) = nI 62 := rfl
theorem l_63 : (63 : Int32) = nI 63 := rfl
theorem l_64 : (64 : Int32) = nI 64 := rfl
theorem l_74 : (74 : Int32) = nI 74 := rfl
theorem l_91 : (91 : Int32) = nI 91 := rfl
theorem l_100 : (100 : Int32) = nI 100 := rfl
theorem l_128 : (128 : Int32) = nI 128 := rfl
theorem l_240 : (240 : Int32) = nI 240 := rfl
theorem l_600 : (600 : Int32) = nI 600 := rfl
theorem l_10000 : (10000 : Int32) = nI 10000 := rfl
theorem l_m1 : iI (-1) = -1 := by decide
theorem u_in_t {n N : Nat} (h : n < N) (hN : N < 2147483648) : vp_in (nI n) N ↔ True := ⟨fun _ => trivial, fun _ => u_in h hN⟩
theorem nI_nm1 {n : Nat} (h : n < 2147483648) : nI n = -nI 1 ↔ False := ⟨fun z => by
  have z : nI n = -1 := z
  have := (t_eq _ _).mp z
  rw [t_n h] at this
  have e : (-1 : Int32).toInt = -1 := by decide
  omega, False.elim⟩
theorem m1_nI {n : Nat} (h : n < 2147483648) : -nI 1 = nI n ↔ False := ⟨fun z => (nI_nm1 h).mp z.symm, False.elim⟩
theorem m1_lt {n : Nat} (h : n < 2147483648) : -nI 1 < nI n ↔ True := ⟨fun _ => trivial, fun _ => by
  show -1 < nI n
  rw [t_lt, t_n h, show (-1 : Int32).toInt = -1 by decide]; omega⟩
theorem m1_le {n : Nat} (h : n < 2147483648) : -nI 1 ≤ nI n ↔ True := ⟨fun _ => trivial, fun _ => by
  show -1 ≤ nI n
  rw [t_le, t_n h, show (-1 : Int32).toInt = -1 by decide]; omega⟩
theorem nI_ltm {n : Nat} (h : n < 2147483648) : nI n < -nI 1 ↔ False := ⟨fun z => by
  have z : nI n < -1 := z
  rw [t_lt, t_n h, show (-1 : Int32).toInt = -1 by decide] at z; omega, False.elim⟩
theorem nI_lem {n : Nat} (h : n < 2147483648) : nI n ≤ -nI 1 ↔ False := ⟨fun z => by
  have z : nI n ≤ -1 := z
  rw [t_le, t_n h, show (-1 : Int32).toInt = -1 by decide] at z; omega, False.elim⟩
theorem up2_s_ {α : Type} (I : Nat → Nat → α) (a k : Nat) (x : α) : up2 I a k x a k = x := if_pos ⟨rfl, rfl⟩
/-- down from the end of a loop to its head -/
theorem down {P : Nat → Prop} {n : Nat} (hn : P n) (hs : ∀ k, k < n → P (k + 1) → P k) : P 0 := by
  have h : ∀ m k, k + m = n → P k := by
    intro m
    induction m with
    | zero => intro k hk; rw [show k = n by omega]; exact hn
    | succ m ih => intro k hk; exact hs k (by omega) (ih (k + 1) (by omega))
  exact h n 0 (by omega)
theorem u_31 {k : Nat} (hk : k < 32) : nI k &&& nI 31 = nI k := by
  rw [u_and]
  exact congrArg nI ((by decide : ∀ k, k < 32 → k &&& 31 = k) k hk)
theorem u_one3 {k : Nat} (hk : k < 31) : nI 1 <<< nI k = nI (2 ^ k) := by
  have h := u_one hk
  rw [show (31 : Int32) = nI 31 from rfl, u_31 (by omega)] at h
  exact h
theorem u_shr3 {a k : Nat} (ha : a < 2147483648) (hk : k < 32) : nI a >>> nI k = nI (a / 2 ^ k) := by
  have h := u_shr (a := a) (by omega) hk
  rw [show (31 : Int32) = nI 31 from rfl, u_31 (by omega)] at h
  exact h
theorem u_and1 (a : Nat) : nI a &&& nI 1 = nI (a % 2) := by rw [u_and, Nat.and_one_is_mod]
theorem tb1 (a k : Nat) : a / 2 ^ k % 2 = 1 ↔ a.testBit k = true := by rw [Nat.testBit_eq_decide_div_mod_eq, decide_eq_true_iff]
theorem tb0 (a k : Nat) : a / 2 ^ k % 2 = 0 ↔ a.testBit k = false := by
  have := tb1 a k
  have h2 : a / 2 ^ k % 2 < 2 := Nat.mod_lt _ (by decide)
  cases h : a.testBit k with
  | true => rw [h] at this; have := this.mpr rfl; constructor <;> intro z <;> simp_all
  | false =>
    rw [h] at this
    constructor
    · intro _; rfl
    · intro _
      have : ¬ a / 2 ^ k % 2 = 1 := fun z => Bool.false_ne_true (this.mp z)
      omega
