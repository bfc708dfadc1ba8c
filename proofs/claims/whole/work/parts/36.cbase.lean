/-! ROWS IN THE MEMORY. -/
theorem up2_comm {α : Type} (I : Nat → Nat → α) {a b : Nat} (h : a ≠ b) (k j : Nat) (x y : α) : up2 (up2 I a k x) b j y = up2 (up2 I b j y) a k x := by
  funext p q
  unfold up2
  by_cases h1 : p = b ∧ q = j
  · rw [if_pos h1, if_neg (by omega)]
    rw [if_pos h1]
  · rw [if_neg h1]
    by_cases h2 : p = a ∧ q = k
    · rw [if_pos h2, if_pos h2]
    · rw [if_neg h2, if_neg h2, if_neg h1]
theorem up2_id {α : Type} (I : Nat → Nat → α) (a k : Nat) : up2 I a k (I a k) = I := by
  funext p q
  unfold up2
  by_cases h : p = a ∧ q = k
  · rw [if_pos h, h.1, h.2]
  · rw [if_neg h]
def wr4 (I : Nat → Nat → Int32) (c k : Nat) (x y z u : Int32) : Nat → Nat → Int32 := up2 (up2 (up2 (up2 I (c + 2) k x) (c + 3) k y) (c + 4) k z) (c + 5) k u
theorem wr4_o {I : Nat → Nat → Int32} {c k a j : Nat} {x y z u : Int32} (h : a < c + 2 ∨ c + 5 < a ∨ j ≠ k) : wr4 I c k x y z u a j = I a j := by
  unfold wr4 up2
  rw [if_neg (by omega), if_neg (by omega), if_neg (by omega), if_neg (by omega)]
theorem wr4_2 (I : Nat → Nat → Int32) (c k : Nat) (x y z u : Int32) : wr4 I c k x y z u (c + 2) k = x := by
  unfold wr4 up2
  rw [if_neg (by omega), if_neg (by omega), if_neg (by omega), if_pos ⟨rfl, rfl⟩]
theorem wr4_3 (I : Nat → Nat → Int32) (c k : Nat) (x y z u : Int32) : wr4 I c k x y z u (c + 3) k = y := by
  unfold wr4 up2
  rw [if_neg (by omega), if_neg (by omega), if_pos ⟨rfl, rfl⟩]
theorem wr4_4 (I : Nat → Nat → Int32) (c k : Nat) (x y z u : Int32) : wr4 I c k x y z u (c + 4) k = z := by
  unfold wr4 up2
  rw [if_neg (by omega), if_pos ⟨rfl, rfl⟩]
theorem wr4_5 (I : Nat → Nat → Int32) (c k : Nat) (x y z u : Int32) : wr4 I c k x y z u (c + 5) k = u := by
  unfold wr4 up2
  rw [if_pos ⟨rfl, rfl⟩]
/-- row t of the rows from place c + 2 on holds r, sayings by an encoding e -/
def rwE (e : List Nat → Nat) (I : Nat → Nat → Int32) (c t n : Nat) (r : Rw) : Prop := ∀ p, p < n → I (c + 2) (7 * t + p) = nI (e (r p).1) ∧ I (c + 3) (7 * t + p) = iI (r p).2.1 ∧ I (c + 4) (7 * t + p) = iI (r p).2.2.1 ∧ I (c + 5) (7 * t + p) = iI (r p).2.2.2
def FrR (c t : Nat) (I I' : Nat → Nat → Int32) : Prop := ∀ a k, (a < c + 2 ∨ c + 5 < a ∨ k < 7 * t ∨ 7 * t + 7 ≤ k) → I' a k = I a k
theorem FrR.rf {c t : Nat} {I : Nat → Nat → Int32} : FrR c t I I := fun _ _ _ => rfl
theorem FrR.tr {c t : Nat} {I I1 I2 : Nat → Nat → Int32} (h : FrR c t I I1) (h2 : FrR c t I1 I2) : FrR c t I I2 := fun a k q => (h2 a k q).trans (h a k q)
theorem FrR_w {I : Nat → Nat → Int32} {c t p : Nat} {x y z u : Int32} (hp : p < 7) : FrR c t I (wr4 I c (7 * t + p) x y z u) := fun a k h => wr4_o (by omega)
theorem rwE_w {e : List Nat → Nat} {I : Nat → Nat → Int32} {c t n p : Nat} {r : Rw} {cl : Cl} {x y z u : Int32} (h : rwE e I c t n r) (hx : x = nI (e cl.1)) (hy : y = iI cl.2.1) (hz : z = iI cl.2.2.1) (hu : u = iI cl.2.2.2) : rwE e (wr4 I c (7 * t + p) x y z u) c t n (rwU r p cl) := by
  intro q hq
  by_cases eq : q = p
  · subst eq
    rw [rwU_s, wr4_2, wr4_3, wr4_4, wr4_5]
    exact ⟨hx, hy, hz, hu⟩
  · rw [rwU_n eq, wr4_o (by omega), wr4_o (by omega), wr4_o (by omega), wr4_o (by omega)]
    exact h q hq
theorem rwE_x {e : List Nat → Nat} {I : Nat → Nat → Int32} {c t n : Nat} {r : Rw} {x y z u : Int32} (h : rwE e I c t n r) (hx : x = nI (e (r n).1)) (hy : y = iI (r n).2.1) (hz : z = iI (r n).2.2.1) (hu : u = iI (r n).2.2.2) : rwE e (wr4 I c (7 * t + n) x y z u) c t (n + 1) r := by
  intro q hq
  by_cases eq : q = n
  · subst eq
    rw [wr4_2, wr4_3, wr4_4, wr4_5]
    exact ⟨hx, hy, hz, hu⟩
  · rw [wr4_o (by omega), wr4_o (by omega), wr4_o (by omega), wr4_o (by omega)]
    exact h q (by omega)
theorem rwE_fr {e : List Nat → Nat} {I I' : Nat → Nat → Int32} {c t t' n : Nat} {r : Rw} (h : rwE e I c t n r) (hf : FrR c t' I I') (hn : n ≤ 7) (ht : t ≠ t') : rwE e I' c t n r := by
  intro p hp
  rw [hf _ _ (by omega), hf _ _ (by omega), hf _ _ (by omega), hf _ _ (by omega)]
  exact h p hp
theorem RC_of {A : Nt} {I I' : Nat → Nat → Int32} (h : ∀ a k, a ≤ 24 → I' a k = I a k) (hR : RC A I 12 21) : RC A I' 12 21 := by
  have e : ∀ a, a ≤ 24 → I' a = I a := fun a ha => funext fun k => h a k ha
  unfold RC at hR ⊢
  rw [e 12 (by decide), e (12 + 1) (by decide), e (12 + 2) (by decide), e (12 + 3) (by decide), e (12 + 4) (by decide), e (12 + 5) (by decide), e (12 + 6) (by decide), e (12 + 7) (by decide), e (12 + 8) (by decide), e 21 (by decide), e (21 + 1) (by decide), e (21 + 2) (by decide), e (21 + 3) (by decide)]
  exact hR
/-- what is told otherwise, as a Course has it -/
def PC (P : Pm) (I : Nat → Nat → Int32) (c : Nat) : Prop :=
  I c 7 = nI P.1.1 ∧ I c 8 = nI P.1.2.1 ∧ I c 9 = nI P.1.2.2 ∧ I c 10 = iI P.2.1.1 ∧ I c 11 = iI P.2.1.2.1 ∧ I c 12 = iI P.2.1.2.2.1 ∧ I c 13 = iI P.2.1.2.2.2 ∧ I c 14 = (if P.2.2.1 = true then 1 else 0) ∧ (P.2.2.1 = true → I c 15 = nI P.2.2.2.1 ∧ I c 16 = nI (cE P.2.2.2.2))
theorem PC_of {P : Pm} {I I' : Nat → Nat → Int32} {c : Nat} (h : ∀ k, I' c k = I c k) (hP : PC P I c) : PC P I' c := by
  have e : I' c = I c := funext h
  unfold PC at hP ⊢
  rw [e]
  exact hP
theorem ix7 (t p : Nat) : nI t * 7 + nI p = nI (7 * t + p) := by
  rw [show (7 : Int32) = nI 7 from rfl, u_mul, u_add, Nat.mul_comm]
