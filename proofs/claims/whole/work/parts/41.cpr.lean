/-! COPIES OF ROWS; HOW MANY BITS. -/
def cpr (I : Nat → Nat → Int32) (a t : Nat) : Nat → Nat → Int32 := upr I a (va_cpy (I a) (I a) (7 * t) (7 * (t + 1)) 7)
theorem cpr_s {I : Nat → Nat → Int32} {a t p : Nat} (hp : p < 7) : cpr I a t a (7 * (t + 1) + p) = I a (7 * t + p) := by
  unfold cpr upr va_cpy
  rw [if_pos rfl, if_pos (by omega)]
  congr 1
  omega
theorem cpr_o {I : Nat → Nat → Int32} {a t b k : Nat} (h : b ≠ a ∨ k < 7 * (t + 1) ∨ 7 * (t + 1) + 7 ≤ k) : cpr I a t b k = I b k := by
  unfold cpr upr va_cpy
  by_cases e : b = a
  · subst e
    rw [if_pos rfl, if_neg (by omega)]
  · rw [if_neg e]
def cp4 (I : Nat → Nat → Int32) (c t : Nat) : Nat → Nat → Int32 := cpr (cpr (cpr (cpr I (c + 2) t) (c + 3) t) (c + 4) t) (c + 5) t
theorem cp4_fr {I : Nat → Nat → Int32} {c t : Nat} : FrR c (t + 1) I (cp4 I c t) := by
  intro a k h
  unfold cp4
  rw [cpr_o (by omega), cpr_o (by omega), cpr_o (by omega), cpr_o (by omega)]
theorem cp4_rw {e : List Nat → Nat} {I : Nat → Nat → Int32} {c t n : Nat} {r : Rw} (hn : n ≤ 7) (h : rwE e I c t n r) : rwE e (cp4 I c t) c (t + 1) n r := by
  intro p hp
  obtain ⟨h1, h2, h3, h4⟩ := h p hp
  unfold cp4
  refine ⟨?_, ?_, ?_, ?_⟩
  · rw [cpr_o (by omega), cpr_o (by omega), cpr_o (by omega), cpr_s (by omega)]
    exact h1
  · rw [cpr_o (by omega), cpr_o (by omega), cpr_s (by omega), cpr_o (by omega)]
    exact h2
  · rw [cpr_o (by omega), cpr_s (by omega), cpr_o (by omega), cpr_o (by omega)]
    exact h3
  · rw [cpr_s (by omega), cpr_o (by omega), cpr_o (by omega), cpr_o (by omega)]
    exact h4
/-- how many bits of seven -/
def pc7 (a : Nat) : Nat := a % 2 + a / 2 % 2 + a / 4 % 2 + a / 8 % 2 + a / 16 % 2 + a / 32 % 2 + a / 64 % 2
theorem pc7_le (a : Nat) : pc7 a ≤ 7 := by unfold pc7; omega
def bcF (x : Int32) : Int32 :=
  let z1 := (x - ((x.toUInt32 >>> ((1 : Int32).toUInt32 &&& Int32.toUInt32 31)).toInt32 &&& 1431655765))
  let z2 := ((z1 &&& 858993459) + ((z1.toUInt32 >>> ((2 : Int32).toUInt32 &&& Int32.toUInt32 31)).toInt32 &&& 858993459))
  let z3 := ((z2 + (z2.toUInt32 >>> ((4 : Int32).toUInt32 &&& Int32.toUInt32 31)).toInt32) &&& 252645135)
  let z4 := (z3 + (z3.toUInt32 >>> ((8 : Int32).toUInt32 &&& Int32.toUInt32 31)).toInt32)
  let z5 := (z4 + (z4.toUInt32 >>> ((16 : Int32).toUInt32 &&& Int32.toUInt32 31)).toInt32)
  z5 &&& 63
theorem bcF_7 : ∀ a, a < 128 → bcF (nI a) = nI (pc7 a) := by decide +kernel
theorem ct_bitCount {I : Nat → Nat → Int32} {L : Nat → Nat → Int64} {a : Nat} (ha : a < 128) : q_C kJ6_bitCount_0f7a4 [.int (nI a)] I L (some (.int (nI (pc7 a)))) I L := by
  rw [← bcF_7 a ha]
  refine c0_J6_bitCount_0f7a4 (vc_J6_bitCount_0f7a4_0 ?_)
  intro z1 h1 z2 h2 z3 h3 z4 h4 z5 h5
  subst h1; subst h2; subst h3; subst h4; subst h5
  exact ⟨rfl, rfl, rfl⟩
def carS (A : Nt) (P : Pm) (t : Nat) (r : Rw) (p : Nat) : Option Nat := if (r p).1 = [] ∧ P.1.2.2.testBit t = false then spk P.1.1 r (aud A P r p) (A.1 0 3) else none
theorem carC_0 {A : Nt} {P : Pm} {t : Nat} {r : Rw} {p : Nat} (h : carS A P t r p = none) : carC A P t r p = r p := by
  unfold carS at h
  unfold carC
  by_cases e : (r p).1 = [] ∧ P.1.2.2.testBit t = false
  · rw [if_pos e] at h ⊢
    rw [h]
  · rw [if_neg e]
theorem carC_1 {A : Nt} {P : Pm} {t : Nat} {r : Rw} {p q : Nat} (h : carS A P t r p = some q) : carC A P t r p = if hs A p (r q).1 = [] then r p else (hs A p (r q).1, (q : Int), (t : Int) + 1, (r q).2.2.2 + 1) := by
  unfold carS at h
  unfold carC
  by_cases e : (r p).1 = [] ∧ P.1.2.2.testBit t = false
  · rw [if_pos e] at h ⊢
    rw [h]
  · rw [if_neg e] at h
    cases h
theorem carS_lt {A : Nt} {P : Pm} {t : Nat} {r : Rw} {p q : Nat} (h : carS A P t r p = some q) : q < A.1 0 3 ∧ (r q).1 ≠ [] := by
  unfold carS at h
  by_cases e : (r p).1 = [] ∧ P.1.2.2.testBit t = false
  · rw [if_pos e] at h
    exact ⟨(spk_lt h).1, aud_ne (spk_lt h).2⟩
  · rw [if_neg e] at h
    cases h
def FrC (c : Nat) (I I' : Nat → Nat → Int32) : Prop := ∀ a k, (a < c + 1 ∨ c + 5 < a) → I' a k = I a k
theorem FrC.rf {c : Nat} {I : Nat → Nat → Int32} : FrC c I I := fun _ _ _ => rfl
theorem FrC.tr {c : Nat} {I I1 I2 : Nat → Nat → Int32} (h : FrC c I I1) (h2 : FrC c I1 I2) : FrC c I I2 := fun a k q => (h2 a k q).trans (h a k q)
theorem FrR.C {c t : Nat} {I I' : Nat → Nat → Int32} (h : FrR c t I I') : FrC c I I' := fun a k q => h a k (by omega)
/-- the course up to an hour is in the memory -/
def crs (e : List Nat → Nat) (A : Nt) (P : Pm) (I : Nat → Nat → Int32) (c l : Nat) : Prop := ∀ t, t < l → rwE e I c t (A.1 0 3) (rows A P t)
def lts (A : Nt) (P : Pm) (I : Nat → Nat → Int32) (c l : Nat) : Prop := ∀ t, t < l → I (c + 1) t = nI (litB (rows A P t) (A.1 0 3))
