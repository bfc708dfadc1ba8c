/-! HOW IT GOES, HOUR BY HOUR: as mathematics. -/
def iI (z : Int) : Int32 := Int32.ofInt z
theorem iI_n (n : Nat) : iI (n : Int) = nI n := by
  apply Int32.toBitVec_inj.mp
  show BitVec.ofInt 32 (n : Int) = BitVec.ofNat 32 n
  exact BitVec.ofInt_natCast 32 n
theorem iI_m1 : iI (-1) = -1 := by decide
theorem iI_0 : iI 0 = 0 := by decide
theorem iI_add (a b : Int) : iI a + iI b = iI (a + b) := (Int32.ofInt_add a b).symm
theorem iI_1 (a : Int) : iI a + 1 = iI (a + 1) := iI_add a 1
theorem iI_t {z : Int} (h1 : -2147483648 ≤ z) (h2 : z < 2147483648) : (iI z).toInt = z := Int32.toInt_ofInt_of_le (by omega) (by omega)
theorem iI_eq {a b : Int} (ha : -2147483648 ≤ a ∧ a < 2147483648) (hb : -2147483648 ≤ b ∧ b < 2147483648) : iI a = iI b ↔ a = b := by
  rw [t_eq, iI_t ha.1 ha.2, iI_t hb.1 hb.2]
theorem iI_le {a b : Int} (ha : -2147483648 ≤ a ∧ a < 2147483648) (hb : -2147483648 ≤ b ∧ b < 2147483648) : iI a ≤ iI b ↔ a ≤ b := by
  rw [t_le, iI_t ha.1 ha.2, iI_t hb.1 hb.2]
theorem iI_lt {a b : Int} (ha : -2147483648 ≤ a ∧ a < 2147483648) (hb : -2147483648 ≤ b ∧ b < 2147483648) : iI a < iI b ↔ a < b := by
  rw [t_lt, iI_t ha.1 ha.2, iI_t hb.1 hb.2]
/-- a pew in an hour: what it says, whom it heard, since when it is lit, by how many -/
abbrev Cl : Type := List Nat × Int × Int × Int
def clO : Cl := ([], -1, -1, -1)
def clK (c : Cl) (t : Nat) (s : List Nat) : Cl := (s, -1, if c.1 = [] then (t : Int) else c.2.2.1, 0)
abbrev Rw : Type := Nat → Cl
def rwU (r : Rw) (p : Nat) (c : Cl) : Rw := fun q => if q = p then c else r q
theorem rwU_s (r : Rw) (p : Nat) (c : Cl) : rwU r p c p = c := if_pos rfl
theorem rwU_n {r : Rw} {p q : Nat} {c : Cl} (h : q ≠ p) : rwU r p c q = r q := if_neg h
/-- law, shut, silence; a pew more, a pew put out, its hour, a draught left out (-1: none); alone, its set, what is said -/
abbrev Pm : Type := (Nat × Nat × Nat) × (Int × Int × Int × Int) × (Bool × Nat × List Nat)
def begL (A : Nt) : Nat → Rw
  | 0 => fun _ => clO
  | k + 1 => rwU (begL A k) (A.1 6 k) (clK (begL A k (A.1 6 k)) 0 (A.2 k))
def begA (P : Pm) (p : Nat) : Cl := if P.2.2.2.1 / 2 ^ p % 2 = 1 then clK clO 0 P.2.2.2.2 else clO
def begR (A : Nt) (P : Pm) : Rw := if P.2.2.1 = true then begA P else begL A (A.1 0 5)
def actR (A : Nt) (t : Nat) (r : Rw) : Nat → Rw
  | 0 => r
  | i + 1 => if A.1 11 i = t ∧ A.1 10 i ≠ 0 then rwU (actR A t r i) (A.1 9 i) (clK (actR A t r i (A.1 9 i)) t [A.1 10 i]) else actR A t r i
def morR (P : Pm) (t : Nat) (r : Rw) : Rw := if t = 0 ∧ P.2.1.1 ≠ -1 then rwU r P.2.1.1.toNat (clK (r P.2.1.1.toNat) 0 [1]) else r
def litR (A : Nt) (P : Pm) (t : Nat) (r : Rw) : Rw := morR P t (if P.2.2.1 = true then r else actR A t r (A.1 0 7))
def draR (A : Nt) (P : Pm) (t : Nat) (r : Rw) : Nat → Rw
  | 0 => r
  | i + 1 => if A.1 8 i = t ∧ (i : Int) ≠ P.2.1.2.2.2 then rwU (draR A P t r i) (A.1 7 i) clO else draR A P t r i
def dacR (A : Nt) (t : Nat) (r : Rw) : Nat → Rw
  | 0 => r
  | i + 1 => if A.1 11 i = t ∧ A.1 10 i = 0 then rwU (dacR A t r i) (A.1 9 i) clO else dacR A t r i
def gusR (P : Pm) (t : Nat) (r : Rw) : Rw := if P.2.1.2.2.1 = t ∧ P.2.1.2.1 ≠ -1 then rwU r P.2.1.2.1.toNat clO else r
def outR (A : Nt) (P : Pm) (t : Nat) (r : Rw) : Rw := gusR P t (dacR A t (draR A P t r (A.1 0 6)) (A.1 0 7))
/-- which of two is heard -/
def btr (law : Nat) (r : Rw) (o c : Nat) : Bool := if law = 1 then true else if law = 2 then decide ((r c).1.length < (r o).1.length) else if law = 3 then decide ((r c).2.2.1 < (r o).2.2.1) else false
def spk (law : Nat) (r : Rw) (f : Nat → Bool) : Nat → Option Nat
  | 0 => none
  | k + 1 => if f k = true then (match spk law r f k with
      | none => some k
      | some c => if btr law r k c = true then some k else some c) else spk law r f k
def aud (A : Nt) (P : Pm) (r : Rw) (p o : Nat) : Bool := (nearB A p).testBit o && !(r o).1.isEmpty && !P.1.2.1.testBit o && !P.1.2.1.testBit p
def carC (A : Nt) (P : Pm) (t : Nat) (r : Rw) (p : Nat) : Cl :=
  if (r p).1 = [] ∧ P.1.2.2.testBit t = false then (match spk P.1.1 r (aud A P r p) (A.1 0 3) with
    | none => r p
    | some q => if hs A p (r q).1 = [] then r p else (hs A p (r q).1, (q : Int), (t : Int) + 1, (r q).2.2.2 + 1)) else r p
def carR (A : Nt) (P : Pm) (t : Nat) (r : Rw) : Rw := fun p => carC A P t r p
def dress (A : Nt) (P : Pm) (t : Nat) (r : Rw) : Rw := outR A P t (litR A P t r)
def rows (A : Nt) (P : Pm) : Nat → Rw
  | 0 => dress A P 0 (begR A P)
  | t + 1 => dress A P (t + 1) (carR A P t (rows A P t))
/-- parameters that can be -/
def PV (A : Nt) (P : Pm) : Prop :=
  (P.1.1 ≤ 3 ∧ P.1.2.1 < 128 ∧ P.1.2.2 < 65536) ∧ ((P.2.1.1 = -1 ∨ 0 ≤ P.2.1.1 ∧ P.2.1.1 < A.1 0 3) ∧ (P.2.1.2.1 = -1 ∨ 0 ≤ P.2.1.2.1 ∧ P.2.1.2.1 < A.1 0 3) ∧ (-1 ≤ P.2.1.2.2.1 ∧ P.2.1.2.2.1 ≤ 12) ∧ (-1 ≤ P.2.1.2.2.2 ∧ P.2.1.2.2.2 ≤ 6)) ∧
  (P.2.2.2.1 < 128 ∧ Sg P.2.2.2.2 ∧ P.2.2.2.2 ≠ [])
/-- a cell as it can be in hour t -/
def CV (n t : Nat) (c : Cl) : Prop := Sg c.1 ∧ (c.1 = [] → c = clO) ∧ (c.1 ≠ [] → (-1 ≤ c.2.1 ∧ c.2.1 < n) ∧ (0 ≤ c.2.2.1 ∧ c.2.2.1 ≤ t) ∧ (0 ≤ c.2.2.2 ∧ c.2.2.2 ≤ t) ∧ (c.2.1 ≠ -1 → 1 ≤ c.2.2.1))
theorem Sg_nil : Sg [] := ⟨by simp, fun a ha => by cases ha⟩
theorem CV_O (n t : Nat) : CV n t clO := ⟨Sg_nil, fun _ => rfl, fun h => absurd rfl h⟩
theorem CV_K {n t : Nat} {c : Cl} {s : List Nat} (h : CV n t c) (hS : Sg s) (hne : s ≠ []) : CV n t (clK c t s) := by
  refine ⟨hS, fun q => absurd q hne, fun _ => ⟨⟨by show (-1 : Int) ≤ -1; omega, by show (-1 : Int) < n; omega⟩, ?_, ⟨by show (0 : Int) ≤ 0; omega, by show (0 : Int) ≤ t; omega⟩, fun q => absurd rfl q⟩⟩
  show 0 ≤ (if c.1 = [] then (t : Int) else c.2.2.1) ∧ (if c.1 = [] then (t : Int) else c.2.2.1) ≤ t
  by_cases e : c.1 = []
  · rw [if_pos e]; omega
  · rw [if_neg e]; exact (h.2.2 e).2.1
theorem CV_up {n t : Nat} {c : Cl} (h : CV n t c) : CV n (t + 1) c := ⟨h.1, h.2.1, fun q => ⟨(h.2.2 q).1, ⟨(h.2.2 q).2.1.1, by have := (h.2.2 q).2.1.2; omega⟩, ⟨(h.2.2 q).2.2.1.1, by have := (h.2.2 q).2.2.1.2; omega⟩, (h.2.2 q).2.2.2⟩⟩
def RV (n t : Nat) (r : Rw) : Prop := ∀ p, p < n → CV n t (r p)
theorem RV_U {n t : Nat} {r : Rw} {p : Nat} {c : Cl} (h : RV n t r) (hc : CV n t c) : RV n t (rwU r p c) := fun q hq => by
  by_cases e : q = p
  · rw [e, rwU_s]; exact hc
  · rw [rwU_n e]; exact h q hq
theorem RV_begL {A : Nt} (hV : NV A) : ∀ k, k ≤ A.1 0 5 → RV (A.1 0 3) 0 (begL A k)
  | 0, _ => fun p _ => CV_O _ _
  | k + 1, h => by
    have hk := hV.2.2.2.2.2.1 k (by omega)
    have ih := RV_begL hV k (by omega)
    exact RV_U ih (CV_K (ih _ hk.1) hk.2.1 hk.2.2)
theorem RV_begR {A : Nt} {P : Pm} (hV : NV A) (hP : PV A P) : RV (A.1 0 3) 0 (begR A P) := by
  unfold begR
  by_cases h : P.2.2.1 = true
  · rw [if_pos h]
    intro p _
    unfold begA
    by_cases e : P.2.2.2.1 / 2 ^ p % 2 = 1
    · rw [if_pos e]; exact CV_K (CV_O _ _) hP.2.2.2.1 hP.2.2.2.2
    · rw [if_neg e]; exact CV_O _ _
  · rw [if_neg h]
    exact RV_begL hV _ (Nat.le_refl _)
theorem Sg_one {k : Nat} (h : 1 ≤ k ∧ k ≤ 4) : Sg [k] := ⟨by simp, fun a ha => by have : a = k := by simpa using ha
                                                                                  rw [this]; exact h⟩
theorem RV_actR {A : Nt} (hV : NV A) {t : Nat} {r : Rw} (hr : RV (A.1 0 3) t r) : ∀ i, i ≤ A.1 0 7 → RV (A.1 0 3) t (actR A t r i)
  | 0, _ => hr
  | i + 1, h => by
    have hk := hV.2.2.2.2.2.2.2 i (by omega)
    have ih := RV_actR hV hr i (by omega)
    show RV _ _ (if A.1 11 i = t ∧ A.1 10 i ≠ 0 then rwU (actR A t r i) (A.1 9 i) (clK (actR A t r i (A.1 9 i)) t [A.1 10 i]) else actR A t r i)
    by_cases e : A.1 11 i = t ∧ A.1 10 i ≠ 0
    · rw [if_pos e]; exact RV_U ih (CV_K (ih _ hk.1) (Sg_one ⟨by have := e.2; omega, hk.2.1⟩) (by simp))
    · rw [if_neg e]; exact ih
theorem RV_litR {A : Nt} {P : Pm} (hV : NV A) (hP : PV A P) {t : Nat} {r : Rw} (hr : RV (A.1 0 3) t r) : RV (A.1 0 3) t (litR A P t r) := by
  unfold litR morR
  have h1 : RV (A.1 0 3) t (if P.2.2.1 = true then r else actR A t r (A.1 0 7)) := by
    by_cases h : P.2.2.1 = true
    · rw [if_pos h]; exact hr
    · rw [if_neg h]; exact RV_actR hV hr _ (Nat.le_refl _)
  by_cases e : t = 0 ∧ P.2.1.1 ≠ -1
  · rw [if_pos e]
    obtain ⟨e1, e2⟩ := e
    subst e1
    have hm := hP.2.1.1
    refine RV_U h1 (CV_K (h1 _ ?_) (Sg_one ⟨by omega, by omega⟩) (by simp))
    omega
  · rw [if_neg e]; exact h1
theorem RV_draR {A : Nt} {P : Pm} {n t : Nat} {r : Rw} (hr : RV n t r) : ∀ i, RV n t (draR A P t r i)
  | 0 => hr
  | i + 1 => by
    have ih := RV_draR (A := A) (P := P) hr i
    show RV _ _ (if A.1 8 i = t ∧ (i : Int) ≠ P.2.1.2.2.2 then rwU (draR A P t r i) (A.1 7 i) clO else draR A P t r i)
    by_cases e : A.1 8 i = t ∧ (i : Int) ≠ P.2.1.2.2.2
    · rw [if_pos e]; exact RV_U ih (CV_O _ _)
    · rw [if_neg e]; exact ih
theorem RV_dacR {A : Nt} {n t : Nat} {r : Rw} (hr : RV n t r) : ∀ i, RV n t (dacR A t r i)
  | 0 => hr
  | i + 1 => by
    have ih := RV_dacR (A := A) hr i
    show RV _ _ (if A.1 11 i = t ∧ A.1 10 i = 0 then rwU (dacR A t r i) (A.1 9 i) clO else dacR A t r i)
    by_cases e : A.1 11 i = t ∧ A.1 10 i = 0
    · rw [if_pos e]; exact RV_U ih (CV_O _ _)
    · rw [if_neg e]; exact ih
theorem RV_outR {A : Nt} {P : Pm} {n t : Nat} {r : Rw} (hr : RV n t r) : RV n t (outR A P t r) := by
  unfold outR gusR
  have h1 := RV_dacR (A := A) (RV_draR (A := A) (P := P) hr (A.1 0 6)) (A.1 0 7)
  by_cases e : P.2.1.2.2.1 = t ∧ P.2.1.2.1 ≠ -1
  · rw [if_pos e]; exact RV_U h1 (CV_O _ _)
  · rw [if_neg e]; exact h1
theorem spk_lt {law : Nat} {r : Rw} {f : Nat → Bool} : ∀ {k q : Nat}, spk law r f k = some q → q < k ∧ f q = true
  | 0, q, h => by cases h
  | k + 1, q, h => by
    unfold spk at h
    by_cases e : f k = true
    · rw [if_pos e] at h
      cases hs : spk law r f k with
      | none =>
        rw [hs] at h
        have : k = q := by simpa using h
        subst this
        exact ⟨by omega, e⟩
      | some c =>
        rw [hs] at h
        have hc := spk_lt hs
        have h : (if btr law r k c = true then some k else some c) = some q := h
        by_cases b : btr law r k c = true
        · rw [if_pos b] at h
          have : k = q := by simpa using h
          subst this
          exact ⟨by omega, e⟩
        · rw [if_neg b] at h
          have : c = q := by simpa using h
          subst this
          exact ⟨by omega, hc.2⟩
    · rw [if_neg e] at h
      have hc := spk_lt h
      exact ⟨by omega, hc.2⟩
theorem aud_ne {A : Nt} {P : Pm} {r : Rw} {p o : Nat} (h : aud A P r p o = true) : (r o).1 ≠ [] := by
  unfold aud at h
  simp only [Bool.and_eq_true] at h
  intro e
  rw [e] at h
  simp at h
theorem RV_carR {A : Nt} {P : Pm} (hV : NV A) {t : Nat} {r : Rw} (hr : RV (A.1 0 3) t r) : RV (A.1 0 3) (t + 1) (carR A P t r) := by
  intro p hp
  show CV _ _ (carC A P t r p)
  unfold carC
  by_cases e : (r p).1 = [] ∧ P.1.2.2.testBit t = false
  · rw [if_pos e]
    cases hsp : spk P.1.1 r (aud A P r p) (A.1 0 3) with
    | none => exact CV_up (hr p hp)
    | some q =>
      obtain ⟨hq, hf⟩ := spk_lt hsp
      have hne := aud_ne hf
      have hc := (hr q hq).2.2 hne
      show CV _ _ (if hs A p (r q).1 = [] then r p else (hs A p (r q).1, (q : Int), (t : Int) + 1, (r q).2.2.2 + 1))
      by_cases e2 : hs A p (r q).1 = []
      · rw [if_pos e2]; exact CV_up (hr p hp)
      · rw [if_neg e2]
        refine ⟨hs_Sg hV hp (hr q hq).1, fun z => absurd z e2, fun _ => ⟨⟨by show (-1 : Int) ≤ q; omega, by show (q : Int) < _; omega⟩, ⟨by show (0 : Int) ≤ (t : Int) + 1; omega, by show (t : Int) + 1 ≤ _; omega⟩, ⟨by have := hc.2.2.1; show (0 : Int) ≤ (r q).2.2.2 + 1; omega, by have := hc.2.2.1; show (r q).2.2.2 + 1 ≤ _; omega⟩, fun _ => by show (1 : Int) ≤ (t : Int) + 1; omega⟩⟩
  · rw [if_neg e]; exact CV_up (hr p hp)
theorem RV_rows {A : Nt} {P : Pm} (hV : NV A) (hP : PV A P) : ∀ t, RV (A.1 0 3) t (rows A P t)
  | 0 => RV_outR (RV_litR hV hP (RV_begR hV hP))
  | t + 1 => RV_outR (RV_litR hV hP (RV_carR hV (RV_rows hV hP t)))
