/-! WHOM A PEW HEARS. -/
theorem bz (a : Nat) {k : Nat} (hk : k < 32) : ((nI a >>> (nI k &&& 31)) &&& 1) = 0 ↔ a.testBit k = false := by
  have hb : ∀ i, i < 32 → ((nI a >>> (nI k &&& 31)) &&& 1).toBitVec.getLsbD i = (decide (i = 0) && a.testBit k) := by
    intro i hi
    rw [Int32.toBitVec_and, BitVec.getLsbD_and, Int32.toBitVec_shiftRight]
    show ((((nI a).toBitVec.sshiftRight ((nI k &&& 31).toBitVec.smod 32).toNat).getLsbD i && (1 : Int32).toBitVec.getLsbD i) : Bool) = _
    rw [u_sh k hk]
    have h1 : (1 : Int32).toBitVec.getLsbD i = decide (i = 0) := (by decide +kernel : ∀ i, i < 32 → (1 : Int32).toBitVec.getLsbD i = decide (i = 0)) i hi
    rw [h1]
    by_cases e : i = 0
    · subst e
      rw [BitVec.getLsbD_sshiftRight]
      show _ = (true && a.testBit k)
      have h2 : (nI a).toBitVec.getLsbD k = a.testBit k := by
        show (BitVec.ofNat 32 a).getLsbD k = _
        rw [BitVec.getLsbD_ofNat]
        simp [hk]
      simp only [Nat.add_zero, hk]
      simp
      rw [← h2]
    · simp [e]
  constructor
  · intro h
    have h0 := hb 0 (by decide)
    rw [h] at h0
    simpa using h0.symm
  · intro h
    apply Int32.toBitVec_inj.mp
    apply BitVec.eq_of_getLsbD_eq
    intro i hi
    rw [hb i hi, h]
    simp
theorem tb_2p (k o : Nat) : (2 ^ k).testBit o = decide (k = o) := Nat.testBit_two_pow
theorem litB_tb (r : Rw) : ∀ (n o : Nat), (litB r n).testBit o = (decide (o < n) && !(r o).1.isEmpty)
  | 0, o => by simp [litB]
  | n + 1, o => by
    show (litB r n ||| (if (r n).1 = [] then 0 else 2 ^ n)).testBit o = _
    rw [Nat.testBit_or, litB_tb r n o]
    by_cases e : o = n
    · subst e
      by_cases h : (r o).1 = []
      · simp [h]
      · rw [if_neg h, tb_2p]
        have : (r o).1.isEmpty = false := by simpa using h
        simp [this]
    · have h2 : (if (r n).1 = [] then 0 else 2 ^ n).testBit o = false := by
        by_cases h : (r n).1 = []
        · rw [if_pos h]; simp
        · rw [if_neg h, tb_2p]; simp; omega
      rw [h2]
      by_cases h3 : o < n
      · simp [h3, show o < n + 1 by omega]
      · simp [h3, show ¬ o < n + 1 by omega]
theorem litB_lt (r : Rw) : ∀ {n : Nat}, n ≤ 7 → litB r n < 128
  | 0, _ => by show 0 < 128; decide
  | n + 1, h => by
    show litB r n ||| (if (r n).1 = [] then 0 else 2 ^ n) < 2 ^ 7
    have ih := litB_lt r (n := n) (by omega)
    apply Nat.or_lt_two_pow
    · exact ih
    · by_cases e : (r n).1 = []
      · rw [if_pos e]; decide
      · rw [if_neg e]; exact Nat.pow_lt_pow_right (by decide) (by omega)
theorem nearF_lt {A : Nt} (hV : NV A) (p : Nat) : ∀ {k : Nat}, k ≤ A.1 0 4 → nearF A p k < 128
  | 0, _ => by show 0 < 128; decide
  | k + 1, h => by
    have ih := nearF_lt hV p (k := k) (by omega)
    have hk := hV.2.2.2.2.1 k (by omega)
    have h3 := hV.1.2.2.2.1
    show nearF A p k ||| (if A.1 4 k = p then 2 ^ A.1 5 k else if A.1 5 k = p then 2 ^ A.1 4 k else 0) < 2 ^ 7
    apply Nat.or_lt_two_pow
    · exact ih
    · by_cases e : A.1 4 k = p
      · rw [if_pos e]; exact Nat.pow_lt_pow_right (by decide) (by omega)
      · rw [if_neg e]
        by_cases e2 : A.1 5 k = p
        · rw [if_pos e2]; exact Nat.pow_lt_pow_right (by decide) (by omega)
        · rw [if_neg e2]; decide
theorem nearB_lt {A : Nt} (hV : NV A) (p : Nat) : nearB A p < 128 := nearF_lt hV p (Nat.le_refl _)
def rnk (law : Nat) (r : Rw) (q : Nat) : Int := if law = 1 then (q : Int) else if law = 2 then ((r q).1.length : Int) else if law = 3 then (r q).2.2.1 else 0
def spO : Option Nat → Int32
  | none => -1
  | some q => nI q
def spM (law : Nat) (r : Rw) : Option Nat → Int
  | none => -1
  | some q => rnk law r q
theorem btr_rnk {law : Nat} {r : Rw} {c k : Nat} (h : c < k) : btr law r k c = true ↔ rnk law r c < rnk law r k := by
  unfold btr rnk
  by_cases h1 : law = 1
  · rw [if_pos h1, if_pos h1, if_pos h1]
    exact ⟨fun _ => by omega, fun _ => rfl⟩
  · rw [if_neg h1, if_neg h1, if_neg h1]
    by_cases h2 : law = 2
    · rw [if_pos h2, if_pos h2, if_pos h2, decide_eq_true_iff]
      omega
    · rw [if_neg h2, if_neg h2, if_neg h2]
      by_cases h3 : law = 3
      · rw [if_pos h3, if_pos h3, if_pos h3, decide_eq_true_iff]
      · rw [if_neg h3, if_neg h3, if_neg h3]
        exact ⟨fun q => (Bool.false_ne_true q).elim, fun q => absurd q (by omega)⟩
theorem spk_take {law : Nat} {r : Rw} {f : Nat → Bool} {k : Nat} (hf : f k = true) (h : spM law r (spk law r f k) < rnk law r k) : spk law r f (k + 1) = some k := by
  show (if f k = true then (match spk law r f k with | none => some k | some c => if btr law r k c = true then some k else some c) else spk law r f k) = some k
  rw [if_pos hf]
  cases hs : spk law r f k with
  | none => rfl
  | some c =>
    rw [hs] at h
    show (if btr law r k c = true then some k else some c) = some k
    rw [if_pos ((btr_rnk (spk_lt hs).1).mpr h)]
theorem spk_skip {law : Nat} {r : Rw} {f : Nat → Bool} {k : Nat} (h0 : 0 ≤ rnk law r k) (h : rnk law r k ≤ spM law r (spk law r f k)) : spk law r f (k + 1) = spk law r f k := by
  show (if f k = true then (match spk law r f k with | none => some k | some c => if btr law r k c = true then some k else some c) else spk law r f k) = spk law r f k
  by_cases hf : f k = true
  · rw [if_pos hf]
    cases hs : spk law r f k with
    | none =>
      rw [hs] at h
      have h : rnk law r k ≤ -1 := h
      omega
    | some c =>
      rw [hs] at h
      have h : rnk law r k ≤ rnk law r c := h
      show (if btr law r k c = true then some k else some c) = some c
      rw [if_neg (fun q => by have := (btr_rnk (spk_lt hs).1).mp q; omega)]
  · rw [if_neg hf]
theorem spk_no {law : Nat} {r : Rw} {f : Nat → Bool} {k : Nat} (hf : f k = false) : spk law r f (k + 1) = spk law r f k := by
  show (if f k = true then _ else spk law r f k) = _
  rw [if_neg (by rw [hf]; decide)]
theorem spk_congr {law : Nat} {r : Rw} {f g : Nat → Bool} : ∀ {n : Nat}, (∀ o, o < n → f o = g o) → spk law r f n = spk law r g n
  | 0, _ => rfl
  | n + 1, h => by
    have ih := spk_congr (law := law) (r := r) (n := n) (fun o ho => h o (by omega))
    unfold spk
    rw [ih, h n (by omega)]
theorem spk_none {law : Nat} {r : Rw} {f : Nat → Bool} : ∀ {n : Nat}, (∀ o, o < n → f o = false) → spk law r f n = none
  | 0, _ => rfl
  | n + 1, h => by rw [spk_no (h n (by omega)), spk_none (fun o ho => h o (by omega))]
theorem rnk_rng {law n t : Nat} {r : Rw} {q : Nat} (hn : n ≤ 7) (ht : t ≤ 12) (hq : q < n) (hv : RV n t r) (hl : (r q).1 ≠ []) : 0 ≤ rnk law r q ∧ rnk law r q ≤ 20 := by
  unfold rnk
  have hc := (hv q hq).2.2 hl
  have h6 := (hv q hq).1.1
  by_cases h1 : law = 1
  · rw [if_pos h1]; omega
  · rw [if_neg h1]
    by_cases h2 : law = 2
    · rw [if_pos h2]; omega
    · rw [if_neg h2]
      by_cases h3 : law = 3
      · rw [if_pos h3]; omega
      · rw [if_neg h3]; omega
theorem spM_rng {law n t k : Nat} {r : Rw} {f : Nat → Bool} (hn : n ≤ 7) (ht : t ≤ 12) (hk : k ≤ n) (hv : RV n t r) (hl : ∀ o, o < n → f o = true → (r o).1 ≠ []) : -1 ≤ spM law r (spk law r f k) ∧ spM law r (spk law r f k) ≤ 20 := by
  cases hs : spk law r f k with
  | none => show (-1 : Int) ≤ -1 ∧ (-1 : Int) ≤ 20; omega
  | some c =>
    have hc := spk_lt hs
    have := rnk_rng (law := law) hn ht (show c < n by omega) hv (hl c (by omega) hc.2)
    show -1 ≤ rnk law r c ∧ rnk law r c ≤ 20
    omega
