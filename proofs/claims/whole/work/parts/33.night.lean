/-! A NIGHT, and how each side holds it. -/
theorem t_lt (a b : Int32) : a < b ↔ a.toInt < b.toInt := Int32.lt_iff_toInt_lt
theorem t_le (a b : Int32) : a ≤ b ↔ a.toInt ≤ b.toInt := Int32.le_iff_toInt_le
theorem t_eq (a b : Int32) : a = b ↔ a.toInt = b.toInt := Int32.toInt_inj.symm
theorem t_wle (a b : Int32) : a.toInt64 ≤ b.toInt64 ↔ a ≤ b := by rw [Int64.le_iff_toInt_le, t_le, Int32.toInt_toInt64, Int32.toInt_toInt64]
theorem t_wlt (a b : Int32) : a.toInt64 < b.toInt64 ↔ a < b := by rw [Int64.lt_iff_toInt_lt, t_lt, Int32.toInt_toInt64, Int32.toInt_toInt64]
theorem t_rng (x : Int32) : -2147483648 ≤ x.toInt ∧ x.toInt < 2147483648 := by
  have h1 := Int32.le_toInt x
  have h2 := Int32.toInt_lt x
  omega
theorem t_n {n : Nat} (h : n < 2147483648) : (nI n).toInt = (n : Int) := nI_toInt h
theorem t_n1 {n : Nat} (h : n < 2147483648) : (nI n - 1).toInt = (n : Int) - 1 := by
  rw [Int32.toInt_sub, nI_toInt h, show (1 : Int32).toInt = 1 from rfl, Int.bmod_eq_of_le (by omega) (by omega)]
/-- counts (0 hours, 1 law, 2 odds, 3 pews, 4 aisles, 5 lights, 6 draughts, 7 acts, 8 lines), rules, letters, aisles, lights, draughts, acts; what lights say -/
abbrev Nt : Type := (Nat → Nat → Nat) × (Nat → List Nat)
def nearF (A : Nt) (p : Nat) : Nat → Nat
  | 0 => 0
  | k + 1 => nearF A p k ||| (if A.1 4 k = p then 2 ^ A.1 5 k else if A.1 5 k = p then 2 ^ A.1 4 k else 0)
def nearB (A : Nt) (p : Nat) : Nat := nearF A p (A.1 0 4)
def RC (A : Nt) (I : Nat → Nat → Int32) (p q : Nat) : Prop :=
  (I p 0 = nI (A.1 0 8) ∧ I p 1 = nI (A.1 0 0) ∧ I p 2 = nI (A.1 0 1) ∧ I p 3 = nI (A.1 0 2) ∧ I p 4 = nI (A.1 0 3) ∧ I p 5 = nI (A.1 0 4) ∧ I p 6 = nI (A.1 0 5) ∧ I p 7 = nI (A.1 0 6)) ∧
  (∀ i, i < A.1 0 3 → I (p + 1) i = nI (A.1 1 i) ∧ I (p + 2) i = nI (A.1 2 i) ∧ I (p + 3) i = nI (A.1 3 i) ∧ I (p + 4) i = nI (nearB A i)) ∧
  (∀ i, i < A.1 0 5 → I (p + 5) i = nI (A.1 6 i) ∧ I (p + 6) i = nI (cE (A.2 i))) ∧
  (∀ i, i < A.1 0 6 → I (p + 7) i = nI (A.1 7 i) ∧ I (p + 8) i = nI (A.1 8 i)) ∧
  I q 0 = nI (A.1 0 7) ∧ (∀ i, i < A.1 0 7 → I (q + 1) i = nI (A.1 9 i) ∧ I (q + 2) i = nI (A.1 10 i) ∧ I (q + 3) i = nI (A.1 11 i))
def RM (A : Nt) (I : Nat → Nat → Int32) (p o : Nat) : Prop :=
  (∀ k, k < 9 → I p (o + k) = nI (A.1 0 k)) ∧
  (∀ i, i < A.1 0 3 → I p (o + 9 + 3 * i) = nI (A.1 1 i) ∧ I p (o + 10 + 3 * i) = nI (A.1 2 i) ∧ I p (o + 11 + 3 * i) = nI (A.1 3 i)) ∧
  (∀ k, k < A.1 0 4 → I p (o + 30 + 2 * k) = nI (A.1 4 k) ∧ I p (o + 31 + 2 * k) = nI (A.1 5 k)) ∧
  (∀ k, k < A.1 0 5 → I p (o + 54 + 2 * k) = nI (A.1 6 k) ∧ I p (o + 55 + 2 * k) = nI (mE (A.2 k))) ∧
  (∀ k, k < A.1 0 6 → I p (o + 62 + 2 * k) = nI (A.1 7 k) ∧ I p (o + 63 + 2 * k) = nI (A.1 8 k)) ∧
  (∀ i, i < A.1 0 7 → I p (o + 74 + i) = nI (10000 * A.1 10 i + 100 * A.1 9 i + A.1 11 i))
def NV (A : Nt) : Prop :=
  (A.1 0 0 ≤ 12 ∧ A.1 0 1 ≤ 3 ∧ A.1 0 2 ≤ 10 ∧ A.1 0 3 ≤ 7 ∧ A.1 0 4 ≤ 12 ∧ A.1 0 5 ≤ 4 ∧ A.1 0 6 ≤ 6 ∧ A.1 0 7 ≤ 30 ∧ A.1 0 8 ≤ 600) ∧
  (A.1 0 8 = 0 → ∀ k, k < 8 → A.1 0 k = 0) ∧ (0 < A.1 0 8 → 1 ≤ A.1 0 0) ∧
  (∀ i, i < A.1 0 3 → A.1 1 i ≤ 4 ∧ A.1 2 i ≤ 4 ∧ A.1 3 i ≤ 4 ∧ (A.1 1 i = 3 ∨ A.1 1 i = 4 → 1 ≤ A.1 2 i) ∧ (A.1 1 i = 4 → 1 ≤ A.1 3 i)) ∧
  (∀ k, k < A.1 0 4 → A.1 4 k < A.1 0 3 ∧ A.1 5 k < A.1 0 3) ∧
  (∀ k, k < A.1 0 5 → A.1 6 k < A.1 0 3 ∧ Sg (A.2 k) ∧ A.2 k ≠ []) ∧
  (∀ k, k < A.1 0 6 → A.1 7 k < A.1 0 3 ∧ A.1 8 k ≤ 11) ∧
  (∀ i, i < A.1 0 7 → A.1 9 i < A.1 0 3 ∧ A.1 10 i ≤ 4 ∧ A.1 11 i ≤ A.1 0 0)
section NN
variable {A : Nt} {I : Nat → Nat → Int32} {L : Nat → Nat → Int64}
theorem ct_in (a b c : Int64) : q_C kX12_in [.long a, .long b, .long c] I L (some (.int (if b ≤ a ∧ a ≤ c then 1 else 0))) I L := by
  refine c0_X12_in (vc_X12_in_0 ⟨fun h => ?_, fun h => ⟨fun h2 => ?_, fun h2 => ?_⟩⟩)
  · rw [lg_cmp_lt] at h
    rw [if_neg (fun q => absurd h (Int64.not_lt.mpr q.1))]
    exact ⟨rfl, rfl, rfl⟩
  · rw [lg_cmp_gt] at h2
    rw [if_neg (fun q => absurd h2 (Int64.not_lt.mpr q.2))]
    exact ⟨rfl, rfl, rfl⟩
  · rw [lg_cmp_lt] at h
    rw [lg_cmp_gt] at h2
    rw [if_pos ⟨Int64.not_lt.mp h, Int64.not_lt.mp h2⟩]
    exact ⟨rfl, rfl, rfl⟩
theorem ct_bit (x k : Int32) : q_C kX12_bit [.int x, .int k] I L (some (.int ((x >>> (k &&& 31)) &&& 1))) I L := c0_X12_bit (vc_X12_bit_0 ⟨rfl, rfl, rfl⟩)
theorem ct_bitN {a k : Nat} (ha : a < 2147483648) (hk : k < 32) : q_C kX12_bit [.int (nI a), .int (nI k)] I L (some (.int (nI (a / 2 ^ k % 2)))) I L := by
  have h := ct_bit (I := I) (L := L) (nI a) (nI k)
  rw [u_bit (by omega) hk] at h
  exact h
theorem ct_pews (h : RM A I 97 0) : q_C kX12_pews [.ref 96] I L (some (.int (nI (A.1 0 3)))) I L := by
  refine c0_X12_pews (vc_X12_pews_0 ⟨by unfold vp_in; decide, ?_, rfl, rfl⟩)
  have e := h.1 3 (by decide)
  rw [← e]
  rfl
theorem ct_hours (h : RM A I 97 0) : q_C kX12_hours [.ref 96] I L (some (.int (nI (A.1 0 0)))) I L := by
  refine c0_X12_hours (vc_X12_hours_0 ⟨by unfold vp_in; decide, ?_, rfl, rfl⟩)
  have e := h.1 0 (by decide)
  rw [← e]
  rfl
theorem ct_isNight (h : RM A I 97 0) (hV : NV A) : q_C kX12_isNight [.ref 96] I L (some (.int (if A.1 0 8 = 0 then 0 else 1))) I L := by
  have e : I 97 (8 : Int32).toNatClampNeg = nI (A.1 0 8) := h.1 8 (by decide)
  have h8 := hV.1.2.2.2.2.2.2.2.2
  refine c0_X12_isNight (vc_X12_isNight_0 ⟨by unfold vp_in; decide, fun hc => ?_, fun hc => ?_⟩)
  · rw [e] at hc
    have : A.1 0 8 = 0 := by
      rcases Nat.eq_zero_or_pos (A.1 0 8) with q | q
      · exact q
      · exact absurd hc (nI_nle q (by omega))
    rw [if_pos this]
    exact ⟨rfl, rfl, rfl⟩
  · rw [e] at hc
    have : ¬ A.1 0 8 = 0 := fun q => hc (by rw [q]; decide)
    rw [if_neg this]
    exact ⟨rfl, rfl, rfl⟩
theorem ct_noNight (h : RC A I 12 21) (hV : NV A) : q_C kX11_noNight [.ref 0] I L (some (.int (if A.1 0 8 = 0 then 1 else 0))) I L := by
  have h8 := hV.1.2.2.2.2.2.2.2.2
  refine c0_X11_noNight (vc_X11_noNight_0 ⟨fun hc => ?_, fun hc => ?_⟩)
  · rw [h.1.1, u_0 (by omega)] at hc
    rw [if_pos hc]
    exact ⟨rfl, rfl, rfl⟩
  · rw [h.1.1, u_0 (by omega)] at hc
    rw [if_neg hc]
    exact ⟨rfl, rfl, rfl⟩
/-- is there no such number: of a pew, an hour -/
theorem ct_noPew (h : RC A I 12 21) (x : Int32) : q_C kX11_noPew [.ref 0, .int x] I L (some (.int (if x < 0 ∨ nI (A.1 0 3) ≤ x then 1 else 0))) I L := by
  have e := h.1.2.2.2.2.1
  refine c0_X11_noPew (vc_X11_noPew_0 ⟨fun hc => ?_, fun hc => ⟨fun h2 => ?_, fun h2 => ?_⟩⟩)
  · rw [if_pos (Or.inl hc)]
    exact ⟨rfl, rfl, rfl⟩
  · rw [e] at h2
    rw [if_neg (fun q => q.elim hc (fun z => absurd h2 (Int32.not_lt.mpr z)))]
    exact ⟨rfl, rfl, rfl⟩
  · rw [e] at h2
    rw [if_pos (Or.inr (Int32.not_lt.mp h2))]
    exact ⟨rfl, rfl, rfl⟩
theorem ct_isPewL (h : RM A I 97 0) (v : Int64) : q_C kX12_isPew [.ref 96, .long v] I L (some (.int (if 0 ≤ v ∧ v ≤ (nI (A.1 0 3) - 1).toInt64 then 1 else 0))) I L := by
  refine c0_X12_isPew (vc_X12_isPew_0 ⟨_, ct_pews h, _, ct_in _ _ _, ?_, rfl, rfl, rfl⟩)
  by_cases q : 0 ≤ v ∧ v ≤ (nI (A.1 0 3) - 1).toInt64
  · rw [if_pos q]; exact Or.inr rfl
  · rw [if_neg q]; exact Or.inl rfl
theorem isPew_iff (hV : NV A) (x : Int32) : (0 ≤ x.toInt64 ∧ x.toInt64 ≤ (nI (A.1 0 3) - 1).toInt64) ↔ ¬ (x < 0 ∨ nI (A.1 0 3) ≤ x) := by
  have h3 := hV.1.2.2.2.1
  rw [show (0 : Int64) = (0 : Int32).toInt64 from rfl, t_wle, t_wle, t_le, t_le, t_lt, t_le, t_n1 (by omega), t_n (by omega), show (0 : Int32).toInt = 0 from rfl]
  omega
theorem ct_isPew (h : RM A I 97 0) (hV : NV A) (x : Int32) : q_C kX12_isPew [.ref 96, .long x.toInt64] I L (some (.int (if x < 0 ∨ nI (A.1 0 3) ≤ x then 0 else 1))) I L := by
  have c := ct_isPewL (L := L) h x.toInt64
  by_cases q : x < 0 ∨ nI (A.1 0 3) ≤ x
  · rw [if_pos q]
    rw [if_neg (fun z => (isPew_iff hV x).mp z q)] at c
    exact c
  · rw [if_neg q]
    rw [if_pos ((isPew_iff hV x).mpr q)] at c
    exact c
theorem ct_noHour (h : RC A I 12 21) (hV : NV A) (x : Int32) : q_C kX11_noHour [.ref 0, .int x] I L (some (.int (if A.1 0 8 = 0 ∨ x < 0 ∨ nI (A.1 0 0) < x then 1 else 0))) I L := by
  refine c0_X11_noHour (vc_X11_noHour_0 ⟨_, ct_noNight h hV, fun hc => ⟨fun h1 => ?_, fun h1 => ⟨fun h2 => ?_, fun h2 => ?_⟩⟩, fun hc => ?_⟩)
  · rw [if_pos (Or.inr (Or.inl h1))]
    exact ⟨rfl, rfl, rfl⟩
  · rw [h.1.2.1] at h2
    have h8 : ¬ A.1 0 8 = 0 := fun q => by rw [if_pos q] at hc; exact absurd hc (by decide)
    rw [if_neg (fun q => q.elim h8 (fun z => z.elim h1 (fun z => absurd z (Int32.not_lt.mpr h2))))]
    exact ⟨rfl, rfl, rfl⟩
  · rw [h.1.2.1] at h2
    rw [if_pos (Or.inr (Or.inr (Int32.not_le.mp h2)))]
    exact ⟨rfl, rfl, rfl⟩
  · have h8 : A.1 0 8 = 0 := by
      by_cases q : A.1 0 8 = 0
      · exact q
      · rw [if_neg q] at hc
        exact absurd rfl hc
    rw [if_pos (Or.inl h8)]
    exact ⟨rfl, rfl, rfl⟩
theorem ct_isHourL (h : RM A I 97 0) (hV : NV A) (v : Int64) : q_C kX12_isHour [.ref 96, .long v] I L (some (.int (if A.1 0 8 ≠ 0 ∧ 0 ≤ v ∧ v ≤ (nI (A.1 0 0)).toInt64 then 1 else 0))) I L := by
  refine c0_X12_isHour (vc_X12_isHour_0 ⟨_, ct_isNight h hV, fun hc => ?_, fun hc => ⟨_, ct_hours h, _, ct_in _ _ _, fun h2 => ?_, fun h2 => ?_⟩⟩)
  · have h8 : A.1 0 8 = 0 := by
      by_cases q : A.1 0 8 = 0
      · exact q
      · rw [if_neg q] at hc
        exact absurd hc (by decide)
    rw [if_neg (fun q => q.1 h8)]
    exact ⟨rfl, rfl, rfl⟩
  · have hn : ¬ (0 ≤ v ∧ v ≤ (nI (A.1 0 0)).toInt64) := fun q => by rw [if_pos q] at h2; exact absurd h2 (by decide)
    rw [if_neg (fun q => hn q.2)]
    exact ⟨rfl, rfl, rfl⟩
  · have h8 : A.1 0 8 ≠ 0 := fun q => by rw [if_pos q] at hc; exact absurd rfl hc
    have hy : 0 ≤ v ∧ v ≤ (nI (A.1 0 0)).toInt64 := by
      by_cases q : 0 ≤ v ∧ v ≤ (nI (A.1 0 0)).toInt64
      · exact q
      · rw [if_neg q] at h2
        exact absurd rfl h2
    rw [if_pos ⟨h8, hy⟩]
    exact ⟨rfl, rfl, rfl⟩
theorem ct_isHour (h : RM A I 97 0) (hV : NV A) (x : Int32) : q_C kX12_isHour [.ref 96, .long x.toInt64] I L (some (.int (if A.1 0 8 = 0 ∨ x < 0 ∨ nI (A.1 0 0) < x then 0 else 1))) I L := by
  have c := ct_isHourL (L := L) h hV x.toInt64
  have hi : (0 ≤ x.toInt64 ∧ x.toInt64 ≤ (nI (A.1 0 0)).toInt64) ↔ ¬ (x < 0 ∨ nI (A.1 0 0) < x) := by
    rw [show (0 : Int64) = (0 : Int32).toInt64 from rfl, t_wle, t_wle, t_le, t_le, t_lt, t_lt, show (0 : Int32).toInt = 0 from rfl]
    omega
  by_cases q : A.1 0 8 = 0 ∨ x < 0 ∨ nI (A.1 0 0) < x
  · rw [if_pos q]
    rw [if_neg (fun z => q.elim z.1 (fun y => hi.mp z.2 y))] at c
    exact c
  · rw [if_neg q]
    rw [if_pos ⟨fun z => q (Or.inl z), hi.mpr (fun z => q (Or.inr z))⟩] at c
    exact c
theorem ct_ruleOf (h : RM A I 97 0) (hV : NV A) {i : Nat} (hi : i < A.1 0 3) {k : Nat} (hk : k < 3) : q_C kX12_ruleOf [.ref 96, .int (nI i), .int (nI k)] I L (some (.int (nI (A.1 (1 + k) i)))) I L := by
  have h3 := hV.1.2.2.2.1
  have e : (9 : Int32) + 3 * nI i + nI k = nI (9 + 3 * i + k) := by
    rw [show (9 : Int32) = nI 9 from rfl, show (3 : Int32) = nI 3 from rfl, u_mul, u_add, u_add]
  refine c0_X12_ruleOf (vc_X12_ruleOf_0 ⟨?_, ?_, rfl, rfl⟩)
  · rw [e]
    exact u_in (by omega) (by decide)
  · rw [e, u_cl (by omega)]
    have hr := h.2.1 i hi
    have hk3 : k = 0 ∨ k = 1 ∨ k = 2 := by omega
    rcases hk3 with rfl | rfl | rfl
    · rw [show 9 + 3 * i + 0 = 0 + 9 + 3 * i by omega, hr.1]
    · rw [show 9 + 3 * i + 1 = 0 + 10 + 3 * i by omega, hr.2.1]
    · rw [show 9 + 3 * i + 2 = 0 + 11 + 3 * i by omega, hr.2.2]
end NN
