/-! SAYINGS OF THE REFERENCE. -/
theorem mF_app (l t : List Nat) : ∀ acc, mF acc (l ++ t) = mF (mF acc l) t := by
  induction l with
  | nil => intro acc; rfl
  | cons a l ih => intro acc; exact ih _
theorem mE_snoc (l : List Nat) (a : Nat) : mE (l ++ [a]) = 5 * mE l + a := mF_app l [a] 0
theorem mE_take {l : List Nat} {n : Nat} (hn : n < l.length) : mE (l.take (n + 1)) = 5 * mE (l.take n) + l[n] := by
  rw [List.take_succ_eq_append_getElem hn, mE_snoc]
theorem mF_lt : ∀ (l : List Nat) (acc : Nat), (∀ a ∈ l, a ≤ 4) → mF acc l < (acc + 1) * 5 ^ l.length
  | [], acc, _ => by show acc < (acc + 1) * 1; omega
  | a :: t, acc, h => by
    have h1 := mF_lt t (5 * acc + a) (fun b hb => h b (List.mem_cons_of_mem _ hb))
    have h2 := h a List.mem_cons_self
    have h3 : (5 * acc + a + 1) * 5 ^ t.length ≤ (acc + 1) * 5 ^ (t.length + 1) := by
      rw [Nat.pow_succ, Nat.mul_comm (5 ^ t.length) 5, ← Nat.mul_assoc]
      exact Nat.mul_le_mul_right _ (by omega)
    exact Nat.lt_of_lt_of_le h1 h3
theorem Sg.mlt {l : List Nat} (h : Sg l) : mE l < 15625 := by
  have h1 := mF_lt l 0 (fun a ha => (h.2 a ha).2)
  have h2 : 5 ^ l.length ≤ 5 ^ 6 := Nat.pow_le_pow_right (by decide) h.1
  unfold mE
  omega
theorem mF_pos : ∀ (l : List Nat) (acc : Nat), 0 < acc → 0 < mF acc l
  | [], _, h => h
  | a :: t, acc, h => mF_pos t (5 * acc + a) (by omega)
theorem mE_0 {l : List Nat} (h : ∀ a ∈ l, 1 ≤ a) : mE l = 0 ↔ l = [] := by
  cases l with
  | nil => exact ⟨fun _ => rfl, fun _ => rfl⟩
  | cons a t =>
    have h2 := h a List.mem_cons_self
    have h3 : 0 < mE (a :: t) := mF_pos t (5 * 0 + a) (by omega)
    exact ⟨fun e => by omega, fun e => by cases e⟩
theorem mF_inj : ∀ (l t : List Nat) (a b : Nat), l.length = t.length → (∀ x ∈ l, x ≤ 4) → (∀ x ∈ t, x ≤ 4) → mF a l = mF b t → a = b ∧ l = t
  | [], [], _, _, _, _, _, h => ⟨h, rfl⟩
  | x :: l, y :: t, a, b, hl, h1, h2, h => by
    obtain ⟨h3, h4⟩ := mF_inj l t (5 * a + x) (5 * b + y) (by simpa using hl) (fun z hz => h1 z (List.mem_cons_of_mem _ hz)) (fun z hz => h2 z (List.mem_cons_of_mem _ hz)) h
    have hx := h1 x List.mem_cons_self
    have hy := h2 y List.mem_cons_self
    have e : a = b := by omega
    have e2 : x = y := by omega
    exact ⟨e, by rw [e2, h4]⟩
theorem u_div5 {a : Nat} (h : a < 2147483648) : nI a / 5 = nI (a / 5) := pk_div (d := 5) h (by decide) (by decide)
theorem u_rem5 {a : Nat} (h : a < 2147483648) : nI a - nI a / 5 * 5 = nI (a % 5) := pk_rem (d := 5) h (by decide) (by decide)
theorem ct_longOf {I : Nat → Nat → Int32} {L : Nat → Nat → Int64} {l : List Nat} (h : Sg l) : q_C kX12_longOf [.int (nI (mE l))] I L (some (.int (nI l.length))) I L := by
  have hl := h.1
  have loop : ∀ n k : Nat, n + k = l.length → v_X12_longOf_4 (some (.int (nI l.length))) I L I L (nI k) (nI (mE (l.take n))) := by
    intro n
    induction n with
    | zero =>
      intro k hk
      have e : k = l.length := by omega
      subst e
      rw [List.take_zero]
      exact vc_X12_longOf_4 ⟨fun _ => ⟨rfl, rfl, rfl⟩, fun hc => absurd (by decide) hc⟩
    | succ n ih =>
      intro k hk
      have hlt : n < l.length := by omega
      have ha := h.2 l[n] (List.getElem_mem hlt)
      have hb := (h.take (n + 1)).mlt
      have hm := mE_take hlt
      refine vc_X12_longOf_4 ⟨fun hc => ?_, fun _ => ?_⟩
      · exact absurd hc (nI_nle (by omega) (by omega))
      · rw [u_div5 (by omega), hm, show (5 * mE (l.take n) + l[n]) / 5 = mE (l.take n) by omega, nI_1]
        exact ih (k + 1) (by omega)
  have h0 := loop l.length 0 (by omega)
  rw [List.take_length] at h0
  exact c0_X12_longOf (vc_X12_longOf_0 h0)
theorem ct_letterOf {I : Nat → Nat → Int32} {L : Nat → Nat → Int64} {l : List Nat} (h : Sg l) {i : Nat} (hi : i < l.length) : q_C kX12_letterOf [.int (nI (mE l)), .int (nI i)] I L (some (.int (nI l[i]))) I L := by
  have hl := h.1
  have loop : ∀ m j : Nat, i + m = j → (hj : j < l.length) → v_X12_letterOf_9 (some (.int (nI l[i]))) I L I L (nI i) (nI (mE (l.take (j + 1)))) (nI j) := by
    intro m
    induction m with
    | zero =>
      intro j he hj
      have e : j = i := by omega
      subst e
      have ha := h.2 l[j] (List.getElem_mem hj)
      have hb := (h.take (j + 1)).mlt
      have hm := mE_take hj
      refine vc_X12_letterOf_9 ⟨fun _ => ⟨?_, rfl, rfl⟩, fun hc => absurd (nI_le (Nat.le_refl j) (by omega)) hc⟩
      rw [u_rem5 (by omega), hm]
      congr 3
      omega
    | succ m ih =>
      intro j he hj
      obtain ⟨j2, rfl⟩ : ∃ j2, j = j2 + 1 := ⟨j - 1, by omega⟩
      have hb := (h.take (j2 + 1 + 1)).mlt
      have hm := mE_take hj
      have ha := h.2 l[j2 + 1] (List.getElem_mem hj)
      refine vc_X12_letterOf_9 ⟨fun hc => absurd hc (nI_ge (by omega) (by omega)), fun _ => ?_⟩
      rw [u_div5 (by omega), hm, show (5 * mE (l.take (j2 + 1)) + l[j2 + 1]) / 5 = mE (l.take (j2 + 1)) by omega, pk_m1]
      exact ih j2 (by omega) (by omega)
  refine c0_X12_letterOf (vc_X12_letterOf_0 ⟨_, ct_longOf h, ?_⟩)
  obtain ⟨n, hn⟩ : ∃ n, l.length = n + 1 := ⟨l.length - 1, by omega⟩
  rw [hn, nI_pred]
  have h0 := loop (n - i) n (by omega) (by omega)
  rw [List.take_of_length_le (by omega)] at h0
  exact h0
theorem ct_letterOrNone {I : Nat → Nat → Int32} {L : Nat → Nat → Int64} {l : List Nat} (h : Sg l) {i : Nat} (hi : i < 2147483648) : q_C kX12_letterOrNone [.int (nI (mE l)), .int (nI i)] I L (some (.int (if i < l.length then nI (l.getD i 0) else -1))) I L := by
  have hl := h.1
  refine c0_X12_letterOrNone (vc_X12_letterOrNone_0 ⟨_, ct_longOf h, fun hc => ?_, fun hc => ?_⟩)
  · have := (nI_leI (by omega) hi).mp hc
    rw [if_neg (by omega)]
    exact ⟨rfl, rfl, rfl⟩
  · have hlt : i < l.length := by
      rcases Nat.lt_or_ge i l.length with q | q
      · exact q
      · exact absurd ((nI_leI (by omega) hi).mpr q) hc
    rw [if_pos hlt, List.getD_eq_getElem?_getD, List.getElem?_eq_getElem hlt]
    exact ⟨_, ct_letterOf h hlt, rfl, rfl, rfl⟩
/-- of the class -/
theorem ct_letterOrNoneC {I : Nat → Nat → Int32} {L : Nat → Nat → Int64} {l : List Nat} (h : Sg l) (i : Int32) : q_C kX11_letterOrNone [.int (nI (cE l)), .int i] I L (some (.int (if ¬ i < 0 ∧ i.toNatClampNeg < l.length then nI (l.getD i.toNatClampNeg 0) else -1))) I L := by
  refine c0_X11_letterOrNone (vc_X11_letterOrNone_0 ⟨_, ct_letterAt h i, fun hc => ?_, fun hc => ?_⟩)
  · by_cases hi : i < 0
    · rw [if_neg (by intro q; exact q.1 hi)]
      exact ⟨rfl, rfl, rfl⟩
    · rw [if_neg hi] at hc
      by_cases hlt : i.toNatClampNeg < l.length
      · exfalso
        rw [List.getD_eq_getElem?_getD, List.getElem?_eq_getElem hlt] at hc
        have ha := h.2 _ (List.getElem_mem hlt)
        have hc : nI l[i.toNatClampNeg] = 0 := hc
        rw [u_0 (by omega)] at hc
        omega
      · rw [if_neg (by intro q; exact hlt q.2)]
        exact ⟨rfl, rfl, rfl⟩
  · by_cases hi : i < 0
    · rw [if_pos hi] at hc
      exact absurd rfl hc
    · rw [if_neg hi] at hc ⊢
      by_cases hlt : i.toNatClampNeg < l.length
      · rw [if_pos ⟨hi, hlt⟩]
        exact ⟨rfl, rfl, rfl⟩
      · exfalso
        apply hc
        rw [List.getD_eq_getElem?_getD, List.getElem?_eq_none (by omega)]
        rfl
