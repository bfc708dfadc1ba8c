/-! WHAT A PEW MAKES OF WHAT IT HEARS, both sides. -/
def hs (A : Nt) (p : Nat) (l : List Nat) : List Nat := if l = [] then [] else hb (A.1 1 p) (A.1 2 p) (A.1 3 p) l
section HH
variable {A : Nt} {I : Nat → Nat → Int32} {L : Nat → Nat → Int64}
theorem NV.rule (hV : NV A) {p : Nat} (hp : p < A.1 0 3) : (A.1 1 p = 3 ∨ A.1 1 p = 4 → 1 ≤ A.1 2 p ∧ A.1 2 p ≤ 4) ∧ (A.1 1 p = 4 → 1 ≤ A.1 3 p ∧ A.1 3 p ≤ 4) := by
  obtain ⟨h1, h2, h3, h4, h5⟩ := hV.2.2.2.1 p hp
  exact ⟨fun q => ⟨h4 q, h2⟩, fun q => ⟨h5 q, h3⟩⟩
theorem hs_Sg (hV : NV A) {p : Nat} (hp : p < A.1 0 3) {l : List Nat} (h : Sg l) : Sg (hs A p l) := by
  unfold hs
  by_cases e : l = []
  · rw [if_pos e]
    exact ⟨by simp, fun a ha => by cases ha⟩
  · rw [if_neg e]
    exact hb_Sg h (hV.rule hp)
theorem ct_heardBy (hR : RC A I 12 21) (hV : NV A) {p : Nat} (hp : p < A.1 0 3) {l : List Nat} (h : Sg l) : q_C kX5_heardBy [.ref 12, .int (nI p), .int (nI (cE l))] I L (some (.int (nI (cE (hs A p l))))) I L := by
  have h3 := hV.1.2.2.2.1
  have hl := h.1
  have e13 : I 13 (nI p).toNatClampNeg = nI (A.1 1 p) := by rw [u_cl (by omega)]; exact (hR.2.1 p hp).1
  have e14 : I 14 (nI p).toNatClampNeg = nI (A.1 2 p) := by rw [u_cl (by omega)]; exact (hR.2.1 p hp).2.1
  have e15 : I 15 (nI p).toNatClampNeg = nI (A.1 3 p) := by rw [u_cl (by omega)]; exact (hR.2.1 p hp).2.2.1
  have hin : vp_in (nI p) 7 := u_in (by omega) (by decide)
  have hk4 := (hV.2.2.2.1 p hp).1
  have hr := hV.rule hp
  refine c0_X5_heardBy (vc_X5_heardBy_0 ⟨_, ct_size h, fun h0 => ?_, fun h0 => ⟨hin, ?_⟩⟩)
  · rw [u_0 (by omega)] at h0
    have e : l = [] := List.eq_nil_of_length_eq_zero h0
    subst e
    exact ⟨rfl, rfl, rfl⟩
  · rw [u_0 (by omega)] at h0
    have hne : l ≠ [] := fun q => h0 (by rw [q]; rfl)
    rw [e13, e14, e15]
    unfold hs
    rw [if_neg hne]
    unfold hb
    refine ⟨fun hk => ?_, fun n1 => ⟨fun hk => ?_, fun n2 => ⟨fun hk => ?_, fun n3 => ⟨fun hk => ?_, fun n4 => ?_⟩⟩⟩⟩
    · have hk : A.1 1 p = 1 := (u_eq (b := 1) (by omega) (by decide)).mp hk
      rw [if_pos hk]
      exact ⟨_, ct_reversed h, rfl, rfl, rfl⟩
    · have hk : A.1 1 p = 2 := (u_eq (b := 2) (by omega) (by decide)).mp hk
      rw [if_neg (by omega), if_pos hk]
      have el : l.dropLast ++ [l.getLast hne] = l := List.dropLast_concat_getLast hne
      have hS : Sg (l.dropLast ++ [l.getLast hne]) := by rw [el]; exact h
      have c := ct_with_drop (I := I) (L := L) hS
      rw [el] at c
      have en : nI l.length - 1 = nI l.dropLast.length := by
        rw [List.length_dropLast]
        obtain ⟨n, hn⟩ : ∃ n, l.length = n + 1 := ⟨l.length - 1, by omega⟩
        rw [hn, nI_pred]
        rfl
      rw [en]
      exact ⟨_, c, rfl, rfl, rfl⟩
    · have hk : A.1 1 p = 3 := (u_eq (b := 3) (by omega) (by decide)).mp hk
      rw [if_neg (by omega), if_neg (by omega), if_pos hk]
      have ha := hr.1 (Or.inl hk)
      refine ⟨fun h6 => ?_, fun h6 => ⟨hin, ?_⟩⟩
      · have h6 : l.length = 6 := (u_eq (b := 6) (by omega) (by decide)).mp h6
        rw [if_pos h6]
        exact ⟨rfl, rfl, rfl⟩
      · have h6 : ¬ l.length = 6 := fun q => h6 ((u_eq (b := 6) (by omega) (by decide)).mpr q)
        rw [if_neg h6]
        exact ⟨_, ct_with_add h (by omega) (by omega), rfl, rfl, rfl⟩
    · have hk : A.1 1 p = 4 := (u_eq (b := 4) (by omega) (by decide)).mp hk
      rw [if_neg (by omega), if_neg (by omega), if_neg (by omega), if_pos hk]
      exact ⟨hin, hin, _, ct_replaced h (hr.1 (Or.inr hk)) (hr.2 hk), rfl, rfl, rfl⟩
    · have m1 : ¬ A.1 1 p = 1 := fun q => n1 ((u_eq (b := 1) (by omega) (by decide)).mpr q)
      have m2 : ¬ A.1 1 p = 2 := fun q => n2 ((u_eq (b := 2) (by omega) (by decide)).mpr q)
      have m3 : ¬ A.1 1 p = 3 := fun q => n3 ((u_eq (b := 3) (by omega) (by decide)).mpr q)
      have m4 : ¬ A.1 1 p = 4 := fun q => n4 ((u_eq (b := 4) (by omega) (by decide)).mpr q)
      rw [if_neg m1, if_neg m2, if_neg m3, if_neg m4]
      exact ⟨rfl, rfl, rfl⟩
theorem ct_changed (hR : RM A I 97 0) (hV : NV A) {p : Nat} (hp : p < A.1 0 3) {l : List Nat} (h : Sg l) (hne : l ≠ []) : q_C kX12_changed [.ref 96, .int (nI p), .int (nI (mE l))] I L (some (.int (nI (mE (hs A p l))))) I L := by
  have hl := h.1
  have hk4 := (hV.2.2.2.1 p hp).1
  have hr := hV.rule hp
  have c0 := ct_ruleOf (L := L) hR hV hp (k := 0) (by decide)
  have c1 := ct_ruleOf (L := L) hR hV hp (k := 1) (by decide)
  have c2 := ct_ruleOf (L := L) hR hV hp (k := 2) (by decide)
  have hml := h.mlt
  have hSt := hs_Sg hV hp h
  have loop : (A.1 1 p = 1 ∨ A.1 1 p = 4) → ∀ m i : Nat, i + m = l.length → v_X12_changed_61 (some (.int (nI (mE (hs A p l))))) I L I L (nI p) (nI (mE l)) (nI (A.1 1 p)) (nI l.length) (nI (mE ((hs A p l).take i))) (nI i) := by
    intro hk
    have ht : (hs A p l).length = l.length := by
      unfold hs hb
      rw [if_neg hne]
      rcases hk with q | q
      · rw [if_pos q, List.length_reverse]
      · rw [if_neg (by omega), if_neg (by omega), if_neg (by omega), if_pos q, List.length_map]
    intro m
    induction m with
    | zero =>
      intro i hi
      have e : i = l.length := by omega
      subst e
      refine vc_X12_changed_61 ⟨fun _ => ⟨?_, rfl, rfl⟩, fun hc => absurd (nI_le (Nat.le_refl _) (by omega)) hc⟩
      rw [List.take_of_length_le (by omega)]
    | succ m ih =>
      intro i hi
      have hlt : i < l.length := by omega
      have hlt2 : i < (hs A p l).length := by omega
      have hm := mE_take hlt2
      have step : ∀ z : Nat, z = (hs A p l)[i] → v_X12_changed_61 (some (.int (nI (mE (hs A p l))))) I L I L (nI p) (nI (mE l)) (nI (A.1 1 p)) (nI l.length) (5 * nI (mE ((hs A p l).take i)) + nI z) (nI i + 1) := by
        intro z hz
        rw [show (5 : Int32) = nI 5 from rfl, u_mul, u_add, nI_1, hz, ← hm]
        exact ih (i + 1) (by omega)
      refine vc_X12_changed_61 ⟨fun hc => absurd hc (nI_ge hlt (by omega)), fun _ => ⟨fun hk1 => ?_, fun hk1 => ?_⟩⟩
      · have hk1 : A.1 1 p = 1 := (u_eq (b := 1) (by omega) (by decide)).mp hk1
        have en : nI l.length - 1 - nI i = nI (l.length - 1 - i) := by
          obtain ⟨n, hn⟩ : ∃ n, l.length = n + 1 := ⟨l.length - 1, by omega⟩
          rw [hn, nI_pred, pk_sub (by omega)]
          rfl
        rw [en]
        have hx : l.length - 1 - i < l.length := by omega
        refine vc_X12_changed_86 ⟨_, ct_letterOf h hx, fun q4 => ?_, fun _ => ?_⟩
        · rw [hk1] at q4
          exact absurd q4 (by decide)
        · refine step _ ?_
          unfold hs hb
          simp only [if_neg hne, if_pos hk1, List.getElem_reverse]
      · have hk4 : A.1 1 p = 4 := by
          rcases hk with q | q
          · exact absurd ((u_eq (b := 1) (by omega) (by decide)).mpr q) hk1
          · exact q
        have eg : (hs A p l)[i] = if l[i] = A.1 2 p then A.1 3 p else l[i] := by
          unfold hs hb
          simp only [if_neg hne, if_neg (show ¬ A.1 1 p = 1 by omega), if_neg (show ¬ A.1 1 p = 2 by omega), if_neg (show ¬ A.1 1 p = 3 by omega), if_pos hk4, List.getElem_map]
        have ha := h.2 l[i] (List.getElem_mem hlt)
        have hb1 := hr.1 (Or.inr hk4)
        refine vc_X12_changed_86 ⟨_, ct_letterOf h hlt, fun _ => ⟨_, c1, fun qe => ⟨_, c2, step _ ?_⟩, fun qe => step _ ?_⟩, fun q => ?_⟩
        · have qe : l[i] = A.1 2 p := (u_eq (by omega) (by show A.1 2 p < _; omega)).mp qe
          rw [eg, if_pos qe]
        · rw [eg, if_neg (fun z => qe (by rw [z]))]
        · exact absurd (by rw [hk4]; rfl) q
  refine c0_X12_changed (vc_X12_changed_0 ⟨_, c0, _, ct_longOf h, fun k0 => ?_, fun k0 => ⟨fun k2 => ?_, fun k2 => ⟨fun k3 => ?_, fun k3 => ?_⟩⟩⟩)
  · have k0 : A.1 1 p = 0 := (u_eq (b := 0) (by show A.1 1 p < _; omega) (by decide)).mp k0
    unfold hs hb
    rw [if_neg hne, if_neg (by omega), if_neg (by omega), if_neg (by omega), if_neg (by omega)]
    exact ⟨rfl, rfl, rfl⟩
  · have k2 : A.1 1 p = 2 := (u_eq (b := 2) (by show A.1 1 p < _; omega) (by decide)).mp k2
    unfold hs hb
    rw [if_neg hne, if_neg (by omega), if_pos k2, u_div5 (by omega)]
    have el : l.dropLast ++ [l.getLast hne] = l := List.dropLast_concat_getLast hne
    have ha := h.2 (l.getLast hne) (List.getLast_mem hne)
    have em : mE l / 5 = mE l.dropLast := by
      have := mE_snoc l.dropLast (l.getLast hne)
      rw [el] at this
      omega
    rw [em]
    exact ⟨rfl, rfl, rfl⟩
  · have k3 : A.1 1 p = 3 := (u_eq (b := 3) (by show A.1 1 p < _; omega) (by decide)).mp k3
    unfold hs hb
    rw [if_neg hne, if_neg (by omega), if_neg (by omega), if_pos k3]
    refine ⟨fun h6 => ?_, fun h6 => ⟨_, c1, ?_⟩⟩
    · have h6 : l.length = 6 := (u_eq (b := 6) (by omega) (by decide)).mp h6
      rw [if_pos h6]
      exact ⟨rfl, rfl, rfl⟩
    · have h6 : ¬ l.length = 6 := fun q => h6 ((u_eq (b := 6) (by omega) (by decide)).mpr q)
      rw [if_neg h6, show (5 : Int32) = nI 5 from rfl, u_mul, u_add, mE_snoc]
      exact ⟨rfl, rfl, rfl⟩
  · have m0 : ¬ A.1 1 p = 0 := fun q => k0 ((u_eq (b := 0) (by show A.1 1 p < _; omega) (by decide)).mpr q)
    have m2 : ¬ A.1 1 p = 2 := fun q => k2 ((u_eq (b := 2) (by show A.1 1 p < _; omega) (by decide)).mpr q)
    have m3 : ¬ A.1 1 p = 3 := fun q => k3 ((u_eq (b := 3) (by show A.1 1 p < _; omega) (by decide)).mpr q)
    exact loop (by omega) l.length 0 (by omega)
end HH
