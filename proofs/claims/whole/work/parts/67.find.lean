/-! FIRST: who hears whom hangs on how long a saying is. -/
theorem hb_len {k a b : Nat} {l l' : List Nat} (h : l.length = l'.length) : (hb k a b l).length = (hb k a b l').length := by
  unfold hb
  by_cases h1 : k = 1
  · rw [if_pos h1, if_pos h1, List.length_reverse, List.length_reverse, h]
  · rw [if_neg h1, if_neg h1]
    by_cases h2 : k = 2
    · rw [if_pos h2, if_pos h2, List.length_dropLast, List.length_dropLast, h]
    · rw [if_neg h2, if_neg h2]
      by_cases h3 : k = 3
      · rw [if_pos h3, if_pos h3, h]
        by_cases h6 : l'.length = 6
        · rw [if_pos h6, if_pos h6, h]
        · rw [if_neg h6, if_neg h6, List.length_append, List.length_append, h]
      · rw [if_neg h3, if_neg h3]
        by_cases h4 : k = 4
        · rw [if_pos h4, if_pos h4, List.length_map, List.length_map, h]
        · rw [if_neg h4, if_neg h4, h]
theorem nil_len {l l' : List Nat} (h : l.length = l'.length) : l = [] ↔ l' = [] := by
  rw [← List.length_eq_zero_iff, ← List.length_eq_zero_iff, h]
theorem hs_len (A : Nt) (p : Nat) {l l' : List Nat} (h : l.length = l'.length) : (hs A p l).length = (hs A p l').length := by
  unfold hs
  by_cases e : l = []
  · rw [if_pos e, if_pos ((nil_len h).mp e)]
  · rw [if_neg e, if_neg (fun q => e ((nil_len h).mpr q))]
    exact hb_len h
/-- rows of one shape -/
def Shp (r r' : Rw) : Prop := ∀ p, (r p).1.length = (r' p).1.length ∧ (r p).2 = (r' p).2
theorem Shp_U {r r' : Rw} {p : Nat} (h : Shp r r') : Shp (rwU r p clO) (rwU r' p clO) := fun q => by
  by_cases e : q = p
  · rw [e, rwU_s, rwU_s]; exact ⟨rfl, rfl⟩
  · rw [rwU_n e, rwU_n e]; exact h q
theorem Shp_dra {A : Nt} {P P' : Pm} (hP : P.2.1 = P'.2.1) {t : Nat} {r r' : Rw} (h : Shp r r') : ∀ i, Shp (draR A P t r i) (draR A P' t r' i)
  | 0 => h
  | i + 1 => by
    have ih := Shp_dra (A := A) hP (t := t) h i
    show Shp (if A.1 8 i = t ∧ (i : Int) ≠ P.2.1.2.2.2 then rwU (draR A P t r i) (A.1 7 i) clO else draR A P t r i) (if A.1 8 i = t ∧ (i : Int) ≠ P'.2.1.2.2.2 then rwU (draR A P' t r' i) (A.1 7 i) clO else draR A P' t r' i)
    rw [← hP]
    by_cases e : A.1 8 i = t ∧ (i : Int) ≠ P.2.1.2.2.2
    · rw [if_pos e, if_pos e]; exact Shp_U ih
    · rw [if_neg e, if_neg e]; exact ih
theorem Shp_dac {A : Nt} {t : Nat} {r r' : Rw} (h : Shp r r') : ∀ i, Shp (dacR A t r i) (dacR A t r' i)
  | 0 => h
  | i + 1 => by
    have ih := Shp_dac (A := A) (t := t) h i
    show Shp (if A.1 11 i = t ∧ A.1 10 i = 0 then rwU (dacR A t r i) (A.1 9 i) clO else dacR A t r i) (if A.1 11 i = t ∧ A.1 10 i = 0 then rwU (dacR A t r' i) (A.1 9 i) clO else dacR A t r' i)
    by_cases e : A.1 11 i = t ∧ A.1 10 i = 0
    · rw [if_pos e, if_pos e]; exact Shp_U ih
    · rw [if_neg e, if_neg e]; exact ih
theorem Shp_out {A : Nt} {P P' : Pm} (hP : P.2.1 = P'.2.1) {t : Nat} {r r' : Rw} (h : Shp r r') : Shp (outR A P t r) (outR A P' t r') := by
  have h1 := Shp_dac (A := A) (t := t) (Shp_dra (A := A) hP (t := t) h (A.1 0 6)) (A.1 0 7)
  unfold outR gusR
  rw [← hP]
  by_cases e : P.2.1.2.2.1 = t ∧ P.2.1.2.1 ≠ -1
  · rw [if_pos e, if_pos e]; exact Shp_U h1
  · rw [if_neg e, if_neg e]; exact h1
theorem btr_shp {law : Nat} {r r' : Rw} (h : Shp r r') (o c : Nat) : btr law r o c = btr law r' o c := by
  unfold btr
  rw [(h o).1, (h c).1, (h o).2, (h c).2]
theorem spk_shp {law : Nat} {r r' : Rw} (h : Shp r r') {f g : Nat → Bool} (hf : ∀ o, f o = g o) : ∀ k, spk law r f k = spk law r' g k
  | 0 => rfl
  | k + 1 => by
    unfold spk
    rw [hf k, spk_shp h hf k]
    cases spk law r' g k with
    | none => rfl
    | some c =>
      show (if g k = true then (if btr law r k c = true then some k else some c) else some c) = (if g k = true then (if btr law r' k c = true then some k else some c) else some c)
      rw [btr_shp h]
theorem aud_shp {A : Nt} {P P' : Pm} (hP : P.1 = P'.1) {r r' : Rw} (h : Shp r r') (p o : Nat) : aud A P r p o = aud A P' r' p o := by
  unfold aud
  rw [hP]
  have e : (r o).1.isEmpty = (r' o).1.isEmpty := by
    cases h1 : (r o).1 with
    | nil =>
      have := (nil_len (h o).1).mp h1
      rw [this]
    | cons a l =>
      cases h2 : (r' o).1 with
      | nil =>
        have := (nil_len (h o).1).mpr h2
        rw [this] at h1; cases h1
      | cons b l' => rfl
  rw [e]
theorem Shp_car {A : Nt} {P P' : Pm} (hP : P.1 = P'.1) {t : Nat} {r r' : Rw} (h : Shp r r') : Shp (carR A P t r) (carR A P' t r') := by
  intro p
  show (carC A P t r p).1.length = (carC A P' t r' p).1.length ∧ (carC A P t r p).2 = (carC A P' t r' p).2
  unfold carC
  rw [spk_shp h (fun o => aud_shp (A := A) hP h p o), hP]
  have hn := nil_len (h p).1
  by_cases e : (r p).1 = [] ∧ P'.1.2.2.testBit t = false
  · rw [if_pos e, if_pos ⟨hn.mp e.1, e.2⟩]
    cases spk P'.1.1 r' (aud A P' r' p) (A.1 0 3) with
    | none => exact h p
    | some q =>
      show (if hs A p (r q).1 = [] then r p else (hs A p (r q).1, (q : Int), (t : Int) + 1, (r q).2.2.2 + 1)).1.length = (if hs A p (r' q).1 = [] then r' p else (hs A p (r' q).1, (q : Int), (t : Int) + 1, (r' q).2.2.2 + 1)).1.length ∧ (if hs A p (r q).1 = [] then r p else (hs A p (r q).1, (q : Int), (t : Int) + 1, (r q).2.2.2 + 1)).2 = (if hs A p (r' q).1 = [] then r' p else (hs A p (r' q).1, (q : Int), (t : Int) + 1, (r' q).2.2.2 + 1)).2
      have hl := hs_len A p (h q).1
      by_cases e2 : hs A p (r q).1 = []
      · rw [if_pos e2, if_pos ((nil_len hl).mp e2)]; exact h p
      · rw [if_neg e2, if_neg (fun z => e2 ((nil_len hl).mpr z)), (h q).2]
        exact ⟨hl, rfl⟩
  · rw [if_neg e, if_neg (fun z => e ⟨hn.mpr z.1, z.2⟩)]
    exact h p
theorem lit_al {A : Nt} {s : Nat} {v : List Nat} {t : Nat} {r : Rw} : litR A (Pal A s v) t r = r := by
  unfold litR morR
  rw [if_neg (fun z => z.2 rfl)]
  rfl
theorem Shp_rows {A : Nt} {s : Nat} {v v' : List Nat} (h : v.length = v'.length) : ∀ t, Shp (rows A (Pal A s v) t) (rows A (Pal A s v') t)
  | 0 => by
    show Shp (outR A (Pal A s v) 0 (litR A (Pal A s v) 0 (begR A (Pal A s v)))) (outR A (Pal A s v') 0 (litR A (Pal A s v') 0 (begR A (Pal A s v'))))
    rw [lit_al, lit_al]
    refine Shp_out (P := Pal A s v) (P' := Pal A s v') rfl (fun p => ?_)
    show (begA (Pal A s v) p).1.length = (begA (Pal A s v') p).1.length ∧ (begA (Pal A s v) p).2 = (begA (Pal A s v') p).2
    unfold begA
    show (if s / 2 ^ p % 2 = 1 then clK clO 0 v else clO).1.length = (if s / 2 ^ p % 2 = 1 then clK clO 0 v' else clO).1.length ∧ (if s / 2 ^ p % 2 = 1 then clK clO 0 v else clO).2 = (if s / 2 ^ p % 2 = 1 then clK clO 0 v' else clO).2
    by_cases e : s / 2 ^ p % 2 = 1
    · rw [if_pos e, if_pos e]; exact ⟨h, rfl⟩
    · rw [if_neg e, if_neg e]; exact ⟨rfl, rfl⟩
  | t + 1 => by
    show Shp (outR A (Pal A s v) (t + 1) (litR A (Pal A s v) (t + 1) (carR A (Pal A s v) t (rows A (Pal A s v) t)))) (outR A (Pal A s v') (t + 1) (litR A (Pal A s v') (t + 1) (carR A (Pal A s v') t (rows A (Pal A s v') t))))
    rw [lit_al, lit_al]
    exact Shp_out (P := Pal A s v) (P' := Pal A s v') rfl (Shp_car (P := Pal A s v) (P' := Pal A s v') rfl (Shp_rows h t))
/-- what is put out is put out; all else is as it was -/
theorem dra_or {A : Nt} {P : Pm} {t : Nat} {r : Rw} (p : Nat) : ∀ i, draR A P t r i p = r p ∨ draR A P t r i p = clO
  | 0 => Or.inl rfl
  | i + 1 => by
    show (if A.1 8 i = t ∧ (i : Int) ≠ P.2.1.2.2.2 then rwU (draR A P t r i) (A.1 7 i) clO else draR A P t r i) p = r p ∨ (if A.1 8 i = t ∧ (i : Int) ≠ P.2.1.2.2.2 then rwU (draR A P t r i) (A.1 7 i) clO else draR A P t r i) p = clO
    by_cases e : A.1 8 i = t ∧ (i : Int) ≠ P.2.1.2.2.2
    · rw [if_pos e]
      by_cases q : p = A.1 7 i
      · rw [q, rwU_s]; exact Or.inr rfl
      · rw [rwU_n q]; exact dra_or p i
    · rw [if_neg e]; exact dra_or p i
theorem dac_or {A : Nt} {t : Nat} {r : Rw} (p : Nat) : ∀ i, dacR A t r i p = r p ∨ dacR A t r i p = clO
  | 0 => Or.inl rfl
  | i + 1 => by
    show (if A.1 11 i = t ∧ A.1 10 i = 0 then rwU (dacR A t r i) (A.1 9 i) clO else dacR A t r i) p = r p ∨ (if A.1 11 i = t ∧ A.1 10 i = 0 then rwU (dacR A t r i) (A.1 9 i) clO else dacR A t r i) p = clO
    by_cases e : A.1 11 i = t ∧ A.1 10 i = 0
    · rw [if_pos e]
      by_cases q : p = A.1 9 i
      · rw [q, rwU_s]; exact Or.inr rfl
      · rw [rwU_n q]; exact dac_or p i
    · rw [if_neg e]; exact dac_or p i
theorem out_or {A : Nt} {P : Pm} {t : Nat} {r : Rw} (p : Nat) : outR A P t r p = r p ∨ outR A P t r p = clO := by
  unfold outR gusR
  have h : dacR A t (draR A P t r (A.1 0 6)) (A.1 0 7) p = r p ∨ dacR A t (draR A P t r (A.1 0 6)) (A.1 0 7) p = clO := by
    rcases dac_or (A := A) (t := t) (r := draR A P t r (A.1 0 6)) p (A.1 0 7) with q | q
    · rw [q]; exact dra_or p _
    · exact Or.inr q
  by_cases e : P.2.1.2.2.1 = t ∧ P.2.1.2.1 ≠ -1
  · rw [if_pos e]
    by_cases q : p = P.2.1.2.1.toNat
    · rw [q, rwU_s]; exact Or.inr rfl
    · rw [rwU_n q]; exact h
  · rw [if_neg e]; exact h
theorem out_lit {A : Nt} {P : Pm} {t : Nat} {r : Rw} {p : Nat} (h : (outR A P t r p).1 ≠ []) : outR A P t r p = r p := by
  rcases out_or (A := A) (P := P) (t := t) (r := r) p with q | q
  · exact q
  · rw [q] at h; exact absurd rfl h
/-- where a saying comes from -/
theorem tr_inv {A : Nt} {s : Nat} {v : List Nat} : ∀ t p, (rows A (Pal A s v) t p).1 ≠ [] → ((rows A (Pal A s v) t p).2.1 = -1 ∧ (rows A (Pal A s v) t p).1 = v) ∨ (∃ q t0 : Nat, (rows A (Pal A s v) t p).2.1 = (q : Int) ∧ (rows A (Pal A s v) t p).2.2.1 = (t0 : Int) + 1 ∧ t0 < t ∧ q < A.1 0 3 ∧ (rows A (Pal A s v) t0 q).1 ≠ [] ∧ (rows A (Pal A s v) t p).1 = hs A p (rows A (Pal A s v) t0 q).1)
  | 0, p, h => by
    have e0 : rows A (Pal A s v) 0 = outR A (Pal A s v) 0 (begA (Pal A s v)) := by
      show outR A (Pal A s v) 0 (litR A (Pal A s v) 0 (begR A (Pal A s v))) = _
      rw [lit_al]
      rfl
    rw [e0] at h ⊢
    have e1 := out_lit h
    rw [e1] at h ⊢
    left
    unfold begA at h ⊢
    show (if s / 2 ^ p % 2 = 1 then clK clO 0 v else clO).2.1 = -1 ∧ (if s / 2 ^ p % 2 = 1 then clK clO 0 v else clO).1 = v
    have h : (if s / 2 ^ p % 2 = 1 then clK clO 0 v else clO).1 ≠ [] := h
    by_cases e : s / 2 ^ p % 2 = 1
    · rw [if_pos e]; exact ⟨rfl, rfl⟩
    · rw [if_neg e] at h; exact absurd rfl h
  | t + 1, p, h => by
    have e0 : rows A (Pal A s v) (t + 1) = outR A (Pal A s v) (t + 1) (carR A (Pal A s v) t (rows A (Pal A s v) t)) := by
      show outR A (Pal A s v) (t + 1) (litR A (Pal A s v) (t + 1) (carR A (Pal A s v) t (rows A (Pal A s v) t))) = _
      rw [lit_al]
    have e1 : rows A (Pal A s v) (t + 1) p = carC A (Pal A s v) t (rows A (Pal A s v) t) p := by
      rw [e0] at h ⊢
      exact out_lit h
    have old : carC A (Pal A s v) t (rows A (Pal A s v) t) p = rows A (Pal A s v) t p → ((rows A (Pal A s v) (t + 1) p).2.1 = -1 ∧ (rows A (Pal A s v) (t + 1) p).1 = v) ∨ (∃ q t0 : Nat, (rows A (Pal A s v) (t + 1) p).2.1 = (q : Int) ∧ (rows A (Pal A s v) (t + 1) p).2.2.1 = (t0 : Int) + 1 ∧ t0 < t + 1 ∧ q < A.1 0 3 ∧ (rows A (Pal A s v) t0 q).1 ≠ [] ∧ (rows A (Pal A s v) (t + 1) p).1 = hs A p (rows A (Pal A s v) t0 q).1) := by
      intro e2
      rw [e1, e2] at h ⊢
      rcases tr_inv t p h with q | ⟨q, t0, a1, a2, a3, a4, a5, a6⟩
      · exact Or.inl q
      · exact Or.inr ⟨q, t0, a1, a2, by omega, a4, a5, a6⟩
    cases hc : carS A (Pal A s v) t (rows A (Pal A s v) t) p with
    | none => exact old (carC_0 hc)
    | some q =>
      have hq := carS_lt hc
      have h1 := carC_1 hc
      by_cases e2 : hs A p (rows A (Pal A s v) t q).1 = []
      · rw [if_pos e2] at h1
        exact old h1
      · rw [if_neg e2] at h1
        right
        rw [e1, h1]
        exact ⟨q, t, rfl, rfl, by omega, hq.1, hq.2, rfl⟩
/-- the way back -/
def trl (A : Nt) (P : Pm) : Nat → Nat → Nat → List Nat
  | 0, _, _ => []
  | m + 1, t, p => if (rows A P t p).2.1 = -1 then [] else p :: trl A P m ((rows A P t p).2.2.1.toNat - 1) (rows A P t p).2.1.toNat
theorem trl_val {A : Nt} {s : Nat} {v : List Nat} : ∀ m t p, t ≤ m → (rows A (Pal A s v) t p).1 ≠ [] → (rows A (Pal A s v) t p).1 = (trl A (Pal A s v) m t p).foldr (hs A) v
  | 0, t, p, ht, h => by
    rcases tr_inv t p h with q | ⟨q, t0, -, -, a3, -, -, -⟩
    · exact q.2
    · omega
  | m + 1, t, p, ht, h => by
    show _ = (if (rows A (Pal A s v) t p).2.1 = -1 then [] else p :: trl A (Pal A s v) m ((rows A (Pal A s v) t p).2.2.1.toNat - 1) (rows A (Pal A s v) t p).2.1.toNat).foldr (hs A) v
    rcases tr_inv t p h with q | ⟨q, t0, a1, a2, a3, a4, a5, a6⟩
    · rw [if_pos q.1]; exact q.2
    · rw [if_neg (by rw [a1]; omega), a1, a2, show ((t0 : Int) + 1).toNat - 1 = t0 by omega, show ((q : Int)).toNat = q by omega]
      show _ = hs A p ((trl A (Pal A s v) m t0 q).foldr (hs A) v)
      rw [← trl_val m t0 q (by omega) a5]
      exact a6
theorem trl_shp {A : Nt} {s : Nat} {v v' : List Nat} (h : v.length = v'.length) : ∀ m t p, trl A (Pal A s v) m t p = trl A (Pal A s v') m t p
  | 0, _, _ => rfl
  | m + 1, t, p => by
    show (if (rows A (Pal A s v) t p).2.1 = -1 then [] else p :: trl A (Pal A s v) m ((rows A (Pal A s v) t p).2.2.1.toNat - 1) (rows A (Pal A s v) t p).2.1.toNat) = (if (rows A (Pal A s v') t p).2.1 = -1 then [] else p :: trl A (Pal A s v') m ((rows A (Pal A s v') t p).2.2.1.toNat - 1) (rows A (Pal A s v') t p).2.1.toNat)
    rw [(Shp_rows h t p).2, trl_shp h m]
theorem trl_len (A : Nt) (P : Pm) : ∀ m t p, (trl A P m t p).length ≤ m
  | 0, _, _ => Nat.le_refl _
  | m + 1, t, p => by
    show (if (rows A P t p).2.1 = -1 then [] else p :: trl A P m ((rows A P t p).2.2.1.toNat - 1) (rows A P t p).2.1.toNat).length ≤ m + 1
    by_cases e : (rows A P t p).2.1 = -1
    · rw [if_pos e]; exact Nat.zero_le _
    · rw [if_neg e, List.length_cons]
      have := trl_len A P m ((rows A P t p).2.2.1.toNat - 1) (rows A P t p).2.1.toNat
      omega
theorem cv_from {A : Nt} {P : Pm} (hV : NV A) (hP : PV A P) {t p : Nat} (hp : p < A.1 0 3) (h : (rows A P t p).2.1 ≠ -1) : (0 ≤ (rows A P t p).2.1 ∧ (rows A P t p).2.1 < A.1 0 3) ∧ 1 ≤ (rows A P t p).2.2.1 ∧ (rows A P t p).2.2.1 ≤ t := by
  have hc := RV_rows hV hP t p hp
  have hne : (rows A P t p).1 ≠ [] := fun q => by
    have := hc.2.1 q
    rw [this] at h
    exact absurd rfl h
  obtain ⟨h1, h2, h3, h4⟩ := hc.2.2 hne
  have := h4 h
  omega
theorem trl_lt {A : Nt} {P : Pm} (hV : NV A) (hP : PV A P) : ∀ m t p, p < A.1 0 3 → ∀ q ∈ trl A P m t p, q < A.1 0 3
  | 0, _, _, _, q, hq => by cases hq
  | m + 1, t, p, hp, q, hq => by
    have hq : q ∈ (if (rows A P t p).2.1 = -1 then [] else p :: trl A P m ((rows A P t p).2.2.1.toNat - 1) (rows A P t p).2.1.toNat) := hq
    by_cases e : (rows A P t p).2.1 = -1
    · rw [if_pos e] at hq; cases hq
    · rw [if_neg e] at hq
      have hf := cv_from hV hP hp e
      rcases List.mem_cons.mp hq with z | z
      · rw [z]; exact hp
      · exact trl_lt hV hP m _ _ (by omega) q z
/-- sayings of one length, in order -/
def splF (n c : Nat) : Nat → List Nat
  | 0 => []
  | i + 1 => splF n c i ++ [c / 2 ^ (2 * (n - 1 - i)) % 4 + 1]
theorem splF_len (n c : Nat) : ∀ i, (splF n c i).length = i
  | 0 => rfl
  | i + 1 => by
    show (splF n c i ++ [c / 2 ^ (2 * (n - 1 - i)) % 4 + 1]).length = i + 1
    rw [List.length_append, splF_len n c i]
    rfl
theorem splF_ok (n c : Nat) : ∀ i, ∀ a ∈ splF n c i, 1 ≤ a ∧ a ≤ 4
  | 0, a, h => by cases h
  | i + 1, a, h => by
    rcases List.mem_append.mp h with q | q
    · exact splF_ok n c i a q
    · have : a = c / 2 ^ (2 * (n - 1 - i)) % 4 + 1 := by simpa using q
      omega
theorem splF_Sg {n c i : Nat} (h : i ≤ 6) : Sg (splF n c i) := ⟨by rw [splF_len]; exact h, splF_ok n c i⟩
def spR (n : Nat) : Nat → List (List Nat)
  | 0 => []
  | k + 1 => spR n k ++ [splF n k n]
def isB : Nat → Nat → Bool
  | 0, _ => true
  | m + 1, v => if v = 0 then true else if v % 5 = 0 then false else isB m (v / 5)
def dgF : Nat → Nat → List Nat
  | 0, _ => []
  | m + 1, v => if v = 0 then [] else dgF m (v / 5) ++ [v % 5]
def vlR (lo : Nat) : Nat → List (List Nat)
  | 0 => []
  | k + 1 => vlR lo k ++ (if isB 4 (lo + k) = true then [dgF 4 (lo + k)] else [])
theorem vl_sp : ∀ n, n < 4 → vlR (5 ^ n) (4 * 5 ^ n) = spR (n + 1) (4 ^ (n + 1)) := by decide +kernel
theorem dg_ok : ∀ v, v < 625 → 0 < v → isB 4 v = true → mE (dgF 4 v) = v ∧ (dgF 4 v).length ≤ 4 ∧ dgF 4 v ≠ [] ∧ (∀ a ∈ dgF 4 v, 1 ≤ a ∧ a ≤ 4) := by decide +kernel
theorem filt_snoc (F : List Nat → Bool) (l : List (List Nat)) (x : List Nat) (h : F x = true) : (l ++ [x]).filter F = l.filter F ++ [x] := by
  rw [List.filter_append]
  simp [h]
theorem filt_skip (F : List Nat → Bool) (l : List (List Nat)) (x : List Nat) (h : F x = false) : (l ++ [x]).filter F = l.filter F := by
  rw [List.filter_append]
  simp [h]
theorem hd_snoc (l : List (List Nat)) (x : List Nat) : (l ++ [x]).headD [] = if l.length = 0 then x else l.headD [] := by
  cases l with
  | nil => rfl
  | cons a l => rfl
theorem spR_mem {n : Nat} : ∀ {k : Nat} {x : List Nat}, x ∈ spR n k → ∃ c, c < k ∧ x = splF n c n
  | 0, x, h => by cases h
  | k + 1, x, h => by
    rcases List.mem_append.mp h with q | q
    · obtain ⟨c, hc, hx⟩ := spR_mem q
      exact ⟨c, by omega, hx⟩
    · exact ⟨k, by omega, by simpa using q⟩
theorem filt_Sg {F : List Nat → Bool} {n k : Nat} (hn : n ≤ 6) : ∀ x ∈ (spR n k).filter F, Sg x := fun x hx => by
  obtain ⟨c, -, rfl⟩ := spR_mem (List.mem_filter.mp hx).1
  exact splF_Sg hn
theorem hd_Sg {l : List (List Nat)} (h : ∀ x ∈ l, Sg x) : Sg (l.headD []) := by
  cases l with
  | nil => exact Sg_nil
  | cons a l => exact h a List.mem_cons_self
theorem spR_len (n : Nat) : ∀ k, (spR n k).length = k
  | 0 => rfl
  | k + 1 => by
    show (spR n k ++ [splF n k n]).length = k + 1
    rw [List.length_append, spR_len n k]
    rfl
/-- what must be said first -/
def fdB (A : Nt) (a b : Nat) (g : List Nat) (v : List Nat) : Bool := decide ((rows A (Pal A (2 ^ a) v) (A.1 0 0) b).1 = g)
def skF (A : Nt) (a b : Nat) (g : List Nat) : Nat → List (List Nat)
  | 0 => []
  | n + 1 => if (skF A a b g n).length = 0 then (spR (n + 1) (4 ^ (n + 1))).filter (fdB A a b g) else skF A a b g n
theorem skF_stay {A : Nt} {a b : Nat} {g : List Nat} {n : Nat} (h : (skF A a b g n).length ≠ 0) : ∀ m, skF A a b g (n + m) = skF A a b g n
  | 0 => rfl
  | m + 1 => by
    show (if (skF A a b g (n + m)).length = 0 then (spR (n + m + 1) (4 ^ (n + m + 1))).filter (fdB A a b g) else skF A a b g (n + m)) = _
    rw [skF_stay h m, if_neg h]
theorem skF_go {A : Nt} {a b : Nat} {g : List Nat} {n : Nat} (h : (skF A a b g n).length = 0) : skF A a b g (n + 1) = (spR (n + 1) (4 ^ (n + 1))).filter (fdB A a b g) := if_pos h
theorem skF_Sg (A : Nt) (a b : Nat) (g : List Nat) : ∀ n, n ≤ 4 → ∀ x ∈ skF A a b g n, Sg x
  | 0, _, x, h => by cases h
  | n + 1, hn, x, h => by
    have h : x ∈ (if (skF A a b g n).length = 0 then (spR (n + 1) (4 ^ (n + 1))).filter (fdB A a b g) else skF A a b g n) := h
    by_cases e : (skF A a b g n).length = 0
    · rw [if_pos e] at h; exact filt_Sg (by omega) x h
    · rw [if_neg e] at h; exact skF_Sg A a b g n (by omega) x h
theorem skF_le (A : Nt) (a b : Nat) (g : List Nat) : ∀ n, n ≤ 4 → (skF A a b g n).length ≤ 256
  | 0, _ => Nat.zero_le _
  | n + 1, hn => by
    show (if (skF A a b g n).length = 0 then (spR (n + 1) (4 ^ (n + 1))).filter (fdB A a b g) else skF A a b g n).length ≤ 256
    by_cases e : (skF A a b g n).length = 0
    · rw [if_pos e]
      refine Nat.le_trans (List.length_filter_le _ _) ?_
      rw [spR_len]
      exact (show 4 ^ (n + 1) ≤ 4 ^ 4 from Nat.pow_le_pow_right (by decide) hn)
    · rw [if_neg e]; exact skF_le A a b g n (by omega)
