/-! ACTS: calls that do something. -/
def FN (I I' : Nat → Nat → Int32) : Prop := ∀ a k, (a ≠ 0 ∨ k ≠ 18) → a ≠ 89 → I' a k = I a k
theorem ce_forget {I : Nat → Nat → Int32} {L : Nat → Nat → Int64} : ∃ I', q_C kX8_forget [.ref 88] I L none I' L ∧ (∀ s, s < 128 → I' 89 s = -1) ∧ (∀ a k, a ≠ 89 → I' a k = I a k) := by
  have h := mloop (V := fun k I' J => v_X8_forget_2 none I' L J L (nI k)) (Inv := fun k J => (∀ s, s < k → J 89 s = -1) ∧ (∀ a k, a ≠ 89 → J a k = I a k)) (n := 128) (Q := fun I' => (∀ s, s < 128 → I' 89 s = -1) ∧ (∀ a k, a ≠ 89 → I' a k = I a k)) (fun J hJ => ⟨J, vc_X8_forget_2 ⟨fun _ => ⟨rfl, rfl, rfl⟩, fun z => absurd (by decide) z⟩, hJ⟩) ?_ I ⟨fun s hs => absurd hs (by omega), fun _ _ _ => rfl⟩
  · obtain ⟨I', hw, hf⟩ := h
    exact ⟨I', c0_X8_forget (vc_X8_forget_0 hw), hf⟩
  · rintro k J hk ⟨h1, h2⟩
    refine ⟨up2 J 89 k (-1), ⟨fun s hs => ?_, fun a j q => ?_⟩, fun I' hw => vc_X8_forget_2 ?_⟩
    · by_cases e : s = k
      · subst e; exact up2_s _ _ _ _
      · rw [up2_k e]; exact h1 s (by omega)
    · rw [up2_p q]; exact h2 a j q
    · rw [u_cl (by omega), nI_1]
      exact ⟨fun z => absurd z (nI_ge (b := 128) hk (by decide)), fun _ => ⟨u_in hk (by decide), hw⟩⟩
theorem ce_unsettle {Z : St} {I : Nat → Nat → Int32} {L : Nat → Nat → Int64} (hB : Bc Z I L) : ∃ I', q_C kX11_unsettle [.ref 0] I L none I' L ∧ RelC Z I' L ∧ FN I I' := by
  obtain ⟨I1, c1, h1, hf1⟩ := ce_forget (I := up2 I 0 18 0) (L := L)
  have hF : FN I I1 := fun a k q q2 => by rw [hf1 a k q2, up2_o' q]
  exact ⟨I1, c0_X11_unsettle (vc_X11_unsettle_0 ⟨I1, c1, rfl, rfl, rfl⟩), ⟨Bc_of (fun a k q q2 => hF a k q2 (by omega)) hB, Or.inl (by rw [hf1 0 18 (by decide)]; exact up2_s _ _ _ _), fun s hs => Or.inl (h1 s hs)⟩, hF⟩
theorem Bc_night {Z : St} {I I' : Nat → Nat → Int32} {L : Nat → Nat → Int64} {A' : Nt} (hB : Bc Z I L) (h : ∀ a k, (a < 12 ∨ 24 < a) → I' a k = I a k) (hR : RC A' I' 12 21) (hV : NV A') : Bc (A', Z.2) I' L := by
  obtain ⟨-, ⟨b3, b4, b5⟩, ⟨b6, b7⟩, b8, b9⟩ := hB
  refine ⟨⟨hR, hV⟩, ⟨b3, by rw [h 0 1 (by omega)]; exact b4, fun k hk => by rw [h 1 k (by omega)]; exact b5 k hk⟩, ⟨by rw [h 0 2 (by omega)]; exact b6, by rw [h 0 3 (by omega)]; exact b7⟩, fun k hk => ⟨fun z => ?_, fun B z => ?_⟩, fun s hs => ⟨fun z => ?_, fun w n f z => ?_⟩⟩
  · rw [h 35 k (by omega)]; exact (b8 k hk).1 z
  · obtain ⟨c1, c2, c3⟩ := (b8 k hk).2 B z
    exact ⟨by rw [h 35 k (by omega)]; exact c1, RC_of2 (fun a j q => h a j (by omega)) c2, c3⟩
  · rw [h 26 s (by omega)]; exact (b9 s hs).1 z
  · rw [h 26 s (by omega), h 27 s (by omega)]; exact (b9 s hs).2 w n f z
theorem RelM_night {Z : St} {I I' : Nat → Nat → Int32} {L : Nat → Nat → Int64} {A' : Nt} (hB : RelM Z I L) (h : ∀ a k, (a < 96 ∨ a = 96 ∧ k < 15 ∨ 98 ≤ a ∧ a ≤ 102 ∨ 109 ≤ a) → I' a k = I a k) (hR : RM A' I' 97 0) (hV : NV A') : RelM (A', Z.2) I' L := by
  obtain ⟨-, ⟨b3, b4, b5⟩, ⟨b6, b7⟩, b8, b9⟩ := hB
  refine ⟨⟨hR, hV⟩, ⟨b3, by rw [h 96 5 (by omega)]; exact b4, fun k hk => by rw [h 100 k (by omega)]; exact b5 k hk⟩, ⟨by rw [h 96 12 (by omega)]; exact b6, by rw [h 96 13 (by omega)]; exact b7⟩, fun k hk => ⟨fun z => ?_, fun B z => ?_⟩, fun s hs => ⟨fun z => ?_, fun w n f z => ?_⟩⟩
  · rw [h 99 k (by omega)]; exact (b8 k hk).1 z
  · obtain ⟨c1, c2, c3⟩ := (b8 k hk).2 B z
    exact ⟨by rw [h 99 k (by omega)]; exact c1, RM_of2 (fun j => h 98 j (by omega)) c2, c3⟩
  · rw [h 109 s (by omega)]; exact (b9 s hs).1 z
  · rw [h 109 s (by omega), h 110 s (by omega)]; exact (b9 s hs).2 w n f z
/-- nights that differ in their acts alone -/
def NA (A A' : Nt) : Prop := A'.2 = A.2 ∧ ∀ a k, a < 9 → (a ≠ 0 ∨ k ≠ 7) → A'.1 a k = A.1 a k
theorem nearF_of {A A' : Nt} (h4 : ∀ k, A'.1 4 k = A.1 4 k) (h5 : ∀ k, A'.1 5 k = A.1 5 k) (p : Nat) : ∀ n, nearF A' p n = nearF A p n
  | 0 => rfl
  | n + 1 => by simp only [nearF, nearF_of h4 h5 p n, h4, h5]
theorem NA.nb {A A' : Nt} (h : NA A A') (p : Nat) : nearB A' p = nearB A p := by
  unfold nearB
  rw [nearF_of (fun k => h.2 4 k (by omega) (by omega)) (fun k => h.2 5 k (by omega) (by omega)), h.2 0 4 (by omega) (by omega)]
theorem RC_NA {A A' : Nt} {I I' : Nat → Nat → Int32} (h : NA A A') (hI : ∀ a k, 12 ≤ a ∧ a ≤ 20 → I' a k = I a k) (hR : RC A I 12 21) (h0 : I' 21 0 = nI (A'.1 0 7)) (h1 : ∀ i, i < A'.1 0 7 → I' 22 i = nI (A'.1 9 i) ∧ I' 23 i = nI (A'.1 10 i) ∧ I' 24 i = nI (A'.1 11 i)) : RC A' I' 12 21 := by
  obtain ⟨⟨a1, a2, a3, a4, a5, a6, a7, a8⟩, b, c, d, -, -⟩ := hR
  have e : ∀ k, k ≠ 7 → A'.1 0 k = A.1 0 k := fun k hk => h.2 0 k (by omega) (by omega)
  refine ⟨⟨?_, ?_, ?_, ?_, ?_, ?_, ?_, ?_⟩, fun i hi => ?_, fun i hi => ?_, fun i hi => ?_, h0, h1⟩
  · rw [hI 12 0 (by omega), e 8 (by omega)]; exact a1
  · rw [hI 12 1 (by omega), e 0 (by omega)]; exact a2
  · rw [hI 12 2 (by omega), e 1 (by omega)]; exact a3
  · rw [hI 12 3 (by omega), e 2 (by omega)]; exact a4
  · rw [hI 12 4 (by omega), e 3 (by omega)]; exact a5
  · rw [hI 12 5 (by omega), e 4 (by omega)]; exact a6
  · rw [hI 12 6 (by omega), e 5 (by omega)]; exact a7
  · rw [hI 12 7 (by omega), e 6 (by omega)]; exact a8
  · rw [e 3 (by omega)] at hi
    have x := b i hi
    show I' 13 i = _ ∧ I' 14 i = _ ∧ I' 15 i = _ ∧ I' 16 i = _
    rw [hI 13 i (by omega), hI 14 i (by omega), hI 15 i (by omega), hI 16 i (by omega), h.2 1 i (by omega) (by omega), h.2 2 i (by omega) (by omega), h.2 3 i (by omega) (by omega), h.nb]
    exact x
  · rw [e 5 (by omega)] at hi
    have x := c i hi
    show I' 17 i = _ ∧ I' 18 i = _
    rw [hI 17 i (by omega), hI 18 i (by omega), h.2 6 i (by omega) (by omega), h.1]
    exact x
  · rw [e 6 (by omega)] at hi
    have x := d i hi
    show I' 19 i = _ ∧ I' 20 i = _
    rw [hI 19 i (by omega), hI 20 i (by omega), h.2 7 i (by omega) (by omega), h.2 8 i (by omega) (by omega)]
    exact x
theorem RM_NA {A A' : Nt} {I I' : Nat → Nat → Int32} (h : NA A A') (hV : NV A) (hI : ∀ k, k ≠ 7 → k < 74 → I' 97 k = I 97 k) (hR : RM A I 97 0) (h0 : I' 97 7 = nI (A'.1 0 7)) (h1 : ∀ i, i < A'.1 0 7 → I' 97 (74 + i) = nI (10000 * A'.1 10 i + 100 * A'.1 9 i + A'.1 11 i)) : RM A' I' 97 0 := by
  obtain ⟨a, b, c, d, f, -⟩ := hR
  have e : ∀ k, k ≠ 7 → A'.1 0 k = A.1 0 k := fun k hk => h.2 0 k (by omega) (by omega)
  have h3 := hV.1.2.2.2.1
  have h4 := hV.1.2.2.2.2.1
  have h5 := hV.1.2.2.2.2.2.1
  have h6 := hV.1.2.2.2.2.2.2.1
  refine ⟨fun k hk => ?_, fun i hi => ?_, fun i hi => ?_, fun i hi => ?_, fun i hi => ?_, fun i hi => ?_⟩
  · by_cases q : k = 7
    · subst q; exact h0
    · have x := a k hk
      rw [Nat.zero_add] at x ⊢
      rw [hI k q (by omega), e k q]; exact x
  · rw [e 3 (by omega)] at hi
    have x := b i hi
    rw [hI _ (by omega) (by omega), hI (0 + 10 + 3 * i) (by omega) (by omega), hI (0 + 11 + 3 * i) (by omega) (by omega), h.2 1 i (by omega) (by omega), h.2 2 i (by omega) (by omega), h.2 3 i (by omega) (by omega)]
    exact x
  · rw [e 4 (by omega)] at hi
    have x := c i hi
    rw [hI (0 + 30 + 2 * i) (by omega) (by omega), hI (0 + 31 + 2 * i) (by omega) (by omega), h.2 4 i (by omega) (by omega), h.2 5 i (by omega) (by omega)]
    exact x
  · rw [e 5 (by omega)] at hi
    have x := d i hi
    rw [hI (0 + 54 + 2 * i) (by omega) (by omega), hI (0 + 55 + 2 * i) (by omega) (by omega), h.2 6 i (by omega) (by omega), h.1]
    exact x
  · rw [e 6 (by omega)] at hi
    have x := f i hi
    rw [hI (0 + 62 + 2 * i) (by omega) (by omega), hI (0 + 63 + 2 * i) (by omega) (by omega), h.2 7 i (by omega) (by omega), h.2 8 i (by omega) (by omega)]
    exact x
  · rw [Nat.zero_add]; exact h1 i hi
theorem NV_NA {A A' : Nt} (h : NA A A') (hV : NV A) (h7 : A'.1 0 7 ≤ 30) (h8 : A.1 0 8 = 0 → A'.1 0 7 = 0) (h9 : ∀ i, i < A'.1 0 7 → A'.1 9 i < A.1 0 3 ∧ A'.1 10 i ≤ 4 ∧ A'.1 11 i ≤ A.1 0 0) : NV A' := by
  have e : ∀ k, k ≠ 7 → A'.1 0 k = A.1 0 k := fun k hk => h.2 0 k (by omega) (by omega)
  obtain ⟨⟨n0, n1, n2, n3, n4, n5, n6, n7, n8⟩, v0, v1, v2, v3, v4, v5, v6⟩ := hV
  unfold NV
  rw [e 0 (by omega), e 1 (by omega), e 2 (by omega), e 3 (by omega), e 4 (by omega), e 5 (by omega), e 6 (by omega), e 8 (by omega)]
  refine ⟨⟨n0, n1, n2, n3, n4, n5, n6, h7, n8⟩, fun z k hk => ?_, v1, fun i hi => ?_, fun k hk => ?_, fun k hk => ?_, fun k hk => ?_, h9⟩
  · by_cases q : k = 7
    · subst q; exact h8 z
    · rw [e k q]; exact v0 z k hk
  · rw [h.2 1 i (by omega) (by omega), h.2 2 i (by omega) (by omega), h.2 3 i (by omega) (by omega)]; exact v2 i hi
  · rw [h.2 4 k (by omega) (by omega), h.2 5 k (by omega) (by omega)]; exact v3 k hk
  · rw [h.2 6 k (by omega) (by omega), h.1]; exact v4 k hk
  · rw [h.2 7 k (by omega) (by omega), h.2 8 k (by omega) (by omega)]; exact v5 k hk
def actN (A : Nt) (p c t : Nat) : Nt := (up2 (up2 (up2 (up2 A.1 9 (A.1 0 7) p) 10 (A.1 0 7) c) 11 (A.1 0 7) t) 0 7 (A.1 0 7 + 1), A.2)
theorem actN_o {A : Nt} {p c t a k : Nat} (h : (a ≠ 9 ∨ k ≠ A.1 0 7) ∧ (a ≠ 10 ∨ k ≠ A.1 0 7) ∧ (a ≠ 11 ∨ k ≠ A.1 0 7) ∧ (a ≠ 0 ∨ k ≠ 7)) : (actN A p c t).1 a k = A.1 a k := by
  show up2 (up2 (up2 (up2 A.1 9 (A.1 0 7) p) 10 (A.1 0 7) c) 11 (A.1 0 7) t) 0 7 (A.1 0 7 + 1) a k = _
  rw [up2_o' h.2.2.2, up2_o' h.2.2.1, up2_o' h.2.1, up2_o' h.1]
theorem actN_7 (A : Nt) (p c t : Nat) : (actN A p c t).1 0 7 = A.1 0 7 + 1 := by
  show up2 (up2 (up2 (up2 A.1 9 (A.1 0 7) p) 10 (A.1 0 7) c) 11 (A.1 0 7) t) 0 7 (A.1 0 7 + 1) 0 7 = _
  exact up2_s _ _ _ _
theorem actN_n (A : Nt) (p c t : Nat) : (actN A p c t).1 9 (A.1 0 7) = p ∧ (actN A p c t).1 10 (A.1 0 7) = c ∧ (actN A p c t).1 11 (A.1 0 7) = t := by
  refine ⟨?_, ?_, ?_⟩
  · show up2 (up2 (up2 (up2 A.1 9 (A.1 0 7) p) 10 (A.1 0 7) c) 11 (A.1 0 7) t) 0 7 (A.1 0 7 + 1) 9 _ = _
    rw [up2_p (by decide), up2_p (by decide), up2_p (by decide), up2_s]
  · show up2 (up2 (up2 (up2 A.1 9 (A.1 0 7) p) 10 (A.1 0 7) c) 11 (A.1 0 7) t) 0 7 (A.1 0 7 + 1) 10 _ = _
    rw [up2_p (by decide), up2_p (by decide), up2_s]
  · show up2 (up2 (up2 (up2 A.1 9 (A.1 0 7) p) 10 (A.1 0 7) c) 11 (A.1 0 7) t) 0 7 (A.1 0 7 + 1) 11 _ = _
    rw [up2_p (by decide), up2_s]
theorem actN_NA (A : Nt) (p c t : Nat) : NA A (actN A p c t) := ⟨rfl, fun a k h h2 => actN_o ⟨Or.inl (by omega), Or.inl (by omega), Or.inl (by omega), h2⟩⟩
theorem actN_V {A : Nt} {p c t : Nat} (hV : NV A) (hn : A.1 0 7 < 30) (hp : p < A.1 0 3) (hc : c ≤ 4) (ht : t ≤ A.1 0 0) (h8 : A.1 0 8 ≠ 0) : NV (actN A p c t) := by
  refine NV_NA (actN_NA A p c t) hV (by rw [actN_7]; omega) (fun z => absurd z h8) (fun i hi => ?_)
  rw [actN_7] at hi
  by_cases e : i = A.1 0 7
  · subst e
    obtain ⟨q1, q2, q3⟩ := actN_n A p c t
    rw [q1, q2, q3]
    exact ⟨hp, hc, ht⟩
  · rw [actN_o (by omega), actN_o (by omega), actN_o (by omega)]
    exact hV.2.2.2.2.2.2.2 i (by omega)
section AC
variable {Z : St} {I : Nat → Nat → Int32} {L : Nat → Nat → Int64}
theorem ce_act (hr : RelC Z I L) {p c t : Nat} (hn : Z.1.1 0 7 < 30) (hp : p < Z.1.1 0 3) (hc : c ≤ 4) (ht : t ≤ Z.1.1 0 0) (h8 : Z.1.1 0 8 ≠ 0) : ∃ I', q_C kX11_act [.ref 0, .int (nI p), .int (nI c), .int (nI t)] I L (some (.int (nI (pc7 (lastL (actN Z.1 p c t) (P0 (actN Z.1 p c t))))))) I' L ∧ RelC (actN Z.1 p c t, Z.2) I' L ∧ ∀ a k, 95 < a → I' a k = I a k := by
  have hR := hr.1.1.1
  have hV := hr.1.1.2
  have hV' := actN_V hV hn hp hc ht h8
  have e0 : I 21 0 = nI (Z.1.1 0 7) := hR.2.2.2.2.1
  have c1 : q_C kX0_add [.ref 21, .int (nI p), .int (nI c), .int (nI t)] I L none (up2 (up2 (up2 (up2 I 22 (Z.1.1 0 7) (nI p)) 23 (Z.1.1 0 7) (nI c)) 24 (Z.1.1 0 7) (nI t)) 21 0 (nI (Z.1.1 0 7 + 1))) L := by
    refine c0_X0_add (vc_X0_add_0 ?_)
    rw [e0, u_cl (by omega), up2_p (show 21 ≠ 22 by decide), e0, u_cl (by omega)]
    refine ⟨u_in hn (by decide), u_in hn (by decide), fun I1 h1 => ?_⟩
    have e1 : I1 21 0 = nI (Z.1.1 0 7) := by rw [h1, up2_p (by decide), up2_p (by decide), e0]
    rw [e1, u_cl (by omega), up2_p (show 21 ≠ 24 by decide), e1, nI_1]
    exact ⟨u_in hn (by decide), fun I2 h2 => ⟨rfl, by rw [h2, h1], rfl⟩⟩
  generalize hI2 : up2 (up2 (up2 (up2 I 22 (Z.1.1 0 7) (nI p)) 23 (Z.1.1 0 7) (nI c)) 24 (Z.1.1 0 7) (nI t)) 21 0 (nI (Z.1.1 0 7 + 1)) = I2 at c1
  have hf2 : ∀ a k, (a < 21 ∨ 24 < a) → I2 a k = I a k := fun a k q => by
    rw [← hI2, up2_p (by omega), up2_p (by omega), up2_p (by omega), up2_p (by omega)]
  have hR2 : RC (actN Z.1 p c t) I2 12 21 := by
    refine RC_NA (actN_NA Z.1 p c t) (fun a k q => hf2 a k (by omega)) hR ?_ (fun i hi => ?_)
    · rw [← hI2, up2_s, actN_7]
    · rw [actN_7] at hi
      by_cases e : i = Z.1.1 0 7
      · subst e
        obtain ⟨q1, q2, q3⟩ := actN_n Z.1 p c t
        rw [q1, q2, q3, ← hI2]
        refine ⟨?_, ?_, ?_⟩
        · rw [up2_p (by decide), up2_p (by decide), up2_p (by decide), up2_s]
        · rw [up2_p (by decide), up2_p (by decide), up2_s]
        · rw [up2_p (by decide), up2_s]
      · rw [actN_o (by omega), actN_o (by omega), actN_o (by omega), ← hI2]
        have x := hR.2.2.2.2.2 i (by omega)
        refine ⟨?_, ?_, ?_⟩
        · rw [up2_p (by decide), up2_k e, up2_k e, up2_k e]; exact x.1
        · rw [up2_p (by decide), up2_k e, up2_k e, up2_k e]; exact x.2.1
        · rw [up2_p (by decide), up2_k e, up2_k e, up2_k e]; exact x.2.2
  obtain ⟨I3, c3, hr3, hf3⟩ := ce_unsettle (Bc_night hr.1 (fun a k q => hf2 a k (by omega)) hR2 hV')
  obtain ⟨I4, c4, hf4, hs4, hse, hw⟩ := ce_settled hr3
  have hB4 := Bc_of hf4 hr3.1
  have h0 := hV'.1.1
  have e1 : I4 12 1 = nI ((actN Z.1 p c t).1 0 0) := hB4.1.1.1.2.1
  have e2 : I4 76 ((actN Z.1 p c t).1 0 0) = nI (lastL (actN Z.1 p c t) (P0 (actN Z.1 p c t))) := hs4.2 _ (by show _ < (actN Z.1 p c t).1 0 0 + 1; omega)
  refine ⟨I4, c0_X11_act (vc_X11_act_0 ⟨fun _ => ⟨I2, c1, I3, c3, I4, c4, ?_⟩, fun z => absurd (by rw [e0]; exact nI_lt (b := 30) hn (by decide)) z⟩), ⟨hB4, hse, hw⟩, fun a k q => by rw [hf4 a k (by omega) (by omega), hf3 a k (by omega) (by omega), hf2 a k (by omega)]⟩
  rw [e1, u_cl (by omega), e2]
  exact ⟨u_in (by omega) (by decide), _, ct_bitCount (lastL_lt hV' _), rfl, rfl, rfl⟩
theorem cm_keepA (hr : RelM Z I L) {p c t : Nat} (hn : Z.1.1 0 7 < 30) (hp : p < Z.1.1 0 3) (hc : c ≤ 4) (ht : t ≤ Z.1.1 0 0) (h8 : Z.1.1 0 8 ≠ 0) : ∃ I', q_C kX12_keepAct [.ref 96, .int (nI (10000 * c + 100 * p + t))] I L (some (.int (nI (pc7 (lastL (actN Z.1 p c t) (P0 (actN Z.1 p c t))))))) I' L ∧ RelM (actN Z.1 p c t, Z.2) I' L ∧ ∀ a k, a < 96 → I' a k = I a k := by
  have hR := hr.1.1
  have hV := hr.1.2
  have hV' := actN_V hV hn hp hc ht h8
  have e7 : I 97 7 = nI (Z.1.1 0 7) := hR.1 7 (by decide)
  have hi7 : vp_in 7 104 := by unfold vp_in; decide
  have hR2 : RM (actN Z.1 p c t) (up2 (up2 I 97 (74 + Z.1.1 0 7) (nI (10000 * c + 100 * p + t))) 97 7 (nI (Z.1.1 0 7 + 1))) 97 0 := by
    refine RM_NA (actN_NA Z.1 p c t) hV (fun k q1 q2 => ?_) hR ?_ (fun i hi => ?_)
    · rw [up2_k q1, up2_k (by omega)]
    · rw [up2_s, actN_7]
    · rw [actN_7] at hi
      by_cases e : i = Z.1.1 0 7
      · subst e
        obtain ⟨q1, q2, q3⟩ := actN_n Z.1 p c t
        rw [q1, q2, q3, up2_k (by omega), up2_s]
      · rw [actN_o (by omega), actN_o (by omega), actN_o (by omega), up2_k (by omega), up2_k (by omega)]
        have x := hR.2.2.2.2.2 i (by omega)
        rw [Nat.zero_add] at x
        exact x
  obtain ⟨I4, c4, hc4, hf4, -, -⟩ := ce_asksNight (L := L) hR2 hV'
  have hR4 : RM (actN Z.1 p c t) I4 97 0 := RM_of (fun k => hf4 97 k (by omega)) hR2
  refine ⟨I4, c0_X12_keepAct (vc_X12_keepAct_0 ?_), RelM_night hr (fun a k q => ?_) hR4 hV', fun a k q => ?_⟩
  · rw [show (7 : Int32).toNatClampNeg = 7 by decide, e7, show (74 : Int32) + nI (Z.1.1 0 7) = nI (74 + Z.1.1 0 7) from u_add 74 _, u_cl (by omega)]
    refine ⟨hi7, fun z => ?_, fun _ => ⟨hi7, u_in (by omega) (by decide), fun I1 h1 => ?_⟩⟩
    · have := (u_eq (b := 30) (by omega) (by decide)).mp z
      omega
    · have e8 : I1 97 7 = nI (Z.1.1 0 7) := by rw [h1, up2_k (by omega), e7]
      rw [e8, nI_1]
      refine ⟨hi7, hi7, fun I2 h2 => ?_⟩
      rw [h2, h1]
      exact ⟨_, I4, c4, _, mq_lastMany ⟨⟨hR4, hV', PV_P0 hV'⟩, hc4⟩, rfl, rfl, rfl⟩
  · rw [hf4 a k (by omega), up2_p (by omega), up2_p (by omega)]
  · rw [hf4 a k (by omega), up2_p (by omega), up2_p (by omega)]
end AC
theorem QC_d {Z Z' : St} {y : q_Y} {args : List Value} {v : Value} (h : ∀ I L, RelC Z I L → ∃ I', q_C y (.ref 0 :: args) I L (some v) I' L ∧ RelC Z' I' L ∧ ∀ a k, 95 < a → I' a k = I a k) : QC Z Z' y args v := fun I L hr => by
  obtain ⟨I', c, hf, hs⟩ := h I L hr
  exact ⟨I', L, c, hf, fun a k ha => ⟨hs a k ha, rfl⟩⟩
theorem QM_d {Z Z' : St} {y : q_Y} {args : List Value} {v : Value} (h : ∀ I L, RelM Z I L → ∃ I', q_C y (.ref 96 :: args) I L (some v) I' L ∧ RelM Z' I' L ∧ ∀ a k, a < 96 → I' a k = I a k) : QM Z Z' y args v := fun I L hr => by
  obtain ⟨I', c, hf, hs⟩ := h I L hr
  exact ⟨I', L, c, hf, fun a k ha => ⟨hs a k ha, rfl⟩⟩
theorem ce_act5 {Z : St} {I : Nat → Nat → Int32} {L : Nat → Nat → Int64} (hr : RelC Z I L) (hn : ¬ Z.1.1 0 7 < 30) (x y z : Int32) : q_C kX11_act [.ref 0, .int x, .int y, .int z] I L (some (.int (-5))) I L := by
  have e0 : I 21 0 = nI (Z.1.1 0 7) := hr.1.1.1.2.2.2.2.1
  have h7 := hr.1.1.2.1.2.2.2.2.2.2.2.1
  refine c0_X11_act (vc_X11_act_0 ⟨fun q => ?_, fun _ => ⟨rfl, rfl, rfl⟩⟩)
  rw [e0, show (30 : Int32) = nI 30 from rfl, nI_ltI (by omega) (by decide)] at q
  exact absurd q hn
theorem cm_keepA5 {Z : St} {I : Nat → Nat → Int32} {L : Nat → Nat → Int64} (hr : RelM Z I L) (hn : ¬ Z.1.1 0 7 < 30) (x : Int32) : q_C kX12_keepAct [.ref 96, .int x] I L (some (.int (-5))) I L := by
  have e7 : I 97 7 = nI (Z.1.1 0 7) := hr.1.1.1 7 (by decide)
  have h7 := hr.1.2.1.2.2.2.2.2.2.2.1
  have hi7 : vp_in 7 104 := by unfold vp_in; decide
  refine c0_X12_keepAct (vc_X12_keepAct_0 ?_)
  rw [show (7 : Int32).toNatClampNeg = 7 by decide, e7, show Z.1.1 0 7 = 30 by omega]
  exact ⟨hi7, fun _ => ⟨rfl, rfl, rfl⟩, fun z => absurd rfl z⟩
theorem q_light (Z : St) (x y z : Int32) : ∃ Z' v, Q2 Z Z' kX11_light kX12_light [.int x, .int y, .int z] (.int v) := by
  by_cases hx : bp Z.1 x
  · exact ⟨Z, -2, QC_q fun I L hr => ⟨I, c0_X11_light (vc_X11_light_0 ⟨_, ct_noPew hr.1.1.1 x, g1p hx ⟨rfl, rfl, rfl⟩⟩), Fq.rf, hr.2.1, hr.2.2⟩, QM_q fun I L hr => ⟨I, c0_X12_light (vc_X12_light_0 ⟨_, ct_isPew hr.1.1 hr.1.2 x, g0p hx ⟨rfl, rfl, rfl⟩⟩), Mq.rf⟩⟩
  by_cases hy : ib 1 4 y
  · exact ⟨Z, -2, QC_q fun I L hr => ⟨I, c0_X11_light (vc_X11_light_0 ⟨_, ct_noPew hr.1.1.1 x, g1n hx ⟨_, ct_noLetter y, g1p hy ⟨rfl, rfl, rfl⟩⟩⟩), Fq.rf, hr.2.1, hr.2.2⟩, QM_q fun I L hr => ⟨I, c0_X12_light (vc_X12_light_0 ⟨_, ct_isPew hr.1.1 hr.1.2 x, g0n hx ⟨_, ct_inI y 1 4, g0p hy ⟨rfl, rfl, rfl⟩⟩⟩), Mq.rf⟩⟩
  by_cases hz : bh Z.1 z
  · exact ⟨Z, -2, QC_q fun I L hr => ⟨I, c0_X11_light (vc_X11_light_0 ⟨_, ct_noPew hr.1.1.1 x, g1n hx ⟨_, ct_noLetter y, g1n hy ⟨_, ct_noHour hr.1.1.1 hr.1.1.2 z, g1p hz ⟨rfl, rfl, rfl⟩⟩⟩⟩), Fq.rf, hr.2.1, hr.2.2⟩, QM_q fun I L hr => ⟨I, c0_X12_light (vc_X12_light_0 ⟨_, ct_isPew hr.1.1 hr.1.2 x, g0n hx ⟨_, ct_inI y 1 4, g0n hy ⟨_, ct_isHour hr.1.1 hr.1.2 z, g0p hz ⟨rfl, rfl, rfl⟩⟩⟩⟩), Mq.rf⟩⟩
  by_cases hn : Z.1.1 0 7 < 30
  · refine ⟨(actN Z.1 x.toNatClampNeg y.toNatClampNeg z.toNatClampNeg, Z.2), nI (pc7 (lastL (actN Z.1 x.toNatClampNeg y.toNatClampNeg z.toNatClampNeg) (P0 (actN Z.1 x.toNatClampNeg y.toNatClampNeg z.toNatClampNeg)))), QC_d fun I L hr => ?_, QM_d fun I L hr => ?_⟩
    · have hV := hr.1.1.2
      have h3 := hV.1.2.2.2.1
      have h0 := hV.1.1
      obtain ⟨p, hp, ex⟩ := xPew hV hx
      obtain ⟨c, hc1, hc4, ey⟩ := xIn (a := 1) (b := 4) (by decide) (by decide) hy
      obtain ⟨t, ht, ez, h8⟩ := xHour hV hz
      have bx := ct_noPew (L := L) hr.1.1.1 x
      have bz := ct_noHour (L := L) hr.1.1.1 hV z
      subst ex; subst ey; subst ez
      rw [u_cl (by omega), u_cl (by omega), u_cl (by omega)]
      obtain ⟨I1, c1, hr1, hf1⟩ := ce_act hr hn hp (c := c) hc4 ht h8
      exact ⟨I1, c0_X11_light (vc_X11_light_0 ⟨_, bx, g1n hx ⟨_, ct_noLetter _, g1n hy ⟨_, bz, g1n hz ⟨_, I1, c1, rfl, rfl, rfl⟩⟩⟩⟩), hr1, hf1⟩
    · have hV := hr.1.2
      have h3 := hV.1.2.2.2.1
      have h0 := hV.1.1
      obtain ⟨p, hp, ex⟩ := xPew hV hx
      obtain ⟨c, hc1, hc4, ey⟩ := xIn (a := 1) (b := 4) (by decide) (by decide) hy
      obtain ⟨t, ht, ez, h8⟩ := xHour hV hz
      have bx := ct_isPew (L := L) hr.1.1 hV x
      have bz := ct_isHour (L := L) hr.1.1 hV z
      subst ex; subst ey; subst ez
      rw [u_cl (by omega), u_cl (by omega), u_cl (by omega)]
      obtain ⟨I1, c1, hr1, hf1⟩ := cm_keepA hr hn hp (c := c) hc4 ht h8
      refine ⟨I1, c0_X12_light (vc_X12_light_0 ⟨_, bx, g0n hx ⟨_, ct_inI _ 1 4, g0n hy ⟨_, bz, g0n hz ⟨_, I1, ?_, rfl, rfl, rfl⟩⟩⟩⟩), hr1, hf1⟩
      rw [show (10000 : Int32) = nI 10000 from rfl, show (100 : Int32) = nI 100 from rfl, u_mul, u_mul, u_add, u_add]
      exact c1
  · exact ⟨Z, -5, QC_q fun I L hr => ⟨I, c0_X11_light (vc_X11_light_0 ⟨_, ct_noPew hr.1.1.1 x, g1n hx ⟨_, ct_noLetter y, g1n hy ⟨_, ct_noHour hr.1.1.1 hr.1.1.2 z, g1n hz ⟨_, I, ce_act5 hr hn x y z, rfl, rfl, rfl⟩⟩⟩⟩), Fq.rf, hr.2.1, hr.2.2⟩, QM_q fun I L hr => ⟨I, c0_X12_light (vc_X12_light_0 ⟨_, ct_isPew hr.1.1 hr.1.2 x, g0n hx ⟨_, ct_inI y 1 4, g0n hy ⟨_, ct_isHour hr.1.1 hr.1.2 z, g0n hz ⟨_, I, cm_keepA5 hr hn _, rfl, rfl, rfl⟩⟩⟩⟩), Mq.rf⟩⟩
theorem q_draught (Z : St) (x z : Int32) : ∃ Z' v, Q2 Z Z' kX11_draught kX12_draught [.int x, .int z] (.int v) := by
  by_cases hx : bp Z.1 x
  · exact ⟨Z, -2, QC_q fun I L hr => ⟨I, c0_X11_draught (vc_X11_draught_0 ⟨_, ct_noPew hr.1.1.1 x, g1p hx ⟨rfl, rfl, rfl⟩⟩), Fq.rf, hr.2.1, hr.2.2⟩, QM_q fun I L hr => ⟨I, c0_X12_draught (vc_X12_draught_0 ⟨_, ct_isPew hr.1.1 hr.1.2 x, g0p hx ⟨rfl, rfl, rfl⟩⟩), Mq.rf⟩⟩
  by_cases hz : bh Z.1 z
  · exact ⟨Z, -2, QC_q fun I L hr => ⟨I, c0_X11_draught (vc_X11_draught_0 ⟨_, ct_noPew hr.1.1.1 x, g1n hx ⟨_, ct_noHour hr.1.1.1 hr.1.1.2 z, g1p hz ⟨rfl, rfl, rfl⟩⟩⟩), Fq.rf, hr.2.1, hr.2.2⟩, QM_q fun I L hr => ⟨I, c0_X12_draught (vc_X12_draught_0 ⟨_, ct_isPew hr.1.1 hr.1.2 x, g0n hx ⟨_, ct_isHour hr.1.1 hr.1.2 z, g0p hz ⟨rfl, rfl, rfl⟩⟩⟩), Mq.rf⟩⟩
  by_cases hn : Z.1.1 0 7 < 30
  · refine ⟨(actN Z.1 x.toNatClampNeg 0 z.toNatClampNeg, Z.2), nI (pc7 (lastL (actN Z.1 x.toNatClampNeg 0 z.toNatClampNeg) (P0 (actN Z.1 x.toNatClampNeg 0 z.toNatClampNeg)))), QC_d fun I L hr => ?_, QM_d fun I L hr => ?_⟩
    · have hV := hr.1.1.2
      have h3 := hV.1.2.2.2.1
      have h0 := hV.1.1
      obtain ⟨p, hp, ex⟩ := xPew hV hx
      obtain ⟨t, ht, ez, h8⟩ := xHour hV hz
      have bx := ct_noPew (L := L) hr.1.1.1 x
      have bz := ct_noHour (L := L) hr.1.1.1 hV z
      subst ex; subst ez
      rw [u_cl (by omega), u_cl (by omega)]
      obtain ⟨I1, c1, hr1, hf1⟩ := ce_act hr hn hp (c := 0) (by omega) ht h8
      exact ⟨I1, c0_X11_draught (vc_X11_draught_0 ⟨_, bx, g1n hx ⟨_, bz, g1n hz ⟨_, I1, c1, rfl, rfl, rfl⟩⟩⟩), hr1, hf1⟩
    · have hV := hr.1.2
      have h3 := hV.1.2.2.2.1
      have h0 := hV.1.1
      obtain ⟨p, hp, ex⟩ := xPew hV hx
      obtain ⟨t, ht, ez, h8⟩ := xHour hV hz
      have bx := ct_isPew (L := L) hr.1.1 hV x
      have bz := ct_isHour (L := L) hr.1.1 hV z
      subst ex; subst ez
      rw [u_cl (by omega), u_cl (by omega)]
      obtain ⟨I1, c1, hr1, hf1⟩ := cm_keepA hr hn hp (c := 0) (by omega) ht h8
      refine ⟨I1, c0_X12_draught (vc_X12_draught_0 ⟨_, bx, g0n hx ⟨_, bz, g0n hz ⟨_, I1, ?_, rfl, rfl, rfl⟩⟩⟩), hr1, hf1⟩
      rw [show (100 : Int32) = nI 100 from rfl, u_mul, u_add]
      rw [Nat.mul_zero, Nat.zero_add] at c1
      exact c1
  · exact ⟨Z, -5, QC_q fun I L hr => ⟨I, c0_X11_draught (vc_X11_draught_0 ⟨_, ct_noPew hr.1.1.1 x, g1n hx ⟨_, ct_noHour hr.1.1.1 hr.1.1.2 z, g1n hz ⟨_, I, ce_act5 hr hn x 0 z, rfl, rfl, rfl⟩⟩⟩), Fq.rf, hr.2.1, hr.2.2⟩, QM_q fun I L hr => ⟨I, c0_X12_draught (vc_X12_draught_0 ⟨_, ct_isPew hr.1.1 hr.1.2 x, g0n hx ⟨_, ct_isHour hr.1.1 hr.1.2 z, g0n hz ⟨_, I, cm_keepA5 hr hn _, rfl, rfl, rfl⟩⟩⟩), Mq.rf⟩⟩
/-- fewer acts -/
def fewN (A : Nt) (n : Nat) : Nt := (up2 A.1 0 7 n, A.2)
theorem fewN_NA (A : Nt) (n : Nat) : NA A (fewN A n) := ⟨rfl, fun a k _ h2 => up2_o' h2⟩
theorem fewN_7 (A : Nt) (n : Nat) : (fewN A n).1 0 7 = n := by
  show up2 A.1 0 7 n 0 7 = n
  exact up2_s _ _ _ _
theorem fewN_o {A : Nt} {n a k : Nat} (h : a ≠ 0) : (fewN A n).1 a k = A.1 a k := up2_p h
theorem fewN_V {A : Nt} {n : Nat} (hV : NV A) (hn : n ≤ A.1 0 7) : NV (fewN A n) := by
  have h7 := hV.1.2.2.2.2.2.2.2.1
  refine NV_NA (fewN_NA A n) hV (by rw [fewN_7]; omega) (fun z => ?_) (fun i hi => ?_)
  · rw [fewN_7]; have := hV.2.1 z 7 (by omega); omega
  · rw [fewN_7] at hi
    rw [fewN_o (by decide), fewN_o (by decide), fewN_o (by decide)]
    exact hV.2.2.2.2.2.2.2 i (by omega)
theorem fewN_C {A : Nt} {I : Nat → Nat → Int32} {n : Nat} (hR : RC A I 12 21) (hn : n ≤ A.1 0 7) : RC (fewN A n) (up2 I 21 0 (nI n)) 12 21 := by
  refine RC_NA (fewN_NA A n) (fun a k q => up2_p (by omega)) hR (by rw [up2_s, fewN_7]) (fun i hi => ?_)
  rw [fewN_7] at hi
  rw [fewN_o (by decide), fewN_o (by decide), fewN_o (by decide), up2_p (by decide), up2_p (by decide), up2_p (by decide)]
  exact hR.2.2.2.2.2 i (by omega)
theorem fewN_M {A : Nt} {I : Nat → Nat → Int32} {n : Nat} (hR : RM A I 97 0) (hV : NV A) (hn : n ≤ A.1 0 7) : RM (fewN A n) (up2 I 97 7 (nI n)) 97 0 := by
  refine RM_NA (fewN_NA A n) hV (fun k q1 q2 => up2_k q1) hR (by rw [up2_s, fewN_7]) (fun i hi => ?_)
  rw [fewN_7] at hi
  rw [fewN_o (by decide), fewN_o (by decide), fewN_o (by decide), up2_k (by omega)]
  have x := hR.2.2.2.2.2 i (by omega)
  rw [Nat.zero_add] at x
  exact x
theorem q_undo (Z : St) : ∃ Z' v, Q2 Z Z' kX11_undo kX12_undo [] (.int v) := by
  by_cases hh : Z.1.1 0 8 = 0
  · exact ⟨Z, -2, QC_q fun I L hr => ⟨I, c0_X11_undo (vc_X11_undo_0 ⟨_, ct_noNight hr.1.1.1 hr.1.1.2, g1p hh ⟨rfl, rfl, rfl⟩⟩), Fq.rf, hr.2.1, hr.2.2⟩, QM_q fun I L hr => ⟨I, c0_X12_undo (vc_X12_undo_0 ⟨_, ct_isNight hr.1.1 hr.1.2, g0p hh ⟨rfl, rfl, rfl⟩⟩), Mq.rf⟩⟩
  have hi7 : vp_in 7 104 := by unfold vp_in; decide
  by_cases hn : Z.1.1 0 7 = 0
  · refine ⟨Z, -5, QC_q fun I L hr => ⟨I, c0_X11_undo (vc_X11_undo_0 ⟨_, ct_noNight hr.1.1.1 hr.1.1.2, g1n hh ⟨fun _ => ⟨rfl, rfl, rfl⟩, fun z => absurd ?_ z⟩⟩), Fq.rf, hr.2.1, hr.2.2⟩, QM_q fun I L hr => ⟨I, c0_X12_undo (vc_X12_undo_0 ⟨_, ct_isNight hr.1.1 hr.1.2, g0n hh ⟨hi7, fun _ => ⟨rfl, rfl, rfl⟩, fun z => absurd ?_ z⟩⟩), Mq.rf⟩⟩
    · rw [hr.1.1.1.2.2.2.2.1, hn]; rfl
    · have e7 : I 97 (7 : Int32).toNatClampNeg = nI (Z.1.1 0 7) := hr.1.1.1 7 (by decide)
      rw [e7, hn]; rfl
  · refine ⟨(fewN Z.1 (Z.1.1 0 7 - 1), Z.2), nI (Z.1.1 0 7 - 1), QC_d fun I L hr => ?_, QM_d fun I L hr => ?_⟩
    · have hR := hr.1.1.1
      have hV := hr.1.1.2
      have h7 := hV.1.2.2.2.2.2.2.2.1
      have e0 : I 21 0 = nI (Z.1.1 0 7) := hR.2.2.2.2.1
      have em : nI (Z.1.1 0 7) - 1 = nI (Z.1.1 0 7 - 1) := pk_sub (b := 1) (by omega)
      obtain ⟨I3, c3, hr3, hf3⟩ := ce_unsettle (Bc_night (I' := up2 I 21 0 (nI (Z.1.1 0 7 - 1))) hr.1 (fun a k q => up2_p (by omega)) (fewN_C hR (show Z.1.1 0 7 - 1 ≤ _ by omega)) (fewN_V hV (by omega)))
      refine ⟨I3, c0_X11_undo (vc_X11_undo_0 ⟨_, ct_noNight hR hV, g1n hh ⟨fun z => ?_, fun _ => ⟨I3, ?_, ?_, rfl, rfl⟩⟩⟩), hr3, fun a k q => by rw [hf3 a k (by omega) (by omega), up2_p (by omega)]⟩
      · rw [e0, u_0 (by omega)] at z; exact absurd z hn
      · rw [e0, em]; exact c3
      · rw [hf3 21 0 (by omega) (by omega), up2_s]
    · have hR := hr.1.1
      have hV := hr.1.2
      have h7 := hV.1.2.2.2.2.2.2.2.1
      have e7 : I 97 7 = nI (Z.1.1 0 7) := hR.1 7 (by decide)
      have em : nI (Z.1.1 0 7) - 1 = nI (Z.1.1 0 7 - 1) := pk_sub (b := 1) (by omega)
      refine ⟨up2 I 97 7 (nI (Z.1.1 0 7 - 1)), c0_X12_undo (vc_X12_undo_0 ⟨_, ct_isNight hR hV, g0n hh ⟨hi7, ?_⟩⟩), RelM_night hr (fun a k q => up2_p (by omega)) (fewN_M hR hV (by omega)) (fewN_V hV (by omega)), fun a k q => up2_p (by omega)⟩
      rw [show (7 : Int32).toNatClampNeg = 7 by decide, e7, em]
      refine ⟨fun z => ?_, fun _ => ⟨hi7, hi7, fun I2 h2 => ⟨hi7, ?_, h2.symm, rfl⟩⟩⟩
      · rw [u_0 (by omega)] at z; exact absurd z hn
      · rw [h2, up2_s]
theorem q_anew (Z : St) : ∃ Z' v, Q2 Z Z' kX11_anew kX12_anew [] (.int v) := by
  by_cases hh : Z.1.1 0 8 = 0
  · exact ⟨Z, -2, QC_q fun I L hr => ⟨I, c0_X11_anew (vc_X11_anew_0 ⟨_, ct_noNight hr.1.1.1 hr.1.1.2, g1p hh ⟨rfl, rfl, rfl⟩⟩), Fq.rf, hr.2.1, hr.2.2⟩, QM_q fun I L hr => ⟨I, c0_X12_anew (vc_X12_anew_0 ⟨_, ct_isNight hr.1.1 hr.1.2, g0p hh ⟨rfl, rfl, rfl⟩⟩), Mq.rf⟩⟩
  have hi7 : vp_in 7 104 := by unfold vp_in; decide
  refine ⟨(fewN Z.1 0, Z.2), nI (Z.1.1 0 7), QC_d fun I L hr => ?_, QM_d fun I L hr => ?_⟩
  · have hR := hr.1.1.1
    have hV := hr.1.1.2
    have e0 : I 21 0 = nI (Z.1.1 0 7) := hR.2.2.2.2.1
    obtain ⟨I3, c3, hr3, hf3⟩ := ce_unsettle (Bc_night (I' := up2 I 21 0 (nI 0)) hr.1 (fun a k q => up2_p (by omega)) (fewN_C hR (Nat.zero_le _)) (fewN_V hV (Nat.zero_le _)))
    exact ⟨I3, c0_X11_anew (vc_X11_anew_0 ⟨_, ct_noNight hR hV, g1n hh ⟨I3, c3, by rw [e0], rfl, rfl⟩⟩), hr3, fun a k q => by rw [hf3 a k (by omega) (by omega), up2_p (by omega)]⟩
  · have hR := hr.1.1
    have hV := hr.1.2
    have e7 : I 97 7 = nI (Z.1.1 0 7) := hR.1 7 (by decide)
    refine ⟨up2 I 97 7 (nI 0), c0_X12_anew (vc_X12_anew_0 ⟨_, ct_isNight hR hV, g0n hh ⟨hi7, hi7, ?_⟩⟩), RelM_night hr (fun a k q => up2_p (by omega)) (fewN_M hR hV (Nat.zero_le _)) (fewN_V hV (Nat.zero_le _)), fun a k q => up2_p (by omega)⟩
    rw [show (7 : Int32).toNatClampNeg = 7 by decide, e7]
    exact ⟨rfl, rfl, rfl⟩
