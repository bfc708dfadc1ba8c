/-! THE CALL `night`. -/
theorem Bc_f {Z : St} {I I' : Nat → Nat → Int32} {L : Nat → Nat → Int64} (hB : Bc Z I L) (h : ∀ a k, (a < 2 ∧ (a ≠ 0 ∨ k ≠ 1 ∧ k ≠ 2 ∧ k ≠ 3)) ∨ 11 < a → I' a k = I a k) (h1 : I' 0 1 = 0) {x y : Int32} (h2 : I' 0 2 = x) (h3 : I' 0 3 = y) : Bc (Z.1, (0, Z.2.1.2), (x, y), Z.2.2.2) I' L := by
  obtain ⟨⟨b1, b2⟩, -, -, b8, b9⟩ := hB
  refine ⟨⟨RC_of2 (fun a k q => h a k (by omega)) b1, b2⟩, ⟨Nat.zero_le _, h1, fun k hk => absurd hk (by show ¬ k < 0; omega)⟩, ⟨h2, h3⟩, fun k hk => ⟨fun z => ?_, fun B z => ?_⟩, fun s hs => ⟨fun z => ?_, fun w n f z => ?_⟩⟩
  · rw [h 35 k (by omega)]; exact (b8 k hk).1 z
  · obtain ⟨c1, c2, c3⟩ := (b8 k hk).2 B z
    exact ⟨by rw [h 35 k (by omega)]; exact c1, RC_of2 (fun a j q => h a j (by omega)) c2, c3⟩
  · rw [h 26 s (by omega)]; exact (b9 s hs).1 z
  · rw [h 26 s (by omega), h 27 s (by omega)]; exact (b9 s hs).2 w n f z
theorem RelC_f {Z : St} {I I' : Nat → Nat → Int32} {L : Nat → Nat → Int64} (hr : RelC Z I L) (h : ∀ a k, (a < 2 ∧ (a ≠ 0 ∨ k ≠ 1 ∧ k ≠ 2 ∧ k ≠ 3)) ∨ 11 < a → I' a k = I a k) (h1 : I' 0 1 = 0) {x y : Int32} (h2 : I' 0 2 = x) (h3 : I' 0 3 = y) : RelC (Z.1, (0, Z.2.1.2), (x, y), Z.2.2.2) I' L := by
  obtain ⟨hB, hs, hw⟩ := hr
  refine ⟨Bc_f hB h h1 h2 h3, ?_, Wo_of (fun k => h 89 k (by omega)) hw⟩
  show Se Z.1 I'
  unfold Se at hs ⊢
  rw [h 0 18 (by omega)]
  rcases hs with q | ⟨q1, q2, q3⟩
  · exact Or.inl q
  · exact Or.inr ⟨q1, crs_of (fun a k z => h a k (by omega)) q2, lts_of (fun k => h _ k (by omega)) q3⟩
theorem RelM_f {Z : St} {I I' : Nat → Nat → Int32} {L : Nat → Nat → Int64} {A' : Nt} (hr : RelM Z I L) (h : ∀ a k, (a = 98 ∨ a = 99 ∨ 109 ≤ a) → I' a k = I a k) (hR : RM A' I' 97 0) (hV : NV A') (h1 : I' 96 5 = 0) {x y : Int32} (h2 : I' 96 12 = x) (h3 : I' 96 13 = y) : RelM (A', (0, Z.2.1.2), (x, y), Z.2.2.2) I' L := by
  obtain ⟨-, -, -, b8, b9⟩ := hr
  refine ⟨⟨hR, hV⟩, ⟨Nat.zero_le _, h1, fun k hk => absurd hk (by show ¬ k < 0; omega)⟩, ⟨h2, h3⟩, fun k hk => ⟨fun z => ?_, fun B z => ?_⟩, fun s hs => ⟨fun z => ?_, fun w n f z => ?_⟩⟩
  · rw [h 99 k (by omega)]; exact (b8 k hk).1 z
  · obtain ⟨c1, c2, c3⟩ := (b8 k hk).2 B z
    exact ⟨by rw [h 99 k (by omega)]; exact c1, RM_of2 (fun j => h 98 j (by omega)) c2, c3⟩
  · rw [h 109 s (by omega)]; exact (b9 s hs).1 z
  · rw [h 109 s (by omega), h 110 s (by omega)]; exact (b9 s hs).2 w n f z
theorem RC_dr {A : Nt} {I J K : Nat → Nat → Int32} (hV : NV A) (hD : DrC A I) (h7 : A.1 0 7 = 0) (h5 : tk5 I J 12 3 8) (hK : ∀ a k, a ≠ 21 → K a k = J a k) (h21 : K 21 0 = 0) : RC A K 12 21 := by
  obtain ⟨⟨a1, a2, a3, a4, a5, a6, a7, a8⟩, hb, hc, hd⟩ := hD
  obtain ⟨t1, t2, -⟩ := h5
  have n3 := hV.1.2.2.2.1
  have n5 := hV.1.2.2.2.2.2.1
  have n6 := hV.1.2.2.2.2.2.2.1
  refine ⟨⟨?_, ?_, ?_, ?_, ?_, ?_, ?_, ?_⟩, fun i hi => ?_, fun i hi => ?_, fun i hi => ?_, by rw [h21, h7]; rfl, fun i hi => absurd hi (by omega)⟩
  · rw [hK 12 _ (by decide), t1 0 (by decide)]; exact a1
  · rw [hK 12 _ (by decide), t1 1 (by decide)]; exact a2
  · rw [hK 12 _ (by decide), t1 2 (by decide)]; exact a3
  · rw [hK 12 _ (by decide), t1 3 (by decide)]; exact a4
  · rw [hK 12 _ (by decide), t1 4 (by decide)]; exact a5
  · rw [hK 12 _ (by decide), t1 5 (by decide)]; exact a6
  · rw [hK 12 _ (by decide), t1 6 (by decide)]; exact a7
  · rw [hK 12 _ (by decide), t1 7 (by decide)]; exact a8
  · rw [hK _ _ (by decide), hK _ _ (by decide), hK _ _ (by decide), hK _ _ (by decide), t2 1 (by decide) (by decide) i (by show i < 7; omega), t2 2 (by decide) (by decide) i (by show i < 7; omega), t2 3 (by decide) (by decide) i (by show i < 7; omega), t2 4 (by decide) (by decide) i (by show i < 7; omega)]
    exact hb i hi
  · rw [hK _ _ (by decide), hK _ _ (by decide), t2 5 (by decide) (by decide) i (by show i < 4; omega), t2 6 (by decide) (by decide) i (by show i < 4; omega)]
    exact hc i hi
  · rw [hK _ _ (by decide), hK _ _ (by decide), t2 7 (by decide) (by decide) i (by show i < 6; omega), t2 8 (by decide) (by decide) i (by show i < 6; omega)]
    exact hd i hi
theorem q_night (Z : St) : ∃ Z' v, Q2 Z Z' kX11_night kX12_night [] (.int v) := by
  obtain ⟨B, eB⟩ : ∃ B : Nat → Int32, B = fun k => bb (Z.2.1.2 k) := ⟨_, rfl⟩
  have hB : ∀ k, byP (B k) := fun k => by rw [eB]; exact bb_P _
  obtain ⟨n, en⟩ : ∃ n, n = Z.2.1.1 := ⟨_, rfl⟩
  by_cases e0 : (endP B n).1.1 = 0
  · refine ⟨((endP B n).2.2, (0, Z.2.1.2), (nI (endP B n).1.1, iI (endP B n).1.2), Z.2.2.2), nI ((endP B n).2.2.1 0 8), fun I L hr => ?_, fun I L hr => ?_⟩
    · have hn : n ≤ 600 := by rw [en]; exact hr.1.2.1.1
      obtain ⟨I1, c1, r1, f1, u, hu, hok⟩ := cf_read (B := B) (n := n) (I := I) (L := L) hn (fun k hk => by rw [eB]; exact hr.1.2.1.2.2 k (by omega)) hB
      obtain ⟨v1, v2, v3⟩ := hok e0
      obtain ⟨J, eJ⟩ : ∃ J, J = up2 (up2 (up2 I1 0 2 (I1 2 0)) 0 3 ((up2 I1 0 2 (I1 2 0)) 2 1)) 0 1 0 := ⟨_, rfl⟩
      have j2 : J 0 2 = nI (endP B n).1.1 := by rw [eJ, up2_k (by decide), up2_k (by decide), up2_s]; exact r1.2.1.1
      have j3 : J 0 3 = iI (endP B n).1.2 := by rw [eJ, up2_k (by decide), up2_s, up2_p (by decide)]; exact r1.2.1.2
      have j1 : J 0 1 = 0 := by rw [eJ, up2_s]
      have jo : ∀ a k, (a ≠ 0 ∨ k ≠ 1 ∧ k ≠ 2 ∧ k ≠ 3) → J a k = I1 a k := fun a k q => by rw [eJ, up2_o' (by omega), up2_o' (by omega), up2_o' (by omega)]
      have b1 := Bc_f hr.1 (I' := J) (fun a k q => by rw [jo a k (by omega), f1 a k (by omega)]) j1 j2 j3
      obtain ⟨K, cK, tK⟩ := ce_take5_12_3 (I := J) (L := L)
      have dJ : DrC (endP B n).2.2 J := DrC_of (fun a k q => jo a k (by omega)) (r1.2.2.2.2.2 e0)
      have hR := RC_dr v1 dJ v2 tK (K := up2 K 21 0 0) (fun a k q => up2_p q) (up2_s _ _ _ _)
      have b2 := Bc_night b1 (I' := up2 K 21 0 0) (fun a k q => by rw [up2_p (by omega), tK.2.2 a k (by omega)]) hR v1
      obtain ⟨M, cM, rM, fM⟩ := ce_unsettle b2
      have m12 : M 12 0 = nI ((endP B n).2.2.1 0 8) := rM.1.1.1.1.1
      refine ⟨M, L, c0_X11_night (vc_X11_night_0 ⟨I1, ?_, fun I2 q => ?_⟩), rM, fun a k ha => ⟨?_, rfl⟩⟩
      · rw [hr.1.2.1.2.1, ← en]; exact c1
      · rw [← eJ] at q
        subst q
        exact ⟨fun _ => ⟨K, cK, M, cM, by rw [m12], rfl, rfl⟩, fun z => absurd (by rw [j2, e0]; rfl) z⟩
      · rw [fM a k (by omega) (by omega), up2_p (by omega), tK.2.2 a k (by omega), jo a k (by omega), f1 a k (by omega)]
    · have hn : n ≤ 600 := by rw [en]; exact hr.2.1.1
      obtain ⟨v, I', c, g1, g2, g3, -, g5, g6⟩ := mf_night (B := B) (n := n) (I := I) (L := L) hn (by rw [en]; exact hr.2.1.2.1) (fun k hk => by rw [eB]; exact hr.2.1.2.2 k (by omega)) hB
      obtain ⟨w1, w2⟩ := g5 e0
      rw [w1] at c
      obtain ⟨u, hu, hok⟩ : ∃ u, u ≤ 600 ∧ RunOk (endP B n) u := run_ok 600 0 _ (by decide) (fun _ => by
        rw [S0_W.2.2]
        exact ⟨NV_A0, rfl, rfl⟩)
      exact ⟨I', L, c, RelM_f hr (fun a k q => g6 a k (by omega) (by omega) (by omega)) w2 (hok e0).1 g1 g2 g3, fun a k ha => ⟨g6 a k (by omega) (by omega) (by omega), rfl⟩⟩
  · refine ⟨(Z.1, (0, Z.2.1.2), (nI (endP B n).1.1, iI (endP B n).1.2), Z.2.2.2), -4, fun I L hr => ?_, fun I L hr => ?_⟩
    · have hn : n ≤ 600 := by rw [en]; exact hr.1.2.1.1
      obtain ⟨I1, c1, r1, f1, -⟩ := cf_read (B := B) (n := n) (I := I) (L := L) hn (fun k hk => by rw [eB]; exact hr.1.2.1.2.2 k (by omega)) hB
      obtain ⟨J, eJ⟩ : ∃ J, J = up2 (up2 (up2 I1 0 2 (I1 2 0)) 0 3 ((up2 I1 0 2 (I1 2 0)) 2 1)) 0 1 0 := ⟨_, rfl⟩
      have j2 : J 0 2 = nI (endP B n).1.1 := by rw [eJ, up2_k (by decide), up2_k (by decide), up2_s]; exact r1.2.1.1
      have j3 : J 0 3 = iI (endP B n).1.2 := by rw [eJ, up2_k (by decide), up2_s, up2_p (by decide)]; exact r1.2.1.2
      have j1 : J 0 1 = 0 := by rw [eJ, up2_s]
      have jo : ∀ a k, (a ≠ 0 ∨ k ≠ 1 ∧ k ≠ 2 ∧ k ≠ 3) → J a k = I1 a k := fun a k q => by rw [eJ, up2_o' (by omega), up2_o' (by omega), up2_o' (by omega)]
      have b1 := RelC_f hr (I' := J) (fun a k q => by rw [jo a k (by omega), f1 a k (by omega)]) j1 j2 j3
      refine ⟨J, L, c0_X11_night (vc_X11_night_0 ⟨I1, ?_, fun I2 q => ?_⟩), b1, fun a k ha => ⟨?_, rfl⟩⟩
      · rw [hr.1.2.1.2.1, ← en]; exact c1
      · rw [← eJ] at q
        subst q
        refine ⟨fun z => absurd ?_ e0, fun _ => ⟨rfl, rfl, rfl⟩⟩
        rw [j2, u_0 (by have := r1.2.2.2.2.1; omega)] at z
        exact z
      · rw [jo a k (by omega), f1 a k (by omega)]
    · have hn : n ≤ 600 := by rw [en]; exact hr.2.1.1
      obtain ⟨v, I', c, g1, g2, g3, g4, -, g6⟩ := mf_night (B := B) (n := n) (I := I) (L := L) hn (by rw [en]; exact hr.2.1.2.1) (fun k hk => by rw [eB]; exact hr.2.1.2.2 k (by omega)) hB
      obtain ⟨w1, w2⟩ := g4 e0
      rw [w1] at c
      exact ⟨I', L, c, RelM_f hr (fun a k q => g6 a k (by omega) (by omega) (by omega)) (RM_of2 w2 hr.1.1) hr.1.2 g1 g2 g3, fun a k ha => ⟨g6 a k (by omega) (by omega) (by omega), rfl⟩⟩
