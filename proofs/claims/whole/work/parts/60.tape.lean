/-! THE TAPE, THE SLOTS. -/
def bt (x : Int32) (i : Nat) : Int32 := ((x >>> (nI (24 - 8 * i) &&& 31) : Int32).toInt8.toInt32 : Int32).toInt8.toInt32
def tpF (n : Nat) (f : Nat → Int32) (xs : Nat → Int32) : Nat → Int32 := fun k => if k < n then f k else bt (xs ((k - n) / 4)) ((k - n) % 4)
theorem bb_bt (x : Int32) (i : Nat) : bb (bt x i) = bt x i := by
  unfold bb bt
  simp
theorem bb_tp (n : Nat) (f xs : Nat → Int32) (k : Nat) : bb (tpF n f xs k) = tpF n (fun j => bb (f j)) xs k := by
  unfold tpF
  by_cases h : k < n
  · rw [if_pos h, if_pos h]
  · rw [if_neg h, if_neg h, bb_bt]
section FE
variable {I : Nat → Nat → Int32} {L : Nat → Nat → Int64}
def FB (m : Nat) (I I' : Nat → Nat → Int32) : Prop := ∀ a k, (a ≠ 0 ∨ k ≠ 1) → (a ≠ 1 ∨ k < m) → I' a k = I a k
theorem pb_step {J I' : Nat → Nat → Int32} {m : Nat} {x s : Int32} (hJ : J 0 1 = nI m) (hm : m < 600) (hs : ¬ s < 0) (h : v_X11_putBytes_3 none I' L (up2 (up2 J 1 m ((x >>> (s &&& 31) : Int32).toInt8.toInt32 : Int32).toInt8.toInt32) 0 1 (nI (m + 1))) L x (s + (-8))) : v_X11_putBytes_3 none I' L J L x s := by
  refine vc_X11_putBytes_3 ⟨fun z => absurd z hs, fun _ => ?_⟩
  rw [hJ, u_cl (by omega)]
  refine ⟨u_in hm (by decide), fun I1 h1 => ?_⟩
  have e : I1 0 1 = nI m := by rw [h1, up2_p (by decide), hJ]
  rw [e, nI_1, h1]
  exact h
theorem ce_putBytes {m : Nat} (hI : I 0 1 = nI m) (hm : m + 4 ≤ 600) (x : Int32) : ∃ I', q_C kX11_putBytes [.ref 0, .int x] I L none I' L ∧ I' 0 1 = nI (m + 4) ∧ (∀ i, i < 4 → I' 1 (m + i) = bt x i) ∧ FB m I I' := by
  obtain ⟨I1, h1⟩ : ∃ J, J = up2 (up2 I 1 m (bt x 0)) 0 1 (nI (m + 1)) := ⟨_, rfl⟩
  obtain ⟨I2, h2⟩ : ∃ J, J = up2 (up2 I1 1 (m + 1) (bt x 1)) 0 1 (nI (m + 1 + 1)) := ⟨_, rfl⟩
  obtain ⟨I3, h3⟩ : ∃ J, J = up2 (up2 I2 1 (m + 1 + 1) (bt x 2)) 0 1 (nI (m + 1 + 1 + 1)) := ⟨_, rfl⟩
  obtain ⟨I4, h4⟩ : ∃ J, J = up2 (up2 I3 1 (m + 1 + 1 + 1) (bt x 3)) 0 1 (nI (m + 1 + 1 + 1 + 1)) := ⟨_, rfl⟩
  have e1 : I1 0 1 = nI (m + 1) := by rw [h1]; exact up2_s _ _ _ _
  have e2 : I2 0 1 = nI (m + 1 + 1) := by rw [h2]; exact up2_s _ _ _ _
  have e3 : I3 0 1 = nI (m + 1 + 1 + 1) := by rw [h3]; exact up2_s _ _ _ _
  have fin : v_X11_putBytes_3 none I4 L I4 L x (24 + (-8) + (-8) + (-8) + (-8)) := vc_X11_putBytes_3 ⟨fun _ => ⟨rfl, rfl, rfl⟩, fun z => absurd (by decide) z⟩
  refine ⟨I4, c0_X11_putBytes (vc_X11_putBytes_0 ?_), by rw [h4]; exact up2_s _ _ _ _, fun i hi => ?_, fun a k q1 q2 => ?_⟩
  · refine pb_step hI (by omega) (by decide) ?_
    rw [show ((x >>> ((24 : Int32) &&& 31) : Int32).toInt8.toInt32 : Int32).toInt8.toInt32 = bt x 0 from rfl, ← h1]
    refine pb_step e1 (by omega) (by decide) ?_
    rw [show ((x >>> ((24 + (-8) : Int32) &&& 31) : Int32).toInt8.toInt32 : Int32).toInt8.toInt32 = bt x 1 from rfl, ← h2]
    refine pb_step e2 (by omega) (by decide) ?_
    rw [show ((x >>> ((24 + (-8) + (-8) : Int32) &&& 31) : Int32).toInt8.toInt32 : Int32).toInt8.toInt32 = bt x 2 from rfl, ← h3]
    refine pb_step e3 (by omega) (by decide) ?_
    rw [show ((x >>> ((24 + (-8) + (-8) + (-8) : Int32) &&& 31) : Int32).toInt8.toInt32 : Int32).toInt8.toInt32 = bt x 3 from rfl, ← h4]
    exact fin
  · have hc : i = 0 ∨ i = 1 ∨ i = 2 ∨ i = 3 := by omega
    rcases hc with e | e | e | e <;> subst e
    · rw [h4, up2_p (by decide), up2_k (by omega), h3, up2_p (by decide), up2_k (by omega), h2, up2_p (by decide), up2_k (by omega), h1, up2_p (by decide)]; exact up2_s _ _ _ _
    · rw [h4, up2_p (by decide), up2_k (by omega), h3, up2_p (by decide), up2_k (by omega), h2, up2_p (by decide)]; exact up2_s _ _ _ _
    · rw [h4, up2_p (by decide), up2_k (by omega), h3, up2_p (by decide)]; exact up2_s _ _ _ _
    · rw [h4, up2_p (by decide)]; exact up2_s _ _ _ _
  · rw [h4, up2_o' q1, up2_o' (by omega), h3, up2_o' q1, up2_o' (by omega), h2, up2_o' q1, up2_o' (by omega), h1, up2_o' q1, up2_o' (by omega)]
end FE
theorem RelC_tape {Z : St} {I I' : Nat → Nat → Int32} {L : Nat → Nat → Int64} {n' : Nat} {f' : Nat → Int32} (hr : RelC Z I L) (h : ∀ a k, (a ≠ 0 ∨ k ≠ 1) → a ≠ 1 → I' a k = I a k) (hn : n' ≤ 600) (h1 : I' 0 1 = nI n') (h2 : ∀ k, k < n' → I' 1 k = bb (f' k)) : RelC (Z.1, (n', f'), Z.2.2) I' L := by
  obtain ⟨⟨⟨b1, b2⟩, ⟨b3, b4, b5⟩, ⟨b6, b7⟩, b8, b9⟩, hs, hw⟩ := hr
  refine ⟨⟨⟨RC_of2 (fun a k q => h a k (by omega) (by omega)) b1, b2⟩, ⟨hn, h1, h2⟩, ⟨by rw [h 0 2 (by omega) (by omega)]; exact b6, by rw [h 0 3 (by omega) (by omega)]; exact b7⟩, fun k hk => ⟨fun z => ?_, fun B z => ?_⟩, fun s hs => ⟨fun z => ?_, fun w n f z => ?_⟩⟩, ?_, Wo_of (fun k => h 89 k (by omega) (by omega)) hw⟩
  · rw [h 35 k (by omega) (by omega)]; exact (b8 k hk).1 z
  · obtain ⟨c1, c2, c3⟩ := (b8 k hk).2 B z
    exact ⟨by rw [h 35 k (by omega) (by omega)]; exact c1, RC_of2 (fun a j q => h a j (by omega) (by omega)) c2, c3⟩
  · rw [h 26 s (by omega) (by omega)]; exact (b9 s hs).1 z
  · rw [h 26 s (by omega) (by omega), h 27 s (by omega) (by omega)]; exact (b9 s hs).2 w n f z
  · show Se Z.1 I'
    unfold Se at hs ⊢
    rw [h 0 18 (by omega) (by omega)]
    rcases hs with q | ⟨q1, q2, q3⟩
    · exact Or.inl q
    · exact Or.inr ⟨q1, crs_of (fun a k z => h a k (by omega) (by omega)) q2, lts_of (fun k => h _ k (by omega) (by omega)) q3⟩
theorem RelM_tape {Z : St} {I I' : Nat → Nat → Int32} {L : Nat → Nat → Int64} {n' : Nat} {f' : Nat → Int32} (hr : RelM Z I L) (h : ∀ a k, (a ≠ 96 ∨ k ≠ 5) → a ≠ 100 → a ≠ 101 → I' a k = I a k) (hn : n' ≤ 600) (h1 : I' 96 5 = nI n') (h2 : ∀ k, k < n' → I' 100 k = bb (f' k)) : RelM (Z.1, (n', f'), Z.2.2) I' L := by
  obtain ⟨⟨b1, b2⟩, ⟨b3, b4, b5⟩, ⟨b6, b7⟩, b8, b9⟩ := hr
  refine ⟨⟨RM_of (fun k => h 97 k (by omega) (by omega) (by omega)) b1, b2⟩, ⟨hn, h1, h2⟩, ⟨by rw [h 96 12 (by omega) (by omega) (by omega)]; exact b6, by rw [h 96 13 (by omega) (by omega) (by omega)]; exact b7⟩, fun k hk => ⟨fun z => ?_, fun B z => ?_⟩, fun s hs => ⟨fun z => ?_, fun w n f z => ?_⟩⟩
  · rw [h 99 k (by omega) (by omega) (by omega)]; exact (b8 k hk).1 z
  · obtain ⟨c1, c2, c3⟩ := (b8 k hk).2 B z
    exact ⟨by rw [h 99 k (by omega) (by omega) (by omega)]; exact c1, RM_of2 (fun j => h 98 j (by omega) (by omega) (by omega)) c2, c3⟩
  · rw [h 109 s (by omega) (by omega) (by omega)]; exact (b9 s hs).1 z
  · rw [h 109 s (by omega) (by omega) (by omega), h 110 s (by omega) (by omega) (by omega)]; exact (b9 s hs).2 w n f z
def xs5 (a b c d e : Int32) : Nat → Int32 := fun j => if j = 0 then a else if j = 1 then b else if j = 2 then c else if j = 3 then d else e
theorem q_feed (Z : St) (a b c d e : Int32) : ∃ Z' v, Q2 Z Z' kX11_feed kX12_feed [.int a, .int b, .int c, .int d, .int e] (.int v) := by
  by_cases hn : Z.2.1.1 + 20 ≤ 600
  · refine ⟨(Z.1, (Z.2.1.1 + 20, tpF Z.2.1.1 Z.2.1.2 (xs5 a b c d e)), Z.2.2), nI (Z.2.1.1 + 20), QC_d fun I L hr => ?_, QM_d fun I L hr => ?_⟩
    · have e1 : I 0 1 = nI Z.2.1.1 := hr.1.2.1.2.1
      have eb := hr.1.2.1.2.2
      obtain ⟨I1, c1, n1, t1, f1⟩ := ce_putBytes (L := L) e1 (by omega) a
      obtain ⟨I2, c2, n2, t2, f2⟩ := ce_putBytes (L := L) n1 (by omega) b
      obtain ⟨I3, c3, n3, t3, f3⟩ := ce_putBytes (L := L) n2 (by omega) c
      obtain ⟨I4, c4, n4, t4, f4⟩ := ce_putBytes (L := L) n3 (by omega) d
      obtain ⟨I5, c5, n5, t5, f5⟩ := ce_putBytes (L := L) n4 (by omega) e
      have fr : ∀ u k, (u ≠ 0 ∨ k ≠ 1) → (u ≠ 1 ∨ k < Z.2.1.1) → I5 u k = I u k := fun u k q1 q2 => by
        rw [f5 u k q1 (by omega), f4 u k q1 (by omega), f3 u k q1 (by omega), f2 u k q1 (by omega), f1 u k q1 q2]
      refine ⟨I5, c0_X11_feed (vc_X11_feed_0 ⟨fun _ => ⟨I1, c1, I2, c2, I3, c3, I4, c4, I5, c5, ?_, rfl, rfl⟩, fun z => absurd ?_ z⟩), RelC_tape hr (fun u k q1 q2 => fr u k q1 (Or.inl q2)) hn n5 (fun k hk => ?_), fun u k q => fr u k (by omega) (by omega)⟩
      · rw [n5]
      · rw [e1, show (20 : Int32) = nI 20 from rfl, u_add]; exact nI_le (b := 600) hn (by decide)
      · rw [bb_tp]
        unfold tpF
        by_cases hk1 : k < Z.2.1.1
        · rw [if_pos hk1, fr 1 k (by omega) (by omega)]; exact eb k hk1
        · rw [if_neg hk1]
          obtain ⟨m, rfl⟩ : ∃ m, k = Z.2.1.1 + m := ⟨k - Z.2.1.1, by omega⟩
          rw [show Z.2.1.1 + m - Z.2.1.1 = m by omega]
          have hc : m / 4 = 0 ∨ m / 4 = 1 ∨ m / 4 = 2 ∨ m / 4 = 3 ∨ m / 4 = 4 := by omega
          rcases hc with q | q | q | q | q <;> rw [q]
          · have := t1 (m % 4) (by omega)
            rw [f5 1 _ (by omega) (by omega), f4 1 _ (by omega) (by omega), f3 1 _ (by omega) (by omega), f2 1 _ (by omega) (by omega), show Z.2.1.1 + m = Z.2.1.1 + m % 4 by omega]; exact this
          · have := t2 (m % 4) (by omega)
            rw [f5 1 _ (by omega) (by omega), f4 1 _ (by omega) (by omega), f3 1 _ (by omega) (by omega), show Z.2.1.1 + m = Z.2.1.1 + 4 + m % 4 by omega]; exact this
          · have := t3 (m % 4) (by omega)
            rw [f5 1 _ (by omega) (by omega), f4 1 _ (by omega) (by omega), show Z.2.1.1 + m = Z.2.1.1 + 4 + 4 + m % 4 by omega]; exact this
          · have := t4 (m % 4) (by omega)
            rw [f5 1 _ (by omega) (by omega), show Z.2.1.1 + m = Z.2.1.1 + 4 + 4 + 4 + m % 4 by omega]; exact this
          · have := t5 (m % 4) (by omega)
            rw [show Z.2.1.1 + m = Z.2.1.1 + 4 + 4 + 4 + 4 + m % 4 by omega]; exact this
    · have e5 : I 96 5 = nI Z.2.1.1 := hr.2.1.2.1
      have eb := hr.2.1.2.2
      obtain ⟨I1, h1⟩ : ∃ J, J = up2 (up2 I 101 (0 : Int32).toNatClampNeg a) 101 (1 : Int32).toNatClampNeg b := ⟨_, rfl⟩
      obtain ⟨I2, h2⟩ : ∃ J, J = up2 (up2 I1 101 (2 : Int32).toNatClampNeg c) 101 (3 : Int32).toNatClampNeg d := ⟨_, rfl⟩
      obtain ⟨I3, h3⟩ : ∃ J, J = up2 I2 101 (4 : Int32).toNatClampNeg e := ⟨_, rfl⟩
      have k0 : (0 : Int32).toNatClampNeg = 0 := by decide
      have k1 : (1 : Int32).toNatClampNeg = 1 := by decide
      have k2 : (2 : Int32).toNatClampNeg = 2 := by decide
      have k3 : (3 : Int32).toNatClampNeg = 3 := by decide
      have k4 : (4 : Int32).toNatClampNeg = 4 := by decide
      have hx : ∀ j, j < 5 → I3 101 j = xs5 a b c d e j := fun j hj => by
        have hc : j = 0 ∨ j = 1 ∨ j = 2 ∨ j = 3 ∨ j = 4 := by omega
        rw [h3, h2, h1, k0, k1, k2, k3, k4]
        rcases hc with q | q | q | q | q <;> subst q
        · rw [up2_k (by decide), up2_k (by decide), up2_k (by decide), up2_k (by decide), up2_s]; rfl
        · rw [up2_k (by decide), up2_k (by decide), up2_k (by decide), up2_s]; rfl
        · rw [up2_k (by decide), up2_k (by decide), up2_s]; rfl
        · rw [up2_k (by decide), up2_s]; rfl
        · rw [up2_s]; rfl
      have f3 : ∀ u k, u ≠ 101 → I3 u k = I u k := fun u k q => by rw [h3, h2, h1, up2_p q, up2_p q, up2_p q, up2_p q, up2_p q]
      have h := mloop (V := fun k I' J => v_X12_feed_55 (some (.int (nI (Z.2.1.1 + 20)))) I' L J L (nI k)) (Inv := fun k J => (∀ j, j < Z.2.1.1 + k → J 100 j = tpF Z.2.1.1 (fun j => bb (Z.2.1.2 j)) (xs5 a b c d e) j) ∧ ∀ u j, u ≠ 100 → J u j = I3 u j) (n := 20) (Q := fun I' => ∃ J, I' = up2 J 96 5 (nI (Z.2.1.1 + 20)) ∧ (∀ j, j < Z.2.1.1 + 20 → J 100 j = tpF Z.2.1.1 (fun j => bb (Z.2.1.2 j)) (xs5 a b c d e) j) ∧ ∀ u j, u ≠ 100 → J u j = I3 u j) ?_ ?_ I3 ⟨fun j hj => ?_, fun _ _ _ => rfl⟩
      · obtain ⟨I', hw, J, hJ, g1, g2⟩ := h
        refine ⟨I', c0_X12_feed (vc_X12_feed_0 ⟨fun _ => ⟨by unfold vp_in; decide, by unfold vp_in; decide, fun J1 z1 => ⟨by unfold vp_in; decide, by unfold vp_in; decide, fun J2 z2 => ⟨by unfold vp_in; decide, ?_⟩⟩⟩, fun z => absurd ?_ z⟩), ?_, fun u k q => ?_⟩
        · rw [z2, z1, ← h1, ← h2, ← h3]; exact hw
        · rw [e5, show (20 : Int32) = nI 20 from rfl, u_add]; exact nI_le (b := 600) hn (by decide)
        · rw [hJ]
          exact RelM_tape hr (fun u k q1 q2 q3 => by rw [up2_o' q1, g2 u k q2, f3 u k q3]) hn (up2_s _ _ _ _) (fun k hk => by rw [up2_p (by decide), bb_tp]; exact g1 k hk)
        · rw [hJ, up2_p (by omega), g2 u k (by omega), f3 u k (by omega)]
      · rintro J ⟨g1, g2⟩
        have e6 : J 96 5 = nI Z.2.1.1 := by rw [g2 96 5 (by decide), f3 96 5 (by decide)]; exact e5
        refine ⟨up2 J 96 5 (nI (Z.2.1.1 + 20)), vc_X12_feed_55 ⟨fun _ => ?_, fun z => absurd (by decide) z⟩, J, rfl, g1, g2⟩
        rw [e6, show (20 : Int32) = nI 20 from rfl, u_add, up2_s]
        exact ⟨rfl, rfl, rfl⟩
      · rintro k J hk ⟨g1, g2⟩
        have e6 : J 96 5 = nI Z.2.1.1 := by rw [g2 96 5 (by decide), f3 96 5 (by decide)]; exact e5
        have ex : J 101 (k / 4) = xs5 a b c d e (k / 4) := by rw [g2 101 _ (by decide)]; exact hx _ (by omega)
        refine ⟨up2 J 100 (Z.2.1.1 + k) (bt (xs5 a b c d e (k / 4)) (k % 4)), ⟨fun j hj => ?_, fun u j q => ?_⟩, fun I' hw => vc_X12_feed_55 ?_⟩
        · by_cases q : j = Z.2.1.1 + k
          · subst q
            rw [up2_s]
            unfold tpF
            rw [if_neg (by omega), show Z.2.1.1 + k - Z.2.1.1 = k by omega]
          · rw [up2_k q]; exact g1 j (by omega)
        · rw [up2_p q]; exact g2 u j q
        · rw [show nI k / 4 = nI (k / 4) from pk_div (d := 4) (by omega) (by decide) (by decide), e6, u_add, u_cl (n := k / 4) (by omega), u_cl (n := Z.2.1.1 + k) (by omega), ex, nI_1]
          refine ⟨fun z => absurd z (nI_ge (b := 20) hk (by decide)), fun _ => ⟨u_in (by omega) (by decide), u_in (by omega) (by decide), fun J1 z1 => ?_⟩⟩
          have er : (24 : Int32) - 8 * (nI k - nI (k / 4) * 4) = nI (24 - 8 * (k % 4)) := by
            have r1 : nI k - nI (k / 4) * 4 = nI (k % 4) := by
              have := pk_rem (a := k) (d := 4) (by omega) (by decide) (by decide)
              rw [pk_div (a := k) (d := 4) (by omega) (by decide) (by decide)] at this
              exact this
            rw [r1, show (8 : Int32) = nI 8 from rfl, u_mul, show (24 : Int32) = nI 24 from rfl, pk_sub (by omega)]
          rw [er] at z1
          rw [z1]
          exact hw
      · have hj : j < Z.2.1.1 := hj
        unfold tpF
        rw [if_pos hj, f3 100 j (by decide)]
        exact eb j hj
  · refine ⟨Z, -1, QC_q fun I L hr => ⟨I, c0_X11_feed (vc_X11_feed_0 ⟨fun z => ?_, fun _ => ⟨rfl, rfl, rfl⟩⟩), Fq.rf, hr.2.1, hr.2.2⟩, QM_q fun I L hr => ⟨I, c0_X12_feed (vc_X12_feed_0 ⟨fun z => ?_, fun _ => ⟨rfl, rfl, rfl⟩⟩), Mq.rf⟩⟩
    · have hm := hr.1.2.1.1
      rw [hr.1.2.1.2.1, show (20 : Int32) = nI 20 from rfl, u_add, show (600 : Int32) = nI 600 from rfl, nI_leI (by omega) (by omega)] at z
      exact absurd z hn
    · have hm := hr.2.1.1
      rw [hr.2.1.2.1, show (20 : Int32) = nI 20 from rfl, u_add, show (600 : Int32) = nI 600 from rfl, nI_leI (by omega) (by omega)] at z
      exact absurd z hn
theorem qz_end (Z : St) (x : Int32) : ∃ Z' v, Q2 Z Z' kX11_end kX12_end [.int x] (.int v) := by
  by_cases hx : ib 0 (nI Z.2.1.1) x
  · refine ⟨Z, -1, QC_q fun I L hr => ⟨I, c0_X11_end (vc_X11_end_0 ⟨fun _ => ⟨rfl, rfl, rfl⟩, fun z => ⟨fun z2 => ?_, fun _ => ⟨rfl, rfl, rfl⟩⟩⟩), Fq.rf, hr.2.1, hr.2.2⟩, QM_q fun I L hr => ⟨I, c0_X12_end (vc_X12_end_0 ⟨_, by rw [hr.2.1.2.1]; exact ct_inI x 0 _, g0p hx ⟨rfl, rfl, rfl⟩⟩), Mq.rf⟩⟩
    rw [hr.1.2.1.2.1] at z2
    rcases hx with q | q
    · exact absurd q z
    · exact absurd q (Int32.not_lt.mpr z2)
  · refine ⟨(Z.1, (x.toNatClampNeg, Z.2.1.2), Z.2.2), x, QC_d fun I L hr => ?_, QM_d fun I L hr => ?_⟩
    · have hm := hr.1.2.1.1
      obtain ⟨m, -, hm2, ex⟩ := xIn (a := 0) (b := Z.2.1.1) (by omega) (by decide) hx
      have hcl : x.toNatClampNeg = m := by rw [ex]; exact u_cl (by omega)
      rw [hcl]
      refine ⟨up2 I 0 1 x, c0_X11_end (vc_X11_end_0 ⟨fun z => absurd (Or.inl z) hx, fun _ => ⟨fun _ => ⟨rfl, rfl, rfl⟩, fun z => absurd ?_ z⟩⟩), RelC_tape hr (fun a k q1 q2 => up2_o' q1) (by omega) (by rw [up2_s, ex]) (fun k hk => by rw [up2_p (by decide)]; exact hr.1.2.1.2.2 k (by omega)), fun a k q => up2_p (by omega)⟩
      rw [hr.1.2.1.2.1, ex]; exact nI_le hm2 (by omega)
    · have hm := hr.2.1.1
      obtain ⟨m, -, hm2, ex⟩ := xIn (a := 0) (b := Z.2.1.1) (by omega) (by decide) hx
      have hcl : x.toNatClampNeg = m := by rw [ex]; exact u_cl (by omega)
      rw [hcl]
      exact ⟨up2 I 96 5 x, c0_X12_end (vc_X12_end_0 ⟨_, by rw [hr.2.1.2.1]; exact ct_inI x 0 _, g0n hx ⟨rfl, rfl, rfl⟩⟩), RelM_tape hr (fun a k q1 q2 q3 => up2_o' q1) (by omega) (by rw [up2_s, ex]) (fun k hk => by rw [up2_p (by decide)]; exact hr.2.1.2.2 k (by omega)), fun a k q => up2_p (by omega)⟩
/-! SLOTS. -/
def slU (Z : St) (s : Nat) (t : Nat × Nat × (Nat → Int64)) : St := (Z.1, Z.2.1, Z.2.2.1, Z.2.2.2.1, fun j => if j = s then some t else Z.2.2.2.2 j)
theorem RelC_sl {Z : St} {I I' : Nat → Nat → Int32} {L L' : Nat → Nat → Int64} {s w n : Nat} {f : Nat → Int64} (hr : RelC Z I L) (h : ∀ a k, (a ≠ 26 ∧ a ≠ 27 ∨ k ≠ s) → I' a k = I a k) (hL : ∀ j i, j < 4 → j ≠ s → L' (29 + j) i = L (29 + j) i) (hw : w ≤ 3) (hn : n ≤ 60) (h1 : I' 26 s = nI w) (h2 : I' 27 s = nI n) (h3 : ∀ i, i < 60 → L' (29 + s) i = f i) : RelC (slU Z s (w, n, f)) I' L' := by
  obtain ⟨⟨⟨b1, b2⟩, ⟨b3, b4, b5⟩, ⟨b6, b7⟩, b8, b9⟩, hs, hwo⟩ := hr
  refine ⟨⟨⟨RC_of2 (fun a k q => h a k (by omega)) b1, b2⟩, ⟨b3, by rw [h 0 1 (by omega)]; exact b4, fun k hk => by rw [h 1 k (by omega)]; exact b5 k hk⟩, ⟨by rw [h 0 2 (by omega)]; exact b6, by rw [h 0 3 (by omega)]; exact b7⟩, fun k hk => ⟨fun z => ?_, fun B z => ?_⟩, fun j hj => ?_⟩, Se_of (fun a k q => h a k (by omega)) hs, Wo_of (fun k => h 89 k (by omega)) hwo⟩
  · rw [h 35 k (by omega)]; exact (b8 k hk).1 z
  · obtain ⟨c1, c2, c3⟩ := (b8 k hk).2 B z
    exact ⟨by rw [h 35 k (by omega)]; exact c1, RC_of2 (fun a i q => h a i (by omega)) c2, c3⟩
  · show ((if j = s then some (w, n, f) else Z.2.2.2.2 j) = none → _) ∧ (∀ w' n' f', (if j = s then some (w, n, f) else Z.2.2.2.2 j) = some (w', n', f') → _)
    by_cases e : j = s
    · subst e
      rw [if_pos rfl]
      refine ⟨fun z => (by cases z), fun w' n' f' z => ?_⟩
      cases z
      exact ⟨hw, hn, h1, h2, h3⟩
    · rw [if_neg e]
      refine ⟨fun z => by rw [h 26 j (by omega)]; exact (b9 j hj).1 z, fun w' n' f' z => ?_⟩
      rw [h 26 j (by omega), h 27 j (by omega)]
      obtain ⟨d1, d2, d3, d4, d5⟩ := (b9 j hj).2 w' n' f' z
      exact ⟨d1, d2, d3, d4, fun i hi => by rw [hL j i hj e]; exact d5 i hi⟩
theorem RelM_sl {Z : St} {I I' : Nat → Nat → Int32} {L L' : Nat → Nat → Int64} {s w n : Nat} {f : Nat → Int64} (hr : RelM Z I L) (h : ∀ a k, (a ≠ 109 ∧ a ≠ 110 ∨ k ≠ s) → I' a k = I a k) (hL : ∀ i, (i < 60 * s ∨ 60 * s + 60 ≤ i) → L' 111 i = L 111 i) (hw : w ≤ 3) (hn : n ≤ 60) (h1 : I' 109 s = nI n) (h2 : I' 110 s = nI w) (h3 : ∀ i, i < 60 → L' 111 (60 * s + i) = f i) : RelM (slU Z s (w, n, f)) I' L' := by
  obtain ⟨⟨b1, b2⟩, ⟨b3, b4, b5⟩, ⟨b6, b7⟩, b8, b9⟩ := hr
  refine ⟨⟨RM_of (fun k => h 97 k (by omega)) b1, b2⟩, ⟨b3, by rw [h 96 5 (by omega)]; exact b4, fun k hk => by rw [h 100 k (by omega)]; exact b5 k hk⟩, ⟨by rw [h 96 12 (by omega)]; exact b6, by rw [h 96 13 (by omega)]; exact b7⟩, fun k hk => ⟨fun z => ?_, fun B z => ?_⟩, fun j hj => ?_⟩
  · rw [h 99 k (by omega)]; exact (b8 k hk).1 z
  · obtain ⟨c1, c2, c3⟩ := (b8 k hk).2 B z
    exact ⟨by rw [h 99 k (by omega)]; exact c1, RM_of2 (fun i => h 98 i (by omega)) c2, c3⟩
  · show ((if j = s then some (w, n, f) else Z.2.2.2.2 j) = none → _) ∧ (∀ w' n' f', (if j = s then some (w, n, f) else Z.2.2.2.2 j) = some (w', n', f') → _)
    by_cases e : j = s
    · subst e
      rw [if_pos rfl]
      refine ⟨fun z => (by cases z), fun w' n' f' z => ?_⟩
      cases z
      exact ⟨hw, hn, h1, h2, h3⟩
    · rw [if_neg e]
      refine ⟨fun z => by rw [h 109 j (by omega)]; exact (b9 j hj).1 z, fun w' n' f' z => ?_⟩
      rw [h 109 j (by omega), h 110 j (by omega)]
      obtain ⟨d1, d2, d3, d4, d5⟩ := (b9 j hj).2 w' n' f' z
      exact ⟨d1, d2, d3, d4, fun i hi => by rw [hL _ (by omega)]; exact d5 i hi⟩
theorem q_row (Z : St) (x y z : Int32) : ∃ Z' v, Q2 Z Z' kX11_row kX12_row [.int x, .int y, .int z] (.int v) := by
  by_cases hx : ib 0 3 x
  · exact ⟨Z, -2, QC_q fun I L hr => ⟨I, c0_X11_row (vc_X11_row_0 ⟨_, ct_noSlot x, g1p hx ⟨rfl, rfl, rfl⟩⟩), Fq.rf, hr.2.1, hr.2.2⟩, QM_q fun I L hr => ⟨I, c0_X12_row (vc_X12_row_0 ⟨_, ct_isSlot x, g0p hx ⟨rfl, rfl, rfl⟩⟩), Mq.rf⟩⟩
  by_cases hy : ib 0 3 y
  · exact ⟨Z, -2, QC_q fun I L hr => ⟨I, c0_X11_row (vc_X11_row_0 ⟨_, ct_noSlot x, g1n hx ⟨fun _ => ⟨rfl, rfl, rfl⟩, fun q => ⟨fun _ => ⟨rfl, rfl, rfl⟩, fun q2 => absurd hy (fun c => c.elim q q2)⟩⟩⟩), Fq.rf, hr.2.1, hr.2.2⟩, QM_q fun I L hr => ⟨I, c0_X12_row (vc_X12_row_0 ⟨_, ct_isSlot x, g0n hx ⟨_, ct_inI y 0 3, g0p hy ⟨rfl, rfl, rfl⟩⟩⟩), Mq.rf⟩⟩
  have ny0 : ¬ y < 0 := fun q => hy (Or.inl q)
  have ny3 : ¬ 3 < y := fun q => hy (Or.inr q)
  by_cases hz : z ≤ 60
  · by_cases hz0 : 0 ≤ z
    · obtain ⟨s, -, hs, ex⟩ := xIn (a := 0) (b := 3) (by decide) (by decide) hx
      obtain ⟨w, -, hw, ey⟩ := xIn (a := 0) (b := 3) (by decide) (by decide) hy
      obtain ⟨n, hn, ez⟩ := nI_of2 (n := 60) (M := 60) (by decide) (Int32.not_lt.mpr hz0) hz
      subst ex; subst ey; subst ez
      have hins : vp_in (nI s) 4 := u_in (by omega) (by decide)
      refine ⟨slU Z s (w, n, fun _ => 0), 0, fun I L hr => ?_, fun I L hr => ?_⟩
      · have h := mloop (α := Nat → Nat → Int64) (V := fun k L' M => v_X9_begin_17 none (up2 (up2 I 26 s (nI w)) 27 s (nI n)) L' (up2 (up2 I 26 s (nI w)) 27 s (nI n)) M (nI s) (nI k)) (Inv := fun k M => (∀ i, i < k → M (29 + s) i = 0) ∧ ∀ a i, a ≠ 29 + s → M a i = L a i) (n := 60) (Q := fun M => (∀ i, i < 60 → M (29 + s) i = 0) ∧ ∀ a i, a ≠ 29 + s → M a i = L a i) (fun M hM => ⟨M, vc_X9_begin_17 ⟨fun _ => ⟨rfl, rfl, rfl⟩, fun q => absurd (by decide) q⟩, hM⟩) ?_ L ⟨fun i hi => absurd hi (by omega), fun _ _ _ => rfl⟩
        · obtain ⟨L', hv, g1, g2⟩ := h
          refine ⟨up2 (up2 I 26 s (nI w)) 27 s (nI n), L', c0_X11_row (vc_X11_row_0 ⟨_, ct_noSlot _, g1n hx ⟨fun q => absurd q ny0, fun _ => ⟨fun q => absurd q ny3, fun _ => ⟨fun _ => ⟨fun _ => ⟨up2 (up2 I 26 s (nI w)) 27 s (nI n), L', c0_X9_begin (vc_X9_begin_0 ?_), rfl, rfl, rfl⟩, fun q => absurd hz0 q⟩, fun q => absurd hz q⟩⟩⟩⟩), ?_, fun a k q => ⟨?_, g2 a k (by omega)⟩⟩
          · rw [u_cl (by omega)]
            exact ⟨hins, hins, hv⟩
          · exact RelC_sl hr (fun a k q => by rw [up2_o' (by omega), up2_o' (by omega)]) (fun j i hj e => g2 _ i (by omega)) hw hn (by rw [up2_p (by decide), up2_s]) (up2_s _ _ _ _) g1
          · rw [up2_p (by omega), up2_p (by omega)]
        · rintro k M hk ⟨g1, g2⟩
          refine ⟨up2 M (29 + s) k 0, ⟨fun i hi => ?_, fun a i q => ?_⟩, fun L' hv => vc_X9_begin_17 ?_⟩
          · by_cases e : i = k
            · subst e; exact up2_s _ _ _ _
            · rw [up2_k e]; exact g1 i (by omega)
          · rw [up2_p q]; exact g2 a i q
          · rw [u_cl (n := s) (by omega), u_cl (n := k) (by omega), nI_1]
            exact ⟨fun q => absurd q (nI_ge (b := 60) hk (by decide)), fun _ => ⟨hins, ⟨by omega, by omega⟩, u_in hk (by decide), hv⟩⟩
      · have h := mloop (α := Nat → Nat → Int64) (V := fun k L' M => v_X12_row_52 (some (.int 0)) (up2 (up2 I 109 s (nI n)) 110 s (nI w)) L' (up2 (up2 I 109 s (nI n)) 110 s (nI w)) M (nI s) (nI k)) (Inv := fun k M => (∀ i, i < k → M 111 (60 * s + i) = 0) ∧ (∀ a i, (a ≠ 111 ∨ i < 60 * s ∨ 60 * s + 60 ≤ i) → M a i = L a i)) (n := 60) (Q := fun M => (∀ i, i < 60 → M 111 (60 * s + i) = 0) ∧ (∀ a i, (a ≠ 111 ∨ i < 60 * s ∨ 60 * s + 60 ≤ i) → M a i = L a i)) (fun M hM => ⟨M, vc_X12_row_52 ⟨fun _ => ⟨rfl, rfl, rfl⟩, fun q => absurd (by decide) q⟩, hM⟩) ?_ L ⟨fun i hi => absurd hi (by omega), fun _ _ _ => rfl⟩
        · obtain ⟨L', hv, g1, g2⟩ := h
          refine ⟨up2 (up2 I 109 s (nI n)) 110 s (nI w), L', c0_X12_row (vc_X12_row_0 ⟨_, ct_isSlot _, g0n hx ⟨_, ct_inI _ 0 3, g0n hy ⟨fun _ => ⟨fun _ => ⟨hins, hins, ?_⟩, fun q => absurd hz0 q⟩, fun q => absurd hz q⟩⟩⟩), ?_, fun a k q => ⟨?_, g2 a k (by omega)⟩⟩
          · rw [u_cl (by omega)]
            exact hv
          · exact RelM_sl hr (fun a k q => by rw [up2_o' (by omega), up2_o' (by omega)]) (fun i q => g2 111 i (by omega)) hw hn (by rw [up2_p (by decide), up2_s]) (up2_s _ _ _ _) g1
          · rw [up2_p (by omega), up2_p (by omega)]
        · rintro k M hk ⟨g1, g2⟩
          refine ⟨up2 M 111 (60 * s + k) 0, ⟨fun i hi => ?_, fun a i q => ?_⟩, fun L' hv => vc_X12_row_52 ?_⟩
          · by_cases e : i = k
            · subst e; exact up2_s _ _ _ _
            · rw [up2_k (by omega)]; exact g1 i (by omega)
          · rw [up2_o' (by omega)]; exact g2 a i q
          · rw [show (60 : Int32) * nI s + nI k = nI (60 * s + k) by rw [show (60 : Int32) = nI 60 from rfl, u_mul, u_add], u_cl (by omega), nI_1]
            exact ⟨fun q => absurd q (nI_ge (b := 60) hk (by decide)), fun _ => ⟨u_in (by omega) (by decide), hv⟩⟩
    · exact ⟨Z, -3, QC_q fun I L hr => ⟨I, c0_X11_row (vc_X11_row_0 ⟨_, ct_noSlot x, g1n hx ⟨fun q => absurd q ny0, fun _ => ⟨fun q => absurd q ny3, fun _ => ⟨fun _ => ⟨fun q => absurd q hz0, fun _ => ⟨rfl, rfl, rfl⟩⟩, fun q => absurd hz q⟩⟩⟩⟩), Fq.rf, hr.2.1, hr.2.2⟩, QM_q fun I L hr => ⟨I, c0_X12_row (vc_X12_row_0 ⟨_, ct_isSlot x, g0n hx ⟨_, ct_inI y 0 3, g0n hy ⟨fun _ => ⟨fun q => absurd q hz0, fun _ => ⟨rfl, rfl, rfl⟩⟩, fun q => absurd hz q⟩⟩⟩), Mq.rf⟩⟩
  · exact ⟨Z, -2, QC_q fun I L hr => ⟨I, c0_X11_row (vc_X11_row_0 ⟨_, ct_noSlot x, g1n hx ⟨fun q => absurd q ny0, fun _ => ⟨fun q => absurd q ny3, fun _ => ⟨fun q => absurd q hz, fun _ => ⟨rfl, rfl, rfl⟩⟩⟩⟩⟩), Fq.rf, hr.2.1, hr.2.2⟩, QM_q fun I L hr => ⟨I, c0_X12_row (vc_X12_row_0 ⟨_, ct_isSlot x, g0n hx ⟨_, ct_inI y 0 3, g0n hy ⟨fun q => absurd q hz, fun _ => ⟨rfl, rfl, rfl⟩⟩⟩⟩), Mq.rf⟩⟩
