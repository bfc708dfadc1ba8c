/-! TOKENS, of the reference. -/
def VR (v u : Nat) : Prop := (v < 1000 ∧ u = v) ∨ (v = 1000 ∧ 1000 ≤ u ∧ u ≤ 99999)
theorem VR_st {v u d : Nat} (h : VR v u) (hd : 48 ≤ d ∧ d ≤ 57) : VR (min 1000 (10 * v + d - 48)) (min 99999 (10 * u + d - 48)) := by
  unfold VR at h ⊢
  omega
def TkM (t : Tk) (I : Nat → Nat → Int32) : Prop := I 96 9 = nI t.1 ∧ I 96 8 = nI t.2.1 ∧ I 96 10 = nI t.2.2.1 ∧ (t.2.2.1 = 2 → ∃ u, I 96 11 = nI u ∧ VR t.2.2.2 u)
def FAm (I I' : Nat → Nat → Int32) : Prop := ∀ a k, (a ≠ 96 ∨ k < 8 ∨ 11 < k) → I' a k = I a k
theorem FAm.rf {I : Nat → Nat → Int32} : FAm I I := fun _ _ _ => rfl
theorem FAm.tr {I I1 I2 : Nat → Nat → Int32} (h : FAm I I1) (h2 : FAm I1 I2) : FAm I I2 := fun a k q => (h2 a k q).trans (h a k q)
theorem FAm_up {I : Nat → Nat → Int32} {k : Nat} {x : Int32} (h : 8 ≤ k ∧ k ≤ 11) : FAm I (up2 I 96 k x) := fun a j q => up2_o' (by omega)
def TpM (B : Nat → Int32) (n : Nat) (I : Nat → Nat → Int32) : Prop := I 96 7 = nI n ∧ n ≤ 600 ∧ (∀ k, k < n → I 100 k = B k) ∧ (∀ k, byP (B k))
section MT
variable {I : Nat → Nat → Int32} {L : Nat → Nat → Int64} {B : Nat → Int32} {n : Nat}
theorem TpM.of {I' : Nat → Nat → Int32} (h : TpM B n I) (hf : FAm I I') : TpM B n I' := ⟨by rw [hf 96 7 (by omega)]; exact h.1, h.2.1, fun k hk => by rw [hf 100 k (by omega)]; exact h.2.2.1 k hk, h.2.2.2⟩
def seeF (B : Nat → Int32) (n p : Nat) : Int32 := if n ≤ p then -1 else B p &&& 255
theorem see_1 {p : Nat} (h : n ≤ p) : seeF B n p = -1 := if_pos h
theorem see_2 {p : Nat} (h : p < n) : seeF B n p = B p &&& 255 := if_neg (by omega)
theorem ct_see (hT : TpM B n I) {p : Nat} (hp : p ≤ 600) : q_C kX12_see [.ref 96, .int (nI p)] I L (some (.int (seeF B n p))) I L := by
  have hn := hT.2.1
  refine c0_X12_see (vc_X12_see_0 ?_)
  rw [hT.1, nI_leI (by omega) (by omega)]
  refine ⟨fun z => ⟨by rw [see_1 z], rfl, rfl⟩, fun z => ⟨u_in (by omega) (by decide), ?_⟩⟩
  rw [u_cl (by omega), hT.2.2.1 p (by omega), see_2 (by omega)]
  exact ⟨rfl, rfl, rfl⟩
theorem see_low (hB : ∀ k, byP (B k)) {p : Nat} : ¬ ib 97 122 (seeF B n p) ↔ clsF B n p = 2 := by
  by_cases h : p < n
  · rw [see_2 h, cls_2 h]
    exact (hB p).2.1
  · rw [see_1 (by omega), cls_0 (by omega)]
    exact ⟨fun z => absurd (Or.inl (by decide)) z, fun z => by omega⟩
theorem see_dig (hB : ∀ k, byP (B k)) {p : Nat} : ¬ ib 48 57 (seeF B n p) ↔ clsF B n p = 3 := by
  by_cases h : p < n
  · rw [see_2 h, cls_3 h]
    exact (hB p).2.2.1
  · rw [see_1 (by omega), cls_0 (by omega)]
    exact ⟨fun z => absurd (Or.inl (by decide)) z, fun z => by omega⟩
theorem see_spc (hB : ∀ k, byP (B k)) {p : Nat} : (seeF B n p = 32 ∨ seeF B n p = 10) ↔ clsF B n p = 1 := by
  by_cases h : p < n
  · rw [see_2 h, cls_1 h, (hB p).1.1, (hB p).1.2.1]
  · rw [see_1 (by omega), cls_0 (by omega)]
    exact ⟨fun z => absurd z (by decide), fun z => by omega⟩
theorem ma_word (hT : TpM B n I) {s p m : Nat} (hp : p + m = n) (h9 : I 96 9 = nI s) (h8 : I 96 8 = nI p) : ∃ I', v_X12_advance_83 none I' L I L ∧ TkM (s, runF B n 2 m p, 1, 0) I' ∧ FAm I I' := by
  induction m generalizing I p with
  | zero =>
    have hn := hT.2.1
    refine ⟨up2 I 96 10 1, vc_X12_advance_83 ⟨_, by rw [h8]; exact ct_see hT (by omega), _, ct_inI _ 97 122, g0p ?_ ⟨rfl, rfl, rfl⟩⟩, ⟨by rw [up2_k (by decide)]; exact h9, by rw [up2_k (by decide)]; exact h8, up2_s _ _ _ _, fun z => absurd z (by show ¬ 1 = 2; decide)⟩, FAm_up (by omega)⟩
    exact Classical.byContradiction fun z => by
      have := (see_low hT.2.2.2).mp z
      rw [cls_0 (by omega)] at this
      omega
  | succ m ih =>
    have hn := hT.2.1
    have er : runF B n 2 (m + 1) p = if clsF B n p = 2 then runF B n 2 m (p + 1) else p := rfl
    rw [er]
    by_cases e : clsF B n p = 2
    · rw [if_pos e]
      have hf : FAm I (up2 I 96 8 (nI (p + 1))) := FAm_up (by omega)
      obtain ⟨I', hw, ht, hf2⟩ := ih (I := up2 I 96 8 (nI (p + 1))) (p := p + 1) (hT.of hf) (by omega) (by rw [up2_k (by decide)]; exact h9) (up2_s _ _ _ _)
      refine ⟨I', vc_X12_advance_83 ⟨_, by rw [h8]; exact ct_see hT (by omega), _, ct_inI _ 97 122, g0n ((see_low hT.2.2.2).mpr e) ?_⟩, ht, hf.tr hf2⟩
      rw [h8, nI_1]
      exact hw
    · rw [if_neg e]
      exact ⟨up2 I 96 10 1, vc_X12_advance_83 ⟨_, by rw [h8]; exact ct_see hT (by omega), _, ct_inI _ 97 122, g0p (Classical.byContradiction fun z => e ((see_low hT.2.2.2).mp z)) ⟨rfl, rfl, rfl⟩⟩, ⟨by rw [up2_k (by decide)]; exact h9, by rw [up2_k (by decide)]; exact h8, up2_s _ _ _ _, fun z => absurd z (by show ¬ 1 = 2; decide)⟩, FAm_up (by omega)⟩
theorem dgm_step {v d : Nat} (hv : v ≤ 99999) (hd : 48 ≤ d ∧ d ≤ 57) : (if 10 * nI v + nI d - 48 < 99999 then 10 * nI v + nI d - 48 else 99999) = nI (min 99999 (10 * v + d - 48)) := by
  have e : 10 * nI v + nI d - 48 = nI (10 * v + d - 48) := by
    rw [show (10 : Int32) = nI 10 from rfl, show (48 : Int32) = nI 48 from rfl, u_mul, u_add, pk_sub (by omega)]
  rw [e, show (99999 : Int32) = nI 99999 from rfl]
  by_cases h : 10 * v + d - 48 < 99999
  · rw [if_pos (nI_lt h (by omega)), Nat.min_eq_right (by omega)]
  · rw [if_neg (nI_nlt (by omega) (by omega)), Nat.min_eq_left (by omega)]
theorem ma_num (hT : TpM B n I) {s p m v u : Nat} (hp : p + m = n) (h9 : I 96 9 = nI s) (h8 : I 96 8 = nI p) (h11 : I 96 11 = nI u) (hu : VR v u) : ∃ I', v_X12_advance_144 none I' L I L ∧ TkM (s, runF B n 3 m p, 2, digF B n m p v) I' ∧ FAm I I' := by
  induction m generalizing I p v u with
  | zero =>
    have hn := hT.2.1
    refine ⟨up2 I 96 10 2, vc_X12_advance_144 ⟨_, by rw [h8]; exact ct_see hT (by omega), _, ct_inI _ 48 57, g0p ?_ ⟨rfl, rfl, rfl⟩⟩, ⟨by rw [up2_k (by decide)]; exact h9, by rw [up2_k (by decide)]; exact h8, up2_s _ _ _ _, fun _ => ⟨u, by rw [up2_k (by decide)]; exact h11, hu⟩⟩, FAm_up (by omega)⟩
    exact Classical.byContradiction fun z => by
      have := (see_dig hT.2.2.2).mp z
      rw [cls_0 (by omega)] at this
      omega
  | succ m ih =>
    have hn := hT.2.1
    have er : runF B n 3 (m + 1) p = if clsF B n p = 3 then runF B n 3 m (p + 1) else p := rfl
    have ed : digF B n (m + 1) p v = if clsF B n p = 3 then digF B n m (p + 1) (min 1000 (10 * v + (B p).toInt.toNat - 48)) else v := rfl
    rw [er, ed]
    by_cases e : clsF B n p = 3
    · rw [if_pos e, if_pos e]
      obtain ⟨b255, bd, b48, b57⟩ := (hT.2.2.2 p).2.2.2.2.1 ((cls_3 (by omega)).mp e)
      have hul : u ≤ 99999 := by unfold VR at hu; omega
      obtain ⟨J, hJ⟩ : ∃ J, J = up2 (up2 I 96 11 (nI (min 99999 (10 * u + (B p).toInt.toNat - 48)))) 96 8 (nI (p + 1)) := ⟨_, rfl⟩
      have hf : FAm I J := by rw [hJ]; exact (FAm_up (by omega)).tr (FAm_up (by omega))
      obtain ⟨I', hw, ht, hf2⟩ := ih (I := J) (p := p + 1) (v := min 1000 (10 * v + (B p).toInt.toNat - 48)) (u := min 99999 (10 * u + (B p).toInt.toNat - 48)) (hT.of hf) (by omega) (by rw [hJ, up2_k (by decide), up2_k (by decide)]; exact h9) (by rw [hJ]; exact up2_s _ _ _ _) (by rw [hJ, up2_k (by decide)]; exact up2_s _ _ _ _) (VR_st hu ⟨b48, b57⟩)
      have hsee := ct_see (L := L) hT (p := p) (by omega)
      refine ⟨I', vc_X12_advance_144 ⟨_, by rw [h8]; exact hsee, _, ct_inI _ 48 57, g0n ((see_dig hT.2.2.2).mpr e) ⟨_, by rw [h8]; exact hsee, fun I4 h4 => ?_⟩⟩, ht, hf.tr hf2⟩
      rw [h11, see_2 (by omega), b255, bd, dgm_step hul ⟨b48, b57⟩] at h4
      have e8 : I4 96 8 = nI p := by rw [h4, up2_k (by decide)]; exact h8
      rw [e8, nI_1, h4, ← hJ]
      exact hw
    · rw [if_neg e, if_neg e]
      exact ⟨up2 I 96 10 2, vc_X12_advance_144 ⟨_, by rw [h8]; exact ct_see hT (by omega), _, ct_inI _ 48 57, g0p (Classical.byContradiction fun z => e ((see_dig hT.2.2.2).mp z)) ⟨rfl, rfl, rfl⟩⟩, ⟨by rw [up2_k (by decide)]; exact h9, by rw [up2_k (by decide)]; exact h8, up2_s _ _ _ _, fun _ => ⟨u, by rw [up2_k (by decide)]; exact h11, hu⟩⟩, FAm_up (by omega)⟩
theorem ma_skip (hT : TpM B n I) {p m : Nat} (hp : p + m = n) (h8 : I 96 8 = nI p) : ∃ I', v_X12_advance_0 none I' L I L ∧ TkM (tokA B n (runF B n 1 m p)) I' ∧ FAm I I' := by
  have tok : ∀ (I : Nat → Nat → Int32) s, TpM B n I → s ≤ n → clsF B n s ≠ 1 → I 96 8 = nI s → ∃ I', v_X12_advance_0 none I' L I L ∧ TkM (tokA B n s) I' ∧ FAm I I' := by
    intro I s hT hs h1 h8
    have hn := hT.2.1
    have hB := hT.2.2.2
    obtain ⟨J, hJ⟩ : ∃ J, J = up2 I 96 9 (I 96 8) := ⟨_, rfl⟩
    have hf : FAm I J := by rw [hJ]; exact FAm_up (by omega)
    have hTJ := hT.of hf
    have j9 : J 96 9 = nI s := by rw [hJ, up2_s]; exact h8
    have j8 : J 96 8 = nI s := by rw [hJ, up2_k (by decide)]; exact h8
    have n32 : ¬ (seeF B n s = 32 ∨ seeF B n s = 10) := fun z => h1 ((see_spc hB).mp z)
    have hsee := ct_see (L := L) hT (p := s) (by omega)
    have hseeJ := ct_see (L := L) hTJ (p := s) (by omega)
    have pre : ∀ I', (((seeF B n s = (-1) → ((none : Option Value) = none ∧ I' = (up2 J 96 10 0) ∧ L = L)) ∧ (¬ seeF B n s = (-1) → (∃ r4, q_C kX12_in [.long (seeF B n s).toInt64, .long 97, .long 122] J L (some (.int r4)) J L ∧ ((r4 = 0 → (∃ r5, q_C kX12_in [.long (seeF B n s).toInt64, .long 48, .long 57] J L (some (.int r5)) J L ∧ ((r5 = 0 → ((seeF B n s = 59 → ∀ I7, I7 = (up2 (up2 J 96 10 3) 96 8 (((up2 J 96 10 3) 96 8) + 1)) → ((none : Option Value) = none ∧ I' = I7 ∧ L = L)) ∧ (¬ seeF B n s = 59 → ∀ I6, I6 = (up2 (up2 J 96 10 4) 96 8 (((up2 J 96 10 4) 96 8) + 1)) → ((none : Option Value) = none ∧ I' = I6 ∧ L = L)))) ∧ (¬ r5 = 0 → (v_X12_advance_144 none I' L (up2 J 96 11 0) L))))) ∧ (¬ r4 = 0 → (v_X12_advance_83 none I' L J L))))))) → v_X12_advance_0 none I' L I L := by
      intro I' hw
      refine vc_X12_advance_0 ⟨_, by rw [h8]; exact hsee, fun z => absurd (Or.inl z) n32, fun _ => ⟨_, by rw [h8]; exact hsee, fun z => absurd (Or.inr z) n32, fun _ => ⟨seeF B n s, ?_, ?_⟩⟩⟩
      · rw [← hJ, j8]; exact hseeJ
      · rw [← hJ]; exact hw
    unfold tokA
    by_cases e0 : clsF B n s = 0
    · rw [if_pos e0]
      have hsn : n ≤ s := by
        by_cases q : s < n
        · exact absurd e0 (cls_ne0 q)
        · omega
      refine ⟨up2 J 96 10 0, pre _ ⟨fun _ => ⟨rfl, rfl, rfl⟩, fun z => absurd (see_1 hsn) z⟩, ⟨by rw [up2_k (by decide)]; exact j9, by rw [up2_k (by decide)]; exact j8, up2_s _ _ _ _, fun z => absurd z (by show ¬ 0 = 2; decide)⟩, hf.tr (FAm_up (by omega))⟩
    rw [if_neg e0]
    have hl := cls_lt (B := B) e0
    have nm1 : ¬ seeF B n s = -1 := by rw [see_2 hl]; exact (hB s).2.2.2.1
    by_cases e2 : clsF B n s = 2
    · rw [if_pos e2]
      obtain ⟨I', hw, ht, hf2⟩ := ma_word (L := L) (I := J) hTJ (s := s) (p := s) (m := n - s) (by omega) j9 j8
      exact ⟨I', pre I' ⟨fun z => absurd z nm1, fun _ => ⟨_, ct_inI _ 97 122, g0n ((see_low hB).mpr e2) hw⟩⟩, ht, hf.tr hf2⟩
    rw [if_neg e2]
    have n2 : ib 97 122 (seeF B n s) := Classical.byContradiction fun z => e2 ((see_low hB).mp z)
    by_cases e3 : clsF B n s = 3
    · rw [if_pos e3]
      have hf7 : FAm J (up2 J 96 11 0) := FAm_up (by omega)
      obtain ⟨I', hw, ht, hf2⟩ := ma_num (L := L) (I := up2 J 96 11 0) (hTJ.of hf7) (s := s) (p := s) (m := n - s) (v := 0) (u := 0) (by omega) (by rw [up2_k (by decide)]; exact j9) (by rw [up2_k (by decide)]; exact j8) (up2_s _ _ _ _) (Or.inl ⟨by omega, rfl⟩)
      exact ⟨I', pre I' ⟨fun z => absurd z nm1, fun _ => ⟨_, ct_inI _ 97 122, g0p n2 ⟨_, ct_inI _ 48 57, g0n ((see_dig hB).mpr e3) hw⟩⟩⟩, ht, hf.tr (hf7.tr hf2)⟩
    rw [if_neg e3]
    have n3' : ib 48 57 (seeF B n s) := Classical.byContradiction fun z => e3 ((see_dig hB).mp z)
    obtain ⟨c4, c5⟩ := cls_45 (B := B) hl h1 e2 e3
    have fin : ∀ x : Nat, x ≠ 2 → TkM (s, s + 1, x, 0) (up2 (up2 J 96 10 (nI x)) 96 8 (nI (s + 1))) ∧ FAm I (up2 (up2 J 96 10 (nI x)) 96 8 (nI (s + 1))) := fun x hx => ⟨⟨by rw [up2_k (by decide), up2_k (by decide)]; exact j9, up2_s _ _ _ _, by rw [up2_k (by decide)]; exact up2_s _ _ _ _, fun z => absurd z hx⟩, hf.tr ((FAm_up (by omega)).tr (FAm_up (by omega)))⟩
    have h59 : seeF B n s = 59 ↔ B s = 59 := by rw [see_2 hl]; exact (hB s).1.2.2
    by_cases e4 : B s = 59
    · rw [if_pos (c4 e4)]
      refine ⟨_, pre _ ⟨fun z => absurd z nm1, fun _ => ⟨_, ct_inI _ 97 122, g0p n2 ⟨_, ct_inI _ 48 57, g0p n3' ⟨fun _ I4 h4 => ⟨rfl, ?_, rfl⟩, fun z => absurd (h59.mpr e4) z⟩⟩⟩⟩, fin 3 (by decide)⟩
      rw [h4, up2_k (show (8 : Nat) ≠ 10 by decide), j8, nI_1]
      rfl
    · rw [if_neg (by rw [c5 e4]; decide)]
      refine ⟨_, pre _ ⟨fun z => absurd z nm1, fun _ => ⟨_, ct_inI _ 97 122, g0p n2 ⟨_, ct_inI _ 48 57, g0p n3' ⟨fun z => absurd (h59.mp z) e4, fun _ I4 h4 => ⟨rfl, ?_, rfl⟩⟩⟩⟩⟩, fin 4 (by decide)⟩
      rw [h4, up2_k (show (8 : Nat) ≠ 10 by decide), j8, nI_1]
      rfl
  induction m generalizing I p with
  | zero => exact tok I p hT (by omega) (by rw [cls_0 (by omega)]; decide) h8
  | succ m ih =>
    have hn := hT.2.1
    have er : runF B n 1 (m + 1) p = if clsF B n p = 1 then runF B n 1 m (p + 1) else p := rfl
    rw [er]
    by_cases e : clsF B n p = 1
    · rw [if_pos e]
      have hf : FAm I (up2 I 96 8 (nI (p + 1))) := FAm_up (by omega)
      obtain ⟨I', hw, ht, hf2⟩ := ih (I := up2 I 96 8 (nI (p + 1))) (p := p + 1) (hT.of hf) (by omega) (up2_s _ _ _ _)
      have hsee := ct_see (L := L) hT (p := p) (by omega)
      refine ⟨I', vc_X12_advance_0 ⟨_, by rw [h8]; exact hsee, fun _ => ?_, fun z => ⟨_, by rw [h8]; exact hsee, fun _ => ?_, fun z2 => absurd ((see_spc hT.2.2.2).mpr e) (fun q => q.elim z z2)⟩⟩, ht, hf.tr hf2⟩
      · rw [h8, nI_1]; exact hw
      · rw [h8, nI_1]; exact hw
    · rw [if_neg e]
      exact tok I p hT (by omega) e h8
theorem ma_advance (hT : TpM B n I) {p : Nat} (hp : p ≤ n) (h8 : I 96 8 = nI p) : ∃ I', q_C kX12_advance [.ref 96] I L none I' L ∧ TkM (tokF B n p) I' ∧ FAm I I' := by
  obtain ⟨I', hw, ht, hf⟩ := ma_skip (L := L) hT (p := p) (m := n - p) (by omega) h8
  exact ⟨I', c0_X12_advance hw, ht, hf⟩
end MT
