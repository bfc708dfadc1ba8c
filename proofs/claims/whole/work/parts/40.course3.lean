section CE81
variable {A : Nt} {P : Pm} {I : Nat → Nat → Int32} {L : Nat → Nat → Int64}
theorem ct_speaker_81 {t a : Nat} {r : Rw} {f : Nat → Bool} (hR : RC A I 12 21) (hV : NV A) (hlaw : I 81 7 = nI P.1.1) (hPV : PV A P) (ht : t ≤ 12) (hr : rwE cE I 81 t (A.1 0 3) r) (hv : RV (A.1 0 3) t r) (hf : ∀ o, o < A.1 0 3 → a.testBit o = f o) (hl : ∀ o, o < A.1 0 3 → f o = true → (r o).1 ≠ []) : q_C kX3_speaker [.ref 81, .int (nI a), .int (nI (7 * t))] I L (some (.int (spO (spk P.1.1 r f (A.1 0 3))))) I L := by
  have h3 := hV.1.2.2.2.1
  have hp1 := hPV.1.1
  have loop : ∀ m k : Nat, k + m = A.1 0 3 → v_X3_speaker_81_8 (some (.int (spO (spk P.1.1 r f (A.1 0 3))))) I L I L (nI a) (nI (7 * t)) (spO (spk P.1.1 r f k)) (iI (spM P.1.1 r (spk P.1.1 r f k))) (nI k) := by
    intro m
    induction m with
    | zero =>
      intro k hk
      have e : k = A.1 0 3 := by omega
      subst e
      refine vc_X3_speaker_81_8 ⟨fun _ => ⟨rfl, rfl, rfl⟩, fun hc => ?_⟩
      rw [hR.1.2.2.2.2.1] at hc
      exact absurd (nI_le (Nat.le_refl _) (by omega)) hc
    | succ m ih =>
      intro k hk
      have hlt : k < A.1 0 3 := by omega
      have hn := ih (k + 1) (by omega)
      rw [← nI_1] at hn
      have hge : ¬ I 12 4 ≤ nI k := by rw [hR.1.2.2.2.2.1]; exact nI_ge hlt (by omega)
      by_cases hb : f k = true
      · have hlit := hl k hlt hb
        have hrg := rnk_rng (law := P.1.1) h3 ht hlt hv hlit
        have hmg := spM_rng (law := P.1.1) (f := f) h3 ht (show k ≤ A.1 0 3 by omega) hv hl
        have key : ∀ x : Int32, x = iI (rnk P.1.1 r k) → ((x ≤ iI (spM P.1.1 r (spk P.1.1 r f k)) → v_X3_speaker_81_8 (some (.int (spO (spk P.1.1 r f (A.1 0 3))))) I L I L (nI a) (nI (7 * t)) (spO (spk P.1.1 r f k)) (iI (spM P.1.1 r (spk P.1.1 r f k))) (nI k + 1)) ∧ (¬ x ≤ iI (spM P.1.1 r (spk P.1.1 r f k)) → v_X3_speaker_81_8 (some (.int (spO (spk P.1.1 r f (A.1 0 3))))) I L I L (nI a) (nI (7 * t)) (nI k) x (nI k + 1))) := by
          intro x hx
          subst hx
          refine ⟨fun hc => ?_, fun hc => ?_⟩
          · rw [iI_le (by omega) (by omega)] at hc
            rw [spk_skip hrg.1 hc] at hn
            exact hn
          · rw [iI_le (by omega) (by omega)] at hc
            rw [spk_take hb (by omega)] at hn
            exact hn
        refine vc_X3_speaker_81_8 ⟨fun hc => absurd hc hge, fun _ => ⟨fun hc => ?_, fun _ => ⟨fun l1 => ?_, fun n1 => ⟨fun l2 => ?_, fun n2 => ⟨fun l3 => ?_, fun n3 => ?_⟩⟩⟩⟩⟩
        · rw [bz a (by omega), hf k hlt, hb] at hc
          cases hc
        · rw [hlaw] at l1
          have l1 : P.1.1 = 1 := (u_eq (b := 1) (by omega) (by decide)).mp l1
          exact key (nI k) (by unfold rnk; rw [if_pos l1, iI_n])
        · rw [hlaw] at l2
          have l2 : P.1.1 = 2 := (u_eq (b := 2) (by omega) (by decide)).mp l2
          have e1 : I 83 (nI (7 * t + k)).toNatClampNeg = nI (cE (r k).1) := by rw [u_cl (by omega)]; exact (hr k hlt).1
          rw [u_add, e1]
          refine ⟨u_in (by omega) (by decide), _, ct_size (hv k hlt).1, key _ ?_⟩
          unfold rnk
          rw [if_neg (by omega), if_pos l2, iI_n]
        · rw [hlaw] at l3
          have l3 : P.1.1 = 3 := (u_eq (b := 3) (by omega) (by decide)).mp l3
          have e1 : I 85 (nI (7 * t + k)).toNatClampNeg = iI (r k).2.2.1 := by rw [u_cl (by omega)]; exact (hr k hlt).2.2.1
          rw [u_add, e1]
          refine ⟨u_in (by omega) (by decide), key _ ?_⟩
          unfold rnk
          rw [if_neg (by omega), if_neg (by omega), if_pos l3]
        · rw [hlaw] at n1 n2 n3
          have m1 : ¬ P.1.1 = 1 := fun q => n1 ((u_eq (b := 1) (by omega) (by decide)).mpr q)
          have m2 : ¬ P.1.1 = 2 := fun q => n2 ((u_eq (b := 2) (by omega) (by decide)).mpr q)
          have m3 : ¬ P.1.1 = 3 := fun q => n3 ((u_eq (b := 3) (by omega) (by decide)).mpr q)
          refine key 0 ?_
          unfold rnk
          rw [if_neg m1, if_neg m2, if_neg m3, iI_0]
      · have hb : f k = false := by simpa using hb
        rw [spk_no hb] at hn
        refine vc_X3_speaker_81_8 ⟨fun hc => absurd hc hge, fun _ => ⟨fun _ => hn, fun hc => ?_⟩⟩
        exfalso
        apply hc
        rw [bz a (by omega), hf k hlt, hb]
  exact c0_X3_speaker_81 (vc_X3_speaker_81_0 (loop (A.1 0 3) 0 (by omega)))
end CE81
section CE75
variable {A : Nt} {P : Pm} {I : Nat → Nat → Int32} {L : Nat → Nat → Int64}
theorem ct_speaker_75 {t a : Nat} {r : Rw} {f : Nat → Bool} (hR : RC A I 12 21) (hV : NV A) (hlaw : I 75 7 = nI P.1.1) (hPV : PV A P) (ht : t ≤ 12) (hr : rwE cE I 75 t (A.1 0 3) r) (hv : RV (A.1 0 3) t r) (hf : ∀ o, o < A.1 0 3 → a.testBit o = f o) (hl : ∀ o, o < A.1 0 3 → f o = true → (r o).1 ≠ []) : q_C kX3_speaker [.ref 75, .int (nI a), .int (nI (7 * t))] I L (some (.int (spO (spk P.1.1 r f (A.1 0 3))))) I L := by
  have h3 := hV.1.2.2.2.1
  have hp1 := hPV.1.1
  have loop : ∀ m k : Nat, k + m = A.1 0 3 → v_X3_speaker_75_8 (some (.int (spO (spk P.1.1 r f (A.1 0 3))))) I L I L (nI a) (nI (7 * t)) (spO (spk P.1.1 r f k)) (iI (spM P.1.1 r (spk P.1.1 r f k))) (nI k) := by
    intro m
    induction m with
    | zero =>
      intro k hk
      have e : k = A.1 0 3 := by omega
      subst e
      refine vc_X3_speaker_75_8 ⟨fun _ => ⟨rfl, rfl, rfl⟩, fun hc => ?_⟩
      rw [hR.1.2.2.2.2.1] at hc
      exact absurd (nI_le (Nat.le_refl _) (by omega)) hc
    | succ m ih =>
      intro k hk
      have hlt : k < A.1 0 3 := by omega
      have hn := ih (k + 1) (by omega)
      rw [← nI_1] at hn
      have hge : ¬ I 12 4 ≤ nI k := by rw [hR.1.2.2.2.2.1]; exact nI_ge hlt (by omega)
      by_cases hb : f k = true
      · have hlit := hl k hlt hb
        have hrg := rnk_rng (law := P.1.1) h3 ht hlt hv hlit
        have hmg := spM_rng (law := P.1.1) (f := f) h3 ht (show k ≤ A.1 0 3 by omega) hv hl
        have key : ∀ x : Int32, x = iI (rnk P.1.1 r k) → ((x ≤ iI (spM P.1.1 r (spk P.1.1 r f k)) → v_X3_speaker_75_8 (some (.int (spO (spk P.1.1 r f (A.1 0 3))))) I L I L (nI a) (nI (7 * t)) (spO (spk P.1.1 r f k)) (iI (spM P.1.1 r (spk P.1.1 r f k))) (nI k + 1)) ∧ (¬ x ≤ iI (spM P.1.1 r (spk P.1.1 r f k)) → v_X3_speaker_75_8 (some (.int (spO (spk P.1.1 r f (A.1 0 3))))) I L I L (nI a) (nI (7 * t)) (nI k) x (nI k + 1))) := by
          intro x hx
          subst hx
          refine ⟨fun hc => ?_, fun hc => ?_⟩
          · rw [iI_le (by omega) (by omega)] at hc
            rw [spk_skip hrg.1 hc] at hn
            exact hn
          · rw [iI_le (by omega) (by omega)] at hc
            rw [spk_take hb (by omega)] at hn
            exact hn
        refine vc_X3_speaker_75_8 ⟨fun hc => absurd hc hge, fun _ => ⟨fun hc => ?_, fun _ => ⟨fun l1 => ?_, fun n1 => ⟨fun l2 => ?_, fun n2 => ⟨fun l3 => ?_, fun n3 => ?_⟩⟩⟩⟩⟩
        · rw [bz a (by omega), hf k hlt, hb] at hc
          cases hc
        · rw [hlaw] at l1
          have l1 : P.1.1 = 1 := (u_eq (b := 1) (by omega) (by decide)).mp l1
          exact key (nI k) (by unfold rnk; rw [if_pos l1, iI_n])
        · rw [hlaw] at l2
          have l2 : P.1.1 = 2 := (u_eq (b := 2) (by omega) (by decide)).mp l2
          have e1 : I 77 (nI (7 * t + k)).toNatClampNeg = nI (cE (r k).1) := by rw [u_cl (by omega)]; exact (hr k hlt).1
          rw [u_add, e1]
          refine ⟨u_in (by omega) (by decide), _, ct_size (hv k hlt).1, key _ ?_⟩
          unfold rnk
          rw [if_neg (by omega), if_pos l2, iI_n]
        · rw [hlaw] at l3
          have l3 : P.1.1 = 3 := (u_eq (b := 3) (by omega) (by decide)).mp l3
          have e1 : I 79 (nI (7 * t + k)).toNatClampNeg = iI (r k).2.2.1 := by rw [u_cl (by omega)]; exact (hr k hlt).2.2.1
          rw [u_add, e1]
          refine ⟨u_in (by omega) (by decide), key _ ?_⟩
          unfold rnk
          rw [if_neg (by omega), if_neg (by omega), if_pos l3]
        · rw [hlaw] at n1 n2 n3
          have m1 : ¬ P.1.1 = 1 := fun q => n1 ((u_eq (b := 1) (by omega) (by decide)).mpr q)
          have m2 : ¬ P.1.1 = 2 := fun q => n2 ((u_eq (b := 2) (by omega) (by decide)).mpr q)
          have m3 : ¬ P.1.1 = 3 := fun q => n3 ((u_eq (b := 3) (by omega) (by decide)).mpr q)
          refine key 0 ?_
          unfold rnk
          rw [if_neg m1, if_neg m2, if_neg m3, iI_0]
      · have hb : f k = false := by simpa using hb
        rw [spk_no hb] at hn
        refine vc_X3_speaker_75_8 ⟨fun hc => absurd hc hge, fun _ => ⟨fun _ => hn, fun hc => ?_⟩⟩
        exfalso
        apply hc
        rw [bz a (by omega), hf k hlt, hb]
  exact c0_X3_speaker_75 (vc_X3_speaker_75_0 (loop (A.1 0 3) 0 (by omega)))
end CE75
