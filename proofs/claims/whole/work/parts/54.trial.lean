/-! TRIALS: what would be, by one change. -/
theorem mloop {α : Type} {V : Nat → α → α → Prop} {Inv : Nat → α → Prop} {n : Nat} {Q : α → Prop} (fin : ∀ J, Inv n J → ∃ I', V n I' J ∧ Q I') (step : ∀ k J, k < n → Inv k J → ∃ J1, Inv (k + 1) J1 ∧ ∀ I', V (k + 1) I' J1 → V k I' J) : ∀ J, Inv 0 J → ∃ I', V 0 I' J ∧ Q I' := by
  have h : ∀ m k J, k + m = n → Inv k J → ∃ I', V k I' J ∧ Q I' := by
    intro m
    induction m with
    | zero => intro k J hk hi; have e : k = n := by omega
              subst e; exact fin J hi
    | succ m ih =>
      intro k J hk hi
      obtain ⟨J1, hi1, hv⟩ := step k J (by omega) hi
      obtain ⟨I', hw, hq⟩ := ih (k + 1) J1 (by omega) hi1
      exact ⟨I', hv I' hw, hq⟩
  exact fun J hi => h n 0 J (by omega) hi
/-- what the trials leave, in the class -/
def FT (I I' : Nat → Nat → Int32) : Prop := ∀ a k, (a < 81 ∨ 87 < a) → I' a k = I a k
theorem FT.rf {I : Nat → Nat → Int32} : FT I I := fun _ _ _ => rfl
theorem FT.tr {I I1 I2 : Nat → Nat → Int32} (h : FT I I1) (h2 : FT I1 I2) : FT I I2 := fun a k q => (h2 a k q).trans (h a k q)
theorem FT.q {I I' : Nat → Nat → Int32} (h : FT I I') : Fq I I' := fun a k q _ => h a k (by omega)
theorem FrC.t {I I' : Nat → Nat → Int32} (h : FrC 81 I I') : FT I I' := fun a k q => h a k (by omega)
theorem Se_of {A : Nt} {I I' : Nat → Nat → Int32} (h : ∀ a k, (a = 0 ∨ 75 ≤ a ∧ a ≤ 80) → I' a k = I a k) (hS : Se A I) : Se A I' := by
  unfold Se at hS ⊢
  rw [h 0 18 (by omega)]
  rcases hS with q | ⟨q1, q2, q3⟩
  · exact Or.inl q
  · exact Or.inr ⟨q1, crs_of (fun a k z => h a k (by omega)) q2, lts_of (fun k => h _ k (by omega)) q3⟩
theorem FT.rel {Z : St} {I I' : Nat → Nat → Int32} {L : Nat → Nat → Int64} (h : FT I I') (hr : RelC Z I L) : Fq I I' ∧ Se Z.1 I' ∧ Wo Z.1 I' := ⟨h.q, Se_of (fun a k q => h a k (by omega)) hr.2.1, Wo_of (fun k => h 89 k (by omega)) hr.2.2⟩
theorem FT.RC {A : Nt} {I I' : Nat → Nat → Int32} (h : FT I I') (hR : RC A I 12 21) : RC A I' 12 21 := RC_of (fun a k q => h a k (by omega)) hR
theorem FT_up {I : Nat → Nat → Int32} {c k : Nat} {x : Int32} (h : 81 ≤ c ∧ c ≤ 87) : FT I (up2 I c k x) := fun a j q => up2_p (by omega)
section PU
variable {P : Pm} {I : Nat → Nat → Int32} {c : Nat}
theorem PC.law (h : PC P I c) (q : Nat) : PC ((q, P.1.2), P.2) (up2 I c 7 (nI q)) c := ⟨up2_s _ _ _ _, (up2_k (by decide)).trans h.2.1, (up2_k (by decide)).trans h.2.2.1, (up2_k (by decide)).trans h.2.2.2.1, (up2_k (by decide)).trans h.2.2.2.2.1, (up2_k (by decide)).trans h.2.2.2.2.2.1, (up2_k (by decide)).trans h.2.2.2.2.2.2.1, (up2_k (by decide)).trans h.2.2.2.2.2.2.2.1, fun z => ⟨(up2_k (by decide)).trans (h.2.2.2.2.2.2.2.2 z).1, (up2_k (by decide)).trans (h.2.2.2.2.2.2.2.2 z).2⟩⟩
theorem PC.shut (h : PC P I c) (q : Nat) : PC ((P.1.1, q, P.1.2.2), P.2) (up2 I c 8 (nI q)) c := ⟨(up2_k (by decide)).trans h.1, up2_s _ _ _ _, (up2_k (by decide)).trans h.2.2.1, (up2_k (by decide)).trans h.2.2.2.1, (up2_k (by decide)).trans h.2.2.2.2.1, (up2_k (by decide)).trans h.2.2.2.2.2.1, (up2_k (by decide)).trans h.2.2.2.2.2.2.1, (up2_k (by decide)).trans h.2.2.2.2.2.2.2.1, fun z => ⟨(up2_k (by decide)).trans (h.2.2.2.2.2.2.2.2 z).1, (up2_k (by decide)).trans (h.2.2.2.2.2.2.2.2 z).2⟩⟩
theorem PC.sil (h : PC P I c) (q : Nat) : PC ((P.1.1, P.1.2.1, q), P.2) (up2 I c 9 (nI q)) c := ⟨(up2_k (by decide)).trans h.1, (up2_k (by decide)).trans h.2.1, up2_s _ _ _ _, (up2_k (by decide)).trans h.2.2.2.1, (up2_k (by decide)).trans h.2.2.2.2.1, (up2_k (by decide)).trans h.2.2.2.2.2.1, (up2_k (by decide)).trans h.2.2.2.2.2.2.1, (up2_k (by decide)).trans h.2.2.2.2.2.2.2.1, fun z => ⟨(up2_k (by decide)).trans (h.2.2.2.2.2.2.2.2 z).1, (up2_k (by decide)).trans (h.2.2.2.2.2.2.2.2 z).2⟩⟩
theorem PC.more (h : PC P I c) (q : Int) : PC (P.1, (q, P.2.1.2), P.2.2) (up2 I c 10 (iI q)) c := ⟨(up2_k (by decide)).trans h.1, (up2_k (by decide)).trans h.2.1, (up2_k (by decide)).trans h.2.2.1, up2_s _ _ _ _, (up2_k (by decide)).trans h.2.2.2.2.1, (up2_k (by decide)).trans h.2.2.2.2.2.1, (up2_k (by decide)).trans h.2.2.2.2.2.2.1, (up2_k (by decide)).trans h.2.2.2.2.2.2.2.1, fun z => ⟨(up2_k (by decide)).trans (h.2.2.2.2.2.2.2.2 z).1, (up2_k (by decide)).trans (h.2.2.2.2.2.2.2.2 z).2⟩⟩
theorem PC.gp (h : PC P I c) (q : Int) : PC (P.1, (P.2.1.1, q, P.2.1.2.2), P.2.2) (up2 I c 11 (iI q)) c := ⟨(up2_k (by decide)).trans h.1, (up2_k (by decide)).trans h.2.1, (up2_k (by decide)).trans h.2.2.1, (up2_k (by decide)).trans h.2.2.2.1, up2_s _ _ _ _, (up2_k (by decide)).trans h.2.2.2.2.2.1, (up2_k (by decide)).trans h.2.2.2.2.2.2.1, (up2_k (by decide)).trans h.2.2.2.2.2.2.2.1, fun z => ⟨(up2_k (by decide)).trans (h.2.2.2.2.2.2.2.2 z).1, (up2_k (by decide)).trans (h.2.2.2.2.2.2.2.2 z).2⟩⟩
theorem PC.gh (h : PC P I c) (q : Int) : PC (P.1, (P.2.1.1, P.2.1.2.1, q, P.2.1.2.2.2), P.2.2) (up2 I c 12 (iI q)) c := ⟨(up2_k (by decide)).trans h.1, (up2_k (by decide)).trans h.2.1, (up2_k (by decide)).trans h.2.2.1, (up2_k (by decide)).trans h.2.2.2.1, (up2_k (by decide)).trans h.2.2.2.2.1, up2_s _ _ _ _, (up2_k (by decide)).trans h.2.2.2.2.2.2.1, (up2_k (by decide)).trans h.2.2.2.2.2.2.2.1, fun z => ⟨(up2_k (by decide)).trans (h.2.2.2.2.2.2.2.2 z).1, (up2_k (by decide)).trans (h.2.2.2.2.2.2.2.2 z).2⟩⟩
theorem PC.lo (h : PC P I c) (q : Int) : PC (P.1, (P.2.1.1, P.2.1.2.1, P.2.1.2.2.1, q), P.2.2) (up2 I c 13 (iI q)) c := ⟨(up2_k (by decide)).trans h.1, (up2_k (by decide)).trans h.2.1, (up2_k (by decide)).trans h.2.2.1, (up2_k (by decide)).trans h.2.2.2.1, (up2_k (by decide)).trans h.2.2.2.2.1, (up2_k (by decide)).trans h.2.2.2.2.2.1, up2_s _ _ _ _, (up2_k (by decide)).trans h.2.2.2.2.2.2.2.1, fun z => ⟨(up2_k (by decide)).trans (h.2.2.2.2.2.2.2.2 z).1, (up2_k (by decide)).trans (h.2.2.2.2.2.2.2.2 z).2⟩⟩
theorem PC.al (h : PC P I c) (s : Nat) (w : List Nat) : PC (P.1, P.2.1, (true, s, w)) (up2 (up2 (up2 I c 14 1) c 15 (nI s)) c 16 (nI (cE w))) c := by
  have e : ∀ k, k < 14 → up2 (up2 (up2 I c 14 1) c 15 (nI s)) c 16 (nI (cE w)) c k = I c k := fun k hk => by rw [up2_k (by omega), up2_k (by omega), up2_k (by omega)]
  refine ⟨(e _ (by decide)).trans h.1, (e _ (by decide)).trans h.2.1, (e _ (by decide)).trans h.2.2.1, (e _ (by decide)).trans h.2.2.2.1, (e _ (by decide)).trans h.2.2.2.2.1, (e _ (by decide)).trans h.2.2.2.2.2.1, (e _ (by decide)).trans h.2.2.2.2.2.2.1, ?_, fun _ => ⟨?_, up2_s _ _ _ _⟩⟩
  · rw [up2_k (by decide), up2_k (by decide), up2_s]; rfl
  · rw [up2_k (by decide), up2_s]
theorem PMd.law (h : PMd P I) (q : Nat) : PMd ((q, P.1.2), P.2) (up2 I 96 16 (nI q)) := ⟨up2_s _ _ _ _, (up2_k (by decide)).trans h.2.1, (up2_k (by decide)).trans h.2.2.1, (up2_k (by decide)).trans h.2.2.2.1, (up2_k (by decide)).trans h.2.2.2.2.1, (up2_k (by decide)).trans h.2.2.2.2.2.1, (up2_k (by decide)).trans h.2.2.2.2.2.2.1, fun z => (up2_k (by decide)).trans (h.2.2.2.2.2.2.2.1 z), fun z => ⟨(up2_k (by decide)).trans (h.2.2.2.2.2.2.2.2 z).1, (up2_k (by decide)).trans (h.2.2.2.2.2.2.2.2 z).2⟩⟩
theorem PMd.shut (h : PMd P I) (q : Nat) : PMd ((P.1.1, q, P.1.2.2), P.2) (up2 I 96 15 (nI q)) := ⟨(up2_k (by decide)).trans h.1, up2_s _ _ _ _, (up2_k (by decide)).trans h.2.2.1, (up2_k (by decide)).trans h.2.2.2.1, (up2_k (by decide)).trans h.2.2.2.2.1, (up2_k (by decide)).trans h.2.2.2.2.2.1, (up2_k (by decide)).trans h.2.2.2.2.2.2.1, fun z => (up2_k (by decide)).trans (h.2.2.2.2.2.2.2.1 z), fun z => ⟨(up2_k (by decide)).trans (h.2.2.2.2.2.2.2.2 z).1, (up2_k (by decide)).trans (h.2.2.2.2.2.2.2.2 z).2⟩⟩
theorem PMd.sil (h : PMd P I) (q : Nat) : PMd ((P.1.1, P.1.2.1, q), P.2) (up2 I 96 17 (nI q)) := ⟨(up2_k (by decide)).trans h.1, (up2_k (by decide)).trans h.2.1, up2_s _ _ _ _, (up2_k (by decide)).trans h.2.2.2.1, (up2_k (by decide)).trans h.2.2.2.2.1, (up2_k (by decide)).trans h.2.2.2.2.2.1, (up2_k (by decide)).trans h.2.2.2.2.2.2.1, fun z => (up2_k (by decide)).trans (h.2.2.2.2.2.2.2.1 z), fun z => ⟨(up2_k (by decide)).trans (h.2.2.2.2.2.2.2.2 z).1, (up2_k (by decide)).trans (h.2.2.2.2.2.2.2.2 z).2⟩⟩
theorem PMd.more (h : PMd P I) (q : Int) : PMd (P.1, (q, P.2.1.2), P.2.2) (up2 I 96 20 (iI q)) := ⟨(up2_k (by decide)).trans h.1, (up2_k (by decide)).trans h.2.1, (up2_k (by decide)).trans h.2.2.1, up2_s _ _ _ _, (up2_k (by decide)).trans h.2.2.2.2.1, (up2_k (by decide)).trans h.2.2.2.2.2.1, (up2_k (by decide)).trans h.2.2.2.2.2.2.1, fun z => (up2_k (by decide)).trans (h.2.2.2.2.2.2.2.1 z), fun z => ⟨(up2_k (by decide)).trans (h.2.2.2.2.2.2.2.2 z).1, (up2_k (by decide)).trans (h.2.2.2.2.2.2.2.2 z).2⟩⟩
theorem PMd.gp (h : PMd P I) (q : Int) : PMd (P.1, (P.2.1.1, q, P.2.1.2.2), P.2.2) (up2 I 96 21 (iI q)) := ⟨(up2_k (by decide)).trans h.1, (up2_k (by decide)).trans h.2.1, (up2_k (by decide)).trans h.2.2.1, (up2_k (by decide)).trans h.2.2.2.1, up2_s _ _ _ _, (up2_k (by decide)).trans h.2.2.2.2.2.1, (up2_k (by decide)).trans h.2.2.2.2.2.2.1, fun z => (up2_k (by decide)).trans (h.2.2.2.2.2.2.2.1 z), fun z => ⟨(up2_k (by decide)).trans (h.2.2.2.2.2.2.2.2 z).1, (up2_k (by decide)).trans (h.2.2.2.2.2.2.2.2 z).2⟩⟩
theorem PMd.gh (h : PMd P I) (q : Int) : PMd (P.1, (P.2.1.1, P.2.1.2.1, q, P.2.1.2.2.2), P.2.2) (up2 I 96 22 (iI q)) := ⟨(up2_k (by decide)).trans h.1, (up2_k (by decide)).trans h.2.1, (up2_k (by decide)).trans h.2.2.1, (up2_k (by decide)).trans h.2.2.2.1, (up2_k (by decide)).trans h.2.2.2.2.1, up2_s _ _ _ _, (up2_k (by decide)).trans h.2.2.2.2.2.2.1, fun z => (up2_k (by decide)).trans (h.2.2.2.2.2.2.2.1 z), fun z => ⟨(up2_k (by decide)).trans (h.2.2.2.2.2.2.2.2 z).1, (up2_k (by decide)).trans (h.2.2.2.2.2.2.2.2 z).2⟩⟩
theorem PMd.lo (h : PMd P I) (q : Int) : PMd (P.1, (P.2.1.1, P.2.1.2.1, P.2.1.2.2.1, q), P.2.2) (up2 I 96 23 (iI q)) := ⟨(up2_k (by decide)).trans h.1, (up2_k (by decide)).trans h.2.1, (up2_k (by decide)).trans h.2.2.1, (up2_k (by decide)).trans h.2.2.2.1, (up2_k (by decide)).trans h.2.2.2.2.1, (up2_k (by decide)).trans h.2.2.2.2.2.1, up2_s _ _ _ _, fun z => (up2_k (by decide)).trans (h.2.2.2.2.2.2.2.1 z), fun z => ⟨(up2_k (by decide)).trans (h.2.2.2.2.2.2.2.2 z).1, (up2_k (by decide)).trans (h.2.2.2.2.2.2.2.2 z).2⟩⟩
end PU
section TR
variable {A : Nt} {P : Pm} {I : Nat → Nat → Int32} {L : Nat → Nat → Int64}
theorem tr_run (hR : RC A I 12 21) (hV : NV A) (hP : PC P I 81) (hPV : PV A P) : ∃ I', q_C kX3_run [.ref 81, .int 0, .int (I 12 1)] I L (some (.int (nI (pc7 (lastL A P))))) I' L ∧ SCo A P 81 I' ∧ FrC 81 I I' := by
  obtain ⟨I', c, h1, h2, h3⟩ := ce_run_81 (L := L) (f := 0) (l := A.1 0 0) hR hV hP hPV hV.1.1 (by omega) (fun t ht => absurd ht (by omega)) (fun t ht => absurd ht (by omega))
  have e1 := hR.1.2.1
  rw [← e1] at c
  exact ⟨I', c, ⟨⟨h3.t.RC hR, hV, hPV⟩, h1, h2⟩, h3⟩
theorem tr_go (hR : RM A I 97 0) (hV : NV A) (hP : PMd P I) (hPV : PV A P) (hG : P.2.1.2.2.1 ≠ -1 → P.2.1.2.1 ≠ -1) : ∃ I', q_C kX12_goAll [.ref 96] I L none I' L ∧ SMo A P I' ∧ FrM I I' := by
  obtain ⟨I', c, h1, h3⟩ := ce_goAll (L := L) hR hV hP hPV hG
  exact ⟨I', c, ⟨⟨RM_of (fun k => h3 97 k (by omega)) hR, hV, hPV⟩, h1⟩, h3⟩
def bitsF (a : Nat) : Nat → Nat
  | 0 => 0
  | k + 1 => bitsF a k + a / 2 ^ k % 2
theorem bitsF_7 : ∀ a, a < 128 → bitsF a 16 = pc7 a := by decide +kernel
theorem ct_bits {a : Nat} (ha : a < 128) : q_C kX12_bits [.int (nI a)] I L (some (.int (nI (pc7 a)))) I L := by
  rw [← bitsF_7 a ha]
  refine c0_X12_bits (vc_X12_bits_0 ?_)
  refine down (P := fun k => v_X12_bits_4 (some (.int (nI (bitsF a 16)))) I L I L (nI a) (nI (bitsF a k)) (nI k)) (n := 16) ?_ ?_
  · exact vc_X12_bits_4 ⟨fun _ => ⟨rfl, rfl, rfl⟩, fun z => absurd (by decide) z⟩
  · intro k hk ih
    refine vc_X12_bits_4 ?_
    simp (disch := omega) only [l_0, l_1, l_2, l_3, l_4, l_5, l_6, l_7, l_8, l_9, l_10, l_11, l_12, l_15, l_16, l_20, l_24, l_30, l_31, l_32, l_50, l_54, l_60, l_62, l_63, l_64, l_74, l_91, l_100, l_128, l_240, l_600, l_10000, l_m1, nI_leI, nI_ltI, u_eq, u_add, u_mul, u_cl, u_in_t, pk_sub, pk_div, nI_nm1, m1_nI, m1_lt, m1_le, nI_ltm, nI_lem, up2_s_, u_31, u_one3, u_shr3, u_and1, u_or, true_and, and_true]
    exact ⟨fun z => by omega, fun _ => ih⟩
theorem mq_litLast (h : SMo A P I) : q_C kX12_litLast [.ref 96] I L (some (.int (nI (lastL A P)))) I L := c0_X12_litLast (vc_X12_litLast_0 ⟨_, ct_hours h.1.1, _, mq_litAt h (Nat.le_refl _), rfl, rfl, rfl⟩)
theorem lastL_lt (hV : NV A) (P : Pm) : lastL A P < 128 := litB_lt _ hV.1.2.2.2.1
theorem mq_lastMany (h : SMo A P I) : q_C kX12_lastMany [.ref 96] I L (some (.int (nI (pc7 (lastL A P))))) I L := c0_X12_lastMany (vc_X12_lastMany_0 ⟨_, mq_litLast h, _, ct_bits (lastL_lt h.1.2.1 P), rfl, rfl, rfl⟩)
theorem cq_litAtLast {Z : St} (hr : RelC Z I L) : ∃ I', q_C kX11_litAtLast [.ref 0] I L (some (.int (nI (pc7 (lastL Z.1 (P0 Z.1)))))) I' L ∧ Fq I I' ∧ Se Z.1 I' ∧ Wo Z.1 I' := by
  obtain ⟨I1, c1, hf1, hs1, hse, hw⟩ := ce_settled hr
  have hV := hr.1.1.2
  have hR := (Bc_of hf1 hr.1).1.1
  have h0 := hV.1.1
  have e1 : I1 12 1 = nI (Z.1.1 0 0) := hR.1.2.1
  have e2 : I1 76 (Z.1.1 0 0) = nI (lastL Z.1 (P0 Z.1)) := hs1.2 _ (by omega)
  refine ⟨I1, c0_X11_litAtLast (vc_X11_litAtLast_0 ⟨I1, c1, ?_⟩), hf1, hse, hw⟩
  rw [e1, u_cl (by omega), e2]
  exact ⟨u_in (by omega) (by decide), _, ct_bitCount (lastL_lt hV _), rfl, rfl, rfl⟩
end TR
/-- the best of those in their order, with its worth -/
def bstF (f : Nat → Int) (b : Int → Int → Bool) (s0 : Int × Int) : Nat → Int × Int
  | 0 => s0
  | k + 1 => if b (f k) (bstF f b s0 k).2 = true then ((k : Int), f k) else bstF f b s0 k
theorem bstF_y {f : Nat → Int} {b : Int → Int → Bool} {s0 : Int × Int} {k : Nat} (h : b (f k) (bstF f b s0 k).2 = true) : bstF f b s0 (k + 1) = ((k : Int), f k) := if_pos h
theorem bstF_n {f : Nat → Int} {b : Int → Int → Bool} {s0 : Int × Int} {k : Nat} (h : ¬ b (f k) (bstF f b s0 k).2 = true) : bstF f b s0 (k + 1) = bstF f b s0 k := if_neg h
theorem bstF_rng {f : Nat → Int} {b : Int → Int → Bool} {s0 : Int × Int} (hf : ∀ k, -1 ≤ f k ∧ f k ≤ 100) (hs : (-1 ≤ s0.1 ∧ s0.1 ≤ 0) ∧ -1 ≤ s0.2 ∧ s0.2 ≤ 100) : ∀ k, (-1 ≤ (bstF f b s0 k).1 ∧ (bstF f b s0 k).1 ≤ k) ∧ -1 ≤ (bstF f b s0 k).2 ∧ (bstF f b s0 k).2 ≤ 100
  | 0 => ⟨⟨hs.1.1, by have := hs.1.2; show s0.1 ≤ ((0 : Nat) : Int); omega⟩, hs.2⟩
  | k + 1 => by
    have ih := bstF_rng hf hs (b := b) k
    by_cases e : b (f k) (bstF f b s0 k).2 = true
    · rw [bstF_y e]
      exact ⟨⟨by show (-1 : Int) ≤ (k : Int); omega, by show (k : Int) ≤ ((k + 1 : Nat) : Int); omega⟩, hf k⟩
    · rw [bstF_n e]
      exact ⟨⟨ih.1.1, by have := ih.1.2; omega⟩, ih.2⟩
def gtB (a s : Int) : Bool := decide (s < a)
def ltB (a s : Int) : Bool := decide (a < s)
theorem gtB_t {a s : Int} : gtB a s = true ↔ s < a := decide_eq_true_iff
theorem ltB_t {a s : Int} : ltB a s = true ↔ a < s := decide_eq_true_iff
theorem pc7I (a : Nat) : (-1 : Int) ≤ (pc7 a : Int) ∧ (pc7 a : Int) ≤ 100 := by have := pc7_le a; omega
def PLw (A : Nt) (q : Nat) : Pm := ((q, 0, 0), (-1, -1, -1, -1), (false, 0, [1]))
theorem PV_PLw {A : Nt} {q : Nat} (hV : NV A) (hq : q ≤ 3) : PV A (PLw A q) := ⟨⟨hq, (PV_P0 hV).1.2.1, (PV_P0 hV).1.2.2⟩, (PV_P0 hV).2.1, (PV_P0 hV).2.2⟩
section TW
variable {A : Nt} {P : Pm} {I : Nat → Nat → Int32} {L : Nat → Nat → Int64}
theorem ce_byLaw (hR : RC A I 12 21) (q : Nat) : ∃ I', q_C kX3_byLaw [.ref 81, .int (nI q)] I L none I' L ∧ PC (PLw A q) I' 81 ∧ FT I I' := by
  obtain ⟨I1, c1, h1, hf1⟩ := ce_asNow_81 (L := L) hR
  exact ⟨_, c0_X3_byLaw (vc_X3_byLaw_0 ⟨I1, c1, rfl, rfl, rfl⟩), h1.law q, FT.tr (fun a k z => hf1 a k (by omega)) (FT_up (by omega))⟩
theorem ce_tellAlone (hR : RC A I 12 21) (s : Nat) (w : List Nat) : ∃ I', q_C kX3_tellAlone [.ref 81, .int (nI s), .int (nI (cE w))] I L none I' L ∧ PC (Pal A s w) I' 81 ∧ FT I I' := by
  obtain ⟨I1, c1, h1, hf1⟩ := ce_asNow_81 (L := L) hR
  exact ⟨_, c0_X3_tellAlone (vc_X3_tellAlone_0 ⟨I1, c1, rfl, rfl, rfl⟩), h1.al s w, FT.tr (fun a k z => hf1 a k (by omega)) (((FT_up (by omega)).tr (FT_up (by omega))).tr (FT_up (by omega)))⟩
theorem cm_goBy (hR : RM A I 97 0) (hV : NV A) (hP : PMd P I) (hPV : PV A P) (hG : P.2.1.2.2.1 = -1) {q : Nat} (hq : q ≤ 3) : ∃ I', q_C kX12_goBy [.ref 96, .int (nI q)] I L none I' L ∧ SMo A ((q, P.1.2), P.2) I' ∧ PMd ((q, P.1.2), P.2) I' ∧ (∀ a k, (a < 96 ∨ a = 96 ∧ k ≠ 16 ∨ 97 ≤ a ∧ a ≤ 102 ∨ 107 ≤ a) → I' a k = I a k) := by
  obtain ⟨I1, c1, h1, hf1⟩ := tr_go (L := L) (RM_of (I' := up2 I 96 16 (nI q)) (fun k => up2_p (by omega)) hR) hV (hP.law q) (show PV A ((q, P.1.2), P.2) from ⟨⟨hq, hPV.1.2⟩, hPV.2⟩) (fun z => absurd hG z)
  exact ⟨I1, c0_X12_goBy (vc_X12_goBy_0 ⟨I1, c1, rfl, rfl, rfl⟩), h1, PMd_of (fun k => hf1 96 k (by omega)) (hP.law q), fun a k z => (hf1 a k (by omega)).trans (up2_o' (by omega))⟩
end TW
theorem q_by (Z : St) (x : Int32) : ∃ v, Q2 Z Z kX11_by kX12_by [.int x] (.int v) := by
  by_cases h8 : Z.1.1 0 8 = 0
  · refine ⟨-2, QC_q fun I L hr => ⟨I, c0_X11_by (vc_X11_by_0 ⟨_, ct_noNight hr.1.1.1 hr.1.1.2, g1p h8 ⟨rfl, rfl, rfl⟩⟩), Fq.rf, hr.2.1, hr.2.2⟩, QM_q fun I L hr => ?_⟩
    obtain ⟨I1, c1, hc1, hf1, -, -⟩ := ce_asksNight (L := L) hr.1.1 hr.1.2
    exact ⟨I1, c0_X12_by (vc_X12_by_0 ⟨_, I1, c1, g0p h8 ⟨rfl, rfl, rfl⟩⟩), hf1⟩
  by_cases hx : ib 0 3 x
  · refine ⟨-2, QC_q fun I L hr => ⟨I, c0_X11_by (vc_X11_by_0 ⟨_, ct_noNight hr.1.1.1 hr.1.1.2, g1n h8 ⟨fun _ => ⟨rfl, rfl, rfl⟩, fun z => ⟨fun z2 => ?_, fun _ => ⟨rfl, rfl, rfl⟩⟩⟩⟩), Fq.rf, hr.2.1, hr.2.2⟩, QM_q fun I L hr => ?_⟩
    · rw [lt4] at z2
      exact (hx.elim z z2).elim
    · obtain ⟨I1, c1, hc1, hf1, -, -⟩ := ce_asksNight (L := L) hr.1.1 hr.1.2
      exact ⟨I1, c0_X12_by (vc_X12_by_0 ⟨_, I1, c1, g0n h8 ⟨_, ct_inI x 0 3, g0p hx ⟨rfl, rfl, rfl⟩⟩⟩), hf1⟩
  obtain ⟨q, -, hq, hxq⟩ := xIn (a := 0) (b := 3) (by decide) (by decide) hx
  refine ⟨nI (lastL Z.1 (PLw Z.1 q)), QC_q fun I L hr => ?_, QM_q fun I L hr => ?_⟩
  · have hV := hr.1.1.2
    have h0 := hV.1.1
    obtain ⟨I1, c1, h1, hf1⟩ := ce_byLaw (L := L) hr.1.1.1 q
    obtain ⟨I2, c2, h2, hf2⟩ := tr_run (L := L) (hf1.RC hr.1.1.1) hV h1 (PV_PLw hV hq)
    have hft := hf1.tr hf2.t
    have e1 : I2 12 1 = nI (Z.1.1 0 0) := (hft.RC hr.1.1.1).1.2.1
    have e2 : I2 82 (Z.1.1 0 0) = nI (lastL Z.1 (PLw Z.1 q)) := h2.lit (Nat.le_refl _)
    refine ⟨I2, c0_X11_by (vc_X11_by_0 ⟨_, ct_noNight hr.1.1.1 hr.1.1.2, g1n h8 ⟨fun z => absurd (Or.inl z) hx, fun _ => ⟨fun _ => ⟨I1, by rw [hxq]; exact c1, _, I2, c2, ?_⟩, fun z => absurd ((lt4 x).mpr (fun z2 => hx (Or.inr z2))) z⟩⟩⟩), hft.rel hr⟩
    rw [e1, u_cl (by omega), e2]
    exact ⟨u_in (by omega) (by decide), rfl, rfl, rfl⟩
  · have hV := hr.1.2
    obtain ⟨I1, c1, hc1, hf1, hP1, -⟩ := ce_asksNight (L := L) hr.1.1 hr.1.2
    obtain ⟨I2, c2, h2, -, hf2⟩ := cm_goBy (L := L) (RM_of (fun k => hf1 97 k (by omega)) hr.1.1) hV hP1 (PV_P0 hV) rfl hq
    exact ⟨I2, c0_X12_by (vc_X12_by_0 ⟨_, I1, c1, g0n h8 ⟨_, ct_inI x 0 3, g0n hx ⟨I2, by rw [hxq]; exact c2, _, mq_litLast h2, rfl, rfl, rfl⟩⟩⟩), hf1.tr (fun a k z => hf2 a k (by omega))⟩
def wrdF (A : Nt) (q : Nat) : Int := (sumL (rows A (PLw A q) (A.1 0 0)) (A.1 0 3) : Nat)
theorem wrdF_r {A : Nt} (hV : NV A) {q : Nat} (hq : q ≤ 3) : sumL (rows A (PLw A q) (A.1 0 0)) (A.1 0 3) ≤ 42 := by
  have := sumL_le (RV_rows hV (PV_PLw hV hq) (A.1 0 0)) (A.1 0 3) (Nat.le_refl _)
  have h3 := hV.1.2.2.2.1
  omega
theorem bst_law {A : Nt} (hV : NV A) : ∀ k, k ≤ 4 → -1 ≤ (bstF (wrdF A) gtB (0, -1) k).2 ∧ (bstF (wrdF A) gtB (0, -1) k).2 ≤ 42
  | 0, _ => by show (-1 : Int) ≤ -1 ∧ (-1 : Int) ≤ 42; omega
  | k + 1, h => by
    have ih := bst_law hV k (by omega)
    have hk := wrdF_r hV (q := k) (by omega)
    by_cases e : gtB (wrdF A k) (bstF (wrdF A) gtB (0, -1) k).2 = true
    · rw [bstF_y e]; show -1 ≤ wrdF A k ∧ wrdF A k ≤ 42; unfold wrdF; omega
    · rw [bstF_n e]; exact ih
theorem q_law (Z : St) : ∃ v, Q2 Z Z kX11_law kX12_law [] (.int v) := by
  by_cases h8 : Z.1.1 0 8 = 0
  · refine ⟨-2, QC_q fun I L hr => ⟨I, c0_X11_law (vc_X11_law_0 ⟨_, ct_noNight hr.1.1.1 hr.1.1.2, g1p h8 ⟨rfl, rfl, rfl⟩⟩), Fq.rf, hr.2.1, hr.2.2⟩, QM_q fun I L hr => ?_⟩
    obtain ⟨I1, c1, hc1, hf1, -, -⟩ := ce_asksNight (L := L) hr.1.1 hr.1.2
    exact ⟨I1, c0_X12_law (vc_X12_law_0 ⟨_, I1, c1, g0p h8 ⟨rfl, rfl, rfl⟩⟩), hf1⟩
  refine ⟨iI (bstF (wrdF Z.1) gtB (0, -1) 4).1, QC_q fun I L hr => ?_, QM_q fun I L hr => ?_⟩
  · have hV := hr.1.1.2
    have h0 := hV.1.1
    have h := mloop (V := fun k I' J => v_X11_law_16 (some (.int (iI (bstF (wrdF Z.1) gtB (0, -1) 4).1))) I' L J L (iI (bstF (wrdF Z.1) gtB (0, -1) k).1) (iI (bstF (wrdF Z.1) gtB (0, -1) k).2) (nI k)) (Inv := fun k J => FT I J) (n := 4) (Q := fun I' => FT I I') (fun J hJ => ⟨J, vc_X11_law_16 ⟨fun _ => ⟨rfl, rfl, rfl⟩, fun z => absurd (by decide) z⟩, hJ⟩) ?_ I FT.rf
    · obtain ⟨I', hw, hf⟩ := h
      exact ⟨I', c0_X11_law (vc_X11_law_0 ⟨_, ct_noNight hr.1.1.1 hr.1.1.2, g1n h8 hw⟩), hf.rel hr⟩
    · intro k J hk hJ
      obtain ⟨I1, c1, h1, hf1⟩ := ce_byLaw (L := L) (hJ.RC hr.1.1.1) k
      obtain ⟨I2, c2, h2, hf2⟩ := tr_run (L := L) (hf1.RC (hJ.RC hr.1.1.1)) hV h1 (PV_PLw hV (by omega))
      have hft := hf1.tr hf2.t
      have e1 : I2 12 1 = nI (Z.1.1 0 0) := (hft.RC (hJ.RC hr.1.1.1)).1.2.1
      refine ⟨I2, hJ.tr hft, fun I' hw => vc_X11_law_16 ⟨fun z => ?_, fun _ => ⟨I1, c1, _, I2, c2, _, by rw [e1]; exact cq_lettersSaid81 h2 (Nat.le_refl _), ?_⟩⟩⟩
      · rw [show (4 : Int32) = nI 4 from rfl, nI_leI (by omega) (by omega)] at z
        omega
      · have hb := bst_law hV k (by omega)
        have hk2 := wrdF_r hV (q := k) (by omega)
        have hwk : wrdF Z.1 k = ((sumL (rows Z.1 (PLw Z.1 k) (Z.1.1 0 0)) (Z.1.1 0 3) : Nat) : Int) := rfl
        rw [nI_1, ← iI_n (sumL _ _), iI_le (by omega) (by omega)]
        refine ⟨fun z => ?_, fun z => ?_⟩
        · rw [bstF_n (k := k) (by rw [gtB_t, hwk]; omega)] at hw; exact hw
        · rw [bstF_y (k := k) (by rw [gtB_t, hwk]; omega)] at hw
          rw [← iI_n k]
          exact hw
  · have hV := hr.1.2
    obtain ⟨I0, c0, hc0, hf0, hP0, -⟩ := ce_asksNight (L := L) hr.1.1 hr.1.2
    have h := mloop (V := fun k I' J => v_X12_law_16 (some (.int (iI (bstF (wrdF Z.1) gtB (0, -1) 4).1))) I' L J L (iI (bstF (wrdF Z.1) gtB (0, -1) k).1) (iI (bstF (wrdF Z.1) gtB (0, -1) k).2) (nI k)) (Inv := fun k J => Mq I J ∧ ∃ P : Pm, PMd P J ∧ PV Z.1 P ∧ P.2.1.2.2.1 = -1 ∧ ∀ q, ((q, P.1.2), P.2) = PLw Z.1 q) (n := 4) (Q := fun I' => Mq I I') (fun J hJ => ⟨J, vc_X12_law_16 ⟨fun _ => ⟨rfl, rfl, rfl⟩, fun z => absurd (by decide) z⟩, hJ.1⟩) ?_ I0 ⟨hf0, P0 Z.1, hP0, PV_P0 hV, rfl, fun q => rfl⟩
    · obtain ⟨I', hw, hf⟩ := h
      exact ⟨I', c0_X12_law (vc_X12_law_0 ⟨_, I0, c0, g0n h8 hw⟩), hf⟩
    · rintro k J hk ⟨hJ, P, hP, hPV, hG, hPq⟩
      obtain ⟨I2, c2, h2, hP2, hf2⟩ := cm_goBy (L := L) (RM_of (fun k => hJ 97 k (by omega)) hr.1.1) hV hP hPV hG (q := k) (by omega)
      rw [hPq k] at h2 hP2
      have hh := ct_hours (L := L) h2.1.1
      have hw2 := mq_wordsAt (L := L) h2 (Nat.le_refl _)
      refine ⟨I2, ⟨hJ.tr (fun a k z => hf2 a k (by omega)), PLw Z.1 k, hP2, PV_PLw hV (by omega), rfl, fun q => rfl⟩, fun I' hw => vc_X12_law_16 ⟨fun z => ?_, fun _ => ⟨I2, c2, _, hh, _, hw2, ?_⟩⟩⟩
      · rw [show (4 : Int32) = nI 4 from rfl, nI_leI (by omega) (by omega)] at z
        omega
      · have hb := bst_law hV k (by omega)
        have hk2 := wrdF_r hV (q := k) (by omega)
        have hwk : wrdF Z.1 k = ((sumL (rows Z.1 (PLw Z.1 k) (Z.1.1 0 0)) (Z.1.1 0 3) : Nat) : Int) := rfl
        rw [nI_1]
        have hcmp : iI (bstF (wrdF Z.1) gtB (0, -1) k).2 < nI (sumL (rows Z.1 (PLw Z.1 k) (Z.1.1 0 0)) (Z.1.1 0 3)) ↔ (bstF (wrdF Z.1) gtB (0, -1) k).2 < (sumL (rows Z.1 (PLw Z.1 k) (Z.1.1 0 0)) (Z.1.1 0 3) : Nat) := by rw [← iI_n, iI_lt (by omega) (by omega)]
        rw [hcmp]
        refine ⟨fun z => ⟨_, hh, _, hw2, ?_⟩, fun z => ?_⟩
        · rw [bstF_y (k := k) (by rw [gtB_t, hwk]; omega)] at hw
          rw [← iI_n k, ← iI_n (sumL _ _)]
          exact hw
        · rw [bstF_n (k := k) (by rw [gtB_t, hwk]; omega)] at hw; exact hw
