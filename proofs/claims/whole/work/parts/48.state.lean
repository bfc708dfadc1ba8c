/-! WHAT STANDS BETWEEN TWO CALLS: the night, the tape, the fault, the images, the slots. -/
abbrev St : Type := Nt × (Nat × (Nat → Int32)) × (Int32 × Int32) × (Nat → Option Nt) × (Nat → Option (Nat × Nat × (Nat → Int64)))
def P0 (A : Nt) : Pm := ((A.1 0 1, 0, 0), (-1, -1, -1, -1), (false, 0, [1]))
theorem PV_P0 {A : Nt} (hV : NV A) : PV A (P0 A) := ⟨⟨hV.1.2.1, by show 0 < 128; decide, by show 0 < 65536; decide⟩, ⟨Or.inl rfl, Or.inl rfl, ⟨by show (-1 : Int) ≤ -1; omega, by show (-1 : Int) ≤ 12; omega⟩, ⟨by show (-1 : Int) ≤ -1; omega, by show (-1 : Int) ≤ 6; omega⟩⟩, ⟨by show 0 < 128; decide, Sg_one ⟨by decide, by decide⟩, by show [1] ≠ []; simp⟩⟩
def Pal (A : Nt) (s : Nat) (w : List Nat) : Pm := ((A.1 0 1, 0, 0), (-1, -1, -1, -1), (true, s, w))
theorem PV_Pal {A : Nt} (hV : NV A) {s : Nat} {w : List Nat} (hs : s < 128) (hw : Sg w) (hn : w ≠ []) : PV A (Pal A s w) := ⟨⟨hV.1.2.1, by show 0 < 128; decide, by show 0 < 65536; decide⟩, ⟨Or.inl rfl, Or.inl rfl, ⟨by show (-1 : Int) ≤ -1; omega, by show (-1 : Int) ≤ 12; omega⟩, ⟨by show (-1 : Int) ≤ -1; omega, by show (-1 : Int) ≤ 6; omega⟩⟩, ⟨hs, hw, hn⟩⟩
def lastL (A : Nt) (P : Pm) : Nat := litB (rows A P (A.1 0 0)) (A.1 0 3)
def wrt (A : Nt) (s : Nat) : Nat := pc7 (lastL A (Pal A s [1]))
/-- a byte's number -/
def bb (x : Int32) : Int32 := x.toInt8.toInt32
/-- the class's part -/
def Bc (Z : St) (I : Nat → Nat → Int32) (L : Nat → Nat → Int64) : Prop :=
  (RC Z.1 I 12 21 ∧ NV Z.1) ∧ (Z.2.1.1 ≤ 600 ∧ I 0 1 = nI Z.2.1.1 ∧ ∀ k, k < Z.2.1.1 → I 1 k = bb (Z.2.1.2 k)) ∧ (I 0 2 = Z.2.2.1.1 ∧ I 0 3 = Z.2.2.1.2) ∧
  (∀ k, k < 3 → (Z.2.2.2.1 k = none → I 35 k = 0) ∧ (∀ B, Z.2.2.2.1 k = some B → I 35 k = 1 ∧ RC B I (36 + 13 * k) (45 + 13 * k) ∧ NV B)) ∧
  (∀ s, s < 4 → (Z.2.2.2.2 s = none → I 26 s = -1) ∧ (∀ w n f, Z.2.2.2.2 s = some (w, n, f) → w ≤ 3 ∧ n ≤ 60 ∧ I 26 s = nI w ∧ I 27 s = nI n ∧ ∀ i, i < 60 → L (29 + s) i = f i))
def Se (A : Nt) (I : Nat → Nat → Int32) : Prop := I 0 18 = 0 ∨ I 0 18 = 1 ∧ crs cE A (P0 A) I 75 (A.1 0 0 + 1) ∧ lts A (P0 A) I 75 (A.1 0 0 + 1)
def Wo (A : Nt) (I : Nat → Nat → Int32) : Prop := ∀ s, s < 128 → I 89 s = -1 ∨ I 89 s = nI (wrt A s)
def RelC (Z : St) (I : Nat → Nat → Int32) (L : Nat → Nat → Int64) : Prop := Bc Z I L ∧ Se Z.1 I ∧ Wo Z.1 I
/-- the reference's part -/
def RelM (Z : St) (I : Nat → Nat → Int32) (L : Nat → Nat → Int64) : Prop :=
  (RM Z.1 I 97 0 ∧ NV Z.1) ∧ (Z.2.1.1 ≤ 600 ∧ I 96 5 = nI Z.2.1.1 ∧ ∀ k, k < Z.2.1.1 → I 100 k = bb (Z.2.1.2 k)) ∧ (I 96 12 = Z.2.2.1.1 ∧ I 96 13 = Z.2.2.1.2) ∧
  (∀ k, k < 3 → (Z.2.2.2.1 k = none → I 99 k = 0) ∧ (∀ B, Z.2.2.2.1 k = some B → I 99 k = 1 ∧ RM B I 98 (104 * k) ∧ NV B)) ∧
  (∀ s, s < 4 → (Z.2.2.2.2 s = none → I 109 s = -1) ∧ (∀ w n f, Z.2.2.2.2 s = some (w, n, f) → w ≤ 3 ∧ n ≤ 60 ∧ I 109 s = nI n ∧ I 110 s = nI w ∧ ∀ i, i < 60 → L 111 (60 * s + i) = f i))
theorem RC_of2 {A : Nt} {I I' : Nat → Nat → Int32} {p q : Nat} (h : ∀ a k, (p ≤ a ∧ a ≤ p + 8 ∨ q ≤ a ∧ a ≤ q + 3) → I' a k = I a k) (hR : RC A I p q) : RC A I' p q := by
  have e : ∀ a, (p ≤ a ∧ a ≤ p + 8 ∨ q ≤ a ∧ a ≤ q + 3) → I' a = I a := fun a ha => funext fun k => h a k ha
  unfold RC at hR ⊢
  rw [e p (by omega), e (p + 1) (by omega), e (p + 2) (by omega), e (p + 3) (by omega), e (p + 4) (by omega), e (p + 5) (by omega), e (p + 6) (by omega), e (p + 7) (by omega), e (p + 8) (by omega), e q (by omega), e (q + 1) (by omega), e (q + 2) (by omega), e (q + 3) (by omega)]
  exact hR
theorem RM_of2 {A : Nt} {I I' : Nat → Nat → Int32} {p o : Nat} (h : ∀ k, I' p k = I p k) (hR : RM A I p o) : RM A I' p o := by
  have e : I' p = I p := funext h
  unfold RM at hR ⊢
  rw [e]
  exact hR
/-- what a call that asks leaves, in the class -/
def Fq (I I' : Nat → Nat → Int32) : Prop := ∀ a k, (a < 75 ∨ 95 < a) → (a ≠ 0 ∨ k ≠ 18) → I' a k = I a k
theorem Fq.rf {I : Nat → Nat → Int32} : Fq I I := fun _ _ _ _ => rfl
theorem Fq.tr {I I1 I2 : Nat → Nat → Int32} (h : Fq I I1) (h2 : Fq I1 I2) : Fq I I2 := fun a k q q2 => (h2 a k q q2).trans (h a k q q2)
theorem FrC.q75 {I I' : Nat → Nat → Int32} (h : FrC 75 I I') : Fq I I' := fun a k q _ => h a k (by omega)
theorem FrC.q81 {I I' : Nat → Nat → Int32} (h : FrC 81 I I') : Fq I I' := fun a k q _ => h a k (by omega)
theorem Bc_of {Z : St} {I I' : Nat → Nat → Int32} {L : Nat → Nat → Int64} (h : Fq I I') (hB : Bc Z I L) : Bc Z I' L := by
  obtain ⟨⟨b1, b2⟩, ⟨b3, b4, b5⟩, ⟨b6, b7⟩, b8, b9⟩ := hB
  refine ⟨⟨RC_of2 (fun a k q => h a k (by omega) (by omega)) b1, b2⟩, ⟨b3, by rw [h 0 1 (by omega) (by omega)]; exact b4, fun k hk => by rw [h 1 k (by omega) (by omega)]; exact b5 k hk⟩, ⟨by rw [h 0 2 (by omega) (by omega)]; exact b6, by rw [h 0 3 (by omega) (by omega)]; exact b7⟩, fun k hk => ⟨fun z => ?_, fun B z => ?_⟩, fun s hs => ⟨fun z => ?_, fun w n f z => ?_⟩⟩
  · rw [h 35 k (by omega) (by omega)]; exact (b8 k hk).1 z
  · obtain ⟨c1, c2, c3⟩ := (b8 k hk).2 B z
    exact ⟨by rw [h 35 k (by omega) (by omega)]; exact c1, RC_of2 (fun a j q => h a j (by omega) (by omega)) c2, c3⟩
  · rw [h 26 s (by omega) (by omega)]; exact (b9 s hs).1 z
  · rw [h 26 s (by omega) (by omega), h 27 s (by omega) (by omega)]; exact (b9 s hs).2 w n f z
/-- what a call that asks leaves, in the reference -/
def Mq (I I' : Nat → Nat → Int32) : Prop := ∀ a k, (a < 96 ∨ a = 96 ∧ k < 15 ∨ 97 ≤ a ∧ a ≤ 102 ∨ 109 ≤ a) → I' a k = I a k
theorem Mq.rf {I : Nat → Nat → Int32} : Mq I I := fun _ _ _ => rfl
theorem Mq.tr {I I1 I2 : Nat → Nat → Int32} (h : Mq I I1) (h2 : Mq I1 I2) : Mq I I2 := fun a k q => (h2 a k q).trans (h a k q)
theorem FrM.q {I I' : Nat → Nat → Int32} (h : FrM I I') : Mq I I' := fun a k q => h a k (by omega)
theorem RelM_of {Z : St} {I I' : Nat → Nat → Int32} {L L' : Nat → Nat → Int64} (h : Mq I I') (hL : ∀ a k, 111 ≤ a → L' a k = L a k) (hB : RelM Z I L) : RelM Z I' L' := by
  obtain ⟨⟨b1, b2⟩, ⟨b3, b4, b5⟩, ⟨b6, b7⟩, b8, b9⟩ := hB
  refine ⟨⟨RM_of2 (fun k => h 97 k (by omega)) b1, b2⟩, ⟨b3, by rw [h 96 5 (by omega)]; exact b4, fun k hk => by rw [h 100 k (by omega)]; exact b5 k hk⟩, ⟨by rw [h 96 12 (by omega)]; exact b6, by rw [h 96 13 (by omega)]; exact b7⟩, fun k hk => ⟨fun z => ?_, fun B z => ?_⟩, fun s hs => ⟨fun z => ?_, fun w n f z => ?_⟩⟩
  · rw [h 99 k (by omega)]; exact (b8 k hk).1 z
  · obtain ⟨c1, c2, c3⟩ := (b8 k hk).2 B z
    exact ⟨by rw [h 99 k (by omega)]; exact c1, RM_of2 (fun j => h 98 j (by omega)) c2, c3⟩
  · rw [h 109 s (by omega)]; exact (b9 s hs).1 z
  · rw [h 109 s (by omega), h 110 s (by omega)]
    obtain ⟨d1, d2, d3, d4, d5⟩ := (b9 s hs).2 w n f z
    exact ⟨d1, d2, d3, d4, fun i hi => by rw [hL 111 _ (by omega)]; exact d5 i hi⟩
/-- a call, from one state to another -/
def QC (Z Z' : St) (y : q_Y) (args : List Value) (v : Value) : Prop := ∀ I L, RelC Z I L → ∃ I' L', q_C y (.ref 0 :: args) I L (some v) I' L' ∧ RelC Z' I' L' ∧ (∀ a k, 95 < a → I' a k = I a k ∧ L' a k = L a k)
def QM (Z Z' : St) (y : q_Y) (args : List Value) (v : Value) : Prop := ∀ I L, RelM Z I L → ∃ I' L', q_C y (.ref 96 :: args) I L (some v) I' L' ∧ RelM Z' I' L' ∧ (∀ a k, a < 96 → I' a k = I a k ∧ L' a k = L a k)
def Q2 (Z Z' : St) (y1 y2 : q_Y) (args : List Value) (v : Value) : Prop := QC Z Z' y1 args v ∧ QM Z Z' y2 args v
/-- a call that asks -/
theorem QC_q {Z : St} {y : q_Y} {args : List Value} {v : Value} (h : ∀ I L, RelC Z I L → ∃ I', q_C y (.ref 0 :: args) I L (some v) I' L ∧ Fq I I' ∧ Se Z.1 I' ∧ Wo Z.1 I') : QC Z Z y args v := fun I L hr => by
  obtain ⟨I', c, hf, hs, hw⟩ := h I L hr
  exact ⟨I', L, c, ⟨Bc_of hf hr.1, hs, hw⟩, fun a k ha => ⟨hf a k (by omega) (by omega), rfl⟩⟩
theorem QM_q {Z : St} {y : q_Y} {args : List Value} {v : Value} (h : ∀ I L, RelM Z I L → ∃ I', q_C y (.ref 96 :: args) I L (some v) I' L ∧ Mq I I') : QM Z Z y args v := fun I L hr => by
  obtain ⟨I', c, hf⟩ := h I L hr
  exact ⟨I', L, c, RelM_of hf (fun _ _ _ => rfl) hr, fun a k ha => ⟨hf a k (by omega), rfl⟩⟩
theorem up2_o' {α : Type} {f : Nat → Nat → α} {p k a b : Nat} {x : α} (h : a ≠ p ∨ b ≠ k) : up2 f p k x a b = f a b := by
  rcases h with h | h
  · exact up2_p h
  · exact up2_k h
theorem Wo_of {A : Nt} {I I' : Nat → Nat → Int32} (h : ∀ k, I' 89 k = I 89 k) (hW : Wo A I) : Wo A I' := fun s hs => by rw [h s]; exact hW s hs
section ST
variable {Z : St} {I : Nat → Nat → Int32} {L : Nat → Nat → Int64}
theorem PC_asNow {A : Nt} {I : Nat → Nat → Int32} (hR : RC A I 12 21) (c : Nat) (x : Int32) (hx : x = I 12 2) : PC (P0 A) (up2 (up2 (up2 (up2 (up2 (up2 (up2 (up2 I c 7 x) c 8 0) c 9 0) c 10 (-1)) c 11 (-1)) c 12 (-1)) c 13 (-1)) c 14 0) c := by
  unfold PC
  simp only [up2, P0, true_and]
  refine ⟨?_, (by first | (simp; done) | (simp; decide) | (simp; rfl)), (by first | (simp; done) | (simp; decide) | (simp; rfl)), (by first | (simp; done) | (simp; decide) | (simp; rfl)), (by first | (simp; done) | (simp; decide) | (simp; rfl)), (by first | (simp; done) | (simp; decide) | (simp; rfl)), (by first | (simp; done) | (simp; decide) | (simp; rfl)), (by first | (simp; done) | (simp; decide) | (simp; rfl)), fun z => absurd z (by decide)⟩
  have h := hR.1.2.2.1
  simp
  rw [hx]
  exact h
theorem ce_asNow_75 {A : Nt} (hR : RC A I 12 21) : ∃ I', q_C kX3_asNow [.ref 75] I L none I' L ∧ PC (P0 A) I' 75 ∧ (∀ a k, a ≠ 75 → I' a k = I a k) := by
  refine ⟨_, c0_X3_asNow_75 (vc_X3_asNow_75_0 (fun I1 h1 => ⟨rfl, by rw [h1], rfl⟩)), PC_asNow hR 75 _ rfl, fun a k q => ?_⟩
  rw [up2_p q, up2_p q, up2_p q, up2_p q, up2_p q, up2_p q, up2_p q, up2_p q]
theorem ce_asNow_81 {A : Nt} (hR : RC A I 12 21) : ∃ I', q_C kX3_asNow [.ref 81] I L none I' L ∧ PC (P0 A) I' 81 ∧ (∀ a k, a ≠ 81 → I' a k = I a k) := by
  refine ⟨_, c0_X3_asNow_81 (vc_X3_asNow_81_0 (fun I1 h1 => ⟨rfl, by rw [h1], rfl⟩)), PC_asNow hR 81 _ rfl, fun a k q => ?_⟩
  rw [up2_p q, up2_p q, up2_p q, up2_p q, up2_p q, up2_p q, up2_p q, up2_p q]
theorem crs_of {e : List Nat → Nat} {A : Nt} {P : Pm} {I I' : Nat → Nat → Int32} {c l : Nat} (h : ∀ a k, (c + 2 ≤ a ∧ a ≤ c + 5) → I' a k = I a k) (hc : crs e A P I c l) : crs e A P I' c l := fun t ht p hp => by
  rw [h _ _ (by omega), h _ _ (by omega), h _ _ (by omega), h _ _ (by omega)]
  exact hc t ht p hp
theorem lts_of {A : Nt} {P : Pm} {I I' : Nat → Nat → Int32} {c l : Nat} (h : ∀ k, I' (c + 1) k = I (c + 1) k) (hc : lts A P I c l) : lts A P I' c l := fun t ht => by
  rw [h]
  exact hc t ht
/-- the settled course -/
theorem ce_settled (hr : RelC Z I L) : ∃ I', q_C kX11_settledCourse [.ref 0] I L (some (.ref 75)) I' L ∧ Fq I I' ∧ (crs cE Z.1 (P0 Z.1) I' 75 (Z.1.1 0 0 + 1) ∧ lts Z.1 (P0 Z.1) I' 75 (Z.1.1 0 0 + 1)) ∧ Se Z.1 I' ∧ Wo Z.1 I' := by
  obtain ⟨hb, hs, hw⟩ := hr
  have hV := hb.1.2
  have hR := hb.1.1
  have h0 := hV.1.1
  rcases hs with h18 | ⟨h18, hc, hl⟩
  · obtain ⟨I1, c1, hP1, hf1⟩ := ce_asNow_75 (L := L) hR
    have hR1 : RC Z.1 I1 12 21 := RC_of (fun a k q => hf1 a k (by omega)) hR
    obtain ⟨I2, c2, hc2, hl2, hf2⟩ := ce_run_75 (L := L) (f := 0) (l := Z.1.1 0 0) hR1 hV hP1 (PV_P0 hV) h0 (by omega) (fun t ht => absurd ht (by omega)) (fun t ht => absurd ht (by omega))
    have hc3 := crs_of (I' := up2 I2 0 18 1) (fun a k q => up2_p (by omega)) hc2
    have hl3 := lts_of (I' := up2 I2 0 18 1) (fun k => up2_p (by omega)) hl2
    rw [← hR1.1.2.1] at c2
    refine ⟨up2 I2 0 18 1, c0_X11_settledCourse (vc_X11_settledCourse_0 ⟨fun _ => ⟨I1, c1, _, I2, c2, rfl, rfl, rfl⟩, fun z => absurd h18 z⟩), ?_, ⟨hc3, hl3⟩, Or.inr ⟨up2_s _ _ _ _, hc3, hl3⟩, Wo_of (fun k => ?_) hw⟩
    · intro a k q1 q2
      by_cases e : a = 0
      · subst e
        rw [up2_k (by omega), hf2 _ _ (by omega), hf1 _ _ (by omega)]
      · rw [up2_p e, hf2 _ _ (by omega), hf1 _ _ (by omega)]
    · rw [up2_p (by omega), hf2 _ _ (by omega), hf1 _ _ (by omega)]
  · refine ⟨I, c0_X11_settledCourse (vc_X11_settledCourse_0 ⟨fun z => ?_, fun _ => ⟨rfl, rfl, rfl⟩⟩), Fq.rf, ⟨hc, hl⟩, Or.inr ⟨h18, hc, hl⟩, hw⟩
    rw [h18] at z
    exact absurd z (by decide)
/-- the reference's asking -/
theorem ce_asItIs {A : Nt} (hR : RM A I 97 0) : ∃ I', q_C kX12_asItIs [.ref 96] I L none I' L ∧ PMd (P0 A) I' ∧ I' 96 19 = 1 ∧ (∀ a k, (a ≠ 96 ∨ k < 15 ∨ 23 < k) → I' a k = I a k) := by
  have e1 : I 97 1 = nI (A.1 0 1) := hR.1 1 (by decide)
  refine ⟨up2 (up2 (up2 (up2 (up2 (up2 (up2 (up2 (up2 I 96 16 (nI (A.1 0 1))) 96 17 0) 96 18 (-1)) 96 19 1) 96 20 (-1)) 96 21 (-1)) 96 22 (-1)) 96 23 (-1)) 96 15 0, c0_X12_asItIs (vc_X12_asItIs_0 ?_), ?_, ?_, ?_⟩
  · refine ⟨by unfold vp_in; decide, fun I1 h1 I2 h2 => ⟨rfl, ?_, rfl⟩⟩
    rw [h2, h1, show (1 : Int32).toNatClampNeg = 1 by decide, e1]
  · unfold PMd
    simp only [up2, P0, true_and]
    simp
    decide
  · simp [up2]
  · intro a k q
    rw [up2_o' (by omega), up2_o' (by omega), up2_o' (by omega), up2_o' (by omega), up2_o' (by omega), up2_o' (by omega), up2_o' (by omega), up2_o' (by omega), up2_o' (by omega)]
theorem ce_asksNight {A : Nt} (hR : RM A I 97 0) (hV : NV A) : ∃ I', q_C kX12_asksNight [.ref 96] I L (some (.int (if A.1 0 8 = 0 then 0 else 1))) I' L ∧ crs mE A (P0 A) I' 101 (A.1 0 0 + 1) ∧ Mq I I' ∧ PMd (P0 A) I' ∧ I' 96 19 = 1 := by
  obtain ⟨I1, c1, hP1, h19, hf1⟩ := ce_asItIs (L := L) hR
  have hR1 : RM A I1 97 0 := RM_of (fun k => hf1 97 k (by omega)) hR
  obtain ⟨I2, c2, hc2, hf2⟩ := ce_goAll (L := L) hR1 hV hP1 (PV_P0 hV) (fun z => absurd rfl z)
  have hR2 : RM A I2 97 0 := RM_of (fun k => hf2 97 k (by omega)) hR1
  refine ⟨I2, c0_X12_asksNight (vc_X12_asksNight_0 ⟨I1, c1, I2, c2, _, ct_isNight hR2 hV, ?_, rfl, rfl, rfl⟩), hc2, fun a k q => ?_, PMd_of (fun k => hf2 96 k (by omega)) hP1, by rw [hf2 96 19 (by omega)]; exact h19⟩
  · by_cases z : A.1 0 8 = 0
    · rw [if_pos z]; exact Or.inl rfl
    · rw [if_neg z]; exact Or.inr rfl
  · rw [hf2 a k (by omega), hf1 a k (by omega)]
theorem ce_asksHour {A : Nt} (hR : RM A I 97 0) (hV : NV A) (x : Int32) : ∃ I', q_C kX12_asksHour [.ref 96, .int x] I L (some (.int (if A.1 0 8 = 0 ∨ x < 0 ∨ nI (A.1 0 0) < x then 0 else 1))) I' L ∧ crs mE A (P0 A) I' 101 (A.1 0 0 + 1) ∧ Mq I I' ∧ PMd (P0 A) I' ∧ I' 96 19 = 1 := by
  obtain ⟨I1, c1, hc1, hf1, hP1, h19⟩ := ce_asksNight (L := L) hR hV
  have hR1 : RM A I1 97 0 := RM_of (fun k => hf1 97 k (by omega)) hR
  refine ⟨I1, c0_X12_asksHour (vc_X12_asksHour_0 ⟨_, I1, c1, _, ct_isHour hR1 hV x, ?_, rfl, rfl, rfl⟩), hc1, hf1, hP1, h19⟩
  by_cases z : A.1 0 8 = 0 ∨ x < 0 ∨ nI (A.1 0 0) < x
  · rw [if_pos z]; exact Or.inl rfl
  · rw [if_neg z]; exact Or.inr rfl
theorem ce_asksPew {A : Nt} (hR : RM A I 97 0) (hV : NV A) (x : Int32) : ∃ I', q_C kX12_asksPew [.ref 96, .int x] I L (some (.int (if x < 0 ∨ nI (A.1 0 3) ≤ x then 0 else 1))) I' L ∧ crs mE A (P0 A) I' 101 (A.1 0 0 + 1) ∧ Mq I I' ∧ PMd (P0 A) I' ∧ I' 96 19 = 1 := by
  obtain ⟨I1, c1, hc1, hf1, hP1, h19⟩ := ce_asksNight (L := L) hR hV
  have hR1 : RM A I1 97 0 := RM_of (fun k => hf1 97 k (by omega)) hR
  refine ⟨I1, c0_X12_asksPew (vc_X12_asksPew_0 ⟨_, I1, c1, _, ct_isPew hR1 hV x, ?_, rfl, rfl, rfl⟩), hc1, hf1, hP1, h19⟩
  by_cases z : x < 0 ∨ nI (A.1 0 3) ≤ x
  · rw [if_pos z]; exact Or.inl rfl
  · rw [if_neg z]; exact Or.inr rfl
end ST
/-- a told number that is none, or one -/
theorem xPew {A : Nt} (hV : NV A) {x : Int32} (h : ¬ (x < 0 ∨ nI (A.1 0 3) ≤ x)) : ∃ p, p < A.1 0 3 ∧ x = nI p := by
  have h3 := hV.1.2.2.2.1
  have hr := t_rng x
  rw [t_lt, t_le, t_n (by omega), show (0 : Int32).toInt = 0 from rfl] at h
  refine ⟨x.toInt.toNat, by omega, ?_⟩
  rw [t_eq, t_n (by omega)]
  omega
theorem xHour {A : Nt} (hV : NV A) {x : Int32} (h : ¬ (A.1 0 8 = 0 ∨ x < 0 ∨ nI (A.1 0 0) < x)) : ∃ p, p ≤ A.1 0 0 ∧ x = nI p ∧ A.1 0 8 ≠ 0 := by
  have h3 := hV.1.1
  have hr := t_rng x
  rw [t_lt, t_lt, t_n (by omega), show (0 : Int32).toInt = 0 from rfl] at h
  refine ⟨x.toInt.toNat, by omega, ?_, fun z => h (Or.inl z)⟩
  rw [t_eq, t_n (by omega)]
  omega
theorem cE_inj : ∀ {l t : List Nat}, (∀ a ∈ l, 1 ≤ a ∧ a ≤ 7) → (∀ a ∈ t, 1 ≤ a ∧ a ≤ 7) → cE l = cE t → l = t
  | [], [], _, _, _ => rfl
  | [], b :: t, _, h2, h => by have := h2 b List.mem_cons_self; have h : 0 = b + 8 * cE t := h; omega
  | a :: l, [], h1, _, h => by have := h1 a List.mem_cons_self; have h : a + 8 * cE l = 0 := h; omega
  | a :: l, b :: t, h1, h2, h => by
    have ha := h1 a List.mem_cons_self
    have hb := h2 b List.mem_cons_self
    have h : a + 8 * cE l = b + 8 * cE t := h
    rw [cE_inj (fun x hx => h1 x (List.mem_cons_of_mem _ hx)) (fun x hx => h2 x (List.mem_cons_of_mem _ hx)) (show cE l = cE t by omega), show a = b by omega]
theorem mE_inj : ∀ (n : Nat) {l t : List Nat}, l.length ≤ n → (∀ a ∈ l, 1 ≤ a ∧ a ≤ 4) → (∀ a ∈ t, 1 ≤ a ∧ a ≤ 4) → mE l = mE t → l = t := by
  intro n
  induction n with
  | zero =>
    intro l t hl h1 h2 h
    have e : l = [] := List.length_eq_zero_iff.mp (by omega)
    subst e
    exact ((mE_0 (fun a ha => (h2 a ha).1)).mp h.symm).symm
  | succ n ih =>
    intro l t hl h1 h2 h
    by_cases e : l = []
    · subst e
      exact ((mE_0 (fun a ha => (h2 a ha).1)).mp h.symm).symm
    · by_cases e2 : t = []
      · subst e2
        exact (mE_0 (fun a ha => (h1 a ha).1)).mp h
      · have d1 := List.dropLast_concat_getLast e
        have d2 := List.dropLast_concat_getLast e2
        have a1 := h1 _ (List.getLast_mem e)
        have a2 := h2 _ (List.getLast_mem e2)
        rw [← d1, ← d2, mE_snoc, mE_snoc] at h
        have g1 : l.getLast e = t.getLast e2 := by omega
        have g2 : l.dropLast = t.dropLast := ih (by rw [List.length_dropLast]; omega) (fun a ha => h1 a (List.dropLast_subset l ha)) (fun a ha => h2 a (List.dropLast_subset t ha)) (by omega)
        rw [← d1, ← d2, g1, g2]
theorem Sg.cinj {l t : List Nat} (h1 : Sg l) (h2 : Sg t) : cE l = cE t ↔ l = t := ⟨cE_inj (fun a ha => ⟨(h1.2 a ha).1, by have := (h1.2 a ha).2; omega⟩) (fun a ha => ⟨(h2.2 a ha).1, by have := (h2.2 a ha).2; omega⟩), fun z => by rw [z]⟩
theorem Sg.minj {l t : List Nat} (h1 : Sg l) (h2 : Sg t) : mE l = mE t ↔ l = t := ⟨mE_inj _ (Nat.le_refl _) h1.2 h2.2, fun z => by rw [z]⟩
