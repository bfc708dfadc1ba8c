/-! THE TAPE READ: lines, as mathematics. -/
/-- fault and its place; the token; the night so far -/
abbrev Ps : Type := (Nat × Int) × Tk × Nt
def advP (B : Nat → Int32) (n : Nat) (S : Ps) : Ps := if S.1.1 = 0 then (S.1, tokF B n S.2.1.2.1, S.2.2) else S
def failP (k : Nat) (S : Ps) : Ps := if S.1.1 = 0 then ((k, (S.2.1.1 : Int)), S.2) else S
abbrev isQ (B : Nat → Int32) (w : List Int32) (t : Tk) : Prop := t.2.2.1 = 1 ∧ t.2.1 - t.1 = w.length ∧ ∀ i, i < w.length → B (t.1 + i) = w.getD i 0
def isWp (B : Nat → Int32) (w : List Int32) (S : Ps) : Bool := decide (isQ B w S.2.1)
def needW (B : Nat → Int32) (n : Nat) (w : List Int32) (S : Ps) : Ps := advP B n (if isWp B w S = true then S else failP 1 S)
def needT (lo hi : Int) (S : Ps) : Ps := if S.2.1.2.2.1 = 2 then (if (S.2.1.2.2.2 : Int) < lo ∨ hi < (S.2.1.2.2.2 : Int) then failP 2 S else S) else failP 1 S
def needN (B : Nat → Int32) (n : Nat) (lo hi : Int) (S : Ps) : Ps := advP B n (needT lo hi S)
def setN (k v : Nat) (S : Ps) : Ps := (S.1, S.2.1, (up2 S.2.2.1 0 k v, S.2.2.2))
def refP (m c : Nat) (S : Ps) : Ps := if m ≤ c then failP 3 S else S
def w_night : List Int32 := [110, 105, 103, 104, 116]
def w_hours : List Int32 := [104, 111, 117, 114, 115]
def w_law : List Int32 := [108, 97, 119]
def w_odds : List Int32 := [111, 100, 100, 115]
def w_pew : List Int32 := [112, 101, 119]
def w_turn : List Int32 := [116, 117, 114, 110]
def w_drop : List Int32 := [100, 114, 111, 112]
def w_add : List Int32 := [97, 100, 100]
def w_change : List Int32 := [99, 104, 97, 110, 103, 101]
def w_rest : List Int32 := [114, 101, 115, 116]
def w_aisle : List Int32 := [97, 105, 115, 108, 101]
def w_light : List Int32 := [108, 105, 103, 104, 116]
def w_draught : List Int32 := [100, 114, 97, 117, 103, 104, 116]
def w_at : List Int32 := [97, 116]
section PM
variable {B : Nat → Int32} {n : Nat} {S : Ps}
theorem fail_0 {k : Nat} (h : S.1.1 = 0) : failP k S = ((k, (S.2.1.1 : Int)), S.2) := if_pos h
theorem fail_id {k : Nat} (h : S.1.1 ≠ 0) : failP k S = S := if_neg h
theorem fail_flt {k : Nat} (hk : k ≠ 0) : (failP k S).1.1 ≠ 0 := by
  unfold failP
  by_cases h : S.1.1 = 0
  · rw [if_pos h]; exact hk
  · rw [if_neg h]; exact h
theorem fail_2 (k : Nat) : (failP k S).2 = S.2 := by
  unfold failP
  by_cases h : S.1.1 = 0
  · rw [if_pos h]
  · rw [if_neg h]
theorem adv_0 (h : S.1.1 = 0) : advP B n S = (S.1, tokF B n S.2.1.2.1, S.2.2) := if_pos h
theorem adv_id (h : S.1.1 ≠ 0) : advP B n S = S := if_neg h
theorem adv_1 : (advP B n S).1 = S.1 := by
  unfold advP
  by_cases h : S.1.1 = 0
  · rw [if_pos h]
  · rw [if_neg h]
theorem adv_A : (advP B n S).2.2 = S.2.2 := by
  unfold advP
  by_cases h : S.1.1 = 0
  · rw [if_pos h]
  · rw [if_neg h]
theorem needT_id {lo hi : Int} (h : S.1.1 ≠ 0) : needT lo hi S = S := by
  unfold needT
  rw [fail_id h, fail_id h]
  by_cases e : S.2.1.2.2.1 = 2
  · rw [if_pos e]
    by_cases e2 : (S.2.1.2.2.2 : Int) < lo ∨ hi < (S.2.1.2.2.2 : Int)
    · rw [if_pos e2]
    · rw [if_neg e2]
  · rw [if_neg e]
theorem needT_2 {lo hi : Int} : (needT lo hi S).2 = S.2 := by
  unfold needT
  by_cases e : S.2.1.2.2.1 = 2
  · rw [if_pos e]
    by_cases e2 : (S.2.1.2.2.2 : Int) < lo ∨ hi < (S.2.1.2.2.2 : Int)
    · rw [if_pos e2]; exact fail_2 _
    · rw [if_neg e2]
  · rw [if_neg e]; exact fail_2 _
theorem needN_id {lo hi : Int} (h : S.1.1 ≠ 0) : needN B n lo hi S = S := by
  unfold needN
  rw [needT_id h, adv_id h]
theorem needN_A {lo hi : Int} : (needN B n lo hi S).2.2 = S.2.2 := by
  unfold needN
  rw [adv_A, needT_2]
theorem needN_ok {lo hi : Int} (h : (needN B n lo hi S).1.1 = 0) : S.1.1 = 0 ∧ S.2.1.2.2.1 = 2 ∧ lo ≤ (S.2.1.2.2.2 : Int) ∧ (S.2.1.2.2.2 : Int) ≤ hi := by
  unfold needN at h
  rw [adv_1] at h
  by_cases h0 : S.1.1 = 0
  · unfold needT at h
    by_cases e : S.2.1.2.2.1 = 2
    · rw [if_pos e] at h
      by_cases e2 : (S.2.1.2.2.2 : Int) < lo ∨ hi < (S.2.1.2.2.2 : Int)
      · rw [if_pos e2] at h; exact absurd h (fail_flt (by decide))
      · exact ⟨h0, e, by omega, by omega⟩
    · rw [if_neg e] at h; exact absurd h (fail_flt (by decide))
  · rw [needT_id h0] at h; exact absurd h h0
theorem needW_id {w : List Int32} (h : S.1.1 ≠ 0) : needW B n w S = S := by
  unfold needW
  rw [fail_id h]
  by_cases e : isWp B w S = true
  · rw [if_pos e, adv_id h]
  · rw [if_neg e, adv_id h]
theorem needW_A {w : List Int32} : (needW B n w S).2.2 = S.2.2 := by
  unfold needW
  rw [adv_A]
  by_cases e : isWp B w S = true
  · rw [if_pos e]
  · rw [if_neg e, fail_2]
theorem needW_ok {w : List Int32} (h : (needW B n w S).1.1 = 0) : S.1.1 = 0 ∧ isWp B w S = true := by
  unfold needW at h
  rw [adv_1] at h
  by_cases e : isWp B w S = true
  · rw [if_pos e] at h; exact ⟨h, e⟩
  · rw [if_neg e] at h; exact absurd h (fail_flt (by decide))
theorem isW_x {w w' : List Int32} (h : isWp B w S = true) (h' : isWp B w' S = true) : w = w' := by
  have h := of_decide_eq_true h
  have h' := of_decide_eq_true h'
  have hl : w.length = w'.length := by rw [← h.2.1, ← h'.2.1]
  apply List.ext_getElem hl
  intro i h1 h2
  have e1 := h.2.2 i h1
  have e2 := h'.2.2 i h2
  rw [e1, List.getD_eq_getElem?_getD, List.getD_eq_getElem?_getD, List.getElem?_eq_getElem h1, List.getElem?_eq_getElem h2] at e2
  exact e2
/-- a state that can be -/
def Wf (n : Nat) (S : Ps) : Prop := tkW n S.2.1
/-- the tape is gone through forward -/
def Mo (n : Nat) (S S' : Ps) : Prop := Wf n S → Wf n S' ∧ S.2.1.1 ≤ S'.2.1.1
theorem Mo.rf : Mo n S S := fun h => ⟨h, Nat.le_refl _⟩
theorem Mo.tr {S1 S2 : Ps} (h : Mo n S S1) (h2 : Mo n S1 S2) : Mo n S S2 := fun q => ⟨(h2 (h q).1).1, Nat.le_trans (h q).2 (h2 (h q).1).2⟩
theorem Mo_2 {S' : Ps} (h : S'.2.1 = S.2.1) : Mo n S S' := fun q => ⟨by unfold Wf; rw [h]; exact q, by rw [h]; exact Nat.le_refl _⟩
theorem Mo_fail (k : Nat) : Mo n S (failP k S) := Mo_2 (by rw [fail_2])
theorem Mo_adv : Mo n S (advP B n S) := by
  intro q
  by_cases h : S.1.1 = 0
  · rw [adv_0 h]
    obtain ⟨a, b⟩ := tok_W (B := B) (n := n) (p := S.2.1.2.1) q.2.1
    exact ⟨a, Nat.le_trans q.1 b⟩
  · rw [adv_id h]; exact ⟨q, Nat.le_refl _⟩
theorem Mo_needT {lo hi : Int} : Mo n S (needT lo hi S) := Mo_2 (by rw [needT_2])
theorem Mo_needN {lo hi : Int} : Mo n S (needN B n lo hi S) := Mo_needT.tr Mo_adv
theorem Mo_if {C : Prop} [Decidable C] {S1 S2 : Ps} (h1 : Mo n S S1) (h2 : Mo n S S2) : Mo n S (if C then S1 else S2) := by
  by_cases h : C
  · rw [if_pos h]; exact h1
  · rw [if_neg h]; exact h2
theorem Mo_needW {w : List Int32} : Mo n S (needW B n w S) := by
  unfold needW
  exact (Mo_if Mo.rf (Mo_fail 1)).tr Mo_adv
theorem Mo_setN (k v : Nat) : Mo n S (setN k v S) := Mo_2 rfl
theorem Mo_ref (m c : Nat) : Mo n S (refP m c S) := by
  unfold refP
  exact Mo_if (Mo_fail 3) Mo.rf
end PM
def addPw (A : Nt) (r a b : Nat) : Nt := (up2 (up2 (up2 (up2 A.1 1 (A.1 0 3) r) 2 (A.1 0 3) a) 3 (A.1 0 3) b) 0 3 (A.1 0 3 + 1), A.2)
def addAi (A : Nt) (a b : Nat) : Nt := (up2 (up2 (up2 A.1 4 (A.1 0 4) a) 5 (A.1 0 4) b) 0 4 (A.1 0 4 + 1), A.2)
def addLi (A : Nt) (p : Nat) (l : List Nat) : Nt := (up2 (up2 A.1 6 (A.1 0 5) p) 0 5 (A.1 0 5 + 1), fun i => if i = A.1 0 5 then l else A.2 i)
def addDr (A : Nt) (p t : Nat) : Nt := (up2 (up2 (up2 A.1 7 (A.1 0 6) p) 8 (A.1 0 6) t) 0 6 (A.1 0 6 + 1), A.2)
def putA (A : Nt) (S : Ps) : Ps := if S.1.1 = 0 then (S.1, S.2.1, A) else S
section PL
variable (B : Nat → Int32) (n : Nat)
def rdN1 (S : Ps) : Ps := needW B n w_hours (needW B n w_night S)
def rdN2 (S : Ps) : Ps := needW B n w_law (setN 0 S.2.1.2.2.2 (needN B n 1 12 S))
def rdN3 (S : Ps) : Ps := needW B n w_odds (setN 1 S.2.1.2.2.2 (needN B n 0 3 S))
def rdN4 (S : Ps) : Ps := setN 2 S.2.1.2.2.2 (needN B n 0 10 S)
def rdN (S : Ps) : Ps := rdN4 B n (rdN3 B n (rdN2 B n (rdN1 B n S)))
def ruleF (S : Ps) : Nat := if isWp B w_turn S = true then 1 else if isWp B w_drop S = true then 2 else if isWp B w_add S = true then 3 else if isWp B w_change S = true then 4 else 0
def rulS (S : Ps) : Ps := if ruleF B S = 0 ∧ isWp B w_rest S = false then failP 1 S else S
def pwB (k : Nat) (S : Ps) : Ps := if k = 3 ∨ k = 4 then needN B n 1 4 S else S
def pwF (k : Nat) (S : Ps) : Nat := if k = 3 ∨ k = 4 then S.2.1.2.2.2 else 0
def pwC (k f : Nat) (S : Ps) : Ps := if k = 4 then needN B n 1 4 (if S.2.1.2.2.1 = 2 ∧ S.2.1.2.2.2 = f then failP 2 S else S) else S
def pwG (k : Nat) (S : Ps) : Nat := if k = 4 then S.2.1.2.2.2 else 0
/-- a pew's line, from its rule on -/
def rdP2 (S : Ps) : Ps :=
  let k := ruleF B S
  let S4 := advP B n (rulS B S)
  let S5 := pwB B n k S4
  putA (addPw S.2.2 k (pwF k S4) (pwG k S5)) (pwC B n k (pwF k S4) S5)
def rdP (S : Ps) : Ps := rdP2 B n (advP B n (refP 7 (S.2.2.1 0 3) S))
abbrev joi (A : Nt) (a b : Nat) : Prop := b < 7 ∧ (nearB A a).testBit b = true
def rdA2 (S : Ps) : Ps :=
  let S3 := needN B n 0 ((S.2.2.1 0 3 : Int) - 1) S
  let S4 := if S3.1.1 = 0 ∧ S3.2.1.2.2.1 = 2 ∧ (S3.2.1.2.2.2 = S.2.1.2.2.2 ∨ joi S.2.2 S.2.1.2.2.2 S3.2.1.2.2.2) then failP 2 S3 else S3
  putA (addAi S.2.2 S.2.1.2.2.2 S3.2.1.2.2.2) (needN B n 0 ((S.2.2.1 0 3 : Int) - 1) S4)
def rdA (S : Ps) : Ps := rdA2 B n (advP B n (refP 12 (S.2.2.1 0 4) S))
def lgF : Nat → List Nat → Ps → List Nat × Ps
  | 0, l, S => (l, S)
  | m + 1, l, S => if S.2.1.2.2.1 = 2 then lgF m (l ++ [S.2.1.2.2.2]) (needN B n 1 4 S) else (l, S)
def lgE (S : Ps) : Ps := if S.2.1.2.2.1 = 2 then failP (if S.2.1.2.2.2 < 1 ∨ 4 < S.2.1.2.2.2 then 2 else 3) S else S
def rdL2 (S : Ps) : Ps :=
  let S3 := needN B n 0 ((S.2.2.1 0 3 : Int) - 1) S
  let q := lgF B n 5 [S3.2.1.2.2.2] (needN B n 1 4 S3)
  putA (addLi S.2.2 S.2.1.2.2.2 q.1) (lgE q.2)
def rdL (S : Ps) : Ps := rdL2 B n (advP B n (refP 4 (S.2.2.1 0 5) S))
def rdD2 (S : Ps) : Ps :=
  let S4 := needW B n w_at (needN B n 0 ((S.2.2.1 0 3 : Int) - 1) S)
  putA (addDr S.2.2 S.2.1.2.2.2 S4.2.1.2.2.2) (needN B n 0 11 S4)
def rdD (S : Ps) : Ps := rdD2 B n (advP B n (refP 6 (S.2.2.1 0 6) S))
def rdX (S : Ps) : Ps := if S.2.2.1 0 8 = 0 then rdN B n S else if isWp B w_pew S = true then rdP B n S else if isWp B w_aisle S = true then rdA B n S else if isWp B w_light S = true then rdL B n S else if isWp B w_draught S = true then rdD B n S else failP 1 S
def semP (S : Ps) : Ps := if S.2.1.2.2.1 = 3 then S else failP 1 S
def lineP (S : Ps) : Ps := advP B n (setN 8 (S.2.2.1 0 8 + 1) (semP (rdX B n S)))
def runP : Nat → Ps → Ps
  | 0, S => S
  | m + 1, S => if S.1.1 = 0 ∧ S.2.1.2.2.1 ≠ 0 then runP m (lineP B n S) else S
def A0 : Nt := (fun _ _ => 0, fun _ => [])
def S0 : Ps := advP B n ((0, -1), (0, 0, 0, 0), A0)
def endP : Ps := runP B n 600 (S0 B n)
end PL
section PN
variable {B : Nat → Int32} {n : Nat} {S : Ps}
theorem put_id {A : Nt} (h : S.1.1 ≠ 0) : putA A S = S := if_neg h
theorem put_0 {A : Nt} (h : S.1.1 = 0) : putA A S = (S.1, S.2.1, A) := if_pos h
theorem put_1 {A : Nt} : (putA A S).1 = S.1 := by
  unfold putA
  by_cases h : S.1.1 = 0
  · rw [if_pos h]
  · rw [if_neg h]
theorem Mo_put {A : Nt} : Mo n S (putA A S) := by
  unfold putA
  exact Mo_if (Mo_2 rfl) Mo.rf
theorem Mo_rdN : Mo n S (rdN B n S) := by
  have h1 : Mo n S (rdN1 B n S) := Mo_needW.tr Mo_needW
  have h2 : Mo n (rdN1 B n S) (rdN2 B n (rdN1 B n S)) := (Mo_needN.tr (Mo_setN _ _)).tr Mo_needW
  have h3 : Mo n (rdN2 B n (rdN1 B n S)) (rdN3 B n (rdN2 B n (rdN1 B n S))) := (Mo_needN.tr (Mo_setN _ _)).tr Mo_needW
  exact ((h1.tr h2).tr h3).tr (Mo_needN.tr (Mo_setN _ _))
theorem Mo_rul : Mo n S (rulS B S) := by
  unfold rulS
  exact Mo_if (Mo_fail 1) Mo.rf
theorem Mo_pwB (k : Nat) : Mo n S (pwB B n k S) := by
  unfold pwB
  exact Mo_if Mo_needN Mo.rf
theorem Mo_pwC (k f : Nat) : Mo n S (pwC B n k f S) := by
  unfold pwC
  exact Mo_if ((Mo_if (Mo_fail 2) Mo.rf).tr Mo_needN) Mo.rf
theorem Mo_rdP : Mo n S (rdP B n S) := by
  unfold rdP rdP2
  exact ((((((Mo_ref _ _).tr Mo_adv).tr Mo_rul).tr Mo_adv).tr (Mo_pwB _)).tr (Mo_pwC _ _)).tr Mo_put
theorem Mo_rdA : Mo n S (rdA B n S) := by
  unfold rdA rdA2
  exact (((((Mo_ref _ _).tr Mo_adv).tr Mo_needN).tr (Mo_if (Mo_fail 2) Mo.rf)).tr Mo_needN).tr Mo_put
theorem Mo_lgF : ∀ (m : Nat) (l : List Nat) (S : Ps), Mo n S (lgF B n m l S).2
  | 0, l, S => Mo.rf
  | m + 1, l, S => by
    show Mo n S (if S.2.1.2.2.1 = 2 then lgF B n m (l ++ [S.2.1.2.2.2]) (needN B n 1 4 S) else (l, S)).2
    by_cases e : S.2.1.2.2.1 = 2
    · rw [if_pos e]; exact Mo_needN.tr (Mo_lgF m _ _)
    · rw [if_neg e]; exact Mo.rf
theorem Mo_lgE : Mo n S (lgE S) := by
  unfold lgE
  exact Mo_if (Mo_fail _) Mo.rf
theorem Mo_rdL : Mo n S (rdL B n S) := by
  unfold rdL rdL2
  exact ((((((Mo_ref _ _).tr Mo_adv).tr Mo_needN).tr Mo_needN).tr (Mo_lgF _ _ _)).tr Mo_lgE).tr Mo_put
theorem Mo_rdD : Mo n S (rdD B n S) := by
  unfold rdD rdD2
  exact (((((Mo_ref _ _).tr Mo_adv).tr Mo_needN).tr Mo_needW).tr Mo_needN).tr Mo_put
theorem Mo_rdX : Mo n S (rdX B n S) := by
  unfold rdX
  exact Mo_if Mo_rdN (Mo_if Mo_rdP (Mo_if Mo_rdA (Mo_if Mo_rdL (Mo_if Mo_rdD (Mo_fail 1)))))
theorem sem_ok (h : (semP S).1.1 = 0) : S.1.1 = 0 ∧ S.2.1.2.2.1 = 3 ∧ semP S = S := by
  unfold semP at h ⊢
  by_cases e : S.2.1.2.2.1 = 3
  · rw [if_pos e] at h ⊢; exact ⟨h, e, rfl⟩
  · rw [if_neg e] at h; exact absurd h (fail_flt (by decide))
theorem line_Mo : Mo n S (lineP B n S) := by
  unfold lineP semP
  exact ((Mo_rdX.tr (Mo_if Mo.rf (Mo_fail 1))).tr (Mo_setN _ _)).tr Mo_adv
theorem line_adv (h : Wf n S) (h0 : (lineP B n S).1.1 = 0) : S.2.1.1 < (lineP B n S).2.1.1 := by
  have hx := Mo_rdX (B := B) (n := n) (S := S) h
  unfold lineP at h0 ⊢
  rw [adv_1] at h0
  have hs := sem_ok (S := rdX B n S) h0
  rw [adv_0 h0]
  show S.2.1.1 < (tokF B n (semP (rdX B n S)).2.1.2.1).1
  rw [hs.2.2]
  obtain ⟨w1, w2, w3, -, -, -⟩ := hx.1
  have := (tok_W (B := B) (n := n) (p := (rdX B n S).2.1.2.1) w2).2
  have := w3 (by rw [hs.2.1]; decide)
  omega
theorem run_fin : ∀ (m : Nat) (S : Ps), Wf n S → n ≤ S.2.1.1 + m → ¬ ((runP B n m S).1.1 = 0 ∧ (runP B n m S).2.1.2.2.1 ≠ 0)
  | 0, S, h, hm => by
    show ¬ (S.1.1 = 0 ∧ S.2.1.2.2.1 ≠ 0)
    rintro ⟨-, q⟩
    have := h.2.2.1 q
    have := h.2.1
    omega
  | m + 1, S, h, hm => by
    show ¬ ((if S.1.1 = 0 ∧ S.2.1.2.2.1 ≠ 0 then runP B n m (lineP B n S) else S).1.1 = 0 ∧ (if S.1.1 = 0 ∧ S.2.1.2.2.1 ≠ 0 then runP B n m (lineP B n S) else S).2.1.2.2.1 ≠ 0)
    by_cases e : S.1.1 = 0 ∧ S.2.1.2.2.1 ≠ 0
    · rw [if_pos e]
      by_cases e2 : (lineP B n S).1.1 = 0
      · have := line_adv h e2
        exact run_fin m _ (line_Mo h).1 (by omega)
      · have hr : runP B n m (lineP B n S) = lineP B n S := by
          cases m with
          | zero => rfl
          | succ m => exact if_neg (fun z => e2 z.1)
        rw [hr]
        exact fun z => e2 z.1
    · rw [if_neg e]; exact e
theorem S0_W : Wf n (S0 B n) ∧ (S0 B n).1 = (0, -1) ∧ (S0 B n).2.2 = A0 := by
  have e : S0 B n = ((0, -1), tokF B n 0, A0) := rfl
  rw [e]
  exact ⟨(tok_W (B := B) (n := n) (p := 0) (Nat.zero_le _)).1, rfl, rfl⟩
end PN
