/-! THE READER of the class. -/
theorem sx0 : q_SX[0]? = some ("TaperTalk$Reader", 81, "night", w_night) := rfl
theorem sx1 : q_SX[1]? = some ("TaperTalk$Reader", 87, "hours", w_hours) := rfl
theorem sx2 : q_SX[2]? = some ("TaperTalk$Reader", 95, "law", w_law) := rfl
theorem sx3 : q_SX[3]? = some ("TaperTalk$Reader", 99, "odds", w_odds) := rfl
theorem sx4 : q_SX[4]? = some ("TaperTalk$Reader", 53, "pew", w_pew) := rfl
theorem sx5 : q_SX[5]? = some ("TaperTalk$Reader", 123, "turn", w_turn) := rfl
theorem sx6 : q_SX[6]? = some ("TaperTalk$Reader", 125, "drop", w_drop) := rfl
theorem sx7 : q_SX[7]? = some ("TaperTalk$Reader", 127, "add", w_add) := rfl
theorem sx8 : q_SX[8]? = some ("TaperTalk$Reader", 129, "change", w_change) := rfl
theorem sx9 : q_SX[9]? = some ("TaperTalk$Reader", 131, "rest", w_rest) := rfl
theorem sx10 : q_SX[10]? = some ("TaperTalk$Reader", 62, "aisle", w_aisle) := rfl
theorem sx11 : q_SX[11]? = some ("TaperTalk$Reader", 67, "light", w_light) := rfl
theorem sx12 : q_SX[12]? = some ("TaperTalk$Reader", 72, "draught", w_draught) := rfl
theorem sx13 : q_SX[13]? = some ("TaperTalk$Reader", 160, "at", w_at) := rfl
theorem sx14 : q_SX[14]? = some ("TaperTalkModel", 158, "night", w_night) := rfl
theorem sx15 : q_SX[15]? = some ("TaperTalkModel", 160, "hours", w_hours) := rfl
theorem sx16 : q_SX[16]? = some ("TaperTalkModel", 165, "law", w_law) := rfl
theorem sx17 : q_SX[17]? = some ("TaperTalkModel", 167, "odds", w_odds) := rfl
theorem sx18 : q_SX[18]? = some ("TaperTalkModel", 186, "pew", w_pew) := rfl
theorem sx19 : q_SX[19]? = some ("TaperTalkModel", 188, "aisle", w_aisle) := rfl
theorem sx20 : q_SX[20]? = some ("TaperTalkModel", 190, "light", w_light) := rfl
theorem sx21 : q_SX[21]? = some ("TaperTalkModel", 192, "draught", w_draught) := rfl
theorem sx22 : q_SX[22]? = some ("TaperTalkModel", 169, "rest", w_rest) := rfl
theorem sx23 : q_SX[23]? = some ("TaperTalkModel", 171, "turn", w_turn) := rfl
theorem sx24 : q_SX[24]? = some ("TaperTalkModel", 173, "drop", w_drop) := rfl
theorem sx25 : q_SX[25]? = some ("TaperTalkModel", 175, "add", w_add) := rfl
theorem sx26 : q_SX[26]? = some ("TaperTalkModel", 177, "change", w_change) := rfl
theorem sx27 : q_SX[27]? = some ("TaperTalkModel", 185, "at", w_at) := rfl
def DrC (A : Nt) (I : Nat → Nat → Int32) : Prop :=
  (I 3 0 = nI (A.1 0 8) ∧ I 3 1 = nI (A.1 0 0) ∧ I 3 2 = nI (A.1 0 1) ∧ I 3 3 = nI (A.1 0 2) ∧ I 3 4 = nI (A.1 0 3) ∧ I 3 5 = nI (A.1 0 4) ∧ I 3 6 = nI (A.1 0 5) ∧ I 3 7 = nI (A.1 0 6)) ∧
  (∀ i, i < A.1 0 3 → I 4 i = nI (A.1 1 i) ∧ I 5 i = nI (A.1 2 i) ∧ I 6 i = nI (A.1 3 i) ∧ I 7 i = nI (nearB A i)) ∧
  (∀ i, i < A.1 0 5 → I 8 i = nI (A.1 6 i) ∧ I 9 i = nI (cE (A.2 i))) ∧
  (∀ i, i < A.1 0 6 → I 10 i = nI (A.1 7 i) ∧ I 11 i = nI (A.1 8 i))
theorem DrC_of {A : Nt} {I I' : Nat → Nat → Int32} (h : ∀ a k, 3 ≤ a ∧ a ≤ 11 → I' a k = I a k) (hD : DrC A I) : DrC A I' := by
  have e : ∀ a, 3 ≤ a ∧ a ≤ 11 → I' a = I a := fun a ha => funext fun k => h a k ha
  unfold DrC at hD ⊢
  rw [e 3 (by omega), e 4 (by omega), e 5 (by omega), e 6 (by omega), e 7 (by omega), e 8 (by omega), e 9 (by omega), e 10 (by omega), e 11 (by omega)]
  exact hD
def RpC (B : Nat → Int32) (n : Nat) (S : Ps) (I : Nat → Nat → Int32) : Prop := TpC B n I ∧ (I 2 0 = nI S.1.1 ∧ I 2 1 = iI S.1.2) ∧ TkC S.2.1 I ∧ tkW n S.2.1 ∧ S.1.1 ≤ 3 ∧ (S.1.1 = 0 → DrC S.2.2 I)
def FP (I I' : Nat → Nat → Int32) : Prop := ∀ a k, (a < 2 ∨ 11 < a) → I' a k = I a k
theorem FP.rf {I : Nat → Nat → Int32} : FP I I := fun _ _ _ => rfl
theorem FP.tr {I I1 I2 : Nat → Nat → Int32} (h : FP I I1) (h2 : FP I1 I2) : FP I I2 := fun a k q => (h2 a k q).trans (h a k q)
theorem FA.p {I I' : Nat → Nat → Int32} (h : FA I I') : FP I I' := fun a k q => h a k (by omega)
theorem TpC_of {B : Nat → Int32} {n : Nat} {I I' : Nat → Nat → Int32} (h4 : I' 2 4 = I 2 4) (h1 : ∀ k, I' 1 k = I 1 k) (hT : TpC B n I) : TpC B n I' := ⟨by rw [h4]; exact hT.1, hT.2.1, fun k hk => by rw [h1]; exact hT.2.2.1 k hk, hT.2.2.2⟩
theorem TkC_of {t : Tk} {I I' : Nat → Nat → Int32} (h : ∀ k, 5 ≤ k → I' 2 k = I 2 k) (hT : TkC t I) : TkC t I' := ⟨by rw [h 5 (by omega)]; exact hT.1, by rw [h 6 (by omega)]; exact hT.2.1, by rw [h 7 (by omega)]; exact hT.2.2.1, by rw [h 8 (by omega)]; exact hT.2.2.2⟩
section CR
variable {B : Nat → Int32} {n : Nat} {S : Ps} {I : Nat → Nat → Int32} {L : Nat → Nat → Int64}
theorem RpC.flt (h : RpC B n S I) : I 2 0 = 0 ↔ S.1.1 = 0 := by
  rw [h.2.1.1]
  exact u_0 (by have := h.2.2.2.2.1; omega)
theorem cf_fail (h : RpC B n S I) {k : Nat} (hk : 1 ≤ k ∧ k ≤ 3) : ∃ I', q_C kX6_fail [.ref 2, .int (nI k)] I L none I' L ∧ RpC B n (failP k S) I' ∧ FP I I' := by
  by_cases e : S.1.1 = 0
  · rw [fail_0 e]
    refine ⟨up2 (up2 I 2 0 (nI k)) 2 1 (I 2 5), c0_X6_fail (vc_X6_fail_0 ⟨fun _ => ⟨rfl, by rw [up2_k (show (5 : Nat) ≠ 0 by decide)], rfl⟩, fun z => absurd (h.flt.mpr e) z⟩), ⟨TpC_of (by rw [up2_k (by decide), up2_k (by decide)]) (fun j => by rw [up2_p (by decide), up2_p (by decide)]) h.1, ⟨by rw [up2_k (by decide), up2_s], by rw [up2_s, h.2.2.1.1]; exact nI_iI _⟩, TkC_of (fun j hj => by rw [up2_k (by omega), up2_k (by omega)]) h.2.2.1, h.2.2.2.1, hk.2, fun z => absurd z (by show ¬ k = 0; omega)⟩, fun a j q => by rw [up2_p (by omega), up2_p (by omega)]⟩
  · rw [fail_id e]
    exact ⟨I, c0_X6_fail (vc_X6_fail_0 ⟨fun z => absurd (h.flt.mp z) e, fun _ => ⟨rfl, rfl, rfl⟩⟩), h, FP.rf⟩
theorem cf_adv (h : RpC B n S I) : ∃ I', q_C kX6_advance [.ref 2] I L none I' L ∧ RpC B n (advP B n S) I' ∧ FP I I' := by
  by_cases e : S.1.1 = 0
  · rw [adv_0 e]
    obtain ⟨I', c, ht, hf⟩ := ca_advance (L := L) h.1 (p := S.2.1.2.1) h.2.2.2.1.2.1 (h.flt.mpr e) h.2.2.1.2.1
    exact ⟨I', c, ⟨h.1.of hf, ⟨by rw [hf 2 0 (by omega)]; exact h.2.1.1, by rw [hf 2 1 (by omega)]; exact h.2.1.2⟩, ht, (tok_W h.2.2.2.1.2.1).1, h.2.2.2.2.1, fun _ => DrC_of (fun a k q => hf a k (by omega)) (h.2.2.2.2.2 e)⟩, hf.p⟩
  · rw [adv_id e]
    exact ⟨I, ca_advance0 (fun z => e (h.flt.mp z)), h, FP.rf⟩
theorem isWp_iff {w : List Int32} : isWp B w S = true ↔ isQ B w S.2.1 := decide_eq_true_iff
theorem cf_isWord (h : RpC B n S I) {j i : Nat} {c nm : String} {w : List Int32} (hq : q_SX[j]? = some (c, i, nm, w)) : q_C kX6_isWord [.ref 2, .ref (10001 + j)] I L (some (.int (if isWp B w S = true then 1 else 0))) I L := by
  have hj := sx_lt hq
  have hw := (sx_ok _ (List.mem_of_getElem? hq)).1
  have hw : w.length < 8 ∧ 0 < w.length := hw
  have hr : 10001 ≤ 10001 + j ∧ 10001 + j < 10029 := ⟨by omega, by omega⟩
  obtain ⟨t1, t2, t3, t4⟩ := h.2.2.1
  obtain ⟨k1, k2, k3, k4, k5, k6⟩ := h.2.2.2.1
  have hn := h.1.2.1
  have cl : ∀ {J : Nat → Nat → Int32}, q_C kJ0_length_8abf5 [.ref (10001 + j)] J L (some (.int (nI w.length))) J L := ct_len hq
  refine c0_X6_isWord (vc_X6_isWord_0 ?_)
  rw [t3, show (1 : Int32) = nI 1 from rfl, u_eq (by omega) (by decide), t2, t1, pk_sub k1]
  refine ⟨fun z => ⟨_, cl, hr, ?_⟩, fun z => ⟨?_, rfl, rfl⟩⟩
  · rw [u_eq (by omega) (by omega)]
    refine ⟨fun z2 => ?_, fun z2 => ⟨?_, rfl, rfl⟩⟩
    · have loop : ∀ m u, u + m = w.length → (∀ v, v < u → B (S.2.1.1 + v) = w.getD v 0) → v_X6_isWord_28 (some (.int (if isWp B w S = true then 1 else 0))) I L I L (10001 + j) (nI u) := by
        intro m
        induction m with
        | zero =>
          intro u hu ha
          have e : u = w.length := by omega
          subst e
          refine vc_X6_isWord_28 ⟨_, cl, hr, fun _ => ⟨?_, rfl, rfl⟩, fun z => absurd (nI_le (Nat.le_refl _) (by omega)) z⟩
          rw [if_pos (show isWp B w S = true from decide_eq_true ⟨z, z2, ha⟩)]
        | succ m ih =>
          intro u hu ha
          have cc : q_C kJ0_charAt_5068e [.ref (10001 + j), .int (nI u)] I L (some (.int (w.getD u 0))) I L := ct_char hq (i := u) (show u < w.length by omega)
          refine vc_X6_isWord_28 ⟨_, cl, hr, fun z => absurd z (nI_ge (by omega) (by omega)), fun _ => ?_⟩
          rw [t1, u_add, u_cl (by omega), h.1.2.2.1 (S.2.1.1 + u) (by omega), nI_1]
          refine ⟨u_in (by omega) (by decide), _, cc, hr, fun q => ?_, fun q => ⟨?_, rfl, rfl⟩⟩
          · refine ih (u + 1) (by omega) (fun v hv => ?_)
            by_cases e : v = u
            · rw [e]; exact q
            · exact ha v (by omega)
          · rw [if_neg (c := isWp B w S = true) (fun y => q ((isWp_iff.mp y).2.2 u (by omega)))]
      exact loop w.length 0 (by omega) (fun v hv => absurd hv (by omega))
    · rw [if_neg (c := isWp B w S = true) (fun y => z2 (isWp_iff.mp y).2.1)]
  · rw [if_neg (c := isWp B w S = true) (fun y => z (isWp_iff.mp y).1)]
theorem g1b {b : Bool} {X Y : Prop} (hx : b = false → X) (hy : b = true → Y) : ((if b = true then (1 : Int32) else 0) = 0 → X) ∧ (¬ (if b = true then (1 : Int32) else 0) = 0 → Y) := by
  cases b with
  | true => exact ⟨fun z => absurd z (by decide), fun _ => hy rfl⟩
  | false => exact ⟨fun _ => hx rfl, fun z => absurd rfl z⟩
theorem cf_needWord (h : RpC B n S I) {j i : Nat} {c nm : String} {w : List Int32} (hq : q_SX[j]? = some (c, i, nm, w)) : ∃ I', q_C kX6_needWord [.ref 2, .ref (10001 + j)] I L none I' L ∧ RpC B n (needW B n w S) I' ∧ FP I I' := by
  have ci := cf_isWord (L := L) h hq
  unfold needW
  cases hb : isWp B w S with
  | true =>
    obtain ⟨I1, c1, h1, f1⟩ := cf_adv (L := L) h
    rw [hb] at ci
    rw [if_pos rfl]
    exact ⟨I1, c0_X6_needWord (vc_X6_needWord_0 ⟨_, ci, fun z => absurd z (by decide), fun _ => ⟨I1, c1, rfl, rfl, rfl⟩⟩), h1, f1⟩
  | false =>
    obtain ⟨I1, c1, h1, f1⟩ := cf_fail (L := L) h (k := 1) ⟨by decide, by decide⟩
    obtain ⟨I2, c2, h2, f2⟩ := cf_adv (L := L) h1
    rw [hb] at ci
    rw [if_neg (by decide)]
    exact ⟨I2, c0_X6_needWord (vc_X6_needWord_0 ⟨_, ci, fun _ => ⟨I1, c1, I2, c2, rfl, rfl, rfl⟩, fun z => absurd rfl z⟩), h2, f1.tr f2⟩
theorem cf_number (h : RpC B n S I) {lo hi : Int} {x1 x2 : Int32} (h1 : x1 = iI lo) (hx : S.1.1 = 0 → x2 = iI hi) (hlo : 0 ≤ lo ∧ lo ≤ 100) (hhi : -1 ≤ hi ∧ hi ≤ 100) : ∃ I', q_C kX6_needNumber [.ref 2, .int x1, .int x2] I L (some (.int (nI S.2.1.2.2.2))) I' L ∧ RpC B n (needN B n lo hi S) I' ∧ FP I I' := by
  obtain ⟨t1, t2, t3, t4⟩ := h.2.2.1
  obtain ⟨k1, k2, k3, k4, k5, k6⟩ := h.2.2.2.1
  have hval : ∀ {k : Nat} {J : Nat → Nat → Int32}, RpC B n (failP k S) J → J 2 8 = nI S.2.1.2.2.2 := fun {k} {J} hJ => by
    have := hJ.2.2.1.2.2.2
    rw [fail_2] at this
    exact this
  have T1 : ¬ S.2.1.2.2.1 = 2 → needT lo hi S = failP 1 S := fun e => if_neg e
  have T2 : S.2.1.2.2.1 = 2 → ((S.2.1.2.2.2 : Int) < lo ∨ hi < (S.2.1.2.2.2 : Int)) → needT lo hi S = failP 2 S := fun e e2 => by
    unfold needT
    rw [if_pos e, if_pos e2]
  have T3 : S.2.1.2.2.1 = 2 → ¬ ((S.2.1.2.2.2 : Int) < lo ∨ hi < (S.2.1.2.2.2 : Int)) → needT lo hi S = S := fun e e2 => by
    unfold needT
    rw [if_pos e, if_neg e2]
  obtain ⟨J1, d1, r1, f1⟩ := cf_fail (L := L) h (k := 1) ⟨by decide, by decide⟩
  obtain ⟨J2, d2, r2, f2⟩ := cf_adv (L := L) r1
  obtain ⟨K1, g1, s1, p1⟩ := cf_fail (L := L) h (k := 2) ⟨by decide, by decide⟩
  obtain ⟨K2, g2, s2, p2⟩ := cf_adv (L := L) s1
  obtain ⟨M1, m1, q1, v1⟩ := cf_adv (L := L) h
  have ek : I 2 7 = 2 ↔ S.2.1.2.2.1 = 2 := by
    rw [t3, show (2 : Int32) = nI 2 from rfl, u_eq (by omega) (by decide)]
  have elo : I 2 8 < x1 ↔ (S.2.1.2.2.2 : Int) < lo := by
    rw [t4, h1, nI_iI, iI_lt (by omega) (by omega)]
  by_cases e2 : S.2.1.2.2.1 = 2
  · by_cases e3 : (S.2.1.2.2.2 : Int) < lo
    · refine ⟨K2, c0_X6_needNumber (vc_X6_needNumber_0 ⟨fun _ => ⟨fun _ => ⟨K1, g1, K2, g2, by rw [hval s1], rfl, rfl⟩, fun z => absurd (elo.mpr e3) z⟩, fun z => absurd (ek.mpr e2) z⟩), ?_, p1.tr p2⟩
      unfold needN
      rw [T2 e2 (Or.inl e3)]; exact s2
    · by_cases e4 : I 2 8 ≤ x2
      · refine ⟨M1, c0_X6_needNumber (vc_X6_needNumber_0 ⟨fun _ => ⟨fun z => absurd (elo.mp z) e3, fun _ => ⟨fun _ => ⟨M1, m1, by rw [t4], rfl, rfl⟩, fun z => absurd e4 z⟩⟩, fun z => absurd (ek.mpr e2) z⟩), ?_, v1⟩
        by_cases e0 : S.1.1 = 0
        · rw [t4, hx e0, nI_iI, iI_le (by omega) (by omega)] at e4
          unfold needN
          rw [T3 e2 (by omega)]; exact q1
        · rw [needN_id e0]
          rw [adv_id e0] at q1; exact q1
      · refine ⟨K2, c0_X6_needNumber (vc_X6_needNumber_0 ⟨fun _ => ⟨fun z => absurd (elo.mp z) e3, fun _ => ⟨fun z => absurd z e4, fun _ => ⟨K1, g1, K2, g2, by rw [hval s1], rfl, rfl⟩⟩⟩, fun z => absurd (ek.mpr e2) z⟩), ?_, p1.tr p2⟩
        by_cases e0 : S.1.1 = 0
        · rw [t4, hx e0, nI_iI, iI_le (by omega) (by omega)] at e4
          unfold needN
          rw [T2 e2 (by omega)]; exact s2
        · rw [needN_id e0]
          rw [fail_id e0, adv_id e0] at s2; exact s2
  · refine ⟨J2, c0_X6_needNumber (vc_X6_needNumber_0 ⟨fun z => absurd (ek.mp z) e2, fun _ => ⟨J1, d1, J2, d2, by rw [hval r1], rfl, rfl⟩⟩), ?_, f1.tr f2⟩
    unfold needN
    rw [T1 e2]; exact r2
theorem near_set {A : Nt} {k v : Nat} (hk : k ≠ 4) (i : Nat) : nearB (up2 A.1 0 k v, A.2) i = nearB A i := by
  have e4 : ∀ j, (up2 A.1 0 k v) 4 j = A.1 4 j := fun j => up2_p (by decide)
  have e5 : ∀ j, (up2 A.1 0 k v) 5 j = A.1 5 j := fun j => up2_p (by decide)
  show nearF (up2 A.1 0 k v, A.2) i (up2 A.1 0 k v 0 4) = nearF A i (A.1 0 4)
  rw [nearF_of (A := A) (A' := (up2 A.1 0 k v, A.2)) e4 e5, up2_k (Ne.symm hk)]
theorem DrC_set {A : Nt} {k f v : Nat} (hk : (k = 0 ∧ f = 1) ∨ (k = 1 ∧ f = 2) ∨ (k = 2 ∧ f = 3) ∨ (k = 8 ∧ f = 0)) (hD : DrC A I) : DrC (up2 A.1 0 k v, A.2) (up2 I 3 f (nI v)) := by
  obtain ⟨⟨a1, a2, a3, a4, a5, a6, a7, a8⟩, b, c, d⟩ := hD
  have hA : ∀ j, j ≠ k → (up2 A.1 0 k v) 0 j = A.1 0 j := fun j hj => up2_k hj
  have hI : ∀ j, j ≠ f → (up2 I 3 f (nI v)) 3 j = I 3 j := fun j hj => up2_k hj
  have sA : (up2 A.1 0 k v) 0 k = v := up2_s _ _ _ _
  have sI : (up2 I 3 f (nI v)) 3 f = nI v := up2_s _ _ _ _
  have h3 : (up2 A.1 0 k v) 0 3 = A.1 0 3 := hA 3 (by omega)
  have h5 : (up2 A.1 0 k v) 0 5 = A.1 0 5 := hA 5 (by omega)
  have h6 : (up2 A.1 0 k v) 0 6 = A.1 0 6 := hA 6 (by omega)
  refine ⟨⟨?_, ?_, ?_, ?_, ?_, ?_, ?_, ?_⟩, fun i hi => ?_, fun i hi => ?_, fun i hi => ?_⟩
  · show (up2 I 3 f (nI v)) 3 0 = nI ((up2 A.1 0 k v) 0 8)
    by_cases e : k = 8
    · obtain rfl : f = 0 := by omega
      subst e; rw [sA, sI]
    · rw [hA 8 (by omega), hI 0 (by omega)]; exact a1
  · show (up2 I 3 f (nI v)) 3 1 = nI ((up2 A.1 0 k v) 0 0)
    by_cases e : k = 0
    · obtain rfl : f = 1 := by omega
      subst e; rw [sA, sI]
    · rw [hA 0 (by omega), hI 1 (by omega)]; exact a2
  · show (up2 I 3 f (nI v)) 3 2 = nI ((up2 A.1 0 k v) 0 1)
    by_cases e : k = 1
    · obtain rfl : f = 2 := by omega
      subst e; rw [sA, sI]
    · rw [hA 1 (by omega), hI 2 (by omega)]; exact a3
  · show (up2 I 3 f (nI v)) 3 3 = nI ((up2 A.1 0 k v) 0 2)
    by_cases e : k = 2
    · obtain rfl : f = 3 := by omega
      subst e; rw [sA, sI]
    · rw [hA 2 (by omega), hI 3 (by omega)]; exact a4
  · show (up2 I 3 f (nI v)) 3 4 = nI ((up2 A.1 0 k v) 0 3)
    rw [h3, hI 4 (by omega)]; exact a5
  · show (up2 I 3 f (nI v)) 3 5 = nI ((up2 A.1 0 k v) 0 4)
    rw [hA 4 (by omega), hI 5 (by omega)]; exact a6
  · show (up2 I 3 f (nI v)) 3 6 = nI ((up2 A.1 0 k v) 0 5)
    rw [h5, hI 6 (by omega)]; exact a7
  · show (up2 I 3 f (nI v)) 3 7 = nI ((up2 A.1 0 k v) 0 6)
    rw [h6, hI 7 (by omega)]; exact a8
  · have hi : i < A.1 0 3 := by rw [← h3]; exact hi
    rw [near_set (by omega), up2_p (by decide), up2_p (by decide), up2_p (by decide), up2_p (by decide)]
    show I 4 i = nI (up2 A.1 0 k v 1 i) ∧ I 5 i = nI (up2 A.1 0 k v 2 i) ∧ I 6 i = nI (up2 A.1 0 k v 3 i) ∧ _
    rw [up2_p (by decide), up2_p (by decide), up2_p (by decide)]
    exact b i hi
  · have hi : i < A.1 0 5 := by rw [← h5]; exact hi
    rw [up2_p (by decide), up2_p (by decide)]
    show I 8 i = nI (up2 A.1 0 k v 6 i) ∧ _
    rw [up2_p (by decide)]
    exact c i hi
  · have hi : i < A.1 0 6 := by rw [← h6]; exact hi
    rw [up2_p (by decide), up2_p (by decide)]
    show I 10 i = nI (up2 A.1 0 k v 7 i) ∧ I 11 i = nI (up2 A.1 0 k v 8 i)
    rw [up2_p (by decide), up2_p (by decide)]
    exact d i hi
theorem cf_set {k f v : Nat} (hk : (k = 0 ∧ f = 1) ∨ (k = 1 ∧ f = 2) ∨ (k = 2 ∧ f = 3) ∨ (k = 8 ∧ f = 0)) (h : RpC B n S I) : RpC B n (setN k v S) (up2 I 3 f (nI v)) ∧ FP I (up2 I 3 f (nI v)) := by
  refine ⟨⟨TpC_of (up2_p (by decide)) (fun j => up2_p (by decide)) h.1, ⟨by rw [up2_p (by decide)]; exact h.2.1.1, by rw [up2_p (by decide)]; exact h.2.1.2⟩, TkC_of (fun j hj => up2_p (by decide)) h.2.2.1, h.2.2.2.1, h.2.2.2.2.1, fun z => DrC_set hk (h.2.2.2.2.2 z)⟩, fun a j q => up2_p (by omega)⟩
theorem cf_setX {f : Nat} {x : Int32} (h : RpC B n S I) (h0 : S.1.1 ≠ 0) : RpC B n S (up2 I 3 f x) := ⟨TpC_of (up2_p (by decide)) (fun j => up2_p (by decide)) h.1, ⟨by rw [up2_p (by decide)]; exact h.2.1.1, by rw [up2_p (by decide)]; exact h.2.1.2⟩, TkC_of (fun j hj => up2_p (by decide)) h.2.2.1, h.2.2.2.1, h.2.2.2.2.1, fun z => absurd z h0⟩
theorem cf_refuse (h : RpC B n S I) {m c : Nat} (hm : m < 1000) (hc : c < 1000) : ∃ I', q_C kX6_refuseMoreThan [.ref 2, .int (nI m), .int (nI c)] I L none I' L ∧ RpC B n (refP m c S) I' ∧ FP I I' := by
  unfold refP
  by_cases e : m ≤ c
  · rw [if_pos e]
    obtain ⟨J1, d1, r1, f1⟩ := cf_fail (L := L) h (k := 3) ⟨by decide, by decide⟩
    exact ⟨J1, c0_X6_refuseMoreThan (vc_X6_refuseMoreThan_0 ⟨fun z => absurd z (nI_nlt e (by omega)), fun _ => ⟨J1, d1, rfl, rfl, rfl⟩⟩), r1, f1⟩
  · rw [if_neg e]
    exact ⟨I, c0_X6_refuseMoreThan (vc_X6_refuseMoreThan_0 ⟨fun _ => ⟨rfl, rfl, rfl⟩, fun z => absurd (nI_lt (by omega) (by omega)) z⟩), h, FP.rf⟩
theorem cf_readNight (h : RpC B n S I) : ∃ I', q_C kX6_readNight [.ref 2] I L none I' L ∧ RpC B n (rdN B n S) I' ∧ FP I I' := by
  obtain ⟨I1, c1, h1, f1⟩ := cf_needWord (L := L) h sx0
  obtain ⟨I2, c2, h2, f2⟩ := cf_needWord (L := L) h1 sx1
  have h2 : RpC B n (rdN1 B n S) I2 := h2
  obtain ⟨S2, e2⟩ : ∃ X, X = rdN1 B n S := ⟨_, rfl⟩
  have er : rdN B n S = rdN4 B n (rdN3 B n (rdN2 B n S2)) := by rw [e2]; rfl
  rw [er]
  rw [← e2] at h2
  obtain ⟨I4, c4, h4, f4⟩ := cf_number (L := L) h2 (lo := 1) (hi := 12) (x1 := 1) (x2 := 12) rfl (fun _ => rfl) ⟨by decide, by decide⟩ ⟨by decide, by decide⟩
  obtain ⟨h4', f4'⟩ := cf_set (k := 0) (f := 1) (v := S2.2.1.2.2.2) (by decide) h4
  obtain ⟨I5, c5, h5, f5⟩ := cf_needWord (L := L) h4' sx2
  have h5 : RpC B n (rdN2 B n S2) I5 := h5
  obtain ⟨S4, e4⟩ : ∃ X, X = rdN2 B n S2 := ⟨_, rfl⟩
  rw [← e4] at h5 ⊢
  obtain ⟨I7, c7, h7, f7⟩ := cf_number (L := L) h5 (lo := 0) (hi := 3) (x1 := 0) (x2 := 3) rfl (fun _ => rfl) ⟨by decide, by decide⟩ ⟨by decide, by decide⟩
  obtain ⟨h7', f7'⟩ := cf_set (k := 1) (f := 2) (v := S4.2.1.2.2.2) (by decide) h7
  obtain ⟨I8, c8, h8, f8⟩ := cf_needWord (L := L) h7' sx3
  have h8 : RpC B n (rdN3 B n S4) I8 := h8
  obtain ⟨S6, e6⟩ : ∃ X, X = rdN3 B n S4 := ⟨_, rfl⟩
  rw [← e6] at h8 ⊢
  obtain ⟨I10, c10, h10, f10⟩ := cf_number (L := L) h8 (lo := 0) (hi := 10) (x1 := 0) (x2 := 10) rfl (fun _ => rfl) ⟨by decide, by decide⟩ ⟨by decide, by decide⟩
  obtain ⟨h10', f10'⟩ := cf_set (k := 2) (f := 3) (v := S6.2.1.2.2.2) (by decide) h10
  exact ⟨_, c0_X6_readNight (vc_X6_readNight_0 ⟨I1, c1, I2, c2, _, I4, c4, I5, c5, _, I7, c7, I8, c8, _, I10, c10, rfl, rfl, rfl⟩), h10', (((((((((f1.tr f2).tr f4).tr f4').tr f5).tr f7).tr f7').tr f8).tr f10).tr f10')⟩
end CR
