/-! A SLOT'S ROW AS A SAYING; WHAT IS HEARD OF IT. -/
def rwL (f : Nat → Int64) : Nat → Option (List Nat)
  | 0 => some []
  | k + 1 => match rwL f k with
    | none => none
    | some l => if 1 ≤ f k ∧ f k ≤ 4 then some (l ++ [(f k).toInt.toNat]) else none
theorem rwL_y {f : Nat → Int64} {k : Nat} {l : List Nat} (h : rwL f k = some l) (hv : 1 ≤ f k ∧ f k ≤ 4) : rwL f (k + 1) = some (l ++ [(f k).toInt.toNat]) := by
  show (match rwL f k with | none => none | some l => if 1 ≤ f k ∧ f k ≤ 4 then some (l ++ [(f k).toInt.toNat]) else none) = _
  rw [h]
  exact if_pos hv
theorem rwL_n {f : Nat → Int64} {k : Nat} {l : List Nat} (h : rwL f k = some l) (hv : ¬ (1 ≤ f k ∧ f k ≤ 4)) : rwL f (k + 1) = none := by
  show (match rwL f k with | none => none | some l => if 1 ≤ f k ∧ f k ≤ 4 then some (l ++ [(f k).toInt.toNat]) else none) = _
  rw [h]
  exact if_neg hv
theorem rwL_0 {f : Nat → Int64} {k : Nat} (h : rwL f k = none) : ∀ m, rwL f (k + m) = none
  | 0 => h
  | m + 1 => by
    show (match rwL f (k + m) with | none => none | some l => if 1 ≤ f (k + m) ∧ f (k + m) ≤ 4 then some (l ++ [(f (k + m)).toInt.toNat]) else none) = none
    rw [rwL_0 h m]
theorem l64 {v : Int64} (h : 1 ≤ v ∧ v ≤ 4) : (1 ≤ v.toInt.toNat ∧ v.toInt.toNat ≤ 4) ∧ v.toInt32 = nI v.toInt.toNat := by
  have h1 := Int64.le_iff_toInt_le.mp h.1
  have h2 := Int64.le_iff_toInt_le.mp h.2
  rw [show (1 : Int64).toInt = 1 by decide] at h1
  rw [show (4 : Int64).toInt = 4 by decide] at h2
  refine ⟨by omega, ?_⟩
  rw [t_eq, t_n (by omega), Int64.toInt_toInt32, Int.bmod_eq_of_le (by omega) (by omega)]
  omega
theorem rwL_ok {f : Nat → Int64} : ∀ {k : Nat} {l : List Nat}, rwL f k = some l → l.length = k ∧ ∀ a ∈ l, 1 ≤ a ∧ a ≤ 4
  | 0, l, h => by
    have : [] = l := by simpa [rwL] using h
    subst this
    exact ⟨rfl, fun a ha => by cases ha⟩
  | k + 1, l, h => by
    cases hk : rwL f k with
    | none =>
      have := rwL_0 hk 1
      rw [this] at h
      cases h
    | some l' =>
      have ih := rwL_ok hk
      by_cases hv : 1 ≤ f k ∧ f k ≤ 4
      · rw [rwL_y hk hv] at h
        have : l' ++ [(f k).toInt.toNat] = l := by simpa using h
        subst this
        refine ⟨by simp [ih.1], fun a ha => ?_⟩
        rcases List.mem_append.mp ha with q | q
        · exact ih.2 a q
        · have : a = (f k).toInt.toNat := by simpa using q
          rw [this]
          exact (l64 hv).1
      · rw [rwL_n hk hv] at h
        cases h
def sayS (n : Nat) (f : Nat → Int64) : List Nat := if n ≤ 6 then (rwL f n).getD [] else []
theorem sayS_Sg (n : Nat) (f : Nat → Int64) : Sg (sayS n f) := by
  unfold sayS
  by_cases h : n ≤ 6
  · rw [if_pos h]
    cases hk : rwL f n with
    | none => exact Sg_nil
    | some l =>
      have := rwL_ok hk
      exact ⟨by show l.length ≤ 6; omega, this.2⟩
  · rw [if_neg h]
    exact Sg_nil
def slS (Z : St) (x : Int32) : List Nat := match Z.2.2.2.2 x.toNatClampNeg with
  | none => []
  | some t => sayS t.2.1 t.2.2
theorem slS_Sg (Z : St) (x : Int32) : Sg (slS Z x) := by
  unfold slS
  cases Z.2.2.2.2 x.toNatClampNeg with
  | none => exact Sg_nil
  | some t => exact sayS_Sg _ _
def rfs (Z : St) (x a b : Int32) : Int32 := if ib 0 3 x ∨ bp Z.1 a ∨ bp Z.1 b then -2 else if Z.2.2.2.2 x.toNatClampNeg = none then -6 else if slS Z x = [] then -2 else 0
theorem rfs_0 {Z : St} {x a b : Int32} (h : rfs Z x a b = 0) : ¬ ib 0 3 x ∧ ¬ bp Z.1 a ∧ ¬ bp Z.1 b ∧ Z.2.2.2.2 x.toNatClampNeg ≠ none ∧ slS Z x ≠ [] := by
  unfold rfs at h
  by_cases h1 : ib 0 3 x ∨ bp Z.1 a ∨ bp Z.1 b
  · rw [if_pos h1] at h; exact absurd h (by decide)
  · rw [if_neg h1] at h
    by_cases h2 : Z.2.2.2.2 x.toNatClampNeg = none
    · rw [if_pos h2] at h; exact absurd h (by decide)
    · rw [if_neg h2] at h
      by_cases h3 : slS Z x = []
      · rw [if_pos h3] at h; exact absurd h (by decide)
      · exact ⟨fun z => h1 (Or.inl z), fun z => h1 (Or.inr (Or.inl z)), fun z => h1 (Or.inr (Or.inr z)), h2, h3⟩
theorem rfs_neg {Z : St} {x a b : Int32} (h : ¬ rfs Z x a b = 0) : ¬ 0 ≤ rfs Z x a b := by
  unfold rfs at h ⊢
  by_cases h1 : ib 0 3 x ∨ bp Z.1 a ∨ bp Z.1 b
  · rw [if_pos h1]; decide
  · rw [if_neg h1] at h ⊢
    by_cases h2 : Z.2.2.2.2 x.toNatClampNeg = none
    · rw [if_pos h2]; decide
    · rw [if_neg h2] at h ⊢
      by_cases h3 : slS Z x = []
      · rw [if_pos h3]; decide
      · rw [if_neg h3] at h; exact absurd rfl h
section RO
variable {Z : St} {I : Nat → Nat → Int32} {L : Nat → Nat → Int64}
theorem ct_saying (hr : Bc Z I L) {s : Nat} (hs : s < 4) {w n : Nat} {f : Nat → Int64} (hz : Z.2.2.2.2 s = some (w, n, f)) : q_C kX9_saying [.ref 25, .int (nI s)] I L (some (.int (nI (cE (sayS n f))))) I L := by
  obtain ⟨h1, h2, h3, h4, h5⟩ := (hr.2.2.2.2 s hs).2 w n f hz
  refine c0_X9_saying (vc_X9_saying_0 ?_)
  rw [u_cl (by omega), h4]
  refine ⟨u_in hs (by decide), fun z => ?_, fun z => ?_⟩
  · rw [show (6 : Int32) = nI 6 from rfl, nI_leI (by omega) (by omega)] at z
    have go : ∀ m k l, k + m = n → rwL f k = some l → v_X9_saying_20 (some (.int (nI (cE (sayS n f))))) I L I L (nI s) (nI n) (nI (cE l)) (nI k) := by
      intro m
      induction m with
      | zero =>
        intro k l hk hl
        have e : k = n := by omega
        subst e
        refine vc_X9_saying_20 ⟨fun _ => ?_, fun q => absurd (nI_le (Nat.le_refl _) (by omega)) q⟩
        unfold sayS
        rw [if_pos z, hl]
        exact ⟨rfl, rfl, rfl⟩
      | succ m ih =>
        intro k l hk hl
        have hlk := rwL_ok hl
        have hSl : Sg l := ⟨by omega, hlk.2⟩
        have e5 : L (29 + s) k = f k := h5 k (by omega)
        have bad : ¬ (1 ≤ f k ∧ f k ≤ 4) → (some (Value.int (nI (cE (sayS n f)))) = some (Value.int 0) ∧ I = I ∧ L = L) := fun q => by
          have := rwL_0 (rwL_n hl q) m
          rw [show k + 1 + m = n by omega] at this
          unfold sayS
          rw [if_pos z, this]
          exact ⟨rfl, rfl, rfl⟩
        refine vc_X9_saying_20 ?_
        rw [u_cl (n := s) (by omega), u_cl (n := k) (by omega), e5, lg_cmp_lt, lg_cmp_le]
        refine ⟨fun q => absurd q (nI_ge (by omega) (by omega)), fun _ => ⟨u_in hs (by decide), ⟨by omega, by omega⟩, u_in (by omega) (by decide), fun q => ?_, fun q => ⟨fun q2 => ?_, fun q2 => ?_⟩⟩⟩
        · exact bad (fun c => absurd c.1 (Int64.not_le.mpr q))
        · have hv : 1 ≤ f k ∧ f k ≤ 4 := ⟨Int64.not_lt.mp q, q2⟩
          have hl6 := l64 hv
          have c := ct_with_add (I := I) (L := L) hSl (by omega) (k := (f k).toInt.toNat) (by omega)
          rw [hlk.1, ← hl6.2] at c
          refine ⟨_, c, ?_⟩
          rw [nI_1]
          exact ih (k + 1) _ (by omega) (rwL_y hl hv)
        · exact bad (fun c => absurd c.2 q2)
    exact go n 0 [] (by omega) rfl
  · rw [show (6 : Int32) = nI 6 from rfl, nI_leI (by omega) (by omega)] at z
    unfold sayS
    rw [if_neg z]
    exact ⟨rfl, rfl, rfl⟩
theorem ct_sayingS (hr : Bc Z I L) {x : Int32} (hx : ¬ ib 0 3 x) (hz : Z.2.2.2.2 x.toNatClampNeg ≠ none) : q_C kX9_saying [.ref 25, .int x] I L (some (.int (nI (cE (slS Z x))))) I L := by
  obtain ⟨s, -, hs, hx⟩ := xIn (a := 0) (b := 3) (by decide) (by decide) hx
  subst hx
  unfold slS
  rw [u_cl (by omega)] at hz ⊢
  cases hq : Z.2.2.2.2 s with
  | none => exact absurd hq hz
  | some t =>
    obtain ⟨w, n, f⟩ := t
    exact ct_saying hr (by omega) hq
theorem ct_refusal (hr : Bc Z I L) (x a b : Int32) : q_C kX11_hearingRefusal [.ref 0, .int x, .int a, .int b] I L (some (.int (rfs Z x a b))) I L := by
  have hR := hr.1.1
  refine c0_X11_hearingRefusal (vc_X11_hearingRefusal_0 ⟨_, ct_noSlot x, ?_⟩)
  unfold rfs
  by_cases h1 : ib 0 3 x
  · rw [if_pos (Or.inl h1 : ib 0 3 x ∨ bp Z.1 a ∨ bp Z.1 b)]
    exact g1p h1 ⟨rfl, rfl, rfl⟩
  · refine g1n h1 ⟨_, ct_noPew hR a, ?_⟩
    by_cases h2 : bp Z.1 a
    · rw [if_pos (Or.inr (Or.inl h2) : ib 0 3 x ∨ bp Z.1 a ∨ bp Z.1 b)]
      exact g1p h2 ⟨rfl, rfl, rfl⟩
    · refine g1n h2 ⟨_, ct_noPew hR b, ?_⟩
      by_cases h3 : bp Z.1 b
      · rw [if_pos (Or.inr (Or.inr h3) : ib 0 3 x ∨ bp Z.1 a ∨ bp Z.1 b)]
        exact g1p h3 ⟨rfl, rfl, rfl⟩
      · rw [if_neg (fun z : ib 0 3 x ∨ bp Z.1 a ∨ bp Z.1 b => z.elim h1 (fun z => z.elim h2 h3))]
        have ch : q_C kX9_hasRow [.ref 25, .int x] I L (some (.int (if Z.2.2.2.2 x.toNatClampNeg = none then 0 else 1))) I L := by
          obtain ⟨s, -, hs, hx⟩ := xIn (a := 0) (b := 3) (by decide) (by decide) h1
          subst hx
          rw [u_cl (by omega)]
          exact ct_hasRow hr (by omega)
        refine g1n h3 ⟨_, ch, ?_⟩
        by_cases h4 : Z.2.2.2.2 x.toNatClampNeg = none
        · rw [if_pos h4]
          exact ⟨fun _ => ⟨by rw [if_pos h4], rfl, rfl⟩, fun z => absurd rfl z⟩
        · rw [if_neg h4]
          refine ⟨fun z => absurd z (by decide), fun _ => ⟨_, ct_sayingS hr h1 h4, ?_⟩⟩
          have hl := slS_Sg Z x
          have hlt := hl.lt
          rw [u_0 (by omega), cE_0 hl.ge1, if_neg h4]
          refine ⟨fun z => ?_, fun z => ?_⟩
          · rw [if_pos z]; exact ⟨rfl, rfl, rfl⟩
          · rw [if_neg z]; exact ⟨rfl, rfl, rfl⟩
theorem cm_numberAt (hr : RelM Z I L) {s i : Nat} (hs : s < 4) {w n : Nat} {f : Nat → Int64} (hz : Z.2.2.2.2 s = some (w, n, f)) (hi : i < 60) (J : Nat → Nat → Int32) : q_C kX12_numberAt [.ref 96, .int (nI s), .int (nI i)] J L (some (.long (f i))) J L := by
  obtain ⟨h1, h2, h3, h4, h5⟩ := (hr.2.2.2.2 s hs).2 w n f hz
  refine c0_X12_numberAt (vc_X12_numberAt_0 ?_)
  have e := h5 i hi
  rw [show (60 : Int32) * nI s + nI i = nI (60 * s + i) by simp (disch := omega) only [l_0, l_1, l_2, l_3, l_4, l_5, l_6, l_7, l_8, l_9, l_10, l_11, l_12, l_15, l_16, l_20, l_24, l_30, l_31, l_32, l_50, l_54, l_60, l_62, l_63, l_64, l_74, l_91, l_100, l_128, l_240, l_600, l_10000, l_m1, nI_leI, nI_ltI, u_eq, u_add, u_mul, u_cl, u_in_t, pk_sub, pk_div, nI_nm1, m1_nI, m1_lt, m1_le, nI_ltm, nI_lem, up2_s_, u_31, u_one3, u_shr3, u_and1, u_or, true_and, and_true], u_cl (by omega), e]
  exact ⟨u_in (by omega) (by decide), rfl, rfl, rfl⟩
theorem in_row (v : Int64) : (if 1 ≤ v ∧ v ≤ 4 then (1 : Int32) else 0) = 0 ↔ ¬ (1 ≤ v ∧ v ≤ 4) := by
  by_cases q : 1 ≤ v ∧ v ≤ 4
  · rw [if_pos q]; exact ⟨fun z => absurd z (by decide), fun z => absurd q z⟩
  · rw [if_neg q]; exact ⟨fun _ => q, fun _ => rfl⟩
theorem ce_askRow (hr : RelM Z I L) (x a b : Int32) : ∃ I', q_C kX12_askRow [.ref 96, .int x, .int a, .int b] I L (some (.int (rfs Z x a b))) I' L ∧ (∀ c k, (c ≠ 96 ∨ k ≠ 28) → I' c k = I c k) ∧ (rfs Z x a b = 0 → I' 96 28 = nI (mE (slS Z x))) := by
  have hR := hr.1.1
  have hV := hr.1.2
  by_cases h1 : ib 0 3 x
  · have e : rfs Z x a b = -2 := if_pos (Or.inl h1)
    rw [e]
    exact ⟨I, c0_X12_askRow (vc_X12_askRow_0 ⟨_, ct_isSlot x, g0p h1 ⟨rfl, rfl, rfl⟩⟩), fun _ _ _ => rfl, fun z => absurd z (by decide)⟩
  by_cases h2 : bp Z.1 a
  · have e : rfs Z x a b = -2 := if_pos (Or.inr (Or.inl h2))
    rw [e]
    exact ⟨I, c0_X12_askRow (vc_X12_askRow_0 ⟨_, ct_isSlot x, g0n h1 ⟨_, ct_isPew hR hV a, g0p h2 ⟨rfl, rfl, rfl⟩⟩⟩), fun _ _ _ => rfl, fun z => absurd z (by decide)⟩
  by_cases h3 : bp Z.1 b
  · have e : rfs Z x a b = -2 := if_pos (Or.inr (Or.inr h3))
    rw [e]
    exact ⟨I, c0_X12_askRow (vc_X12_askRow_0 ⟨_, ct_isSlot x, g0n h1 ⟨_, ct_isPew hR hV a, g0n h2 ⟨_, ct_isPew hR hV b, g0p h3 ⟨rfl, rfl, rfl⟩⟩⟩⟩), fun _ _ _ => rfl, fun z => absurd z (by decide)⟩
  have hn : ¬ (ib 0 3 x ∨ bp Z.1 a ∨ bp Z.1 b) := fun z => z.elim h1 (fun z => z.elim h2 h3)
  obtain ⟨s, -, hs, hx⟩ := xIn (a := 0) (b := 3) (by decide) (by decide) h1
  have hs : s < 4 := by omega
  have ex : x.toNatClampNeg = s := by rw [hx]; exact u_cl (by omega)
  by_cases h4 : Z.2.2.2.2 s = none
  · have e : rfs Z x a b = -6 := by unfold rfs; rw [if_neg hn, ex, if_pos h4]
    rw [e]
    refine ⟨I, c0_X12_askRow (vc_X12_askRow_0 ⟨_, ct_isSlot x, g0n h1 ⟨_, ct_isPew hR hV a, g0n h2 ⟨_, ct_isPew hR hV b, g0n h3 ⟨?_, ?_⟩⟩⟩⟩), fun _ _ _ => rfl, fun z => absurd z (by decide)⟩
    · rw [hx]; exact u_in hs (by decide)
    · rw [ex, md_none hr hs]
      exact ⟨fun _ => ⟨rfl, rfl, rfl⟩, fun z => absurd h4 z⟩
  cases hq : Z.2.2.2.2 s with
  | none => exact absurd hq h4
  | some t =>
    obtain ⟨w, n, f⟩ := t
    obtain ⟨k1, k2, k3, k4, k5⟩ := (hr.2.2.2.2 s hs).2 w n f hq
    have esl : slS Z x = sayS n f := by unfold slS; rw [ex, hq]
    have er : rfs Z x a b = if sayS n f = [] then -2 else 0 := by unfold rfs; rw [if_neg hn, ex, if_neg h4, esl]
    have wrap : ∀ I', (((if ib 1 6 (nI n) then (0 : Int32) else 1) = 0 → some (Value.int (rfs Z x a b)) = some (Value.int (-2)) ∧ I' = I ∧ L = L) ∧ (¬ (if ib 1 6 (nI n) then (0 : Int32) else 1) = 0 → v_X12_askRow_69 (some (.int (rfs Z x a b))) I' L (up2 I 96 28 0) L x 0)) → q_C kX12_askRow [.ref 96, .int x, .int a, .int b] I L (some (.int (rfs Z x a b))) I' L := by
      intro I' hw
      refine c0_X12_askRow (vc_X12_askRow_0 ⟨_, ct_isSlot x, g0n h1 ⟨_, ct_isPew hR hV a, g0n h2 ⟨_, ct_isPew hR hV b, g0n h3 ⟨?_, ?_⟩⟩⟩⟩)
      · rw [hx]; exact u_in hs (by decide)
      · rw [ex, md_none hr hs]
        refine ⟨fun z => absurd z h4, fun _ => ⟨by rw [hx]; exact u_in hs (by decide), _, ?_, hw⟩⟩
        rw [k3]
        exact ct_inI (nI n) 1 6
    by_cases h6 : ib 1 6 (nI n)
    · have e0 : sayS n f = [] := by
        unfold sayS
        by_cases h7 : n ≤ 6
        · have : n = 0 := by
            unfold ib at h6
            rw [t_lt, t_lt, t_n (by omega), show (1 : Int32).toInt = 1 by decide, show (6 : Int32).toInt = 6 by decide] at h6
            omega
          subst this
          rw [if_pos h7]
          rfl
        · rw [if_neg h7]
      have er2 : rfs Z x a b = -2 := by rw [er, if_pos e0]
      refine ⟨I, wrap I (g0p h6 ⟨by rw [er2], rfl, rfl⟩), fun _ _ _ => rfl, fun z => ?_⟩
      rw [er2] at z
      exact absurd z (by decide)
    · obtain ⟨n', hn1, hn6, hnn⟩ := xIn (a := 1) (b := 6) (by decide) (by decide) h6
      have hnn : n = n' := by rwa [u_eq (by omega) (by omega)] at hnn
      subst hnn
      have go : ∀ m k l J, k + m = n → rwL f k = some l → J 96 28 = nI (mE l) → (∀ c j, (c ≠ 96 ∨ j ≠ 28) → J c j = I c j) → ∃ I', v_X12_askRow_69 (some (.int (rfs Z x a b))) I' L J L x (nI k) ∧ (∀ c j, (c ≠ 96 ∨ j ≠ 28) → I' c j = I c j) ∧ (rfs Z x a b = 0 → I' 96 28 = nI (mE (slS Z x))) := by
        intro m
        induction m with
        | zero =>
          intro k l J hk hl hJ hf
          have e : k = n := by omega
          subst e
          have es : sayS k f = l := by unfold sayS; rw [if_pos hn6, hl]; rfl
          have hlk := rwL_ok hl
          have hne : ¬ l = [] := fun z => by rw [z] at hlk; simp at hlk; omega
          have er3 : rfs Z x a b = 0 := by rw [er, es, if_neg hne]
          refine ⟨J, vc_X12_askRow_69 ?_, hf, fun _ => by rw [hJ, esl, es]⟩
          rw [ex, hf 109 s (by omega), k3]
          exact ⟨by rw [hx]; exact u_in hs (by decide), fun _ => ⟨by rw [er3], rfl, rfl⟩, fun z => absurd (nI_le (Nat.le_refl _) (by omega)) z⟩
        | succ m ih =>
          intro k l J hk hl hJ hf
          have hlk := rwL_ok hl
          have hSl : Sg l := ⟨by omega, hlk.2⟩
          have hml := hSl.mlt
          have cn := cm_numberAt hr hs hq (i := k) (by omega) J
          by_cases hv : 1 ≤ f k ∧ f k ≤ 4
          · have hl6 := l64 hv
            obtain ⟨I', hw, hf2, h28⟩ := ih (k + 1) (l ++ [(f k).toInt.toNat]) (up2 J 96 28 (5 * J 96 28 + (f k).toInt32)) (by omega) (rwL_y hl hv) (by rw [up2_s, hJ, hl6.2, mE_snoc, show (5 : Int32) = nI 5 from rfl, u_mul, u_add]) (fun c j q => by rw [up2_o' (by omega)]; exact hf c j q)
            refine ⟨I', vc_X12_askRow_69 ?_, hf2, h28⟩
            rw [ex, hf 109 s (by omega), k3]
            refine ⟨by rw [hx]; exact u_in hs (by decide), fun z => absurd z (nI_ge (by omega) (by omega)), fun _ => ⟨_, by rw [hx]; exact cn, _, ct_in _ _ _, ?_⟩⟩
            rw [in_row]
            refine ⟨fun z => absurd hv z, fun _ => ⟨_, by rw [hx]; exact cn, ?_⟩⟩
            rw [nI_1]
            exact hw
          · have e0 : sayS n f = [] := by
              have := rwL_0 (rwL_n hl hv) m
              rw [show k + 1 + m = n by omega] at this
              unfold sayS
              rw [if_pos hn6, this]
              rfl
            have er2 : rfs Z x a b = -2 := by rw [er, if_pos e0]
            refine ⟨J, vc_X12_askRow_69 ?_, hf, fun z => ?_⟩
            · rw [ex, hf 109 s (by omega), k3]
              refine ⟨by rw [hx]; exact u_in hs (by decide), fun z => absurd z (nI_ge (by omega) (by omega)), fun _ => ⟨_, by rw [hx]; exact cn, _, ct_in _ _ _, ?_⟩⟩
              rw [in_row]
              exact ⟨fun _ => ⟨by rw [er2], rfl, rfl⟩, fun z => absurd hv z⟩
            · rw [er2] at z
              exact absurd z (by decide)
      obtain ⟨I', hw, hf2, h28⟩ := go n 0 [] (up2 I 96 28 0) (by omega) rfl (up2_s _ _ _ _) (fun c j q => up2_o' (by omega))
      exact ⟨I', wrap I' (g0n h6 hw), hf2, h28⟩
def hs2 (A : Nt) (a b : Nat) (l : List Nat) : List Nat := hs A b (hs A a l)
theorem hs2_0 (A : Nt) (a b : Nat) : hs2 A a b [] = [] := by
  unfold hs2 hs
  rw [if_pos rfl, if_pos rfl]
theorem hs2_Sg {A : Nt} (hV : NV A) {a b : Nat} (ha : a < A.1 0 3) (hb : b < A.1 0 3) {l : List Nat} (h : Sg l) : Sg (hs2 A a b l) := hs_Sg hV hb (hs_Sg hV ha h)
theorem ct_twice {A : Nt} (hR : RC A I 12 21) (hV : NV A) {a b : Nat} (ha : a < A.1 0 3) (hb : b < A.1 0 3) {l : List Nat} (h : Sg l) : q_C kX11_heardTwice [.ref 0, .int (nI (cE l)), .int (nI a), .int (nI b)] I L (some (.int (nI (cE (hs2 A a b l))))) I L := c0_X11_heardTwice (vc_X11_heardTwice_0 ⟨_, ct_heardBy hR hV ha h, _, ct_heardBy hR hV hb (hs_Sg hV ha h), rfl, rfl, rfl⟩)
theorem cm_twice {A : Nt} (hR : RM A I 97 0) (hV : NV A) {a b : Nat} (ha : a < A.1 0 3) (hb : b < A.1 0 3) {l : List Nat} (h : Sg l) (hne : l ≠ []) : q_C kX12_heardTwice [.ref 96, .int (nI a), .int (nI b), .int (nI (mE l))] I L (some (.int (nI (mE (hs2 A a b l))))) I L := by
  have h1 := hs_Sg hV ha h
  have hm := h1.mlt
  refine c0_X12_heardTwice (vc_X12_heardTwice_0 ⟨_, ct_changed hR hV ha h hne, ?_⟩)
  rw [u_0 (by omega), mE_0 h1.ge1]
  unfold hs2
  refine ⟨fun z => ?_, fun z => ⟨_, ct_changed hR hV hb h1 z, rfl, rfl, rfl⟩⟩
  have e : hs A b (hs A a l) = [] := by rw [z]; unfold hs; rw [if_pos rfl]
  rw [e]
  exact ⟨rfl, rfl, rfl⟩
end RO
theorem Mq_28 {I I' : Nat → Nat → Int32} (h : ∀ c k, (c ≠ 96 ∨ k ≠ 28) → I' c k = I c k) : Mq I I' := fun a k q => h a k (by omega)
theorem q_hears (Z : St) (x a b : Int32) : ∃ v, Q2 Z Z kX11_hears kX12_hears [.int x, .int a, .int b] (.int v) := by
  by_cases hh : rfs Z x a b = 0
  · obtain ⟨h1, h2, h3, h4, h5⟩ := rfs_0 hh
    refine ⟨nI (hs2 Z.1 a.toNatClampNeg b.toNatClampNeg (slS Z x)).length, QC_q fun I L hr => ⟨I, c0_X11_hears (vc_X11_hears_0 ⟨_, ct_refusal hr.1 x a b, fun _ => ⟨_, ct_sayingS hr.1 h1 h4, ?_⟩, fun z => absurd hh z⟩), Fq.rf, hr.2.1, hr.2.2⟩, QM_q fun I L hr => ?_⟩
    · have hV := hr.1.1.2
      have h3' := hV.1.2.2.2.1
      obtain ⟨p, hp, ha⟩ := xPew hV h2
      obtain ⟨q, hq, hb⟩ := xPew hV h3
      subst ha
      subst hb
      rw [u_cl (n := p) (by omega), u_cl (n := q) (by omega)]
      exact ⟨_, ct_twice hr.1.1.1 hV hp hq (slS_Sg Z x), _, ct_size (hs2_Sg hV hp hq (slS_Sg Z x)), rfl, rfl, rfl⟩
    · have hV := hr.1.2
      have h3' := hV.1.2.2.2.1
      obtain ⟨I1, c1, hf1, h28⟩ := ce_askRow hr x a b
      have hR1 : RM Z.1 I1 97 0 := RM_of (fun k => hf1 97 k (by omega)) hr.1.1
      refine ⟨I1, c0_X12_hears (vc_X12_hears_0 ⟨_, I1, c1, fun _ => ?_, fun z => absurd (by rw [hh]; decide) z⟩), Mq_28 hf1⟩
      rw [h28 hh]
      obtain ⟨p, hp, ha⟩ := xPew hV h2
      obtain ⟨q, hq, hb⟩ := xPew hV h3
      subst ha
      subst hb
      rw [u_cl (n := p) (by omega), u_cl (n := q) (by omega)]
      exact ⟨_, cm_twice hR1 hV hp hq (slS_Sg Z x) h5, _, ct_longOf (hs2_Sg hV hp hq (slS_Sg Z x)), rfl, rfl, rfl⟩
  · refine ⟨rfs Z x a b, QC_q fun I L hr => ⟨I, c0_X11_hears (vc_X11_hears_0 ⟨_, ct_refusal hr.1 x a b, fun z => absurd z hh, fun _ => ⟨rfl, rfl, rfl⟩⟩), Fq.rf, hr.2.1, hr.2.2⟩, QM_q fun I L hr => ?_⟩
    obtain ⟨I1, c1, hf1, h28⟩ := ce_askRow hr x a b
    exact ⟨I1, c0_X12_hears (vc_X12_hears_0 ⟨_, I1, c1, fun z => absurd z (rfs_neg hh), fun _ => ⟨rfl, rfl, rfl⟩⟩), Mq_28 hf1⟩
theorem q_heard (Z : St) (x a b i : Int32) : ∃ v, Q2 Z Z kX11_heard kX12_heard [.int x, .int a, .int b, .int i] (.int v) := by
  by_cases hi : 0 ≤ i
  · by_cases hh : rfs Z x a b = 0
    · obtain ⟨h1, h2, h3, h4, h5⟩ := rfs_0 hh
      refine ⟨letN (hs2 Z.1 a.toNatClampNeg b.toNatClampNeg (slS Z x)) i, QC_q fun I L hr => ⟨I, c0_X11_heard (vc_X11_heard_0 ⟨fun _ => ⟨_, ct_refusal hr.1 x a b, vc_X11_heard_17 ⟨fun _ => ⟨_, ct_sayingS hr.1 h1 h4, ?_⟩, fun z => absurd hh z⟩⟩, fun z => absurd hi z⟩), Fq.rf, hr.2.1, hr.2.2⟩, QM_q fun I L hr => ?_⟩
      · have hV := hr.1.1.2
        have h3' := hV.1.2.2.2.1
        obtain ⟨p, hp, ha⟩ := xPew hV h2
        obtain ⟨q, hq, hb⟩ := xPew hV h3
        subst ha
        subst hb
        rw [u_cl (n := p) (by omega), u_cl (n := q) (by omega)]
        exact ⟨_, ct_twice hr.1.1.1 hV hp hq (slS_Sg Z x), _, ct_letC (hs2_Sg hV hp hq (slS_Sg Z x)) i, rfl, rfl, rfl⟩
      · have hV := hr.1.2
        have h3' := hV.1.2.2.2.1
        obtain ⟨I1, c1, hf1, h28⟩ := ce_askRow hr x a b
        have hR1 : RM Z.1 I1 97 0 := RM_of (fun k => hf1 97 k (by omega)) hr.1.1
        refine ⟨I1, c0_X12_heard (vc_X12_heard_0 ⟨fun _ => ⟨_, I1, c1, vc_X12_heard_17 ⟨fun _ => ?_, fun z => absurd (by rw [hh]; decide) z⟩⟩, fun z => absurd hi z⟩), Mq_28 hf1⟩
        rw [h28 hh]
        obtain ⟨p, hp, ha⟩ := xPew hV h2
        obtain ⟨q, hq, hb⟩ := xPew hV h3
        subst ha
        subst hb
        rw [u_cl (n := p) (by omega), u_cl (n := q) (by omega)]
        exact ⟨_, cm_twice hR1 hV hp hq (slS_Sg Z x) h5, _, ct_letM (hs2_Sg hV hp hq (slS_Sg Z x)) hi, rfl, rfl, rfl⟩
    · refine ⟨rfs Z x a b, QC_q fun I L hr => ⟨I, c0_X11_heard (vc_X11_heard_0 ⟨fun _ => ⟨_, ct_refusal hr.1 x a b, vc_X11_heard_17 ⟨fun z => absurd z hh, fun _ => ⟨rfl, rfl, rfl⟩⟩⟩, fun z => absurd hi z⟩), Fq.rf, hr.2.1, hr.2.2⟩, QM_q fun I L hr => ?_⟩
      obtain ⟨I1, c1, hf1, h28⟩ := ce_askRow hr x a b
      exact ⟨I1, c0_X12_heard (vc_X12_heard_0 ⟨fun _ => ⟨_, I1, c1, vc_X12_heard_17 ⟨fun z => absurd z (rfs_neg hh), fun _ => ⟨rfl, rfl, rfl⟩⟩⟩, fun z => absurd hi z⟩), Mq_28 hf1⟩
  · exact ⟨-2, QC_q fun I L hr => ⟨I, c0_X11_heard (vc_X11_heard_0 ⟨fun z => absurd z hi, fun _ => vc_X11_heard_17 ⟨fun z => absurd z (by decide), fun _ => ⟨rfl, rfl, rfl⟩⟩⟩), Fq.rf, hr.2.1, hr.2.2⟩, QM_q fun I L hr => ⟨I, c0_X12_heard (vc_X12_heard_0 ⟨fun z => absurd z hi, fun _ => vc_X12_heard_17 ⟨fun z => absurd z (by decide), fun _ => ⟨rfl, rfl, rfl⟩⟩⟩), Mq.rf⟩⟩
def rdF (g : List Nat → List Nat) (l0 : List Nat) : Nat → List Nat → Nat → Int32
  | 0, _, _ => -1
  | m + 1, l, n => if g l = l0 then nI n else rdF g l0 m (g l) (n + 1)
theorem rdF_0 {g : List Nat → List Nat} {l0 : List Nat} (h0 : g [] = []) (hl : l0 ≠ []) : ∀ m n, rdF g l0 m [] n = -1
  | 0, _ => rfl
  | m + 1, n => by
    show (if g [] = l0 then nI n else rdF g l0 m (g []) (n + 1)) = -1
    rw [h0, if_neg (fun z => hl z.symm)]
    exact rdF_0 h0 hl m (n + 1)
theorem q_round (Z : St) (x a b : Int32) : ∃ v, Q2 Z Z kX11_round kX12_round [.int x, .int a, .int b] (.int v) := by
  by_cases hh : rfs Z x a b = 0
  · obtain ⟨h1, h2, h3, h4, h5⟩ := rfs_0 hh
    have hSl := slS_Sg Z x
    have hcl := hSl.lt
    have hml := hSl.mlt
    refine ⟨rdF (hs2 Z.1 a.toNatClampNeg b.toNatClampNeg) (slS Z x) 50 (slS Z x) 1, QC_q fun I L hr => ⟨I, c0_X11_round (vc_X11_round_0 ⟨_, ct_refusal hr.1 x a b, fun _ => ⟨_, ct_sayingS hr.1 h1 h4, ?_⟩, fun z => absurd hh z⟩), Fq.rf, hr.2.1, hr.2.2⟩, QM_q fun I L hr => ?_⟩
    · have hV := hr.1.1.2
      have h3' := hV.1.2.2.2.1
      obtain ⟨p, hp, ha⟩ := xPew hV h2
      obtain ⟨q, hq, hb⟩ := xPew hV h3
      subst ha
      subst hb
      rw [u_cl (n := p) (by omega), u_cl (n := q) (by omega)]
      have go : ∀ m l n, n + m = 51 → Sg l → v_X11_round_34 (some (.int (rdF (hs2 Z.1 p q) (slS Z x) m l n))) I L I L (nI p) (nI q) (nI (cE (slS Z x))) (nI (cE l)) (nI n) := by
        intro m
        induction m with
        | zero =>
          intro l n hn hl
          rw [show n = 51 by omega]
          exact vc_X11_round_34 ⟨fun _ => ⟨rfl, rfl, rfl⟩, fun z => absurd (by decide) z⟩
        | succ m ih =>
          intro l n hn hl
          have hg := hs2_Sg hV hp hq hl
          have hgl := hg.lt
          refine vc_X11_round_34 ⟨fun z => ?_, fun _ => ⟨_, ct_twice hr.1.1.1 hV hp hq hl, ?_⟩⟩
          · rw [show (50 : Int32) = nI 50 from rfl, nI_ltI (by omega) (by omega)] at z
            omega
          · rw [u_eq (by omega) (by omega), hg.cinj hSl, nI_1]
            show (_ → (some (Value.int (if hs2 Z.1 p q l = slS Z x then nI n else _)) = _ ∧ _)) ∧ (_ → v_X11_round_34 (some (.int (if hs2 Z.1 p q l = slS Z x then nI n else rdF (hs2 Z.1 p q) (slS Z x) m (hs2 Z.1 p q l) (n + 1)))) I L I L _ _ _ _ _)
            refine ⟨fun z => ?_, fun z => ?_⟩
            · rw [if_pos z]; exact ⟨rfl, rfl, rfl⟩
            · rw [if_neg z]; exact ih _ _ (by omega) hg
      exact go 50 _ 1 rfl hSl
    · have hV := hr.1.2
      have h3' := hV.1.2.2.2.1
      obtain ⟨I1, c1, hf1, h28⟩ := ce_askRow hr x a b
      have h29 := h28 hh
      have hR1 : RM Z.1 I1 97 0 := RM_of (fun k => hf1 97 k (by omega)) hr.1.1
      refine ⟨I1, c0_X12_round (vc_X12_round_0 ⟨_, I1, c1, fun _ => ?_, fun z => absurd (by rw [hh]; decide) z⟩), Mq_28 hf1⟩
      rw [h29]
      obtain ⟨p, hp, ha⟩ := xPew hV h2
      obtain ⟨q, hq, hb⟩ := xPew hV h3
      subst ha
      subst hb
      rw [u_cl (n := p) (by omega), u_cl (n := q) (by omega)]
      have go : ∀ m l n, n + m = 51 → Sg l → l ≠ [] → v_X12_round_26 (some (.int (rdF (hs2 Z.1 p q) (slS Z x) m l n))) I1 L I1 L (nI p) (nI q) (nI (mE l)) (nI n) := by
        intro m
        induction m with
        | zero =>
          intro l n hn hl hne
          rw [show n = 51 by omega]
          exact vc_X12_round_26 ⟨fun _ => ⟨rfl, rfl, rfl⟩, fun z => absurd (by decide) z⟩
        | succ m ih =>
          intro l n hn hl hne
          have hg := hs2_Sg hV hp hq hl
          have hgl := hg.mlt
          refine vc_X12_round_26 ⟨fun z => ?_, fun _ => ⟨_, cm_twice hR1 hV hp hq hl hne, ?_⟩⟩
          · rw [show (50 : Int32) = nI 50 from rfl, nI_ltI (by omega) (by omega)] at z
            omega
          · rw [h29, u_eq (by omega) (by omega), hg.minj hSl, nI_1, u_0 (by omega), mE_0 hg.ge1]
            show (_ → (some (Value.int (if hs2 Z.1 p q l = slS Z x then nI n else _)) = _ ∧ _)) ∧ (_ → (_ → (some (Value.int (if hs2 Z.1 p q l = slS Z x then nI n else rdF (hs2 Z.1 p q) (slS Z x) m (hs2 Z.1 p q l) (n + 1))) = _ ∧ _)) ∧ (_ → v_X12_round_26 (some (.int (if hs2 Z.1 p q l = slS Z x then nI n else rdF (hs2 Z.1 p q) (slS Z x) m (hs2 Z.1 p q l) (n + 1)))) I1 L I1 L _ _ _ _))
            refine ⟨fun z => ?_, fun z => ⟨fun z2 => ?_, fun z2 => ?_⟩⟩
            · rw [if_pos z]; exact ⟨rfl, rfl, rfl⟩
            · rw [if_neg z, z2, rdF_0 (hs2_0 _ _ _) h5]; exact ⟨rfl, rfl, rfl⟩
            · rw [if_neg z]; exact ih _ _ (by omega) hg z2
      exact go 50 _ 1 rfl hSl h5
  · refine ⟨rfs Z x a b, QC_q fun I L hr => ⟨I, c0_X11_round (vc_X11_round_0 ⟨_, ct_refusal hr.1 x a b, fun z => absurd z hh, fun _ => ⟨rfl, rfl, rfl⟩⟩), Fq.rf, hr.2.1, hr.2.2⟩, QM_q fun I L hr => ?_⟩
    obtain ⟨I1, c1, hf1, h28⟩ := ce_askRow hr x a b
    exact ⟨I1, c0_X12_round (vc_X12_round_0 ⟨_, I1, c1, fun z => absurd z (rfs_neg hh), fun _ => ⟨rfl, rfl, rfl⟩⟩), Mq_28 hf1⟩
