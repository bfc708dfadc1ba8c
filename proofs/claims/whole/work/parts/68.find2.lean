/-! FIRST, both sides. -/
theorem fold_Sg {A : Nt} (hV : NV A) {v : List Nat} (hv : Sg v) : ∀ (T : List Nat), (∀ q ∈ T, q < A.1 0 3) → Sg (T.foldr (hs A) v)
  | [], _ => hv
  | q :: T, h => hs_Sg hV (h q List.mem_cons_self) (fold_Sg hV hv T (fun x hx => h x (List.mem_cons_of_mem _ hx)))
def FS (I I' : Nat → Nat → Int32) : Prop := ∀ a k, (a < 81 ∨ 87 < a ∧ a ≠ 90 ∧ a ≠ 91) → I' a k = I a k
theorem FS.rf {I : Nat → Nat → Int32} : FS I I := fun _ _ _ => rfl
theorem FS.tr {I I1 I2 : Nat → Nat → Int32} (h : FS I I1) (h2 : FS I1 I2) : FS I I2 := fun a k q => (h2 a k q).trans (h a k q)
theorem FT.s {I I' : Nat → Nat → Int32} (h : FT I I') : FS I I' := fun a k q => h a k (by omega)
theorem FS.RC {A : Nt} {I I' : Nat → Nat → Int32} (h : FS I I') (hR : RC A I 12 21) : RC A I' 12 21 := RC_of (fun a k q => h a k (by omega)) hR
theorem FS.rel {Z : St} {I I' : Nat → Nat → Int32} {L : Nat → Nat → Int64} (h : FS I I') (hr : RelC Z I L) : Fq I I' ∧ Se Z.1 I' ∧ Wo Z.1 I' := ⟨fun a k q _ => h a k (by omega), Se_of (fun a k q => h a k (by omega)) hr.2.1, Wo_of (fun k => h 89 k (by omega)) hr.2.2⟩
section FC
variable {A : Nt} {I : Nat → Nat → Int32} {L : Nat → Nat → Int64}
theorem ct_spelled {n c : Nat} (hn : n ≤ 4) (hc : c < 2147483648) : q_C kX4_spelled [.int (nI c), .int (nI n)] I L (some (.int (nI (cE (splF n c n))))) I L := by
  refine c0_X4_spelled (vc_X4_spelled_0 ?_)
  refine down (P := fun i => v_X4_spelled_4 (some (.int (nI (cE (splF n c n))))) I L I L (nI c) (nI n) (nI (cE (splF n c i))) (nI i)) (n := n) ?_ ?_
  · exact vc_X4_spelled_4 ⟨fun _ => ⟨rfl, rfl, rfl⟩, fun z => absurd (nI_le (Nat.le_refl _) (by omega)) z⟩
  · intro i hi ih
    have hw := ct_with_add (I := I) (L := L) (splF_Sg (n := n) (c := c) (i := i) (by omega)) (by rw [splF_len]; omega) (k := c / 2 ^ (2 * (n - 1 - i)) % 4 + 1) (by omega)
    rw [splF_len] at hw
    have e : ((nI c >>> ((2 * ((nI n - 1) - nI i)) &&& 31)) &&& 3) + 1 = nI (c / 2 ^ (2 * (n - 1 - i)) % 4 + 1) := by
      rw [show (1 : Int32) = nI 1 from rfl, pk_sub (by omega), pk_sub (by omega), show (2 : Int32) = nI 2 from rfl, u_mul, u_shr (by omega) (by omega), show (3 : Int32) = nI 3 from rfl, u_and, Nat.and_two_pow_sub_one_eq_mod _ 2, u_add]
    refine vc_X4_spelled_4 ⟨fun z => absurd z (nI_ge hi (by omega)), fun _ => ⟨nI (cE (splF n c i ++ [c / 2 ^ (2 * (n - 1 - i)) % 4 + 1])), ?_, ?_⟩⟩
    · rw [e]
      exact hw
    · rw [nI_1]
      exact ih
theorem ct_carried (hR : RC A I 12 21) (hV : NV A) {T v : List Nat} (hl : T.length ≤ 12) (hT : ∀ q ∈ T, q < A.1 0 3) (h3 : I 90 3 = nI T.length) (h91 : ∀ i, i < T.length → I 91 i = nI (T.getD i 0)) (hv : Sg v) : q_C kX4_carried [.ref 90, .int (nI (cE v))] I L (some (.int (nI (cE (T.foldr (hs A) v))))) I L := by
  refine c0_X4_carried (vc_X4_carried_0 ?_)
  rw [h3]
  have loop : ∀ k, k ≤ T.length → v_X4_carried_9 (some (.int (nI (cE (T.foldr (hs A) v))))) I L I L (nI (cE ((T.drop k).foldr (hs A) v))) (nI k - 1) := by
    intro k
    induction k with
    | zero =>
      intro _
      exact vc_X4_carried_9 ⟨fun _ => ⟨rfl, rfl, rfl⟩, fun z => absurd (by decide) z⟩
    | succ k ih =>
      intro hk
      have hS := fold_Sg hV hv (T.drop (k + 1)) (fun q hq => hT q (List.mem_of_mem_drop hq))
      have hget : T.getD k 0 = T[k] := by rw [List.getD_eq_getElem?_getD, List.getElem?_eq_getElem (by omega)]; rfl
      have hq : T[k] < A.1 0 3 := hT _ (List.getElem_mem _)
      have ed : T.drop k = T[k] :: T.drop (k + 1) := List.drop_eq_getElem_cons (by omega)
      have ih := ih (by omega)
      rw [ed] at ih
      rw [nI_pred]
      refine vc_X4_carried_9 ?_
      rw [u_cl (by omega), h91 k (by omega), hget]
      refine ⟨fun z => absurd z (nI_nlt (b := 0) (Nat.zero_le _) (by omega)), fun _ => ⟨u_in (by omega) (by decide), _, ct_heardBy hR hV hq hS, ?_⟩⟩
      rw [← Int32.sub_eq_add_neg]
      exact ih
  have := loop T.length (Nat.le_refl _)
  rw [List.drop_length] at this
  exact this
theorem ce_followTrail {P : Pm} (h : SCo A P 81 I) {p : Nat} (hp : p < A.1 0 3) : ∃ I', q_C kX4_followTrail [.ref 90, .int (nI p)] I L none I' L ∧ I' 90 3 = nI (trl A P 12 (A.1 0 0) p).length ∧ (∀ i, i < (trl A P 12 (A.1 0 0) p).length → I' 91 i = nI ((trl A P 12 (A.1 0 0) p).getD i 0)) ∧ (∀ a j, (a ≠ 90 ∨ j ≠ 3) → a ≠ 91 → I' a j = I a j) := by
  have hV := h.1.2.1
  have hPV := h.1.2.2
  have h0 := hV.1.1
  have h3 := hV.1.2.2.2.1
  have loop : ∀ m t p (pre : List Nat) J, pre.length + m = 12 → t ≤ m → t ≤ A.1 0 0 → p < A.1 0 3 → J 90 3 = nI pre.length → (∀ i, i < pre.length → J 91 i = nI (pre.getD i 0)) → (∀ a j, (a ≠ 90 ∨ j ≠ 3) → a ≠ 91 → J a j = I a j) → ∃ I', v_X4_followTrail_18 none I' L J L (nI (7 * t + p)) ∧ I' 90 3 = nI (pre ++ trl A P m t p).length ∧ (∀ i, i < (pre ++ trl A P m t p).length → I' 91 i = nI ((pre ++ trl A P m t p).getD i 0)) ∧ (∀ a j, (a ≠ 90 ∨ j ≠ 3) → a ≠ 91 → I' a j = I a j) := by
    intro m
    induction m with
    | zero =>
      intro t p pre J hl ht ht2 hp h90 h91 hf
      refine ⟨J, vc_X4_followTrail_18 ?_, ?_, ?_, hf⟩
      · rw [h90, show pre.length = 12 by omega]
        exact ⟨fun _ => ⟨rfl, rfl, rfl⟩, fun z => absurd (by decide) z⟩
      · show _ = nI (pre ++ []).length
        rw [List.append_nil]; exact h90
      · show ∀ i, i < (pre ++ []).length → J 91 i = nI ((pre ++ []).getD i 0)
        rw [List.append_nil]; exact h91
    | succ m ih =>
      intro t p pre J hl ht ht2 hp h90 h91 hf
      have hsy := h.says ht2 hp
      rw [Nat.mul_comm t 7] at hsy
      have e84 : J 84 (7 * t + p) = iI (rows A P t p).2.1 := by rw [hf 84 _ (by omega) (by omega)]; exact hsy.2.1
      have e85 : J 85 (7 * t + p) = iI (rows A P t p).2.2.1 := by rw [hf 85 _ (by omega) (by omega)]; exact hsy.2.2.1
      have hin : vp_in (nI (7 * t + p)) 91 := u_in (by omega) (by decide)
      have hcl : (nI (7 * t + p)).toNatClampNeg = 7 * t + p := u_cl (by omega)
      have h12 : ¬ (12 : Int32) ≤ nI pre.length := by
        rw [show (12 : Int32) = nI 12 from rfl, nI_leI (by omega) (by omega)]
        omega
      by_cases e : (rows A P t p).2.1 = -1
      · have et : trl A P (m + 1) t p = [] := if_pos e
        refine ⟨J, vc_X4_followTrail_18 ?_, ?_, ?_, hf⟩
        · rw [h90, hcl, e84, e, iI_m1]
          exact ⟨fun z => absurd z h12, fun _ => ⟨hin, fun _ => ⟨rfl, rfl, rfl⟩, fun z => absurd rfl z⟩⟩
        · rw [et, List.append_nil]; exact h90
        · rw [et, List.append_nil]; exact h91
      · obtain ⟨⟨f1, f2⟩, f3, f4⟩ := cv_from hV hPV hp e
        have et : trl A P (m + 1) t p = p :: trl A P m ((rows A P t p).2.2.1.toNat - 1) (rows A P t p).2.1.toNat := if_neg e
        obtain ⟨q, hq⟩ : ∃ q : Nat, (rows A P t p).2.1 = (q : Int) := ⟨(rows A P t p).2.1.toNat, by omega⟩
        obtain ⟨t0, ht0⟩ : ∃ t0 : Nat, (rows A P t p).2.2.1 = ((t0 + 1 : Nat) : Int) := ⟨(rows A P t p).2.2.1.toNat - 1, by omega⟩
        rw [hq, ht0, show ((t0 + 1 : Nat) : Int).toNat - 1 = t0 by omega, show ((q : Int)).toNat = q by omega] at et
        rw [hq] at f1 f2
        rw [ht0] at f3 f4
        have er : nI (7 * t + p) - nI (7 * t + p) / 7 * 7 = nI p := by
          have := pk_rem (a := 7 * t + p) (d := 7) (by omega) (by decide) (by decide)
          rw [show (7 * t + p) % 7 = p by omega] at this
          exact this
        obtain ⟨J1, hJ1⟩ : ∃ J1, J1 = up2 (up2 J 91 pre.length (nI p)) 90 3 (nI (pre.length + 1)) := ⟨_, rfl⟩
        have hA : ∀ i, i < (pre ++ [p]).length → J1 91 i = nI ((pre ++ [p]).getD i 0) := by
          intro i hi
          rw [hJ1, up2_p (by decide)]
          by_cases ei : i = pre.length
          · rw [ei, up2_s]
            simp
          · rw [up2_k ei]
            rw [List.length_append] at hi
            have hi : i < pre.length + 1 := hi
            have hi2 : i < pre.length := by omega
            rw [h91 i hi2]
            simp [List.getElem?_append_left hi2]
        have hB : ∀ a j, (a ≠ 90 ∨ j ≠ 3) → a ≠ 91 → J1 a j = I a j := by
          intro a j z1 z2
          rw [hJ1, up2_o' z1, up2_p z2]
          exact hf a j z1 z2
        obtain ⟨I', hw, g1, g2, g3⟩ := ih t0 q (pre ++ [p]) J1 (by rw [List.length_append]; show pre.length + 1 + m = 12; omega) (by omega) (by omega) (by omega) (by rw [hJ1, up2_s, List.length_append]; rfl) hA hB
        refine ⟨I', vc_X4_followTrail_18 ?_, ?_, ?_, g3⟩
        · rw [h90, hcl, e84, er, u_cl (n := pre.length) (by omega), up2_p (show (90 : Nat) ≠ 91 by decide), h90, nI_1, hq, iI_n, ← hJ1]
          refine ⟨fun z => absurd z h12, fun _ => ⟨hin, fun z => ((nI_nm1 (n := q) (by omega)).mp z).elim, fun _ => ⟨u_in (by omega) (by decide), fun I1 hI1 => ⟨hin, hin, fun z2 hz2 => ?_⟩⟩⟩⟩
          have e1 : I1 85 (7 * t + p) = nI (t0 + 1) := by rw [hI1, hJ1, up2_p (by decide), up2_p (by decide), e85, ht0, iI_n]
          have e2 : I1 84 (7 * t + p) = nI q := by rw [hI1, hJ1, up2_p (by decide), up2_p (by decide), e84, hq, iI_n]
          rw [e1, e2, nI_pred, ix7] at hz2
          rw [hz2, hI1]
          exact hw
        · rw [et, show pre ++ p :: trl A P m t0 q = (pre ++ [p]) ++ trl A P m t0 q by simp]; exact g1
        · rw [et, show pre ++ p :: trl A P m t0 q = (pre ++ [p]) ++ trl A P m t0 q by simp]; exact g2
  obtain ⟨I', hw, g1, g2, g3⟩ := loop 12 (A.1 0 0) p [] (up2 I 90 3 0) rfl h0 (Nat.le_refl _) hp (up2_s _ _ _ _) (fun i hi => absurd hi (by simp)) (fun a j z1 z2 => up2_o' z1)
  refine ⟨I', c0_X4_followTrail (vc_X4_followTrail_0 ?_), g1, g2, g3⟩
  have e1 : up2 I 90 3 0 12 1 = nI (A.1 0 0) := by rw [up2_p (by decide)]; exact h.1.1.1.2.1
  rw [e1, ix7]
  exact hw
theorem ce_tryAll (hR : RC A I 12 21) (hV : NV A) {T g : List Nat} (hl : T.length ≤ 12) (hT : ∀ q ∈ T, q < A.1 0 3) (h3 : I 90 3 = nI T.length) (h91 : ∀ i, i < T.length → I 91 i = nI (T.getD i 0)) (hg : Sg g) {n : Nat} (hn : n ≤ 4) (e0 : I 90 0 = nI (cE [])) (e1 : I 90 1 = nI 0) : ∃ I', q_C kX4_tryAll [.ref 90, .int (nI (cE g)), .int (nI n)] I L none I' L ∧ I' 90 0 = nI (cE (((spR n (4 ^ n)).filter (fun v => decide (T.foldr (hs A) v = g))).headD [])) ∧ I' 90 1 = nI ((spR n (4 ^ n)).filter (fun v => decide (T.foldr (hs A) v = g))).length ∧ (∀ a j, (a ≠ 90 ∨ j ≠ 0 ∧ j ≠ 1) → I' a j = I a j) := by
  have hp : 4 ^ n ≤ 4 ^ 4 := Nat.pow_le_pow_right (by decide) hn
  have hpe : 2 ^ (2 * n) = 4 ^ n := by rw [Nat.pow_mul]
  have hgl := hg.lt
  have hsh : (1 : Int32) <<< ((2 * nI n) &&& 31) = nI (4 ^ n) := by
    rw [show (2 : Int32) = nI 2 from rfl, u_mul, u_one (by omega), hpe]
  have lp := mloop (V := fun k I' J => v_X4_tryAll_2 none I' L J L (nI (cE g)) (nI n) (nI k)) (Inv := fun k J => J 90 0 = nI (cE (((spR n k).filter (fun v => decide (T.foldr (hs A) v = g))).headD [])) ∧ J 90 1 = nI ((spR n k).filter (fun v => decide (T.foldr (hs A) v = g))).length ∧ (∀ a j, (a ≠ 90 ∨ j ≠ 0 ∧ j ≠ 1) → J a j = I a j)) (n := 4 ^ n) (Q := fun I' => I' 90 0 = nI (cE (((spR n (4 ^ n)).filter (fun v => decide (T.foldr (hs A) v = g))).headD [])) ∧ I' 90 1 = nI ((spR n (4 ^ n)).filter (fun v => decide (T.foldr (hs A) v = g))).length ∧ (∀ a j, (a ≠ 90 ∨ j ≠ 0 ∧ j ≠ 1) → I' a j = I a j)) ?_ ?_ I ⟨e0, e1, fun _ _ _ => rfl⟩
  · obtain ⟨I', hw, hq⟩ := lp
    exact ⟨I', c0_X4_tryAll (vc_X4_tryAll_0 hw), hq⟩
  · intro J hJ
    refine ⟨J, vc_X4_tryAll_2 ?_, hJ⟩
    rw [hsh]
    exact ⟨fun _ => ⟨rfl, rfl, rfl⟩, fun z => absurd (nI_le (Nat.le_refl _) (by omega)) z⟩
  · rintro k J hk ⟨g0, g1, g2⟩
    have hRJ : RC A J 12 21 := RC_of (fun a j q => g2 a j (by omega)) hR
    have hS := splF_Sg (n := n) (c := k) (i := n) (by omega)
    have hfS := fold_Sg hV hS T hT
    have hfl := hfS.lt
    have cc := ct_carried (L := L) hRJ hV hl hT (by rw [g2 90 3 (by omega)]; exact h3) (fun i hi => by rw [g2 91 i (by omega)]; exact h91 i hi) hS
    have cs := ct_spelled (I := J) (L := L) (n := n) (c := k) hn (by omega)
    have hlen : ((spR n k).filter (fun v => decide (T.foldr (hs A) v = g))).length ≤ k := by
      have := List.length_filter_le (fun v => decide (T.foldr (hs A) v = g)) (spR n k)
      rw [spR_len] at this
      exact this
    by_cases hf : T.foldr (hs A) (splF n k n) = g
    · have ef : (spR n (k + 1)).filter (fun v => decide (T.foldr (hs A) v = g)) = (spR n k).filter (fun v => decide (T.foldr (hs A) v = g)) ++ [splF n k n] := filt_snoc _ _ _ (decide_eq_true hf)
      obtain ⟨K, hK⟩ : ∃ K, K = up2 (up2 J 90 0 (if ((spR n k).filter (fun v => decide (T.foldr (hs A) v = g))).length = 0 then nI (cE (splF n k n)) else J 90 0)) 90 1 (nI (((spR n k).filter (fun v => decide (T.foldr (hs A) v = g))).length + 1)) := ⟨_, rfl⟩
      refine ⟨K, ⟨?_, ?_, fun a j q => ?_⟩, fun I' hw => vc_X4_tryAll_2 ?_⟩
      · rw [hK, up2_k (by decide), up2_s, ef, hd_snoc]
        by_cases e : ((spR n k).filter (fun v => decide (T.foldr (hs A) v = g))).length = 0
        · rw [if_pos e, if_pos e]
        · rw [if_neg e, if_neg e]; exact g0
      · rw [hK, up2_s, ef, List.length_append]; rfl
      · rw [hK, up2_o' (by omega), up2_o' (by omega)]
        exact g2 a j q
      · rw [hsh]
        refine ⟨fun z => absurd z (nI_ge hk (by omega)), fun _ => ⟨_, cs, _, cc, fun _ => ?_, fun z => absurd (by rw [hf]) z⟩⟩
        rw [g1, u_0 (by omega), up2_k (show (1 : Nat) ≠ 0 by decide), up2_k (show (1 : Nat) ≠ 0 by decide), g1, nI_1, nI_1]
        refine ⟨fun z => ?_, fun z => ?_⟩
        · rw [if_pos z] at hK
          rw [← hK]; exact hw
        · rw [if_neg z] at hK
          rw [← hK]; exact hw
    · have ef : (spR n (k + 1)).filter (fun v => decide (T.foldr (hs A) v = g)) = (spR n k).filter (fun v => decide (T.foldr (hs A) v = g)) := filt_skip _ _ _ (decide_eq_false hf)
      refine ⟨J, ⟨by rw [ef]; exact g0, by rw [ef]; exact g1, g2⟩, fun I' hw => vc_X4_tryAll_2 ?_⟩
      rw [hsh]
      refine ⟨fun z => absurd z (nI_ge hk (by omega)), fun _ => ⟨_, cs, _, cc, fun z => absurd ?_ hf, fun _ => ?_⟩⟩
      · rw [u_eq (by omega) (by omega)] at z
        exact (hfS.cinj hg).mp z
      · rw [nI_1]; exact hw
theorem ce_seek (hR : RC A I 12 21) (hV : NV A) {a b : Nat} (ha : a < A.1 0 3) (hb : b < A.1 0 3) {g : List Nat} (hg : Sg g) (hne : g ≠ []) : ∃ I', q_C kX4_seek [.ref 90, .int (nI (cE g)), .int (nI a), .int (nI b)] I L none I' L ∧ I' 90 0 = nI (cE ((skF A a b g 4).headD [])) ∧ I' 90 1 = nI (skF A a b g 4).length ∧ FS I I' := by
  have h0 := hV.1.1
  have h3 := hV.1.2.2.2.1
  have h2a : 2 ^ a < 2 ^ 7 := Nat.pow_lt_pow_right (by decide) (by omega)
  have loop : ∀ m n J, n + m = 4 → J 90 0 = nI (cE ((skF A a b g n).headD [])) → J 90 1 = nI (skF A a b g n).length → FS I J → ∃ I', v_X4_seek_13 none I' L J L (nI (cE g)) (nI a) (nI b) (nI (n + 1)) ∧ I' 90 0 = nI (cE ((skF A a b g 4).headD [])) ∧ I' 90 1 = nI (skF A a b g 4).length ∧ FS I I' := by
    intro m
    induction m with
    | zero =>
      intro n J hn e0 e1 hf
      have e : n = 4 := by omega
      subst e
      exact ⟨J, vc_X4_seek_13 ⟨fun _ => ⟨rfl, rfl, rfl⟩, fun z => absurd (by decide) z⟩, e0, e1, hf⟩
    | succ m ih =>
      intro n J hn e0 e1 hf
      have hle := skF_le A a b g n (by omega)
      have h4 : ¬ (4 : Int32) < nI (n + 1) := by
        rw [show (4 : Int32) = nI 4 from rfl, nI_ltI (by omega) (by omega)]
        omega
      by_cases hw0 : (skF A a b g n).length = 0
      · have hnil : skF A a b g n = [] := List.length_eq_zero_iff.mp hw0
        rw [hnil] at e0 e1
        have hRJ := hf.RC hR
        have hS0 := splF_Sg (n := n + 1) (c := 0) (i := n + 1) (by omega)
        have hl0 := splF_len (n + 1) 0 (n + 1)
        have hne0 : splF (n + 1) 0 (n + 1) ≠ [] := fun q => by rw [q] at hl0; cases hl0
        obtain ⟨I1, c1, hP1, hf1⟩ := ce_tellAlone (L := L) hRJ (2 ^ a) (splF (n + 1) 0 (n + 1))
        obtain ⟨I2, c2, h2, hf2⟩ := tr_run (L := L) (hf1.RC hRJ) hV hP1 (PV_Pal hV h2a hS0 hne0)
        have hf12 := hf1.tr hf2.t
        have hfI := hf.tr hf12.s
        have hR2 := hfI.RC hR
        have e12 : I2 12 1 = nI (A.1 0 0) := hR2.1.2.1
        have esay : I2 83 (7 * A.1 0 0 + b) = nI (cE (rows A (Pal A (2 ^ a) (splF (n + 1) 0 (n + 1))) (A.1 0 0) b).1) := by
          have := (h2.says (Nat.le_refl _) hb).1
          rw [Nat.mul_comm] at this
          exact this
        have hcv := (h2.cv (t := A.1 0 0) hb).1
        have hcl := hcv.1
        have hgl := hg.1
        have shp : ∀ x ∈ spR (n + 1) (4 ^ (n + 1)), (rows A (Pal A (2 ^ a) x) (A.1 0 0) b).1.length = (rows A (Pal A (2 ^ a) (splF (n + 1) 0 (n + 1))) (A.1 0 0) b).1.length ∧ x.length = (splF (n + 1) 0 (n + 1)).length := fun x hx => by
          obtain ⟨c, -, rfl⟩ := spR_mem hx
          have hlx : (splF (n + 1) c (n + 1)).length = (splF (n + 1) 0 (n + 1)).length := by rw [splF_len, splF_len]
          exact ⟨(Shp_rows hlx (A.1 0 0) b).1, hlx⟩
        have go : ∀ K X, (((rows A (Pal A (2 ^ a) (splF (n + 1) 0 (n + 1))) (A.1 0 0) b).1.length = g.length → ∃ I8, q_C kX4_followTrail [.ref 90, .int (nI b)] I2 L none I8 L ∧ ∃ I9, q_C kX4_tryAll [.ref 90, .int (nI (cE g)), .int (nI (n + 1))] I8 L none I9 L ∧ v_X4_seek_13 none X L I9 L (nI (cE g)) (nI a) (nI b) (nI (n + 1 + 1))) ∧ (¬ (rows A (Pal A (2 ^ a) (splF (n + 1) 0 (n + 1))) (A.1 0 0) b).1.length = g.length → v_X4_seek_13 none X L I2 L (nI (cE g)) (nI a) (nI b) (nI (n + 1 + 1)))) → K = J → v_X4_seek_13 none X L J L (nI (cE g)) (nI a) (nI b) (nI (n + 1)) := by
          intro K X hh _
          refine vc_X4_seek_13 ⟨fun z => absurd z h4, fun _ => ⟨fun _ => ⟨_, ct_spelled (n := n + 1) (c := 0) (by omega) (by decide), I1, by rw [u_one (by omega)]; exact c1, _, I2, c2, ?_⟩, fun z => absurd (by rw [e1]; rfl) z⟩⟩
          rw [e12, ix7, u_cl (by omega)]
          refine ⟨u_in (by omega) (by decide), fun z5 h5 => ?_⟩
          rw [esay] at h5
          rw [h5]
          refine ⟨_, ct_size hcv, _, ct_size hg, ?_⟩
          rw [u_eq (by omega) (by omega), nI_1]
          exact hh
        by_cases hlen : (rows A (Pal A (2 ^ a) (splF (n + 1) 0 (n + 1))) (A.1 0 0) b).1.length = g.length
        · obtain ⟨I8, c8, t1, t2, t3⟩ := ce_followTrail (L := L) h2 hb
          have hR8 : RC A I8 12 21 := RC_of (fun x j q => t3 x j (by omega) (by omega)) hR2
          have hTl := trl_len A (Pal A (2 ^ a) (splF (n + 1) 0 (n + 1))) 12 (A.1 0 0) b
          have hTq := trl_lt hV (PV_Pal hV h2a hS0 hne0) 12 (A.1 0 0) b hb
          obtain ⟨I9, c9, u0, u1, u2⟩ := ce_tryAll (L := L) hR8 hV hTl hTq t1 t2 hg (n := n + 1) (by omega) (by rw [t3 90 0 (by omega) (by decide), hf12 90 0 (by omega)]; exact e0) (by rw [t3 90 1 (by omega) (by decide), hf12 90 1 (by omega)]; exact e1)
          have ehit : (spR (n + 1) (4 ^ (n + 1))).filter (fun v => decide ((trl A (Pal A (2 ^ a) (splF (n + 1) 0 (n + 1))) 12 (A.1 0 0) b).foldr (hs A) v = g)) = skF A a b g (n + 1) := by
            rw [skF_go hw0]
            refine List.filter_congr (fun x hx => ?_)
            obtain ⟨s1, s2⟩ := shp x hx
            have hlit : (rows A (Pal A (2 ^ a) x) (A.1 0 0) b).1 ≠ [] := fun q => by
              rw [q, hlen] at s1
              exact hne (List.length_eq_zero_iff.mp s1.symm)
            have hval := trl_val (A := A) (s := 2 ^ a) (v := x) 12 (A.1 0 0) b h0 hlit
            rw [trl_shp s2] at hval
            unfold fdB
            rw [hval]
          rw [ehit] at u0 u1
          obtain ⟨I', hw, r0, r1, r2⟩ := ih (n + 1) I9 (by omega) u0 u1 (hfI.tr (fun x j q => by rw [u2 x j (by omega), t3 x j (by omega) (by omega)]))
          exact ⟨I', go J I' ⟨fun _ => ⟨I8, c8, I9, c9, hw⟩, fun z => absurd hlen z⟩ rfl, r0, r1, r2⟩
        · have ehit : skF A a b g (n + 1) = [] := by
            rw [skF_go hw0, List.filter_eq_nil_iff]
            intro x hx
            obtain ⟨s1, -⟩ := shp x hx
            unfold fdB
            rw [decide_eq_true_iff]
            intro q
            rw [q] at s1
            exact hlen s1.symm
          obtain ⟨I', hw, r0, r1, r2⟩ := ih (n + 1) I2 (by omega) (by rw [ehit, hf12 90 0 (by omega)]; exact e0) (by rw [ehit, hf12 90 1 (by omega)]; exact e1) hfI
          exact ⟨I', go J I' ⟨fun z => absurd z hlen, fun _ => hw⟩ rfl, r0, r1, r2⟩
      · have hst := skF_stay hw0 (m + 1)
        rw [hn] at hst
        refine ⟨J, vc_X4_seek_13 ⟨fun z => absurd z h4, fun _ => ⟨fun z => ?_, fun _ => ⟨rfl, rfl, rfl⟩⟩⟩, by rw [hst]; exact e0, by rw [hst]; exact e1, hf⟩
        rw [e1, u_0 (by omega)] at z
        exact absurd z hw0
  obtain ⟨I', hw, r0, r1, r2⟩ := loop 4 0 (up2 (up2 I 90 0 0) 90 1 0) rfl (by rw [up2_k (by decide), up2_s]; rfl) (by rw [up2_s]; rfl) (fun x j q => by rw [up2_p (by omega), up2_p (by omega)])
  exact ⟨I', c0_X4_seek (vc_X4_seek_0 hw), r0, r1, r2⟩
/-! the reference -/
def PMv (A : Nt) (s : Nat) (J : Nat → Nat → Int32) : Prop := J 96 16 = nI (A.1 0 1) ∧ J 96 15 = nI 0 ∧ J 96 17 = nI 0 ∧ J 96 20 = iI (-1) ∧ J 96 21 = iI (-1) ∧ J 96 22 = iI (-1) ∧ J 96 23 = iI (-1) ∧ J 96 18 = nI s
theorem PMv_of {s : Nat} {J J' : Nat → Nat → Int32} (h : ∀ k, k ≠ 19 → k < 24 → J' 96 k = J 96 k) (hP : PMv A s J) : PMv A s J' := by
  unfold PMv
  rw [h 16 (by decide) (by decide), h 15 (by decide) (by decide), h 17 (by decide) (by decide), h 20 (by decide) (by decide), h 21 (by decide) (by decide), h 22 (by decide) (by decide), h 23 (by decide) (by decide), h 18 (by decide) (by decide)]
  exact hP
theorem PMv_w {s : Nat} {J : Nat → Nat → Int32} (h : PMv A s J) (w : List Nat) : PMd (Pal A s w) (up2 J 96 19 (nI (mE w))) := ⟨(up2_k (by decide)).trans h.1, (up2_k (by decide)).trans h.2.1, (up2_k (by decide)).trans h.2.2.1, (up2_k (by decide)).trans h.2.2.2.1, (up2_k (by decide)).trans h.2.2.2.2.1, (up2_k (by decide)).trans h.2.2.2.2.2.1, (up2_k (by decide)).trans h.2.2.2.2.2.2.1, fun z => absurd z (by show ¬ true = false; decide), fun _ => ⟨(up2_k (by decide)).trans h.2.2.2.2.2.2.2, up2_s _ _ _ _⟩⟩
theorem cm_isSaying {v : Nat} (hv : v < 625) : q_C kX12_isSaying [.ref 96, .int (nI v)] I L (some (.int (if isB 4 v = true then 1 else 0))) I L := by
  have loop : ∀ m v, v < 5 ^ m → v < 625 → v_X12_isSaying_2 (some (.int (if isB m v = true then 1 else 0))) I L I L (nI v) := by
    intro m
    induction m with
    | zero =>
      intro v hv _
      have e : v = 0 := by
        have : v < 1 := hv
        omega
      subst e
      exact vc_X12_isSaying_2 ⟨fun _ => ⟨rfl, rfl, rfl⟩, fun z => absurd (by decide) z⟩
    | succ m ih =>
      intro v hv hv2
      by_cases e : v = 0
      · subst e
        exact vc_X12_isSaying_2 ⟨fun _ => ⟨rfl, rfl, rfl⟩, fun z => absurd (by decide) z⟩
      · refine vc_X12_isSaying_2 ⟨fun z => absurd z (nI_nle (by omega) (by omega)), fun _ => ?_⟩
        rw [u_rem5 (by omega), u_div5 (by omega), u_0 (by omega)]
        have hp : 5 ^ (m + 1) = 5 * 5 ^ m := by rw [Nat.pow_succ]; omega
        have eb : isB (m + 1) v = if v % 5 = 0 then false else isB m (v / 5) := if_neg e
        rw [eb]
        refine ⟨fun z => ?_, fun z => ?_⟩
        · rw [if_pos z]; exact ⟨rfl, rfl, rfl⟩
        · rw [if_neg z]; exact ih (v / 5) (by omega) (by omega)
  exact c0_X12_isSaying (vc_X12_isSaying_0 (loop 4 v hv hv))
theorem cm_layFirst (hR : RM A I 97 0) (hV : NV A) {a b : Nat} (ha : a < A.1 0 3) (hb : b < A.1 0 3) {g : List Nat} (hg : Sg g) (h28 : I 96 28 = nI (mE g)) : ∃ I', q_C kX12_layFirst [.ref 96, .int (nI a), .int (nI b)] I L none I' L ∧ Mq I I' ∧ I' 96 29 = nI (mE ((skF A a b g 4).headD [])) ∧ I' 96 30 = nI (skF A a b g 4).length := by
  have h0 := hV.1.1
  have h3 := hV.1.2.2.2.1
  have hgl := hg.mlt
  have h2a : 2 ^ a < 2 ^ 7 := Nat.pow_lt_pow_right (by decide) (by omega)
  have hIa : Mq I (up2 (up2 I 96 29 0) 96 30 0) := fun x j q => by rw [up2_o' (by omega), up2_o' (by omega)]
  obtain ⟨I0, c0, hP0, -, hf0⟩ := ce_asItIs (L := L) (RM_of (fun k => hIa 97 k (by omega)) hR)
  have hM0 : Mq I (up2 I0 96 18 (nI (2 ^ a))) := (hIa.tr (fun x j q => hf0 x j (by omega))).tr (fun x j q => up2_o' (by omega))
  have hPv0 : PMv A (2 ^ a) (up2 I0 96 18 (nI (2 ^ a))) := ⟨(up2_k (by decide)).trans hP0.1, (up2_k (by decide)).trans hP0.2.1, (up2_k (by decide)).trans hP0.2.2.1, (up2_k (by decide)).trans hP0.2.2.2.1, (up2_k (by decide)).trans hP0.2.2.2.2.1, (up2_k (by decide)).trans hP0.2.2.2.2.2.1, (up2_k (by decide)).trans hP0.2.2.2.2.2.2.1, up2_s _ _ _ _⟩
  -- all of one length
  have inner : ∀ n J, n < 4 → Mq I J → PMv A (2 ^ a) J → J 96 28 = nI (mE g) → J 96 29 = nI (mE []) → J 96 30 = nI 0 → ∃ K, (∀ X, v_X12_layFirst_26 none X L K L (nI b) (nI (5 ^ (n + 1) * 5)) (nI (n + 1 + 1)) → v_X12_layFirst_44 none X L J L (nI b) (nI (5 ^ (n + 1))) (nI (n + 1)) (nI (5 ^ n))) ∧ Mq I K ∧ PMv A (2 ^ a) K ∧ K 96 28 = nI (mE g) ∧ K 96 29 = nI (mE (((spR (n + 1) (4 ^ (n + 1))).filter (fdB A a b g)).headD [])) ∧ K 96 30 = nI ((spR (n + 1) (4 ^ (n + 1))).filter (fdB A a b g)).length := by
    intro n J hn hMJ hPJ e28 e29 e30
    have hpn : 5 ^ n ≤ 5 ^ 3 := Nat.pow_le_pow_right (by decide) (by omega)
    have hpp : 1 ≤ 5 ^ n := Nat.one_le_pow _ _ (by decide)
    have hps : 5 ^ (n + 1) = 5 * 5 ^ n := by rw [Nat.pow_succ]; omega
    rw [← vl_sp n hn]
    refine mloop (V := fun k K J => ∀ X, v_X12_layFirst_26 none X L K L (nI b) (nI (5 ^ (n + 1) * 5)) (nI (n + 1 + 1)) → v_X12_layFirst_44 none X L J L (nI b) (nI (5 ^ (n + 1))) (nI (n + 1)) (nI (5 ^ n + k))) (Inv := fun k J => Mq I J ∧ PMv A (2 ^ a) J ∧ J 96 28 = nI (mE g) ∧ J 96 29 = nI (mE (((vlR (5 ^ n) k).filter (fdB A a b g)).headD [])) ∧ J 96 30 = nI ((vlR (5 ^ n) k).filter (fdB A a b g)).length ∧ ((vlR (5 ^ n) k).filter (fdB A a b g)).length ≤ k) (n := 4 * 5 ^ n) (Q := fun K => Mq I K ∧ PMv A (2 ^ a) K ∧ K 96 28 = nI (mE g) ∧ K 96 29 = nI (mE (((vlR (5 ^ n) (4 * 5 ^ n)).filter (fdB A a b g)).headD [])) ∧ K 96 30 = nI ((vlR (5 ^ n) (4 * 5 ^ n)).filter (fdB A a b g)).length) ?_ ?_ J ⟨hMJ, hPJ, e28, e29, e30, Nat.le_refl _⟩
    · rintro J ⟨g1, g2, g3, g4, g5, -⟩
      refine ⟨J, fun X hw => vc_X12_layFirst_44 ⟨fun _ => ?_, fun z => absurd (nI_le (by omega) (by omega)) z⟩, g1, g2, g3, g4, g5⟩
      rw [show (5 : Int32) = nI 5 from rfl, u_mul, nI_1]
      exact hw
    · rintro k J hk ⟨g1, g2, g3, g4, g5, g6⟩
      have hRJ : RM A J 97 0 := RM_of (fun j => g1 97 j (by omega)) hR
      have hv : 5 ^ n + k < 625 := by omega
      have cs := cm_isSaying (I := J) (L := L) hv
      have hnl : ¬ nI (5 ^ (n + 1)) ≤ nI (5 ^ n + k) := nI_ge (by omega) (by omega)
      by_cases hB : isB 4 (5 ^ n + k) = true
      · obtain ⟨d1, d2, d3, d4⟩ := dg_ok (5 ^ n + k) hv (by omega) hB
        have hSd : Sg (dgF 4 (5 ^ n + k)) := ⟨by omega, d4⟩
        have hMu : Mq J (up2 J 96 19 (nI (5 ^ n + k))) := fun x j q => up2_o' (by omega)
        have hPd := PMv_w g2 (dgF 4 (5 ^ n + k))
        rw [d1] at hPd
        obtain ⟨I2, c2, h2, hf2⟩ := tr_go (L := L) (RM_of (fun j => hMu 97 j (by omega)) hRJ) hV hPd (PV_Pal hV h2a hSd d3) (fun z => absurd rfl z)
        have hM2 : Mq I I2 := (g1.tr hMu).tr hf2.q
        have hP2 : PMv A (2 ^ a) I2 := PMv_of (fun j hj _ => by rw [hf2 96 j (by omega), up2_k hj]) g2
        have k28 : I2 96 28 = nI (mE g) := by rw [hf2 96 28 (by omega), up2_k (by decide)]; exact g3
        have k29 : I2 96 29 = nI (mE (((vlR (5 ^ n) k).filter (fdB A a b g)).headD [])) := by rw [hf2 96 29 (by omega), up2_k (by decide)]; exact g4
        have k30 : I2 96 30 = nI ((vlR (5 ^ n) k).filter (fdB A a b g)).length := by rw [hf2 96 30 (by omega), up2_k (by decide)]; exact g5
        have hcv := (h2.cv (t := A.1 0 0) hb).1
        have hml := hcv.mlt
        have ev : vlR (5 ^ n) (k + 1) = vlR (5 ^ n) k ++ [dgF 4 (5 ^ n + k)] := by
          show vlR (5 ^ n) k ++ (if isB 4 (5 ^ n + k) = true then [dgF 4 (5 ^ n + k)] else []) = _
          rw [if_pos hB]
        have pre : ∀ X, ((rows A (Pal A (2 ^ a) (dgF 4 (5 ^ n + k))) (A.1 0 0) b).1 = g → ((((vlR (5 ^ n) k).filter (fdB A a b g)).length = 0 → v_X12_layFirst_44 none X L (up2 (up2 I2 96 29 (nI (5 ^ n + k))) 96 30 (nI (((vlR (5 ^ n) k).filter (fdB A a b g)).length + 1))) L (nI b) (nI (5 ^ (n + 1))) (nI (n + 1)) (nI (5 ^ n + (k + 1)))) ∧ (¬ ((vlR (5 ^ n) k).filter (fdB A a b g)).length = 0 → v_X12_layFirst_44 none X L (up2 (up2 I2 96 29 (I2 96 29)) 96 30 (nI (((vlR (5 ^ n) k).filter (fdB A a b g)).length + 1))) L (nI b) (nI (5 ^ (n + 1))) (nI (n + 1)) (nI (5 ^ n + (k + 1)))))) → (¬ (rows A (Pal A (2 ^ a) (dgF 4 (5 ^ n + k))) (A.1 0 0) b).1 = g → v_X12_layFirst_44 none X L I2 L (nI b) (nI (5 ^ (n + 1))) (nI (n + 1)) (nI (5 ^ n + (k + 1)))) → v_X12_layFirst_44 none X L J L (nI b) (nI (5 ^ (n + 1))) (nI (n + 1)) (nI (5 ^ n + k)) := by
          intro X w1 w2
          refine vc_X12_layFirst_44 ⟨fun z => absurd z hnl, fun _ => ⟨_, cs, ?_⟩⟩
          rw [if_pos hB]
          refine ⟨fun z => absurd z (by decide), fun _ => ⟨I2, c2, _, ct_hours h2.1.1, _, mq_says h2 (Nat.le_refl _) hb, ?_⟩⟩
          rw [k28, u_eq (by omega) (by omega), hcv.minj hg, k30, u_0 (by omega), up2_k (show (30 : Nat) ≠ 29 by decide), up2_k (show (30 : Nat) ≠ 29 by decide), k30, nI_1, nI_1]
          refine ⟨fun z => ⟨fun z2 => (w1 z).1 z2, fun z2 I5 h5 => ?_⟩, fun z => w2 z⟩
          rw [h5]
          exact (w1 z).2 z2
        by_cases hF : (rows A (Pal A (2 ^ a) (dgF 4 (5 ^ n + k))) (A.1 0 0) b).1 = g
        · have ef : (vlR (5 ^ n) (k + 1)).filter (fdB A a b g) = (vlR (5 ^ n) k).filter (fdB A a b g) ++ [dgF 4 (5 ^ n + k)] := by rw [ev]; exact filt_snoc _ _ _ (decide_eq_true hF)
          obtain ⟨K, hK⟩ : ∃ K, K = up2 (up2 I2 96 29 (if ((vlR (5 ^ n) k).filter (fdB A a b g)).length = 0 then nI (5 ^ n + k) else I2 96 29)) 96 30 (nI (((vlR (5 ^ n) k).filter (fdB A a b g)).length + 1)) := ⟨_, rfl⟩
          refine ⟨K, ⟨hM2.tr (fun x j q => by rw [hK, up2_o' (by omega), up2_o' (by omega)]), PMv_of (fun j _ hj => by rw [hK, up2_k (by omega), up2_k (by omega)]) hP2, by rw [hK, up2_k (by decide), up2_k (by decide)]; exact k28, ?_, ?_, ?_⟩, fun X hX Y hw => pre Y (fun _ => ⟨fun z => ?_, fun z => ?_⟩) (fun z => absurd hF z)⟩
          · rw [hK, up2_k (by decide), up2_s, ef, hd_snoc]
            by_cases e : ((vlR (5 ^ n) k).filter (fdB A a b g)).length = 0
            · rw [if_pos e, if_pos e, d1]
            · rw [if_neg e, if_neg e]; exact k29
          · rw [hK, up2_s, ef, List.length_append]; rfl
          · rw [ef, List.length_append]; show _ + 1 ≤ k + 1; omega
          · rw [if_pos z] at hK
            rw [← hK]; exact hX Y hw
          · rw [if_neg z] at hK
            rw [← hK]; exact hX Y hw
        · have ef : (vlR (5 ^ n) (k + 1)).filter (fdB A a b g) = (vlR (5 ^ n) k).filter (fdB A a b g) := by rw [ev]; exact filt_skip _ _ _ (decide_eq_false hF)
          exact ⟨I2, ⟨hM2, hP2, k28, by rw [ef]; exact k29, by rw [ef]; exact k30, by rw [ef]; omega⟩, fun X hX Y hw => pre Y (fun z => absurd z hF) (fun _ => hX Y hw)⟩
      · have ev : vlR (5 ^ n) (k + 1) = vlR (5 ^ n) k := by
          show vlR (5 ^ n) k ++ (if isB 4 (5 ^ n + k) = true then [dgF 4 (5 ^ n + k)] else []) = _
          rw [if_neg hB, List.append_nil]
        refine ⟨J, ⟨g1, g2, g3, by rw [ev]; exact g4, by rw [ev]; exact g5, by rw [ev]; omega⟩, fun X hX Y hw => vc_X12_layFirst_44 ⟨fun z => absurd z hnl, fun _ => ⟨_, cs, ?_⟩⟩⟩
        rw [if_neg hB, nI_1]
        exact ⟨fun _ => hX Y hw, fun z => absurd rfl z⟩
  have loop : ∀ m n J, n + m = 4 → Mq I J → PMv A (2 ^ a) J → J 96 28 = nI (mE g) → J 96 29 = nI (mE ((skF A a b g n).headD [])) → J 96 30 = nI (skF A a b g n).length → ∃ I', v_X12_layFirst_26 none I' L J L (nI b) (nI (5 ^ (n + 1))) (nI (n + 1)) ∧ Mq I I' ∧ I' 96 29 = nI (mE ((skF A a b g 4).headD [])) ∧ I' 96 30 = nI (skF A a b g 4).length := by
    intro m
    induction m with
    | zero =>
      intro n J hn hMJ hPJ e28 e29 e30
      have e : n = 4 := by omega
      subst e
      exact ⟨J, vc_X12_layFirst_26 ⟨fun _ => ⟨rfl, rfl, rfl⟩, fun z => absurd (by decide) z⟩, hMJ, e29, e30⟩
    | succ m ih =>
      intro n J hn hMJ hPJ e28 e29 e30
      have hle := skF_le A a b g n (by omega)
      have h4 : ¬ (4 : Int32) < nI (n + 1) := by
        rw [show (4 : Int32) = nI 4 from rfl, nI_ltI (by omega) (by omega)]
        omega
      have hpn : 5 ^ n ≤ 5 ^ 3 := Nat.pow_le_pow_right (by decide) (by omega)
      have hps : 5 ^ (n + 1) = 5 * 5 ^ n := by rw [Nat.pow_succ]; omega
      by_cases hw0 : (skF A a b g n).length = 0
      · have hnil : skF A a b g n = [] := List.length_eq_zero_iff.mp hw0
        rw [hnil] at e29 e30
        obtain ⟨K, hK, q1, q2, q3, q4, q5⟩ := inner n J (by omega) hMJ hPJ e28 e29 e30
        rw [← skF_go hw0] at q4 q5
        obtain ⟨I', hw, r1, r2, r3⟩ := ih (n + 1) K (by omega) q1 q2 q3 q4 q5
        refine ⟨I', vc_X12_layFirst_26 ⟨fun z => absurd z h4, fun _ => ⟨fun _ => ?_, fun z => absurd (by rw [e30]; rfl) z⟩⟩, r1, r2, r3⟩
        rw [u_div5 (by omega), show 5 ^ (n + 1) / 5 = 5 ^ n by omega]
        exact hK I' (by rw [← Nat.pow_succ]; exact hw)
      · have hst := skF_stay hw0 (m + 1)
        rw [hn] at hst
        refine ⟨J, vc_X12_layFirst_26 ⟨fun z => absurd z h4, fun _ => ⟨fun z => ?_, fun _ => ⟨rfl, rfl, rfl⟩⟩⟩, hMJ, by rw [hst]; exact e29, by rw [hst]; exact e30⟩
        rw [e30, u_0 (by omega)] at z
        exact absurd z hw0
  obtain ⟨I', hw, r1, r2, r3⟩ := loop 4 0 (up2 I0 96 18 (nI (2 ^ a))) rfl hM0 hPv0 (by rw [up2_k (by decide), hf0 96 28 (by omega), up2_k (by decide), up2_k (by decide)]; exact h28) (by rw [up2_k (by decide), hf0 96 29 (by omega), up2_k (by decide), up2_s]; rfl) (by rw [up2_k (by decide), hf0 96 30 (by omega), up2_s]; rfl)
  refine ⟨I', c0_X12_layFirst (vc_X12_layFirst_0 ⟨I0, c0, ?_⟩), r1, r2, r3⟩
  rw [u_one (by omega)]
  exact hw
end FC
section FQ
variable {Z : St} {I : Nat → Nat → Int32} {L : Nat → Nat → Int64}
theorem cq_seek (hr : RelC Z I L) {x a b : Int32} (hh : rfs Z x a b = 0) : ∃ I', q_C kX4_seek [.ref 90, .int (nI (cE (slS Z x))), .int a, .int b] I L none I' L ∧ I' 90 0 = nI (cE ((skF Z.1 a.toNatClampNeg b.toNatClampNeg (slS Z x) 4).headD [])) ∧ I' 90 1 = nI (skF Z.1 a.toNatClampNeg b.toNatClampNeg (slS Z x) 4).length ∧ FS I I' := by
  obtain ⟨h1, h2, h3, h4, h5⟩ := rfs_0 hh
  have hV := hr.1.1.2
  have h3' := hV.1.2.2.2.1
  obtain ⟨p, hp, ha⟩ := xPew hV h2
  obtain ⟨q, hq, hb⟩ := xPew hV h3
  subst ha
  subst hb
  rw [u_cl (n := p) (by omega), u_cl (n := q) (by omega)]
  exact ce_seek hr.1.1.1 hV hp hq (slS_Sg Z x) h5
theorem cm_askFirst (hr : RelM Z I L) (x a b : Int32) : ∃ I', q_C kX12_askFirst [.ref 96, .int x, .int a, .int b] I L (some (.int (rfs Z x a b))) I' L ∧ Mq I I' ∧ (rfs Z x a b = 0 → I' 96 29 = nI (mE ((skF Z.1 a.toNatClampNeg b.toNatClampNeg (slS Z x) 4).headD [])) ∧ I' 96 30 = nI (skF Z.1 a.toNatClampNeg b.toNatClampNeg (slS Z x) 4).length) := by
  obtain ⟨I1, c1, hf1, h28⟩ := ce_askRow hr x a b
  by_cases hh : rfs Z x a b = 0
  · obtain ⟨h1, h2, h3, h4, h5⟩ := rfs_0 hh
    have hV := hr.1.2
    have h3' := hV.1.2.2.2.1
    obtain ⟨p, hp, ha⟩ := xPew hV h2
    obtain ⟨q, hq, hb⟩ := xPew hV h3
    subst ha
    subst hb
    rw [u_cl (n := p) (by omega), u_cl (n := q) (by omega)]
    obtain ⟨I2, c2, hM2, r1, r2⟩ := cm_layFirst (L := L) (RM_of (fun k => hf1 97 k (by omega)) hr.1.1) hV hp hq (slS_Sg Z x) (h28 hh)
    exact ⟨I2, c0_X12_askFirst (vc_X12_askFirst_0 ⟨_, I1, c1, fun _ => ⟨I2, c2, rfl, rfl, rfl⟩, fun z => absurd hh z⟩), (Mq_28 hf1).tr hM2, fun _ => ⟨r1, r2⟩⟩
  · exact ⟨I1, c0_X12_askFirst (vc_X12_askFirst_0 ⟨_, I1, c1, fun z => absurd z hh, fun _ => ⟨rfl, rfl, rfl⟩⟩), Mq_28 hf1, fun z => absurd z hh⟩
end FQ
theorem q_first (Z : St) (x a b : Int32) : ∃ v, Q2 Z Z kX11_first kX12_first [.int x, .int a, .int b] (.int v) := by
  by_cases hh : rfs Z x a b = 0
  · obtain ⟨h1, h2, h3, h4, h5⟩ := rfs_0 hh
    have hle := skF_le Z.1 a.toNatClampNeg b.toNatClampNeg (slS Z x) 4 (by decide)
    have hS := hd_Sg (skF_Sg Z.1 a.toNatClampNeg b.toNatClampNeg (slS Z x) 4 (by decide))
    refine ⟨if (skF Z.1 a.toNatClampNeg b.toNatClampNeg (slS Z x) 4).length = 0 then -1 else nI ((skF Z.1 a.toNatClampNeg b.toNatClampNeg (slS Z x) 4).headD []).length, QC_q fun I L hr => ?_, QM_q fun I L hr => ?_⟩
    · obtain ⟨I1, c1, e0, e1, hf⟩ := cq_seek hr hh
      refine ⟨I1, c0_X11_first (vc_X11_first_0 ⟨_, ct_refusal hr.1 x a b, fun _ => ⟨_, ct_sayingS hr.1 h1 h4, I1, c1, ?_⟩, fun z => absurd hh z⟩), hf.rel hr⟩
      rw [e1, e0, u_0 (by omega)]
      refine ⟨fun z => ?_, fun z => ⟨_, ct_size hS, ?_⟩⟩
      · rw [if_pos z]; exact ⟨rfl, rfl, rfl⟩
      · rw [if_neg z]; exact ⟨rfl, rfl, rfl⟩
    · obtain ⟨I1, c1, hM1, hq⟩ := cm_askFirst hr x a b
      obtain ⟨e0, e1⟩ := hq hh
      refine ⟨I1, c0_X12_first (vc_X12_first_0 ⟨_, I1, c1, fun _ => ?_, fun z => absurd (by rw [hh]; decide) z⟩), hM1⟩
      rw [e1, e0, u_0 (by omega)]
      refine ⟨fun z => ?_, fun z => ⟨_, ct_longOf hS, ?_⟩⟩
      · rw [if_pos z]; exact ⟨rfl, rfl, rfl⟩
      · rw [if_neg z]; exact ⟨rfl, rfl, rfl⟩
  · refine ⟨rfs Z x a b, QC_q fun I L hr => ⟨I, c0_X11_first (vc_X11_first_0 ⟨_, ct_refusal hr.1 x a b, fun z => absurd z hh, fun _ => ⟨rfl, rfl, rfl⟩⟩), Fq.rf, hr.2.1, hr.2.2⟩, QM_q fun I L hr => ?_⟩
    obtain ⟨I1, c1, hM1, -⟩ := cm_askFirst hr x a b
    exact ⟨I1, c0_X12_first (vc_X12_first_0 ⟨_, I1, c1, fun z => absurd z (rfs_neg hh), fun _ => ⟨rfl, rfl, rfl⟩⟩), hM1⟩
theorem q_ways (Z : St) (x a b : Int32) : ∃ v, Q2 Z Z kX11_ways kX12_ways [.int x, .int a, .int b] (.int v) := by
  by_cases hh : rfs Z x a b = 0
  · obtain ⟨h1, h2, h3, h4, h5⟩ := rfs_0 hh
    refine ⟨nI (skF Z.1 a.toNatClampNeg b.toNatClampNeg (slS Z x) 4).length, QC_q fun I L hr => ?_, QM_q fun I L hr => ?_⟩
    · obtain ⟨I1, c1, e0, e1, hf⟩ := cq_seek hr hh
      exact ⟨I1, c0_X11_ways (vc_X11_ways_0 ⟨_, ct_refusal hr.1 x a b, fun _ => ⟨_, ct_sayingS hr.1 h1 h4, I1, c1, by rw [e1], rfl, rfl⟩, fun z => absurd hh z⟩), hf.rel hr⟩
    · obtain ⟨I1, c1, hM1, hq⟩ := cm_askFirst hr x a b
      obtain ⟨e0, e1⟩ := hq hh
      exact ⟨I1, c0_X12_ways (vc_X12_ways_0 ⟨_, I1, c1, fun _ => ⟨by rw [e1], rfl, rfl⟩, fun z => absurd (by rw [hh]; decide) z⟩), hM1⟩
  · refine ⟨rfs Z x a b, QC_q fun I L hr => ⟨I, c0_X11_ways (vc_X11_ways_0 ⟨_, ct_refusal hr.1 x a b, fun z => absurd z hh, fun _ => ⟨rfl, rfl, rfl⟩⟩), Fq.rf, hr.2.1, hr.2.2⟩, QM_q fun I L hr => ?_⟩
    obtain ⟨I1, c1, hM1, -⟩ := cm_askFirst hr x a b
    exact ⟨I1, c0_X12_ways (vc_X12_ways_0 ⟨_, I1, c1, fun z => absurd z (rfs_neg hh), fun _ => ⟨rfl, rfl, rfl⟩⟩), hM1⟩
theorem q_letter (Z : St) (x a b i : Int32) : ∃ v, Q2 Z Z kX11_letter kX12_letter [.int x, .int a, .int b, .int i] (.int v) := by
  by_cases hi : 0 ≤ i
  · by_cases hh : rfs Z x a b = 0
    · obtain ⟨h1, h2, h3, h4, h5⟩ := rfs_0 hh
      have hS := hd_Sg (skF_Sg Z.1 a.toNatClampNeg b.toNatClampNeg (slS Z x) 4 (by decide))
      refine ⟨letN ((skF Z.1 a.toNatClampNeg b.toNatClampNeg (slS Z x) 4).headD []) i, QC_q fun I L hr => ?_, QM_q fun I L hr => ?_⟩
      · obtain ⟨I1, c1, e0, e1, hf⟩ := cq_seek hr hh
        exact ⟨I1, c0_X11_letter (vc_X11_letter_0 ⟨fun _ => ⟨_, ct_refusal hr.1 x a b, vc_X11_letter_17 ⟨fun _ => ⟨_, ct_sayingS hr.1 h1 h4, I1, c1, _, by rw [e0]; exact ct_letC hS i, rfl, rfl, rfl⟩, fun z => absurd hh z⟩⟩, fun z => absurd hi z⟩), hf.rel hr⟩
      · obtain ⟨I1, c1, hM1, hq⟩ := cm_askFirst hr x a b
        obtain ⟨e0, e1⟩ := hq hh
        exact ⟨I1, c0_X12_letter (vc_X12_letter_0 ⟨fun _ => ⟨_, I1, c1, fun _ => ⟨_, by rw [e0]; exact ct_letM hS hi, rfl, rfl, rfl⟩, fun z => absurd (by rw [hh]; decide) z⟩, fun z => absurd hi z⟩), hM1⟩
    · refine ⟨rfs Z x a b, QC_q fun I L hr => ⟨I, c0_X11_letter (vc_X11_letter_0 ⟨fun _ => ⟨_, ct_refusal hr.1 x a b, vc_X11_letter_17 ⟨fun z => absurd z hh, fun _ => ⟨rfl, rfl, rfl⟩⟩⟩, fun z => absurd hi z⟩), Fq.rf, hr.2.1, hr.2.2⟩, QM_q fun I L hr => ?_⟩
      obtain ⟨I1, c1, hM1, -⟩ := cm_askFirst hr x a b
      exact ⟨I1, c0_X12_letter (vc_X12_letter_0 ⟨fun _ => ⟨_, I1, c1, fun z => absurd z (rfs_neg hh), fun _ => ⟨rfl, rfl, rfl⟩⟩, fun z => absurd hi z⟩), hM1⟩
  · exact ⟨-2, QC_q fun I L hr => ⟨I, c0_X11_letter (vc_X11_letter_0 ⟨fun z => absurd z hi, fun _ => vc_X11_letter_17 ⟨fun z => absurd z (by decide), fun _ => ⟨rfl, rfl, rfl⟩⟩⟩), Fq.rf, hr.2.1, hr.2.2⟩, QM_q fun I L hr => ⟨I, c0_X12_letter (vc_X12_letter_0 ⟨fun z => absurd z hi, fun _ => ⟨fun z => absurd z (by decide), fun _ => ⟨rfl, rfl, rfl⟩⟩⟩), Mq.rf⟩⟩
