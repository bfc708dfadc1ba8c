/-! FRACTIONS; SHARES OF PEWS. -/
theorem lN_ne {u : Nat} (h : 0 < u) (h2 : u < 2 ^ 63) : ¬ lN u = 0 := fun z => by
  have := (pk_lEQ (b := 0) h2 (by decide)).mp z
  omega
section GC
variable {I : Nat → Nat → Int32} {L : Nat → Nat → Int64}
theorem gcd_st (u v : Nat) : Nat.gcd v (u % v) = Nat.gcd u v := by
  rw [Nat.gcd_comm u v, Nat.gcd_rec v u, Nat.gcd_comm]
theorem ct_lowest {a : Int64} {m n : Nat} (x : Int32) (ha : (if 0 < a then a else -a) = lN m) (hm : m < 2 ^ 49) (h0 : 0 < n) (hn : n < 2 ^ 49) : q_C kX11_lowestPart [.long a, .long (lN n), .int x] I L (some (.long ((if x = 0 then a else lN n) / lN (Nat.gcd n m)))) I L := by
  have tail : v_X11_lowestPart_47 (some (.long ((if x = 0 then a else lN n) / lN (Nat.gcd n m)))) I L I L a (lN n) x (lN (Nat.gcd n m)) := by
    have hg : 0 < Nat.gcd n m := Nat.gcd_pos_of_pos_left _ h0
    have hgl : Nat.gcd n m ≤ n := Nat.gcd_le_left _ h0
    have hne := lN_ne hg (by omega)
    exact vc_X11_lowestPart_47 ⟨fun z => ⟨fun q => absurd ((lg_cmp_eq _ _).mp q) hne, fun _ => ⟨hne, by rw [if_pos z], rfl, rfl⟩⟩, fun z => ⟨fun q => absurd ((lg_cmp_eq _ _).mp q) hne, fun _ => ⟨hne, by rw [if_neg z], rfl, rfl⟩⟩⟩
  have zero : ∀ u i, Nat.gcd u 0 = Nat.gcd n m → v_X11_lowestPart_12 (some (.long ((if x = 0 then a else lN n) / lN (Nat.gcd n m)))) I L I L a (lN n) x (lN u) (lN 0) (nI i) := by
    intro u i hu
    rw [Nat.gcd_zero_right] at hu
    subst hu
    exact vc_X11_lowestPart_12 ⟨fun _ => tail, fun _ => ⟨fun _ => tail, fun q => absurd ((lg_cmp_eq _ _).mpr rfl) q⟩⟩
  have one : ∀ u v i, 0 < v → v < 2 ^ 63 → u < 2 ^ 63 → i < 100 → v_X11_lowestPart_12 (some (.long ((if x = 0 then a else lN n) / lN (Nat.gcd n m)))) I L I L a (lN n) x (lN v) (lN (u % v)) (nI (i + 1)) → v_X11_lowestPart_12 (some (.long ((if x = 0 then a else lN n) / lN (Nat.gcd n m)))) I L I L a (lN n) x (lN u) (lN v) (nI i) := by
    intro u v i hv hv2 hu hi hw
    have hne := lN_ne hv hv2
    refine vc_X11_lowestPart_12 ⟨fun z => ?_, fun _ => ⟨fun q => absurd ((lg_cmp_eq _ _).mp q) hne, fun _ => ⟨hne, ?_⟩⟩⟩
    · rw [show (100 : Int32) = nI 100 from rfl, nI_leI (by omega) (by omega)] at z
      omega
    · rw [pk_lRem hu hv hv2, nI_1]
      exact hw
  have loop : ∀ k u v i, v < 2 ^ k → i + 2 * k ≤ 100 → u < 2 ^ 63 → v < 2 ^ 63 → Nat.gcd u v = Nat.gcd n m → v_X11_lowestPart_12 (some (.long ((if x = 0 then a else lN n) / lN (Nat.gcd n m)))) I L I L a (lN n) x (lN u) (lN v) (nI i) := by
    intro k
    induction k with
    | zero =>
      intro u v i hv hi hu hv2 hg
      have e : v = 0 := by
        have : v < 1 := hv
        omega
      subst e
      exact zero u i hg
    | succ k ih =>
      intro u v i hv hi hu hv2 hg
      by_cases e : v = 0
      · subst e
        exact zero u i hg
      · refine one u v i (by omega) hv2 hu (by omega) ?_
        have hg2 := (gcd_st u v).trans hg
        by_cases e2 : u % v = 0
        · rw [e2] at hg2 ⊢
          exact zero v (i + 1) hg2
        · have hr : u % v < v := Nat.mod_lt _ (by omega)
          refine one v (u % v) (i + 1) (by omega) (by omega) hv2 (by omega) ?_
          have q1 : v % (u % v) < u % v := Nat.mod_lt _ (by omega)
          have q2 : v % (u % v) ≤ v - u % v := by
            rw [Nat.mod_eq_sub_mod (Nat.le_of_lt hr)]
            exact Nat.mod_le _ _
          have q3 : 2 ^ (k + 1) = 2 * 2 ^ k := by rw [Nat.pow_succ]; omega
          exact ih (u % v) (v % (u % v)) (i + 1 + 1) (by omega) (by omega) (by omega) (by omega) ((gcd_st v (u % v)).trans hg2)
  refine c0_X11_lowestPart (vc_X11_lowestPart_0 ?_)
  rw [ha]
  exact loop 49 n m 0 hm (by decide) (by omega) (by omega) rfl
theorem ct_divisor {a : Int64} {m n : Nat} (ha : (if 0 < a then a else -a) = lN m) (hm : m < 2 ^ 49) (hn : n < 2 ^ 49) : q_C kX12_divisor [.long a, .long (lN n)] I L (some (.long (lN (Nat.gcd n m)))) I L := by
  have loop : ∀ k u v, v ≤ k → u < 2 ^ 63 → v < 2 ^ 63 → Nat.gcd u v = Nat.gcd n m → v_X12_divisor_9 (some (.long (lN (Nat.gcd n m)))) I L I L (lN u) (lN v) := by
    intro k
    induction k with
    | zero =>
      intro u v hv hu hv2 hg
      have e : v = 0 := Nat.le_zero.mp hv
      subst e
      rw [Nat.gcd_zero_right] at hg
      subst hg
      exact vc_X12_divisor_9 ⟨fun _ => ⟨rfl, rfl, rfl⟩, fun q => absurd ((lg_cmp_eq _ _).mpr rfl) q⟩
    | succ k ih =>
      intro u v hv hu hv2 hg
      by_cases e : v = 0
      · subst e
        rw [Nat.gcd_zero_right] at hg
        subst hg
        exact vc_X12_divisor_9 ⟨fun _ => ⟨rfl, rfl, rfl⟩, fun q => absurd ((lg_cmp_eq _ _).mpr rfl) q⟩
      · have hne := lN_ne (u := v) (by omega) hv2
        have hr : u % v < v := Nat.mod_lt _ (by omega)
        refine vc_X12_divisor_9 ⟨fun q => absurd ((lg_cmp_eq _ _).mp q) hne, fun _ => ⟨hne, ?_⟩⟩
        rw [pk_lRem hu (by omega) hv2]
        exact ih v (u % v) (by omega) hv2 (by omega) ((gcd_st u v).trans hg)
  refine c0_X12_divisor (vc_X12_divisor_0 ?_)
  rw [ha]
  exact loop n m n (Nat.le_refl _) (by omega) (by omega) (Nat.gcd_comm _ _)
theorem ct_part {a : Int64} {m n : Nat} (x : Int32) (ha : (if 0 < a then a else -a) = lN m) (hm : m < 2 ^ 49) (h0 : 0 < n) (hn : n < 2 ^ 49) : q_C kX12_part [.long a, .long (lN n), .int x] I L (some (.long ((if x = 0 then a else lN n) / lN (Nat.gcd n m)))) I L := by
  have hg : 0 < Nat.gcd n m := Nat.gcd_pos_of_pos_left _ h0
  have hgl : Nat.gcd n m ≤ n := Nat.gcd_le_left _ h0
  have hne := lN_ne hg (by omega)
  have c := ct_divisor (I := I) (L := L) ha hm hn
  exact c0_X12_part (vc_X12_part_0 ⟨fun z => ⟨_, c, hne, by rw [if_pos z], rfl, rfl⟩, fun z => ⟨_, c, hne, by rw [if_neg z], rfl, rfl⟩⟩)
end GC
def fct : Nat → Nat
  | 0 => 1
  | k + 1 => fct k * (k + 1)
theorem fct_r : ∀ n, n ≤ 7 → 0 < fct n ∧ fct n ≤ 5040 := by decide
theorem fct_m : ∀ n, n ≤ 7 → ∀ a, a < n → fct a * fct (n - 1 - a) ≤ 720 := by decide
theorem pc7_b : ∀ n, n ≤ 7 → ∀ p, p < n → ∀ s, s < 2 ^ n → s / 2 ^ p % 2 = 0 → pc7 s < n := by decide +kernel
section FA
variable {I : Nat → Nat → Int32} {L : Nat → Nat → Int64}
theorem ct_factC {n : Nat} (hn : n ≤ 7) : q_C kX8_factorial [.int (nI n)] I L (some (.int (nI (fct n)))) I L := by
  refine c0_X8_factorial (vc_X8_factorial_0 ?_)
  have loop : ∀ m i, i + m = n → 1 ≤ i → v_X8_factorial_4 (some (.int (nI (fct n)))) I L I L (nI n) (nI (fct i)) (nI (i + 1)) := by
    intro m
    induction m with
    | zero =>
      intro i hi h1
      have e : i = n := by omega
      subst e
      exact vc_X8_factorial_4 ⟨fun _ => ⟨rfl, rfl, rfl⟩, fun z => absurd (nI_lt (by omega) (by omega)) z⟩
    | succ m ih =>
      intro i hi h1
      refine vc_X8_factorial_4 ⟨fun z => absurd z (nI_nlt (by omega) (by omega)), fun _ => ⟨fun z => ?_, fun _ => ?_⟩⟩
      · rw [show (7 : Int32) = nI 7 from rfl, nI_ltI (by omega) (by omega)] at z
        omega
      · rw [u_mul, nI_1]
        exact ih (i + 1) (by omega) (by omega)
  by_cases h : n = 0
  · subst h
    exact vc_X8_factorial_4 ⟨fun _ => ⟨rfl, rfl, rfl⟩, fun z => absurd (by decide) z⟩
  · exact loop (n - 1) 1 (by omega) (Nat.le_refl _)
theorem ct_factM {n : Nat} (hn : n ≤ 7) : q_C kX12_factorial [.int (nI n)] I L (some (.int (nI (fct n)))) I L := by
  refine c0_X12_factorial (vc_X12_factorial_0 ?_)
  have loop : ∀ m i, i + m = n → 1 ≤ i → v_X12_factorial_4 (some (.int (nI (fct n)))) I L I L (nI n) (nI (fct i)) (nI (i + 1)) := by
    intro m
    induction m with
    | zero =>
      intro i hi h1
      have e : i = n := by omega
      subst e
      exact vc_X12_factorial_4 ⟨fun _ => ⟨rfl, rfl, rfl⟩, fun z => absurd (nI_lt (by omega) (by omega)) z⟩
    | succ m ih =>
      intro i hi h1
      refine vc_X12_factorial_4 ⟨fun z => absurd z (nI_nlt (by omega) (by omega)), fun _ => ?_⟩
      rw [u_mul, nI_1]
      exact ih (i + 1) (by omega) (by omega)
  by_cases h : n = 0
  · subst h
    exact vc_X12_factorial_4 ⟨fun _ => ⟨rfl, rfl, rfl⟩, fun z => absurd (by decide) z⟩
  · exact loop (n - 1) 1 (by omega) (Nat.le_refl _)
end FA
/-- what a pew adds, over all orders -/
def gnT (A : Nt) (p s : Nat) : Int := ((fct (pc7 s) * fct (A.1 0 3 - 1 - pc7 s) : Nat) : Int) * ((wrt A (s ||| 2 ^ p) : Int) - (wrt A s : Int))
def gnF (A : Nt) (p : Nat) : Nat → Int
  | 0 => 0
  | s + 1 => if s / 2 ^ p % 2 = 0 then gnF A p s + gnT A p s else gnF A p s
theorem gnF_y {A : Nt} {p s : Nat} (h : s / 2 ^ p % 2 = 0) : gnF A p (s + 1) = gnF A p s + gnT A p s := if_pos h
theorem gnF_n {A : Nt} {p s : Nat} (h : ¬ s / 2 ^ p % 2 = 0) : gnF A p (s + 1) = gnF A p s := if_neg h
theorem gnT_r {A : Nt} (hV : NV A) {p s : Nat} (hp : p < A.1 0 3) (hs : s < 2 ^ A.1 0 3) (hb : s / 2 ^ p % 2 = 0) : -5040 ≤ gnT A p s ∧ gnT A p s ≤ 5040 := by
  have h3 := hV.1.2.2.2.1
  have hc := pc7_b _ h3 p hp s hs hb
  have hm := fct_m _ h3 _ hc
  have w1 := wrt_le A (s ||| 2 ^ p)
  have w2 := wrt_le A s
  unfold gnT
  obtain ⟨F, hF⟩ : ∃ F : Nat, F = fct (pc7 s) * fct (A.1 0 3 - 1 - pc7 s) := ⟨_, rfl⟩
  rw [← hF] at hm ⊢
  obtain ⟨D, hD⟩ : ∃ D : Int, D = (wrt A (s ||| 2 ^ p) : Int) - (wrt A s : Int) := ⟨_, rfl⟩
  rw [← hD]
  have d1 : -7 ≤ D := by omega
  have d2 : D ≤ 7 := by omega
  have f0 : (0 : Int) ≤ (F : Int) := by omega
  have f1 : (F : Int) ≤ 720 := by omega
  constructor
  · have := Int.mul_le_mul_of_nonneg_left d1 f0
    have e : (F : Int) * -7 = -7 * (F : Int) := Int.mul_comm _ _
    omega
  · have := Int.mul_le_mul_of_nonneg_left d2 f0
    have e : (F : Int) * 7 = 7 * (F : Int) := Int.mul_comm _ _
    omega
theorem gnF_r {A : Nt} (hV : NV A) {p : Nat} (hp : p < A.1 0 3) : ∀ s : Nat, s ≤ 2 ^ A.1 0 3 → -(5040 * (s : Int)) ≤ gnF A p s ∧ gnF A p s ≤ 5040 * (s : Int)
  | 0, _ => by show -(5040 * ((0 : Nat) : Int)) ≤ 0 ∧ 0 ≤ 5040 * ((0 : Nat) : Int); omega
  | s + 1, h => by
    have ih := gnF_r hV hp s (by omega)
    by_cases hb : s / 2 ^ p % 2 = 0
    · have ht := gnT_r hV hp (show s < 2 ^ A.1 0 3 by omega) hb
      rw [gnF_y hb]
      omega
    · rw [gnF_n hb]
      omega
theorem iI_sub (a b : Int) : iI a - iI b = iI (a - b) := (Int32.ofInt_sub a b).symm
theorem iI_mul (a b : Int) : iI a * iI b = iI (a * b) := (Int32.ofInt_mul a b).symm
def lI (z : Int) : Int64 := Int64.ofInt z
theorem lI_n (n : Nat) : lI (n : Int) = lN n := Int64.ofInt_eq_ofNat
theorem lI_add (a b : Int) : lI a + lI b = lI (a + b) := (Int64.ofInt_add a b).symm
theorem lI_mul (a b : Int) : lI a * lI b = lI (a * b) := (Int64.ofInt_mul a b).symm
theorem lI_t {z : Int} (h1 : -9223372036854775808 ≤ z) (h2 : z < 9223372036854775808) : (lI z).toInt = z := Int64.toInt_ofInt_of_le (by omega) (by omega)
theorem iI_l {z : Int} (h1 : -2147483648 ≤ z) (h2 : z < 2147483648) : (iI z).toInt64 = lI z := by
  apply Int64.toInt_inj.mp
  rw [Int32.toInt_toInt64, iI_t h1 h2, lI_t (by omega) (by omega)]
theorem lI_abs {z : Int} (h1 : -9223372036854775807 ≤ z) (h2 : z < 9223372036854775808) : (if 0 < lI z then lI z else -lI z) = lN z.natAbs := by
  have hc : 0 < lI z ↔ 0 < z := by rw [Int64.lt_iff_toInt_lt, lI_t (by omega) h2, show (0 : Int64).toInt = 0 by decide]
  by_cases h : 0 < z
  · rw [if_pos (hc.mpr h), ← lI_n, show ((z.natAbs : Nat) : Int) = z by omega]
  · rw [if_neg (fun q => h (hc.mp q)), ← lI_n, show ((z.natAbs : Nat) : Int) = -z by omega]
    exact (Int64.ofInt_neg z).symm
section SH
variable {A : Nt} {I : Nat → Nat → Int32} {L : Nat → Nat → Int64}
theorem or_128 {s p : Nat} (hs : s < 128) (hp : p < 7) : s ||| 2 ^ p < 128 := by
  show s ||| 2 ^ p < 2 ^ 7
  exact Nat.or_lt_two_pow hs (Nat.pow_lt_pow_right (by decide) hp)
theorem ce_gain (hR : RC A I 12 21) (hV : NV A) (hW : Wo A I) {p : Nat} (hp : p < A.1 0 3) : ∃ I', q_C kX8_gainInAllOrders [.ref 88, .int (nI p)] I L (some (.int (iI (gnF A p (2 ^ A.1 0 3))))) I' L ∧ FW I I' ∧ Wo A I' := by
  have h3 := hV.1.2.2.2.1
  have hp1 : 1 ≤ 2 ^ A.1 0 3 := Nat.one_le_two_pow
  have hp7 : 2 ^ A.1 0 3 ≤ 2 ^ 7 := Nat.pow_le_pow_right (by decide) h3
  have h := mloop (V := fun k I' J => v_X8_gainInAllOrders_4 (some (.int (iI (gnF A p (2 ^ A.1 0 3))))) I' L J L (nI p) (iI (gnF A p k)) (nI k)) (Inv := fun k J => FW I J ∧ Wo A J) (n := 2 ^ A.1 0 3) (Q := fun I' => FW I I' ∧ Wo A I') ?_ ?_ I ⟨FW.rf, hW⟩
  · obtain ⟨I', hw, hf⟩ := h
    exact ⟨I', c0_X8_gainInAllOrders (vc_X8_gainInAllOrders_0 hw), hf⟩
  · rintro J ⟨hJ, hWJ⟩
    exact ⟨J, vc_X8_gainInAllOrders_4 ⟨_, ct_allPewsC (hJ.RC hR) hV, fun _ => ⟨rfl, rfl, rfl⟩, fun z => absurd (nI_lt (by omega) (by omega)) z⟩, hJ, hWJ⟩
  · rintro k J hk ⟨hJ, hWJ⟩
    have hRJ := hJ.RC hR
    have e4 : J 12 4 = nI (A.1 0 3) := hRJ.1.2.2.2.2.1
    by_cases hb : k / 2 ^ p % 2 = 0
    · have hc := pc7_b _ h3 p hp k hk hb
      obtain ⟨I1, c1, hf1, hW1⟩ := ce_worthOf (L := L) hRJ hV hWJ (or_128 (s := k) (p := p) (by omega) (by omega))
      obtain ⟨I2, c2, hf2, hW2⟩ := ce_worthOf (L := L) (hf1.RC hRJ) hV hW1 (s := k) (by omega)
      refine ⟨I2, ⟨hJ.tr (hf1.tr hf2), hW2⟩, fun I' hw => vc_X8_gainInAllOrders_4 ⟨_, ct_allPewsC hRJ hV, fun z => absurd z (nI_nlt (by omega) (by omega)), fun _ => ⟨fun _ => ⟨_, ct_bitCount (a := k) (by omega), _, ct_factC (by omega), nI (fct (A.1 0 3 - 1 - pc7 k)), ?_, nI (wrt A (k ||| 2 ^ p)), I1, ?_, _, I2, c2, ?_⟩, fun z => absurd ?_ z⟩⟩⟩
      · rw [e4, show (1 : Int32) = nI 1 from rfl, pk_sub (by omega), pk_sub (by omega)]
        exact ct_factC (by omega)
      · rw [u_one (by omega), u_or]
        exact c1
      · rw [gnF_y hb] at hw
        rw [nI_1, u_mul, nI_iI (fct _ * _), nI_iI (wrt A (k ||| 2 ^ p)), nI_iI (wrt A k), iI_sub, iI_mul, iI_add]
        exact hw
      · rw [u_bit (by omega) (by omega), hb]
        rfl
    · refine ⟨J, ⟨hJ, hWJ⟩, fun I' hw => vc_X8_gainInAllOrders_4 ⟨_, ct_allPewsC hRJ hV, fun z => absurd z (nI_nlt (by omega) (by omega)), fun _ => ⟨fun z => absurd ?_ hb, fun _ => ?_⟩⟩⟩
      · rw [u_bit (by omega) (by omega), u_0 (by omega)] at z
        exact z
      · rw [gnF_n hb] at hw
        rw [nI_1]
        exact hw
theorem cm_shareLoop (hR : RM A I 97 0) (hV : NV A) (hL : ∀ s, s < 2 ^ A.1 0 3 → I 107 s = nI (wrt A s)) {p : Nat} (hp : p < A.1 0 3) (x : Int32) : v_X12_share_67 (some (.int (((if x = 0 then lI (gnF A p (2 ^ A.1 0 3)) else lN (fct (A.1 0 3))) / lN (Nat.gcd (fct (A.1 0 3)) (gnF A p (2 ^ A.1 0 3)).natAbs)) : Int64).toInt32)) I L I L (nI p) x (nI (A.1 0 3)) 0 0 := by
  have h3 := hV.1.2.2.2.1
  have hp1 : 1 ≤ 2 ^ A.1 0 3 := Nat.one_le_two_pow
  have hp7 : 2 ^ A.1 0 3 ≤ 2 ^ 7 := Nat.pow_le_pow_right (by decide) h3
  have hG := gnF_r hV hp (2 ^ A.1 0 3) (Nat.le_refl _)
  have hF := fct_r _ h3
  refine down (P := fun k => v_X12_share_67 (some (.int (((if x = 0 then lI (gnF A p (2 ^ A.1 0 3)) else lN (fct (A.1 0 3))) / lN (Nat.gcd (fct (A.1 0 3)) (gnF A p (2 ^ A.1 0 3)).natAbs)) : Int64).toInt32)) I L I L (nI p) x (nI (A.1 0 3)) (lI (gnF A p k)) (nI k)) (n := 2 ^ A.1 0 3) ?_ ?_
  · refine vc_X12_share_67 ⟨fun _ => ⟨_, ct_factM h3, _, ?_, rfl, rfl, rfl⟩, fun z => absurd ?_ z⟩
    · rw [nI_l (by omega)]
      exact ct_part x (lI_abs (by omega) (by omega)) (by omega) hF.1 (by omega)
    · rw [u_one (by omega)]
      exact nI_le (Nat.le_refl _) (by omega)
  · intro k hk ih
    refine vc_X12_share_67 ⟨fun z => ?_, fun _ => ⟨_, ct_bitN (by omega) (by omega), fun z => ?_, fun z => ?_⟩⟩
    · rw [u_one (by omega)] at z
      exact absurd z (nI_ge hk (by omega))
    · have hb : k / 2 ^ p % 2 = 0 := (u_0 (by omega)).mp z
      have hc := pc7_b _ h3 p hp k hk hb
      have ho := or_128 (s := k) (p := p) (by omega) (by omega)
      have hor : k ||| 2 ^ p < 2 ^ A.1 0 3 := Nat.or_lt_two_pow hk (Nat.pow_lt_pow_right (by decide) hp)
      have w1 := wrt_le A (k ||| 2 ^ p)
      have w2 := wrt_le A k
      have f1 := fct_r (pc7 k) (by omega)
      have f2 := fct_r (A.1 0 3 - 1 - pc7 k) (by omega)
      refine ⟨_, ct_bits (a := k) (by omega), _, ct_factM (by omega), _, ct_bits (a := k) (by omega), nI (fct (A.1 0 3 - 1 - pc7 k)), ?_, ?_, ?_, fun z8 h8 => ?_⟩
      · rw [show (1 : Int32) = nI 1 from rfl, pk_sub (by omega), pk_sub (by omega)]
        exact ct_factM (by omega)
      · rw [u_one (by omega), u_or]
        exact u_in ho (by decide)
      · exact u_in (by omega) (by decide)
      · rw [u_one (by omega), u_or, u_cl (n := k ||| 2 ^ p) (by omega), u_cl (n := k) (by omega), hL _ hor, hL k hk, nI_l (by omega), nI_l (by omega), lN_mul, ← lI_n, nI_iI (wrt A (k ||| 2 ^ p)), nI_iI (wrt A k), iI_sub, iI_l (by omega) (by omega), lI_mul, lI_add] at h8
        rw [gnF_y hb] at ih
        rw [h8, nI_1]
        exact ih
    · have hb : ¬ k / 2 ^ p % 2 = 0 := fun q => z ((u_0 (by omega)).mpr q)
      rw [gnF_n hb] at ih
      rw [nI_1]
      exact ih
theorem cm_shareFill (hR : RM A I 97 0) (hV : NV A) (hP : PMw A [1] I) {p : Nat} (hp : p < A.1 0 3) (x : Int32) : ∃ I', v_X12_share_34 (some (.int (((if x = 0 then lI (gnF A p (2 ^ A.1 0 3)) else lN (fct (A.1 0 3))) / lN (Nat.gcd (fct (A.1 0 3)) (gnF A p (2 ^ A.1 0 3)).natAbs)) : Int64).toInt32)) I' L I L (nI p) x (nI (A.1 0 3)) 0 ∧ Mq I I' := by
  have h3 := hV.1.2.2.2.1
  have hp1 : 1 ≤ 2 ^ A.1 0 3 := Nat.one_le_two_pow
  have hp7 : 2 ^ A.1 0 3 ≤ 2 ^ 7 := Nat.pow_le_pow_right (by decide) h3
  refine mloop (V := fun k I' J => v_X12_share_34 (some (.int (((if x = 0 then lI (gnF A p (2 ^ A.1 0 3)) else lN (fct (A.1 0 3))) / lN (Nat.gcd (fct (A.1 0 3)) (gnF A p (2 ^ A.1 0 3)).natAbs)) : Int64).toInt32)) I' L J L (nI p) x (nI (A.1 0 3)) (nI k)) (Inv := fun k J => RM A J 97 0 ∧ PMw A [1] J ∧ Mq I J ∧ ∀ s, s < k → J 107 s = nI (wrt A s)) (n := 2 ^ A.1 0 3) (Q := fun I' => Mq I I') ?_ ?_ I ⟨hR, hP, Mq.rf, fun s hs => absurd hs (by omega)⟩
  · rintro J ⟨hRJ, hPJ, hMJ, hLJ⟩
    refine ⟨J, vc_X12_share_34 ⟨fun _ => cm_shareLoop hRJ hV hLJ hp x, fun z => absurd ?_ z⟩, hMJ⟩
    rw [u_one (by omega)]
    exact nI_le (Nat.le_refl _) (by omega)
  · rintro k J hk ⟨hRJ, hPJ, hMJ, hLJ⟩
    obtain ⟨I1, c1, hR1, hP1, hM1, h107⟩ := cm_worthOf (L := L) hRJ hV hPJ (s := k) (by omega)
    refine ⟨up2 I1 107 k (nI (wrt A k)), ⟨RM_of (fun j => up2_p (by decide)) hR1, PMw_of (fun j hj => up2_p (by decide)) hP1, (hMJ.tr hM1).tr (fun a j q => up2_p (by omega)), fun s hs => ?_⟩, fun I' hw => vc_X12_share_34 ⟨fun z => ?_, fun _ => ⟨_, I1, c1, u_in (by omega) (by decide), ?_⟩⟩⟩
    · by_cases e : s = k
      · subst e; exact up2_s _ _ _ _
      · rw [up2_k e, h107 s]; exact hLJ s (by omega)
    · rw [u_one (by omega)] at z
      exact absurd z (nI_ge hk (by omega))
    · rw [u_cl (by omega), nI_1]
      exact hw
end SH
theorem q_share (Z : St) (x y : Int32) : ∃ v, Q2 Z Z kX11_share kX12_share [.int x, .int y] (.int v) := by
  by_cases hx : bp Z.1 x
  · refine ⟨-2, QC_q fun I L hr => ⟨I, c0_X11_share (vc_X11_share_0 ⟨_, ct_noPew hr.1.1.1 x, g1p hx ⟨rfl, rfl, rfl⟩⟩), Fq.rf, hr.2.1, hr.2.2⟩, QM_q fun I L hr => ?_⟩
    obtain ⟨I1, c1, -, -, hM1, hR1⟩ := cm_as (L := L) hr.1.1
    exact ⟨I1, c0_X12_share (vc_X12_share_0 ⟨I1, c1, _, ct_isPew hR1 hr.1.2 x, g0p hx ⟨rfl, rfl, rfl⟩⟩), hM1⟩
  by_cases hy : ib 0 1 y
  · refine ⟨-2, QC_q fun I L hr => ⟨I, c0_X11_share (vc_X11_share_0 ⟨_, ct_noPew hr.1.1.1 x, g1n hx ⟨_, ct_noPart y, g1p hy ⟨rfl, rfl, rfl⟩⟩⟩), Fq.rf, hr.2.1, hr.2.2⟩, QM_q fun I L hr => ?_⟩
    obtain ⟨I1, c1, -, -, hM1, hR1⟩ := cm_as (L := L) hr.1.1
    exact ⟨I1, c0_X12_share (vc_X12_share_0 ⟨I1, c1, _, ct_isPew hR1 hr.1.2 x, g0n hx ⟨_, ct_inI y 0 1, g0p hy ⟨rfl, rfl, rfl⟩⟩⟩), hM1⟩
  refine ⟨((if y = 0 then lI (gnF Z.1 x.toNatClampNeg (2 ^ Z.1.1 0 3)) else lN (fct (Z.1.1 0 3))) / lN (Nat.gcd (fct (Z.1.1 0 3)) (gnF Z.1 x.toNatClampNeg (2 ^ Z.1.1 0 3)).natAbs) : Int64).toInt32, QC_q fun I L hr => ?_, QM_q fun I L hr => ?_⟩
  · have hV := hr.1.1.2
    have h3 := hV.1.2.2.2.1
    have hp7 : 2 ^ Z.1.1 0 3 ≤ 2 ^ 7 := Nat.pow_le_pow_right (by decide) h3
    obtain ⟨p, hp, hxp⟩ := xPew hV hx
    subst hxp
    rw [u_cl (n := p) (by omega)]
    obtain ⟨I1, c1, hf1, hW1⟩ := ce_gain (L := L) hr.1.1.1 hV hr.2.2 hp
    have e4 : I1 12 4 = nI (Z.1.1 0 3) := (hf1.RC hr.1.1.1).1.2.2.2.2.1
    have hG := gnF_r hV hp (2 ^ Z.1.1 0 3) (Nat.le_refl _)
    have hF := fct_r _ h3
    refine ⟨I1, c0_X11_share (vc_X11_share_0 ⟨_, ct_noPew hr.1.1.1 _, g1n hx ⟨_, ct_noPart y, g1n hy ⟨_, I1, c1, nI (fct (Z.1.1 0 3)), ?_, _, ?_, rfl, rfl, rfl⟩⟩⟩), hf1.rel hr hW1⟩
    · rw [e4]
      exact ct_factC h3
    · rw [iI_l (by omega) (by omega), nI_l (by omega)]
      exact ct_lowest y (lI_abs (by omega) (by omega)) (by omega) hF.1 (by omega)
  · have hV := hr.1.2
    have h3 := hV.1.2.2.2.1
    obtain ⟨p, hp, hxp⟩ := xPew hV hx
    subst hxp
    rw [u_cl (n := p) (by omega)]
    obtain ⟨I0, c0, hP0, h19, hM0, hR0⟩ := cm_as (L := L) hr.1.1
    obtain ⟨I1, hw, hM1⟩ := cm_shareFill (L := L) hR0 hV (PMw_0 hP0 (by rw [h19]; rfl)) hp y
    exact ⟨I1, c0_X12_share (vc_X12_share_0 ⟨I0, c0, _, ct_isPew hR0 hV _, g0n hx ⟨_, ct_inI y 0 1, g0n hy ⟨_, ct_pews hR0, hw⟩⟩⟩), hM0.tr hM1⟩
