/-! THE TAPE READ: tokens. -/
def byN (m : Nat) : Int32 := (Int8.ofNat m).toInt32
theorem bb_by (y : Int32) : ∃ m, m < 256 ∧ bb y = byN m := by
  refine ⟨y.toInt8.toBitVec.toNat, y.toInt8.toBitVec.isLt, ?_⟩
  unfold bb byN
  congr 1
  apply Int8.toBitVec_inj.mp
  show y.toInt8.toBitVec = BitVec.ofNat 8 y.toInt8.toBitVec.toNat
  rw [BitVec.ofNat_toNat, BitVec.setWidth_eq]
abbrev byP (x : Int32) : Prop := (((x &&& 255) = 32 ↔ x = 32) ∧ ((x &&& 255) = 10 ↔ x = 10) ∧ ((x &&& 255) = 59 ↔ x = 59)) ∧ (¬ ((x &&& 255) < 97 ∨ 122 < (x &&& 255)) ↔ 97 ≤ x ∧ x ≤ 122) ∧ (¬ ((x &&& 255) < 48 ∨ 57 < (x &&& 255)) ↔ 48 ≤ x ∧ x ≤ 57) ∧ ¬ (x &&& 255) = -1 ∧ (48 ≤ x ∧ x ≤ 57 → (x &&& 255) = x ∧ x = nI x.toInt.toNat ∧ 48 ≤ x.toInt.toNat ∧ x.toInt.toNat ≤ 57) ∧ ¬ x.toInt < -128 ∧ ¬ 127 < x.toInt
theorem by_all : ∀ m, m < 256 → byP (byN m) := by decide +kernel
theorem bb_P (y : Int32) : byP (bb y) := by
  obtain ⟨m, hm, e⟩ := bb_by y
  rw [e]
  exact by_all m hm
def clsF (B : Nat → Int32) (n k : Nat) : Nat := if n ≤ k then 0 else if B k = 32 ∨ B k = 10 then 1 else if 97 ≤ B k ∧ B k ≤ 122 then 2 else if 48 ≤ B k ∧ B k ≤ 57 then 3 else if B k = 59 then 4 else 5
def runF (B : Nat → Int32) (n c : Nat) : Nat → Nat → Nat
  | 0, p => p
  | m + 1, p => if clsF B n p = c then runF B n c m (p + 1) else p
def digF (B : Nat → Int32) (n : Nat) : Nat → Nat → Nat → Nat
  | 0, _, v => v
  | m + 1, p, v => if clsF B n p = 3 then digF B n m (p + 1) (min 1000 (10 * v + (B p).toInt.toNat - 48)) else v
def skp (B : Nat → Int32) (n p : Nat) : Nat := runF B n 1 (n - p) p
/-- start, next, kind (0 end, 1 word, 2 number, 3 sign, 4 wrong), value -/
abbrev Tk : Type := Nat × Nat × Nat × Nat
def tokA (B : Nat → Int32) (n s : Nat) : Tk := if clsF B n s = 0 then (s, s, 0, 0) else if clsF B n s = 2 then (s, runF B n 2 (n - s) s, 1, 0) else if clsF B n s = 3 then (s, runF B n 3 (n - s) s, 2, digF B n (n - s) s 0) else if clsF B n s = 4 then (s, s + 1, 3, 0) else (s, s + 1, 4, 0)
def tokF (B : Nat → Int32) (n p : Nat) : Tk := tokA B n (skp B n p)
section TM
variable {B : Nat → Int32} {n : Nat}
theorem cls_0 {k : Nat} (h : n ≤ k) : clsF B n k = 0 := if_pos h
theorem cls_lt {k : Nat} (h : clsF B n k ≠ 0) : k < n := by
  by_cases e : n ≤ k
  · exact absurd (cls_0 e) h
  · omega
theorem cls_1 {k : Nat} (h : k < n) : clsF B n k = 1 ↔ (B k = 32 ∨ B k = 10) := by
  unfold clsF
  rw [if_neg (by omega)]
  by_cases e : B k = 32 ∨ B k = 10
  · rw [if_pos e]; exact ⟨fun _ => e, fun _ => rfl⟩
  · rw [if_neg e]
    refine ⟨fun z => ?_, fun z => absurd z e⟩
    by_cases e2 : 97 ≤ B k ∧ B k ≤ 122
    · rw [if_pos e2] at z; omega
    · rw [if_neg e2] at z
      by_cases e3 : 48 ≤ B k ∧ B k ≤ 57
      · rw [if_pos e3] at z; omega
      · rw [if_neg e3] at z
        by_cases e4 : B k = 59
        · rw [if_pos e4] at z; omega
        · rw [if_neg e4] at z; omega
theorem low_ns {x : Int32} (h : 97 ≤ x ∧ x ≤ 122) : ¬ (x = 32 ∨ x = 10) := fun z => by
  rcases z with z | z <;> rw [z] at h <;> exact absurd h (by decide)
theorem dig_ns {x : Int32} (h : 48 ≤ x ∧ x ≤ 57) : ¬ (x = 32 ∨ x = 10) ∧ ¬ (97 ≤ x ∧ x ≤ 122) := by
  rw [t_le, t_le, show (48 : Int32).toInt = 48 by decide, show (57 : Int32).toInt = 57 by decide] at h
  refine ⟨fun z => ?_, fun z => ?_⟩
  · rcases z with z | z <;> rw [z] at h <;> exact absurd h (by decide)
  · rw [t_le, t_le, show (97 : Int32).toInt = 97 by decide, show (122 : Int32).toInt = 122 by decide] at z
    omega
theorem cls_2 {k : Nat} (h : k < n) : clsF B n k = 2 ↔ (97 ≤ B k ∧ B k ≤ 122) := by
  by_cases e2 : 97 ≤ B k ∧ B k ≤ 122
  · unfold clsF
    rw [if_neg (by omega), if_neg (low_ns e2), if_pos e2]
    exact ⟨fun _ => e2, fun _ => rfl⟩
  · refine ⟨fun z => ?_, fun z => absurd z e2⟩
    unfold clsF at z
    rw [if_neg (by omega)] at z
    by_cases e : B k = 32 ∨ B k = 10
    · rw [if_pos e] at z; omega
    · rw [if_neg e, if_neg e2] at z
      by_cases e3 : 48 ≤ B k ∧ B k ≤ 57
      · rw [if_pos e3] at z; omega
      · rw [if_neg e3] at z
        by_cases e4 : B k = 59
        · rw [if_pos e4] at z; omega
        · rw [if_neg e4] at z; omega
theorem cls_3 {k : Nat} (h : k < n) : clsF B n k = 3 ↔ (48 ≤ B k ∧ B k ≤ 57) := by
  by_cases e3 : 48 ≤ B k ∧ B k ≤ 57
  · unfold clsF
    obtain ⟨d1, d2⟩ := dig_ns e3
    rw [if_neg (by omega), if_neg d1, if_neg d2, if_pos e3]
    exact ⟨fun _ => e3, fun _ => rfl⟩
  · refine ⟨fun z => ?_, fun z => absurd z e3⟩
    unfold clsF at z
    rw [if_neg (by omega)] at z
    by_cases e : B k = 32 ∨ B k = 10
    · rw [if_pos e] at z; omega
    · rw [if_neg e] at z
      by_cases e2 : 97 ≤ B k ∧ B k ≤ 122
      · rw [if_pos e2] at z; omega
      · rw [if_neg e2, if_neg e3] at z
        by_cases e4 : B k = 59
        · rw [if_pos e4] at z; omega
        · rw [if_neg e4] at z; omega
theorem cls_45 {k : Nat} (h : k < n) (h1 : clsF B n k ≠ 1) (h2 : clsF B n k ≠ 2) (h3 : clsF B n k ≠ 3) : (B k = 59 → clsF B n k = 4) ∧ (¬ B k = 59 → clsF B n k = 5) := by
  have q1 := fun z => h1 ((cls_1 h).mpr z)
  have q2 := fun z => h2 ((cls_2 h).mpr z)
  have q3 := fun z => h3 ((cls_3 h).mpr z)
  unfold clsF
  rw [if_neg (by omega), if_neg q1, if_neg q2, if_neg q3]
  exact ⟨fun z => if_pos z, fun z => if_neg z⟩
theorem cls_ne0 {k : Nat} (h : k < n) : clsF B n k ≠ 0 := by
  unfold clsF
  rw [if_neg (by omega)]
  by_cases e : B k = 32 ∨ B k = 10
  · rw [if_pos e]; omega
  · rw [if_neg e]
    by_cases e2 : 97 ≤ B k ∧ B k ≤ 122
    · rw [if_pos e2]; omega
    · rw [if_neg e2]
      by_cases e3 : 48 ≤ B k ∧ B k ≤ 57
      · rw [if_pos e3]; omega
      · rw [if_neg e3]
        by_cases e4 : B k = 59
        · rw [if_pos e4]; omega
        · rw [if_neg e4]; omega
theorem run_le {c : Nat} (hc : c ≠ 0) : ∀ m p, p ≤ n → p ≤ runF B n c m p ∧ runF B n c m p ≤ n
  | 0, p, h => ⟨Nat.le_refl _, h⟩
  | m + 1, p, h => by
    show p ≤ (if clsF B n p = c then runF B n c m (p + 1) else p) ∧ (if clsF B n p = c then runF B n c m (p + 1) else p) ≤ n
    by_cases e : clsF B n p = c
    · rw [if_pos e]
      have hl := cls_lt (B := B) (n := n) (k := p) (by rw [e]; exact hc)
      have := run_le hc m (p + 1) (by omega)
      omega
    · rw [if_neg e]; omega
theorem run_end {c : Nat} (hc : c ≠ 0) : ∀ m p, n ≤ p + m → clsF B n (runF B n c m p) ≠ c
  | 0, p, h => by
    show clsF B n p ≠ c
    rw [cls_0 (by omega)]; omega
  | m + 1, p, h => by
    show clsF B n (if clsF B n p = c then runF B n c m (p + 1) else p) ≠ c
    by_cases e : clsF B n p = c
    · rw [if_pos e]; exact run_end hc m (p + 1) (by omega)
    · rw [if_neg e]; exact e
theorem run_1 {c : Nat} {m p : Nat} (hc : c ≠ 0) (h : clsF B n p = c) (hm : n ≤ p + m) : p < runF B n c m p := by
  have hl := cls_lt (B := B) (n := n) (k := p) (by rw [h]; exact hc)
  cases m with
  | zero => omega
  | succ m =>
    show p < (if clsF B n p = c then runF B n c m (p + 1) else p)
    rw [if_pos h]
    have := (run_le (B := B) (n := n) hc m (p + 1) (by omega)).1
    omega
theorem dig_le (m p v : Nat) (h : v ≤ 1000) : digF B n m p v ≤ 1000 := by
  induction m generalizing p v with
  | zero => exact h
  | succ m ih =>
    show (if clsF B n p = 3 then digF B n m (p + 1) (min 1000 (10 * v + (B p).toInt.toNat - 48)) else v) ≤ 1000
    by_cases e : clsF B n p = 3
    · rw [if_pos e]; exact ih _ _ (by omega)
    · rw [if_neg e]; exact h
theorem skp_le {p : Nat} (h : p ≤ n) : p ≤ skp B n p ∧ skp B n p ≤ n := run_le (by decide) _ _ h
theorem skp_ne {p : Nat} (h : p ≤ n) : clsF B n (skp B n p) ≠ 1 := run_end (by decide) _ _ (by omega)
/-- what a token is -/
def tkW (n : Nat) (t : Tk) : Prop := t.1 ≤ t.2.1 ∧ t.2.1 ≤ n ∧ (t.2.2.1 ≠ 0 → t.1 < t.2.1) ∧ (t.2.2.1 = 0 → t.1 = n) ∧ t.2.2.1 ≤ 4 ∧ t.2.2.2 ≤ 1000
theorem tok_W {p : Nat} (h : p ≤ n) : tkW n (tokF B n p) ∧ p ≤ (tokF B n p).1 := by
  obtain ⟨h1, h2⟩ := skp_le (B := B) h
  have h3 := skp_ne (B := B) h
  unfold tokF tokA
  obtain ⟨s, hs⟩ : ∃ s, s = skp B n p := ⟨_, rfl⟩
  rw [← hs] at h1 h2 h3 ⊢
  by_cases e0 : clsF B n s = 0
  · have : s = n := by
      by_cases q : s < n
      · exact absurd e0 (cls_ne0 q)
      · omega
    rw [if_pos e0]
    exact ⟨⟨Nat.le_refl _, h2, fun z => absurd rfl z, fun _ => this, by show 0 ≤ 4; omega, by show 0 ≤ 1000; omega⟩, h1⟩
  · have hl := cls_lt (B := B) e0
    rw [if_neg e0]
    by_cases e2 : clsF B n s = 2
    · rw [if_pos e2]
      have r1 := run_le (B := B) (c := 2) (by decide) (n - s) s h2
      have r2 := run_1 (B := B) (c := 2) (m := n - s) (by decide) e2 (by omega)
      exact ⟨⟨r1.1, r1.2, fun _ => r2, fun z => absurd z (by show ¬ 1 = 0; decide), by show 1 ≤ 4; omega, by show 0 ≤ 1000; omega⟩, h1⟩
    · rw [if_neg e2]
      by_cases e3 : clsF B n s = 3
      · rw [if_pos e3]
        have r1 := run_le (B := B) (c := 3) (by decide) (n - s) s h2
        have r2 := run_1 (B := B) (c := 3) (m := n - s) (by decide) e3 (by omega)
        exact ⟨⟨r1.1, r1.2, fun _ => r2, fun z => absurd z (by show ¬ 2 = 0; decide), by show 2 ≤ 4; omega, dig_le _ _ _ (by omega)⟩, h1⟩
      · rw [if_neg e3]
        by_cases e4 : clsF B n s = 4
        · rw [if_pos e4]
          exact ⟨⟨by show s ≤ s + 1; omega, by show s + 1 ≤ n; omega, fun _ => by show s < s + 1; omega, fun z => absurd z (by show ¬ 3 = 0; decide), by show 3 ≤ 4; omega, by show 0 ≤ 1000; omega⟩, h1⟩
        · rw [if_neg e4]
          exact ⟨⟨by show s ≤ s + 1; omega, by show s + 1 ≤ n; omega, fun _ => by show s < s + 1; omega, fun z => absurd z (by show ¬ 4 = 0; decide), by show 4 ≤ 4; omega, by show 0 ≤ 1000; omega⟩, h1⟩
end TM
/-- what the class's reader holds of a token -/
def TkC (t : Tk) (I : Nat → Nat → Int32) : Prop := I 2 5 = nI t.1 ∧ I 2 6 = nI t.2.1 ∧ I 2 7 = nI t.2.2.1 ∧ I 2 8 = nI t.2.2.2
def FA (I I' : Nat → Nat → Int32) : Prop := ∀ a k, (a ≠ 2 ∨ k < 5 ∨ 8 < k) → I' a k = I a k
theorem FA.rf {I : Nat → Nat → Int32} : FA I I := fun _ _ _ => rfl
theorem FA.tr {I I1 I2 : Nat → Nat → Int32} (h : FA I I1) (h2 : FA I1 I2) : FA I I2 := fun a k q => (h2 a k q).trans (h a k q)
theorem FA_up {I : Nat → Nat → Int32} {k : Nat} {x : Int32} (h : 5 ≤ k ∧ k ≤ 8) : FA I (up2 I 2 k x) := fun a j q => up2_o' (by omega)
section AD
variable {I : Nat → Nat → Int32} {L : Nat → Nat → Int64} {B : Nat → Int32} {n : Nat}
theorem ct_lower (x : Int32) : q_C kX6_isLowerCase [.int x] I L (some (.int (if 97 ≤ x ∧ x ≤ 122 then 1 else 0))) I L := by
  refine c0_X6_isLowerCase (vc_X6_isLowerCase_0 ⟨fun h => ?_, fun h => ⟨fun h2 => ?_, fun h2 => ?_⟩⟩)
  · rw [if_neg (fun z => absurd h (Int32.not_lt.mpr z.1))]; exact ⟨rfl, rfl, rfl⟩
  · rw [if_neg (fun z => absurd h2 (Int32.not_lt.mpr z.2))]; exact ⟨rfl, rfl, rfl⟩
  · rw [if_pos ⟨Int32.not_lt.mp h, Int32.not_lt.mp h2⟩]; exact ⟨rfl, rfl, rfl⟩
theorem ct_digit (x : Int32) : q_C kX6_isDigit [.int x] I L (some (.int (if 48 ≤ x ∧ x ≤ 57 then 1 else 0))) I L := by
  refine c0_X6_isDigit (vc_X6_isDigit_0 ⟨fun h => ?_, fun h => ⟨fun h2 => ?_, fun h2 => ?_⟩⟩)
  · rw [if_neg (fun z => absurd h (Int32.not_lt.mpr z.1))]; exact ⟨rfl, rfl, rfl⟩
  · rw [if_neg (fun z => absurd h2 (Int32.not_lt.mpr z.2))]; exact ⟨rfl, rfl, rfl⟩
  · rw [if_pos ⟨Int32.not_lt.mp h, Int32.not_lt.mp h2⟩]; exact ⟨rfl, rfl, rfl⟩
/-- what the class's reader reads from -/
def TpC (B : Nat → Int32) (n : Nat) (I : Nat → Nat → Int32) : Prop := I 2 4 = nI n ∧ n ≤ 600 ∧ (∀ k, k < n → I 1 k = B k) ∧ (∀ k, byP (B k))
theorem TpC.of {I' : Nat → Nat → Int32} (h : TpC B n I) (hf : FA I I') : TpC B n I' := ⟨by rw [hf 2 4 (by omega)]; exact h.1, h.2.1, fun k hk => by rw [hf 1 k (by omega)]; exact h.2.2.1 k hk, h.2.2.2⟩
theorem ca_word (hT : TpC B n I) {s p m : Nat} (hp : p + m = n) (h5 : I 2 5 = nI s) (h6 : I 2 6 = nI p) (h7 : I 2 7 = nI 1) (h8 : I 2 8 = nI 0) : ∃ I', v_X6_advance_112 none I' L I L ∧ TkC (s, runF B n 2 m p, 1, 0) I' ∧ FA I I' := by
  induction m generalizing I p with
  | zero =>
    refine ⟨I, vc_X6_advance_112 ?_, ⟨h5, h6, h7, h8⟩, FA.rf⟩
    rw [hT.1, h6]
    exact ⟨fun _ => ⟨rfl, rfl, rfl⟩, fun z => absurd (nI_le (by omega) (by have := hT.2.1; omega)) z⟩
  | succ m ih =>
    have hn := hT.2.1
    have hb : I 1 (nI p).toNatClampNeg = B p := by rw [u_cl (by omega)]; exact hT.2.2.1 p (by omega)
    have er : runF B n 2 (m + 1) p = if clsF B n p = 2 then runF B n 2 m (p + 1) else p := rfl
    rw [er]
    by_cases e : 97 ≤ B p ∧ B p ≤ 122
    · rw [if_pos ((cls_2 (by omega)).mpr e)]
      have hf : FA I (up2 I 2 6 (nI (p + 1))) := FA_up (by omega)
      obtain ⟨I', hw, ht, hf2⟩ := ih (I := up2 I 2 6 (nI (p + 1))) (p := p + 1) (hT.of hf) (by omega) (by rw [up2_k (by decide)]; exact h5) (up2_s _ _ _ _) (by rw [up2_k (by decide)]; exact h7) (by rw [up2_k (by decide)]; exact h8)
      refine ⟨I', vc_X6_advance_112 ?_, ht, hf.tr hf2⟩
      rw [hT.1, h6, hb, nI_1]
      exact ⟨fun z => absurd z (nI_ge (by omega) (by omega)), fun _ => ⟨u_in (by omega) (by decide), _, ct_lower _, g1p e hw⟩⟩
    · rw [if_neg (fun z => e ((cls_2 (by omega)).mp z))]
      refine ⟨I, vc_X6_advance_112 ?_, ⟨h5, h6, h7, h8⟩, FA.rf⟩
      rw [hT.1, h6, hb]
      exact ⟨fun z => absurd z (nI_ge (by omega) (by omega)), fun _ => ⟨u_in (by omega) (by decide), _, ct_lower _, g1n e ⟨rfl, rfl, rfl⟩⟩⟩
theorem dg_step {v d : Nat} (hv : v ≤ 1000) (hd : 48 ≤ d ∧ d ≤ 57) : (if nI v * 10 + nI d - 48 < 1000 then nI v * 10 + nI d - 48 else 1000) = nI (min 1000 (10 * v + d - 48)) := by
  have e : nI v * 10 + nI d - 48 = nI (10 * v + d - 48) := by
    rw [show (10 : Int32) = nI 10 from rfl, show (48 : Int32) = nI 48 from rfl, u_mul, u_add, pk_sub (by omega), Nat.mul_comm v 10]
  rw [e, show (1000 : Int32) = nI 1000 from rfl]
  by_cases h : 10 * v + d - 48 < 1000
  · rw [if_pos (nI_lt h (by omega)), Nat.min_eq_right (by omega)]
  · rw [if_neg (nI_nlt (by omega) (by omega)), Nat.min_eq_left (by omega)]
theorem ca_num (hT : TpC B n I) {s p m v : Nat} (hp : p + m = n) (hv : v ≤ 1000) (h5 : I 2 5 = nI s) (h6 : I 2 6 = nI p) (h7 : I 2 7 = nI 2) (h8 : I 2 8 = nI v) : ∃ I', v_X6_advance_171 none I' L I L ∧ TkC (s, runF B n 3 m p, 2, digF B n m p v) I' ∧ FA I I' := by
  induction m generalizing I p v with
  | zero =>
    refine ⟨I, vc_X6_advance_171 ?_, ⟨h5, h6, h7, h8⟩, FA.rf⟩
    rw [hT.1, h6]
    exact ⟨fun _ => ⟨rfl, rfl, rfl⟩, fun z => absurd (nI_le (by omega) (by have := hT.2.1; omega)) z⟩
  | succ m ih =>
    have hn := hT.2.1
    have hb : I 1 (nI p).toNatClampNeg = B p := by rw [u_cl (by omega)]; exact hT.2.2.1 p (by omega)
    have er : runF B n 3 (m + 1) p = if clsF B n p = 3 then runF B n 3 m (p + 1) else p := rfl
    have ed : digF B n (m + 1) p v = if clsF B n p = 3 then digF B n m (p + 1) (min 1000 (10 * v + (B p).toInt.toNat - 48)) else v := rfl
    rw [er, ed]
    by_cases e : 48 ≤ B p ∧ B p ≤ 57
    · rw [if_pos ((cls_3 (by omega)).mpr e), if_pos ((cls_3 (by omega)).mpr e)]
      obtain ⟨-, bd, b48, b57⟩ := (hT.2.2.2 p).2.2.2.2.1 e
      obtain ⟨J, hJ⟩ : ∃ J, J = up2 (up2 I 2 8 (nI (min 1000 (10 * v + (B p).toInt.toNat - 48)))) 2 6 (nI (p + 1)) := ⟨_, rfl⟩
      have hf : FA I J := by rw [hJ]; exact (FA_up (by omega)).tr (FA_up (by omega))
      obtain ⟨I', hw, ht, hf2⟩ := ih (I := J) (p := p + 1) (v := min 1000 (10 * v + (B p).toInt.toNat - 48)) (hT.of hf) (by omega) (by omega) (by rw [hJ, up2_k (by decide), up2_k (by decide)]; exact h5) (by rw [hJ]; exact up2_s _ _ _ _) (by rw [hJ, up2_k (by decide), up2_k (by decide)]; exact h7) (by rw [hJ, up2_k (by decide)]; exact up2_s _ _ _ _)
      refine ⟨I', vc_X6_advance_171 ?_, ht, hf.tr hf2⟩
      rw [hT.1, h6, hb, h8]
      refine ⟨fun z => absurd z (nI_ge (by omega) (by omega)), fun _ => ⟨u_in (by omega) (by decide), _, ct_digit _, g1p e ⟨u_in (by omega) (by decide), fun I2 h2 => ?_⟩⟩⟩
      rw [bd, dg_step hv ⟨b48, b57⟩] at h2
      have e6 : I2 2 6 = nI p := by rw [h2, up2_k (by decide)]; exact h6
      rw [e6, nI_1, h2, ← hJ]
      exact hw
    · rw [if_neg (fun z => e ((cls_3 (by omega)).mp z)), if_neg (fun z => e ((cls_3 (by omega)).mp z))]
      refine ⟨I, vc_X6_advance_171 ?_, ⟨h5, h6, h7, h8⟩, FA.rf⟩
      rw [hT.1, h6, hb]
      exact ⟨fun z => absurd z (nI_ge (by omega) (by omega)), fun _ => ⟨u_in (by omega) (by decide), _, ct_digit _, g1n e ⟨rfl, rfl, rfl⟩⟩⟩
theorem ca_tok (hT : TpC B n I) {s : Nat} (hs : s ≤ n) (h1 : clsF B n s ≠ 1) (h6 : I 2 6 = nI s) : ∃ I', v_X6_advance_60 none I' L I L ∧ TkC (tokA B n s) I' ∧ FA I I' := by
  have hn := hT.2.1
  obtain ⟨J, hJ⟩ : ∃ J, J = up2 (up2 I 2 5 (I 2 6)) 2 8 0 := ⟨_, rfl⟩
  have hf : FA I J := by rw [hJ]; exact (FA_up (by omega)).tr (FA_up (by omega))
  have hTJ := hT.of hf
  have j5 : J 2 5 = nI s := by rw [hJ, up2_k (by decide), up2_s]; exact h6
  have j6 : J 2 6 = nI s := by rw [hJ, up2_k (by decide), up2_k (by decide)]; exact h6
  have j8 : J 2 8 = nI 0 := by rw [hJ]; exact up2_s _ _ _ _
  unfold tokA
  by_cases e0 : clsF B n s = 0
  · rw [if_pos e0]
    have hsn : ¬ s < n := fun q => cls_ne0 (B := B) q e0
    refine ⟨up2 J 2 7 0, vc_X6_advance_60 ?_, ⟨by rw [up2_k (by decide)]; exact j5, by rw [up2_k (by decide)]; exact j6, up2_s _ _ _ _, by rw [up2_k (by decide)]; exact j8⟩, hf.tr (FA_up (by omega))⟩
    rw [← hJ, j6, hTJ.1]
    exact ⟨fun z => absurd z (nI_nlt (by omega) (by omega)), fun _ => ⟨rfl, rfl, rfl⟩⟩
  rw [if_neg e0]
  have hl := cls_lt (B := B) e0
  have hb : J 1 (nI s).toNatClampNeg = B s := by rw [u_cl (by omega)]; exact hTJ.2.2.1 s hl
  have hin : vp_in (nI s) 600 := u_in (by omega) (by decide)
  have pre : ∀ I', (∃ r1, q_C kX6_isLowerCase [.int (B s)] J L (some (.int r1)) J L ∧ ((r1 = 0 → (vp_in (nI s) 600 ∧ (∃ r2, q_C kX6_isDigit [.int (B s)] J L (some (.int r2)) J L ∧ ((r2 = 0 → (vp_in (nI s) 600 ∧ ((B s = 59 → ∀ I4, I4 = (up2 (up2 J 2 7 3) 2 6 (((up2 J 2 7 3) 2 6) + 1)) → ((none : Option Value) = none ∧ I' = I4 ∧ L = L)) ∧ (¬ B s = 59 → ∀ I3, I3 = (up2 (up2 J 2 7 4) 2 6 (((up2 J 2 7 4) 2 6) + 1)) → ((none : Option Value) = none ∧ I' = I3 ∧ L = L))))) ∧ (¬ r2 = 0 → (v_X6_advance_171 none I' L (up2 J 2 7 2) L)))))) ∧ (¬ r1 = 0 → (v_X6_advance_112 none I' L (up2 J 2 7 1) L)))) → v_X6_advance_60 none I' L I L := by
    intro I' hw
    refine vc_X6_advance_60 ?_
    rw [← hJ, j6, hTJ.1, hb]
    exact ⟨fun _ => ⟨hin, hw⟩, fun z => absurd (nI_lt hl (by omega)) z⟩
  by_cases e2 : clsF B n s = 2
  · rw [if_pos e2]
    have hf7 : FA J (up2 J 2 7 1) := FA_up (by omega)
    obtain ⟨I', hw, ht, hf2⟩ := ca_word (L := L) (I := up2 J 2 7 1) (hTJ.of hf7) (s := s) (p := s) (m := n - s) (by omega) (by rw [up2_k (by decide)]; exact j5) (by rw [up2_k (by decide)]; exact j6) (up2_s _ _ _ _) (by rw [up2_k (by decide)]; exact j8)
    exact ⟨I', pre I' ⟨_, ct_lower _, g1p ((cls_2 hl).mp e2) hw⟩, ht, hf.tr (hf7.tr hf2)⟩
  rw [if_neg e2]
  have n2 : ¬ (97 ≤ B s ∧ B s ≤ 122) := fun z => e2 ((cls_2 hl).mpr z)
  by_cases e3 : clsF B n s = 3
  · rw [if_pos e3]
    have hf7 : FA J (up2 J 2 7 2) := FA_up (by omega)
    obtain ⟨I', hw, ht, hf2⟩ := ca_num (L := L) (I := up2 J 2 7 2) (hTJ.of hf7) (s := s) (p := s) (m := n - s) (v := 0) (by omega) (by omega) (by rw [up2_k (by decide)]; exact j5) (by rw [up2_k (by decide)]; exact j6) (up2_s _ _ _ _) (by rw [up2_k (by decide)]; exact j8)
    exact ⟨I', pre I' ⟨_, ct_lower _, g1n n2 ⟨hin, _, ct_digit _, g1p ((cls_3 hl).mp e3) hw⟩⟩, ht, hf.tr (hf7.tr hf2)⟩
  rw [if_neg e3]
  have n3' : ¬ (48 ≤ B s ∧ B s ≤ 57) := fun z => e3 ((cls_3 hl).mpr z)
  obtain ⟨c4, c5⟩ := cls_45 (B := B) hl h1 e2 e3
  have fin : ∀ x : Nat, TkC (s, s + 1, x, 0) (up2 (up2 J 2 7 (nI x)) 2 6 (nI (s + 1))) ∧ FA I (up2 (up2 J 2 7 (nI x)) 2 6 (nI (s + 1))) := fun x => ⟨⟨by rw [up2_k (by decide), up2_k (by decide)]; exact j5, up2_s _ _ _ _, by rw [up2_k (by decide)]; exact up2_s _ _ _ _, by rw [up2_k (by decide), up2_k (by decide)]; exact j8⟩, hf.tr ((FA_up (by omega)).tr (FA_up (by omega)))⟩
  by_cases e4 : B s = 59
  · rw [if_pos (c4 e4)]
    refine ⟨_, pre _ ⟨_, ct_lower _, g1n n2 ⟨hin, _, ct_digit _, g1n n3' ⟨hin, fun _ I4 h4 => ⟨rfl, ?_, rfl⟩, fun z => absurd e4 z⟩⟩⟩, fin 3⟩
    rw [h4, up2_k (show (6 : Nat) ≠ 7 by decide), j6, nI_1]
    rfl
  · rw [if_neg (by rw [c5 e4]; decide)]
    refine ⟨_, pre _ ⟨_, ct_lower _, g1n n2 ⟨hin, _, ct_digit _, g1n n3' ⟨hin, fun z => absurd z e4, fun _ I4 h4 => ⟨rfl, ?_, rfl⟩⟩⟩⟩, fin 4⟩
    rw [h4, up2_k (show (6 : Nat) ≠ 7 by decide), j6, nI_1]
    rfl
theorem ca_skip (hT : TpC B n I) {p m : Nat} (hp : p + m = n) (h6 : I 2 6 = nI p) : ∃ I', v_X6_advance_8 none I' L I L ∧ TkC (tokA B n (runF B n 1 m p)) I' ∧ FA I I' := by
  induction m generalizing I p with
  | zero =>
    have hn := hT.2.1
    obtain ⟨I', hw, ht, hf⟩ := ca_tok (L := L) hT (s := p) (by omega) (by rw [cls_0 (by omega)]; decide) h6
    refine ⟨I', vc_X6_advance_8 ?_, ht, hf⟩
    rw [hT.1, h6]
    exact ⟨fun _ => hw, fun z => absurd (nI_le (by omega) (by omega)) z⟩
  | succ m ih =>
    have hn := hT.2.1
    have hb : I 1 (nI p).toNatClampNeg = B p := by rw [u_cl (by omega)]; exact hT.2.2.1 p (by omega)
    have er : runF B n 1 (m + 1) p = if clsF B n p = 1 then runF B n 1 m (p + 1) else p := rfl
    have hin : vp_in (nI p) 600 := u_in (by omega) (by decide)
    rw [er]
    by_cases e : B p = 32 ∨ B p = 10
    · rw [if_pos ((cls_1 (by omega)).mpr e)]
      have hf : FA I (up2 I 2 6 (nI (p + 1))) := FA_up (by omega)
      obtain ⟨I', hw, ht, hf2⟩ := ih (I := up2 I 2 6 (nI (p + 1))) (p := p + 1) (hT.of hf) (by omega) (up2_s _ _ _ _)
      refine ⟨I', vc_X6_advance_8 ?_, ht, hf.tr hf2⟩
      rw [hT.1, h6, hb, nI_1]
      exact ⟨fun z => absurd z (nI_ge (by omega) (by omega)), fun _ => ⟨hin, fun _ => hw, fun z => ⟨hin, fun _ => hw, fun z2 => absurd e (fun q => q.elim z z2)⟩⟩⟩
    · rw [if_neg (fun z => e ((cls_1 (by omega)).mp z))]
      obtain ⟨I', hw, ht, hf⟩ := ca_tok (L := L) hT (s := p) (by omega) (fun z => e ((cls_1 (by omega)).mp z)) h6
      refine ⟨I', vc_X6_advance_8 ?_, ht, hf⟩
      rw [hT.1, h6, hb]
      exact ⟨fun z => absurd z (nI_ge (by omega) (by omega)), fun _ => ⟨hin, fun z => absurd (Or.inl z) e, fun _ => ⟨hin, fun z => absurd (Or.inr z) e, fun _ => hw⟩⟩⟩
theorem ca_advance (hT : TpC B n I) {p : Nat} (hp : p ≤ n) (h0 : I 2 0 = 0) (h6 : I 2 6 = nI p) : ∃ I', q_C kX6_advance [.ref 2] I L none I' L ∧ TkC (tokF B n p) I' ∧ FA I I' := by
  obtain ⟨I', hw, ht, hf⟩ := ca_skip (L := L) hT (p := p) (m := n - p) (by omega) h6
  exact ⟨I', c0_X6_advance (vc_X6_advance_0 ⟨fun _ => hw, fun z => absurd h0 z⟩), ht, hf⟩
theorem ca_advance0 (h0 : ¬ I 2 0 = 0) : q_C kX6_advance [.ref 2] I L none I L := c0_X6_advance (vc_X6_advance_0 ⟨fun z => absurd z h0, fun _ => ⟨rfl, rfl, rfl⟩⟩)
end AD
