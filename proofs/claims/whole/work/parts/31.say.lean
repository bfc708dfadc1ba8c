/-! SAYINGS: rows of letters; as the class has them (three bits a letter), as the reference has them (to the base of five). -/
def cE : List Nat → Nat
  | [] => 0
  | a :: t => a + 8 * cE t
def mF (acc : Nat) : List Nat → Nat
  | [] => acc
  | a :: t => mF (5 * acc + a) t
def mE (l : List Nat) : Nat := mF 0 l
def Sg (l : List Nat) : Prop := l.length ≤ 6 ∧ ∀ a ∈ l, 1 ≤ a ∧ a ≤ 4
theorem cE_app (l t : List Nat) : cE (l ++ t) = cE l + 8 ^ l.length * cE t := by
  induction l with
  | nil => simp [cE]
  | cons a l ih =>
    rw [List.cons_append, cE, cE, ih, List.length_cons, Nat.pow_succ, Nat.mul_add, Nat.mul_comm (8 ^ l.length) 8, Nat.mul_assoc]
    omega
theorem cE_lt : ∀ {l : List Nat}, (∀ a ∈ l, a ≤ 7) → cE l < 8 ^ l.length
  | [], _ => by decide
  | a :: t, h => by
    have h1 := cE_lt (l := t) (fun b hb => h b (List.mem_cons_of_mem _ hb))
    have h2 := h a List.mem_cons_self
    rw [cE, List.length_cons, Nat.pow_succ]
    omega
theorem cE_div : ∀ (n : Nat) {l : List Nat}, (∀ a ∈ l, a ≤ 7) → cE l / 8 ^ n = cE (l.drop n)
  | 0, l, _ => by simp
  | n + 1, [], _ => by simp [cE]
  | n + 1, a :: t, h => by
    have h2 := h a List.mem_cons_self
    rw [List.drop_succ_cons, ← cE_div n (fun b hb => h b (List.mem_cons_of_mem _ hb)), cE, Nat.pow_succ, Nat.mul_comm (8 ^ n) 8, ← Nat.div_div_eq_div_mul]
    congr 1
    omega
theorem cE_mod {l : List Nat} (h : ∀ a ∈ l, a ≤ 7) : cE l % 8 = l.headD 0 := by
  cases l with
  | nil => rfl
  | cons a t =>
    have h2 := h a List.mem_cons_self
    rw [cE]
    show (a + 8 * cE t) % 8 = a
    omega
theorem cE_0 {l : List Nat} (h : ∀ a ∈ l, 1 ≤ a) : cE l = 0 ↔ l = [] := by
  cases l with
  | nil => simp [cE]
  | cons a t =>
    have h2 := h a List.mem_cons_self
    constructor
    · intro e
      rw [cE] at e
      omega
    · intro e
      cases e
theorem Sg.le7 {l : List Nat} (h : Sg l) : ∀ a ∈ l, a ≤ 7 := fun a ha => by have := (h.2 a ha).2; omega
theorem Sg.ge1 {l : List Nat} (h : Sg l) : ∀ a ∈ l, 1 ≤ a := fun a ha => (h.2 a ha).1
theorem Sg.lt {l : List Nat} (h : Sg l) : cE l < 262144 := Nat.lt_of_lt_of_le (cE_lt h.le7) (by show 8 ^ l.length ≤ 8 ^ 6; exact Nat.pow_le_pow_right (by decide) h.1)
theorem Sg.drop {l : List Nat} (h : Sg l) (n : Nat) : Sg (l.drop n) := ⟨by rw [List.length_drop]; have := h.1; omega, fun a ha => h.2 a (List.mem_of_mem_drop ha)⟩
theorem Sg.take {l : List Nat} (h : Sg l) (n : Nat) : Sg (l.take n) := ⟨by rw [List.length_take]; have := h.1; omega, fun a ha => h.2 a (List.mem_of_mem_take ha)⟩
theorem pow8 (n : Nat) : 8 ^ n = 2 ^ (3 * n) := by rw [show 8 = 2 ^ 3 from rfl, ← Nat.pow_mul]
theorem u_3n : ∀ n, n < 7 → (3 : Int32) * nI n = nI (3 * n) := fun n _ => u_mul 3 n
/-- what is behind the first n letters -/
theorem s_shr {l : List Nat} (h : Sg l) {n : Nat} (hn : n < 7) : nI (cE l) >>> ((3 * nI n) &&& 31) = nI (cE (l.drop n)) := by
  have h1 := h.lt
  rw [u_3n n hn, u_shr (by omega) (by omega), ← pow8, cE_div n h.le7]
theorem s_at {l : List Nat} (h : Sg l) {n : Nat} (hn : n < 7) : (nI (cE l) >>> ((3 * nI n) &&& 31)) &&& 7 = nI (l.getD n 0) := by
  rw [s_shr h hn, show (7 : Int32) = nI 7 from rfl, u_and, show (7 : Nat) = 2 ^ 3 - 1 from rfl, Nat.and_two_pow_sub_one_eq_mod, show 2 ^ 3 = 8 from rfl, cE_mod (h.drop n).le7]
  congr 1
  rw [List.headD_eq_head?_getD, List.head?_drop, List.getD_eq_getElem?_getD]
theorem ct_size {I : Nat → Nat → Int32} {L : Nat → Nat → Int64} {l : List Nat} (h : Sg l) : q_C kX7_size [.int (nI (cE l))] I L (some (.int (nI l.length))) I L := by
  have hl := h.1
  have loop : ∀ m n : Nat, n + m = l.length → v_X7_size_2 (some (.int (nI l.length))) I L I L (nI (cE l)) (nI n) := by
    intro m
    induction m with
    | zero =>
      intro n hn
      have e : n = l.length := by omega
      subst e
      refine vc_X7_size_2 ⟨fun _ => ⟨rfl, rfl, rfl⟩, fun _ => ⟨fun _ => ⟨rfl, rfl, rfl⟩, fun hc => ?_⟩⟩
      exfalso
      apply hc
      rw [s_shr h (by omega), List.drop_length]
      rfl
    | succ m ih =>
      intro n hn
      refine vc_X7_size_2 ⟨fun hc => ?_, fun _ => ⟨fun hc => ?_, fun _ => ?_⟩⟩
      · exact absurd hc (nI_ge (a := n) (b := 6) (by omega) (by decide))
      · exfalso
        rw [s_shr h (by omega), u_0 (by have := (h.drop n).lt; omega), cE_0 (h.drop n).ge1] at hc
        have := congrArg List.length hc
        rw [List.length_drop] at this
        simp at this
        omega
      · rw [nI_1]
        exact ih (n + 1) (by omega)
  exact c0_X7_size (vc_X7_size_0 (loop l.length 0 (by omega)))
theorem ct_letterAt {I : Nat → Nat → Int32} {L : Nat → Nat → Int64} {l : List Nat} (h : Sg l) (i : Int32) : q_C kX7_letterAt [.int (nI (cE l)), .int i] I L (some (.int (if i < 0 then 0 else nI (l.getD i.toNatClampNeg 0)))) I L := by
  refine c0_X7_letterAt (vc_X7_letterAt_0 ⟨fun hc => ?_, fun hc => ⟨fun h6 => ?_, fun h6 => ?_⟩⟩)
  · rw [if_pos hc]
    exact ⟨rfl, rfl, rfl⟩
  · obtain ⟨n, hn, rfl⟩ := nI_of hc
    have hn6 : n < 6 := (nI_ltI (b := 6) hn (by decide)).mp h6
    rw [if_neg hc, u_cl hn, s_at h (by omega)]
    exact ⟨rfl, rfl, rfl⟩
  · obtain ⟨n, hn, rfl⟩ := nI_of hc
    have hn6 : ¬ n < 6 := fun q => h6 ((nI_ltI (b := 6) hn (by decide)).mpr q)
    have hl := h.1
    rw [if_neg hc, u_cl hn, List.getD_eq_getElem?_getD, List.getElem?_eq_none (by omega)]
    exact ⟨rfl, rfl, rfl⟩
theorem cE_split (l : List Nat) (n : Nat) : cE l = 8 ^ (l.take n).length * cE (l.drop n) + cE (l.take n) := by
  have h := cE_app (l.take n) (l.drop n)
  rw [List.take_append_drop] at h
  omega
/-- one letter more behind -/
theorem ct_with_add {I : Nat → Nat → Int32} {L : Nat → Nat → Int64} {l : List Nat} (h : Sg l) (h6 : l.length < 6) {k : Nat} (hk : k < 8) : q_C kX7_with [.int (nI (cE l)), .int (nI l.length), .int (nI k)] I L (some (.int (nI (cE (l ++ [k]))))) I L := by
  refine c0_X7_with (vc_X7_with_0 ⟨?_, rfl, rfl⟩)
  have hp : 2 ^ (3 * l.length) ≤ 2 ^ 15 := Nat.pow_le_pow_right (by decide) (by omega)
  have h7 : (7 : Nat) * 2 ^ (3 * l.length) < 2 ^ 32 := by
    have : (7 : Nat) * 2 ^ (3 * l.length) ≤ 7 * 2 ^ 15 := Nat.mul_le_mul_left 7 hp
    omega
  have hkk : k * 2 ^ (3 * l.length) < 2 ^ 32 := by
    have : k * 2 ^ (3 * l.length) ≤ 7 * 2 ^ 15 := Nat.mul_le_mul (by omega) hp
    omega
  have hlt : cE l < 2 ^ (3 * l.length) := by rw [← pow8]; exact cE_lt h.le7
  rw [u_3n _ (by omega), show (7 : Int32) = nI 7 from rfl, u_shl (by omega) h7, u_shl (by omega) hkk, u_m1, u_xor, Nat.xor_comm, u_and, u_or]
  have e1 := u_mask (k := 3 * l.length) (a := 0) (b := cE l) (by omega) hlt (by omega)
  rw [Nat.mul_zero, Nat.zero_add] at e1
  rw [e1]
  have e2 := u_orD (k := 3 * l.length) (a := 0) (b := cE l) k hlt
  rw [Nat.mul_zero, Nat.zero_add] at e2
  rw [e2, cE_app, pow8]
  congr 3
  show cE l + 2 ^ (3 * l.length) * (k + 8 * 0) = _
  rw [Nat.zero_or, Nat.mul_zero, Nat.add_zero]
  omega
/-- without the last letter -/
theorem ct_with_drop {I : Nat → Nat → Int32} {L : Nat → Nat → Int64} {l : List Nat} {k : Nat} (h : Sg (l ++ [k])) : q_C kX7_with [.int (nI (cE (l ++ [k]))), .int (nI l.length), .int 0] I L (some (.int (nI (cE l)))) I L := by
  refine c0_X7_with (vc_X7_with_0 ⟨?_, rfl, rfl⟩)
  have hl : l.length < 6 := by have := h.1; rw [List.length_append] at this; simp at this; omega
  have hk : k < 8 := by have := h.le7 k (by simp); omega
  have hs : ∀ a ∈ l, a ≤ 7 := fun a ha => h.le7 a (List.mem_append_left _ ha)
  have hp : 2 ^ (3 * l.length) ≤ 2 ^ 15 := Nat.pow_le_pow_right (by decide) (by omega)
  have h7 : (7 : Nat) * 2 ^ (3 * l.length) < 2 ^ 32 := by
    have : (7 : Nat) * 2 ^ (3 * l.length) ≤ 7 * 2 ^ 15 := Nat.mul_le_mul_left 7 hp
    omega
  have hlt : cE l < 2 ^ (3 * l.length) := by rw [← pow8]; exact cE_lt hs
  rw [u_3n _ (by omega), show (7 : Int32) = nI 7 from rfl, show (0 : Int32) = nI 0 from rfl, u_shl (by omega) h7, u_shl (a := 0) (by omega) (by omega), u_m1, u_xor, Nat.xor_comm, u_and, u_or]
  have e0 : cE (l ++ [k]) = 2 ^ (3 * l.length) * k + cE l := by
    rw [cE_app, pow8]
    show cE l + 2 ^ (3 * l.length) * (k + 8 * 0) = _
    rw [Nat.mul_zero, Nat.add_zero]
    omega
  rw [e0, u_mask hk hlt (by omega), Nat.zero_mul, Nat.or_zero]
theorem ct_reversed {I : Nat → Nat → Int32} {L : Nat → Nat → Int64} {l : List Nat} (h : Sg l) : q_C kX7_reversed [.int (nI (cE l))] I L (some (.int (nI (cE l.reverse)))) I L := by
  have hl := h.1
  have loop : ∀ m n : Nat, n + m = l.length → v_X7_reversed_6 (some (.int (nI (cE l.reverse)))) I L I L (nI (cE (l.take n).reverse)) (nI (cE (l.drop n))) (nI n) := by
    intro m
    induction m with
    | zero =>
      intro n hn
      have e : n = l.length := by omega
      subst e
      have ed : nI (cE (l.drop l.length)) = 0 := by rw [List.drop_length]; rfl
      rw [List.take_length]
      refine vc_X7_reversed_6 ⟨fun _ => ⟨rfl, rfl, rfl⟩, fun _ => ⟨fun _ => ⟨rfl, rfl, rfl⟩, fun hc => absurd ed hc⟩⟩
    | succ m ih =>
      intro n hn
      have hlt : n < l.length := by omega
      have hd : l.drop n = l[n] :: l.drop (n + 1) := List.drop_eq_getElem_cons hlt
      have ha := h.2 l[n] (List.getElem_mem hlt)
      refine vc_X7_reversed_6 ⟨fun hc => ?_, fun _ => ⟨fun hc => ?_, fun _ => ?_⟩⟩
      · exact absurd hc (nI_ge (a := n) (b := 6) (by omega) (by decide))
      · exfalso
        rw [u_0 (by have := (h.drop n).lt; omega), cE_0 (h.drop n).ge1, hd] at hc
        cases hc
      · have ht : Sg (l.take n).reverse := ⟨by rw [List.length_reverse, List.length_take]; omega, fun a q => (h.take n).2 a (List.mem_reverse.mp q)⟩
        have e1 : ((nI (cE (l.take n).reverse) <<< ((3 : Int32) &&& 31)) ||| (nI (cE (l.drop n)) &&& 7)) = nI (cE (l.take (n + 1)).reverse) := by
          have hb := ht.lt
          rw [show ((3 : Int32) &&& 31) = (nI 3 &&& 31) from rfl, u_shl (by omega) (by omega), show (7 : Int32) = nI 7 from rfl, u_and, show (7 : Nat) = 2 ^ 3 - 1 from rfl, Nat.and_two_pow_sub_one_eq_mod, u_or]
          have e2 : cE (l.drop n) % 2 ^ 3 = l[n] := by
            rw [show 2 ^ 3 = 8 from rfl, cE_mod (h.drop n).le7, hd]
            rfl
          have e3 := u_orD (k := 3) (a := 0) (b := l[n]) (cE (l.take n).reverse) (by omega)
          rw [Nat.mul_zero, Nat.zero_add, Nat.zero_or] at e3
          rw [e2, Nat.or_comm, e3, List.take_succ_eq_append_getElem hlt, List.reverse_append]
          show nI _ = nI (l[n] + 8 * cE (l.take n).reverse)
          congr 1
          omega
        have e4 : nI (cE (l.drop n)) >>> ((3 : Int32) &&& 31) = nI (cE (l.drop (n + 1))) := by
          have := s_shr (h.drop n) (n := 1) (by omega)
          rw [List.drop_drop] at this
          rw [← this]
          rfl
        rw [e1, e4, nI_1]
        exact ih (n + 1) (by omega)
  have h0 := loop l.length 0 (by omega)
  rw [List.take_zero, List.drop_zero] at h0
  exact c0_X7_reversed (vc_X7_reversed_0 h0)
theorem cE_set {l : List Nat} {n : Nat} (hn : n < l.length) (b : Nat) : cE (l.take n ++ b :: l.drop (n + 1)) = 8 ^ n * (b + 8 * cE (l.drop (n + 1))) + cE (l.take n) := by
  rw [cE_app, cE, List.length_take, Nat.min_eq_left (by omega)]
  omega
/-- each first letter to the second -/
theorem ct_replaced {I : Nat → Nat → Int32} {L : Nat → Nat → Int64} {l : List Nat} (h : Sg l) {a b : Nat} (ha : 1 ≤ a ∧ a ≤ 4) (hb : 1 ≤ b ∧ b ≤ 4) : q_C kX7_replaced [.int (nI (cE l)), .int (nI a), .int (nI b)] I L (some (.int (nI (cE (l.map (fun x => if x = a then b else x)))))) I L := by
  have hl := h.1
  have loop : ∀ m n : Nat, n + m = 6 → v_X7_replaced_5 (some (.int (nI (cE (l.map (fun x => if x = a then b else x)))))) I L I L (nI (cE l)) (nI a) (nI b) (nI (cE ((l.take n).map (fun x => if x = a then b else x) ++ l.drop n))) (nI n) := by
    intro m
    induction m with
    | zero =>
      intro n hn
      have e : n = 6 := by omega
      subst e
      rw [List.take_of_length_le hl, List.drop_of_length_le hl, List.append_nil]
      refine vc_X7_replaced_5 ⟨fun _ => ⟨rfl, rfl, rfl⟩, fun hc => absurd (by decide) hc⟩
    | succ m ih =>
      intro n hn
      refine vc_X7_replaced_5 ⟨fun hc => ?_, fun _ => ⟨fun hc => ?_, fun hc => ?_⟩⟩
      · exact absurd hc (nI_ge (a := n) (b := 6) (by omega) (by decide))
      · rw [s_at h (by omega)] at hc
        have hg : l.getD n 0 < 8 := by
          rw [List.getD_eq_getElem?_getD]
          by_cases hx : n < l.length
          · rw [List.getElem?_eq_getElem hx]
            have := h.le7 _ (List.getElem_mem hx)
            show l[n] < 8
            omega
          · rw [List.getElem?_eq_none (by omega)]
            decide
        have hc := (u_eq (by omega) (by omega)).mp hc
        have hlt : n < l.length := by
          rcases Nat.lt_or_ge n l.length with q | q
          · exact q
          · rw [List.getD_eq_getElem?_getD, List.getElem?_eq_none q] at hc
            have : 0 = a := hc
            omega
        have hn' : l[n] = a := by
          rw [List.getD_eq_getElem?_getD, List.getElem?_eq_getElem hlt] at hc
          exact hc
        have e1 : nI (cE ((l.take n).map (fun x => if x = a then b else x) ++ l.drop n)) ^^^ ((nI a ^^^ nI b) <<< ((3 * nI n) &&& 31)) = nI (cE ((l.take (n + 1)).map (fun x => if x = a then b else x) ++ l.drop (n + 1))) := by
          have hd : l.drop n = a :: l.drop (n + 1) := by rw [← hn']; exact List.drop_eq_getElem_cons hlt
          have hlm : ((l.take n).map (fun x => if x = a then b else x)).length = n := by rw [List.length_map, List.length_take]; omega
          have hab : a ^^^ b < 8 := Nat.xor_lt_two_pow (n := 3) (by omega) (by omega)
          have hp : 2 ^ (3 * n) ≤ 2 ^ 15 := Nat.pow_le_pow_right (by decide) (by omega)
          have hm : (a ^^^ b) * 2 ^ (3 * n) < 2 ^ 32 := by
            have : (a ^^^ b) * 2 ^ (3 * n) ≤ 8 * 2 ^ 15 := Nat.mul_le_mul (by omega) hp
            omega
          have hP : cE ((l.take n).map (fun x => if x = a then b else x)) < 2 ^ (3 * n) := by
            have := cE_lt (l := (l.take n).map (fun x => if x = a then b else x)) (fun x hx => by
              obtain ⟨z, hz, rfl⟩ := List.mem_map.mp hx
              have := (h.take n).le7 z hz
              by_cases e : z = a
              · rw [if_pos e]; omega
              · rw [if_neg e]; exact this)
            rw [hlm, pow8] at this
            exact this
          rw [u_xor, u_3n n (by omega), u_shl (by omega) hm, u_xor]
          congr 1
          rw [cE_app, hlm, pow8, hd, Nat.add_comm, u_xorD _ hP, List.take_succ_eq_append_getElem hlt, List.map_append, List.append_assoc, cE_app, hlm, hn', pow8]
          have e2 : cE (a :: l.drop (n + 1)) ^^^ (a ^^^ b) = b + 8 * cE (l.drop (n + 1)) := by
            have h3 := u_xorD (k := 3) (a := 0) (b := a ^^^ b) (cE (l.drop (n + 1))) (by omega)
            have h4 := u_orD (k := 3) (a := 0) (b := a) (cE (l.drop (n + 1))) (by omega)
            have h5 := u_xorD (k := 3) (a := 0) (b := a) (cE (l.drop (n + 1))) (by omega)
            rw [Nat.mul_zero, Nat.zero_add, Nat.zero_xor] at h5
            have h6 : cE (a :: l.drop (n + 1)) = a ^^^ (cE (l.drop (n + 1)) * 2 ^ 3) := by
              rw [h5, cE]
              omega
            have h7 := u_xorD (k := 3) (a := 0) (b := b) (cE (l.drop (n + 1))) (by omega)
            rw [Nat.mul_zero, Nat.zero_add, Nat.zero_xor] at h7
            rw [h6, Nat.xor_comm a, Nat.xor_assoc, ← Nat.xor_assoc a a b, Nat.xor_self, Nat.zero_xor, Nat.xor_comm, h7]
            omega
          rw [e2]
          show _ = _ + 2 ^ (3 * n) * cE ((if a = a then b else a) :: l.drop (n + 1))
          rw [if_pos rfl, cE]
          omega
        rw [e1, nI_1]
        exact ih (n + 1) (by omega)
      · rw [s_at h (by omega)] at hc
        have e1 : (l.take (n + 1)).map (fun x => if x = a then b else x) ++ l.drop (n + 1) = (l.take n).map (fun x => if x = a then b else x) ++ l.drop n := by
          rcases Nat.lt_or_ge n l.length with hlt | hge
          · have hne : ¬ l[n] = a := fun q => hc (by rw [List.getD_eq_getElem?_getD, List.getElem?_eq_getElem hlt, ← q]; rfl)
            rw [List.take_succ_eq_append_getElem hlt, List.map_append, List.append_assoc, List.drop_eq_getElem_cons hlt]
            congr 1
            show (if l[n] = a then b else l[n]) :: l.drop (n + 1) = _
            rw [if_neg hne]
          · rw [List.take_of_length_le (by omega), List.take_of_length_le hge, List.drop_of_length_le (by omega), List.drop_of_length_le hge]
        rw [← e1, nI_1]
        exact ih (n + 1) (by omega)
  have h0 := loop 6 0 (by omega)
  rw [List.take_zero, List.drop_zero] at h0
  exact c0_X7_replaced (vc_X7_replaced_0 h0)
/-- what a pew makes of what it hears -/
def hb (k a b : Nat) (l : List Nat) : List Nat :=
  if k = 1 then l.reverse else if k = 2 then l.dropLast else if k = 3 then (if l.length = 6 then l else l ++ [a]) else if k = 4 then l.map (fun x => if x = a then b else x) else l
theorem hb_Sg {k a b : Nat} {l : List Nat} (h : Sg l) (hk : (k = 3 ∨ k = 4 → 1 ≤ a ∧ a ≤ 4) ∧ (k = 4 → 1 ≤ b ∧ b ≤ 4)) : Sg (hb k a b l) := by
  unfold hb
  by_cases h1 : k = 1
  · rw [if_pos h1]
    exact ⟨by rw [List.length_reverse]; exact h.1, fun x hx => h.2 x (List.mem_reverse.mp hx)⟩
  · rw [if_neg h1]
    by_cases h2 : k = 2
    · rw [if_pos h2]
      exact ⟨by rw [List.length_dropLast]; have := h.1; omega, fun x hx => h.2 x (List.dropLast_subset _ hx)⟩
    · rw [if_neg h2]
      by_cases h3 : k = 3
      · rw [if_pos h3]
        have hh := hk.1 (Or.inl h3)
        by_cases h6 : l.length = 6
        · rw [if_pos h6]
          exact h
        · rw [if_neg h6]
          refine ⟨by rw [List.length_append]; have := h.1; simp; omega, fun x hx => ?_⟩
          rcases List.mem_append.mp hx with q | q
          · exact h.2 x q
          · have : x = a := by simpa using q
            rw [this]
            exact hh
      · rw [if_neg h3]
        by_cases h4 : k = 4
        · rw [if_pos h4]
          have hh := hk.1 (Or.inr h4)
          have hh2 := hk.2 h4
          refine ⟨by rw [List.length_map]; exact h.1, fun x hx => ?_⟩
          obtain ⟨z, hz, rfl⟩ := List.mem_map.mp hx
          by_cases e : z = a
          · rw [if_pos e]; exact hh2
          · rw [if_neg e]; exact h.2 z hz
        · rw [if_neg h4]
          exact h
