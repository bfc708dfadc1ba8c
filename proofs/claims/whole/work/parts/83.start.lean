/-! THE START: what the two constructors leave; what is known at the law's entry. -/
def I00 : Nat → Nat → Int32 := ci_X12_init_96 (zr 0 (ci_X11_init_0 (zr 0 (fun _ _ => 0) 0)) 96)
def L00 : Nat → Nat → Int64 := cl_X12_init_96 (zr 0 (cl_X11_init_0 (zr 0 (fun _ _ => 0) 0)) 96)
def R00 : Nat → Nat → Option Nat := cr_X12_init_96 (zr none (cr_X11_init_0 (zr none (fun _ _ => none) 0)) 96)
def Z00 : St := (A0, (0, fun _ => 0), (0, -1), fun _ => none, fun _ => none)
theorem I00_c : (∀ k, k < 8 → I00 12 k = 0) ∧ I00 21 0 = 0 ∧ I00 0 1 = 0 ∧ I00 0 2 = 0 ∧ I00 0 3 = -1 ∧ (∀ k, k < 3 → I00 35 k = 0) ∧ (∀ s, s < 4 → I00 26 s = -1) ∧ I00 0 18 = 0 ∧ (∀ s, s < 128 → I00 89 s = -1) := by decide +kernel
theorem I00_m : (∀ k, k < 9 → I00 97 k = 0) ∧ I00 96 5 = 0 ∧ I00 96 12 = 0 ∧ I00 96 13 = -1 ∧ (∀ k, k < 3 → I00 99 k = 0) ∧ (∀ s, s < 4 → I00 109 s = -1) := by decide +kernel
theorem RelC_00 : RelC Z00 I00 L00 := by
  obtain ⟨a1, a2, a3, a4, a5, a6, a7, a8, a9⟩ := I00_c
  refine ⟨⟨⟨⟨⟨a1 0 (by decide), a1 1 (by decide), a1 2 (by decide), a1 3 (by decide), a1 4 (by decide), a1 5 (by decide), a1 6 (by decide), a1 7 (by decide)⟩, fun i hi => absurd hi (by show ¬ i < 0; omega), fun i hi => absurd hi (by show ¬ i < 0; omega), fun i hi => absurd hi (by show ¬ i < 0; omega), a2, fun i hi => absurd hi (by show ¬ i < 0; omega)⟩, NV_A0⟩, ⟨Nat.zero_le _, a3, fun i hi => absurd hi (by show ¬ i < 0; omega)⟩, ⟨a4, a5⟩, fun k hk => ⟨fun _ => a6 k hk, fun B z => ?_⟩, fun s hs => ⟨fun _ => a7 s hs, fun w n f z => ?_⟩⟩, Or.inl a8, fun s hs => Or.inl (a9 s hs)⟩
  · cases z
  · cases z
theorem RelM_00 : RelM Z00 I00 L00 := by
  obtain ⟨a1, a2, a3, a4, a5, a6⟩ := I00_m
  refine ⟨⟨⟨fun k hk => by rw [Nat.zero_add]; exact a1 k hk, fun i hi => absurd hi (by show ¬ i < 0; omega), fun i hi => absurd hi (by show ¬ i < 0; omega), fun i hi => absurd hi (by show ¬ i < 0; omega), fun i hi => absurd hi (by show ¬ i < 0; omega), fun i hi => absurd hi (by show ¬ i < 0; omega)⟩, NV_A0⟩, ⟨Nat.zero_le _, a2, fun i hi => absurd hi (by show ¬ i < 0; omega)⟩, ⟨a3, a4⟩, fun k hk => ⟨fun _ => a5 k hk, fun B z => ?_⟩, fun s hs => ⟨fun _ => a6 s hs, fun w n f z => ?_⟩⟩
  · cases z
  · cases z
def NoHi (R : Nat → Nat → Option Nat) : Prop := ∀ p k, 41 ≤ k → R p k = none
theorem NoHi.up {R : Nat → Nat → Option Nat} {p j : Nat} {x : Option Nat} (h : NoHi R) (hj : j < 41) : NoHi (up2 R p j x) := fun a k hk => by rw [up2_k (by omega)]; exact h a k hk
theorem NoHi.zr {R : Nat → Nat → Option Nat} {n : Nat} (h : NoHi R) : NoHi (zr none R n) := fun a k hk => by
  show (if a = n then none else R a k) = none
  by_cases e : a = n
  · rw [if_pos e]
  · rw [if_neg e]; exact h a k hk
theorem NoHi.ll {R : Nat → Nat → Option Nat} (h : NoHi R) : NoHi (fun p k => if p = 28 then (if k < 4 then some (28 + 1 + k) else none) else if 28 ≤ p ∧ p < 28 + 5 then none else R p k) := fun a k hk => by
  show (if a = 28 then (if k < 4 then some (28 + 1 + k) else none) else if 28 ≤ a ∧ a < 28 + 5 then none else R a k) = none
  by_cases e : a = 28
  · rw [if_pos e, if_neg (by omega)]
  · rw [if_neg e]
    by_cases e2 : 28 ≤ a ∧ a < 28 + 5
    · rw [if_pos e2]
    · rw [if_neg e2]; exact h a k hk
theorem NoHi_0 : NoHi (fun _ _ => none) := fun _ _ _ => rfl
theorem NoHi_R00 : NoHi R00 := by
  unfold R00 cr_X12_init_96 cr_X11_init_0 cr_X1_init_95 cr_X2_init_92 cr_X4_init_90 cr_X8_init_88 cr_X8_forget_88 cr_X10_init_87 cr_X3_init_81 cr_X3_init_75 cr_X0_init_71 cr_X5_init_62 cr_X0_init_58 cr_X5_init_49 cr_X0_init_45 cr_X5_init_36 cr_X9_init_25 cr_X0_init_21 cr_X5_init_12 cr_X6_init_2 cr_X5_init_3
  repeat first | exact NoHi_0 | refine NoHi.up ?_ (by decide) | refine NoHi.zr ?_ | refine NoHi.ll ?_
theorem R00_lo : ∀ p, p < 113 → ∀ k, k < 41 → R00 p k = q_MR p k := by decide +kernel
theorem MRt_len : ∀ p, p < 113 → (q_MRt.getD p []).length ≤ 41 := by decide +kernel
theorem R00_eq {p : Nat} (hp : p < 113) : R00 p = q_MR p := funext fun k => by
  by_cases hk : k < 41
  · exact R00_lo p hp k hk
  · rw [NoHi_R00 p k (by omega)]
    unfold q_MR
    have := MRt_len p hp
    rw [List.getD_eq_getElem?_getD, List.getElem?_eq_none (by omega)]
    rfl
theorem g_cong {w : q_Wc} {g : q_G} {pc : Nat} {lv : List (Nat × Value)} {st : List Value} {I : Nat → Nat → Int32} {L : Nat → Nat → Int64} (k : q_Gs w g pc lv st (q_mm I L)) : q_Gs w g pc lv st (113, I, L, R00) := by
  have e : q_ws w (113, I, L, R00) = q_ws w (q_mm I L) := by
    unfold q_ws
    refine List.map_congr_left (fun p hp => ?_)
    have hp : p < 113 := List.mem_range.mp hp
    rw [q_ce_eq (M := q_mm I L) (M' := (113, I, L, R00)) rfl rfl (R00_eq hp)]
  intro H locs ls hR h0 hS hl
  exact k H locs ls ⟨hR.1, by rw [← e]; exact hR.2⟩ h0 hS hl
/-- what the claim says of the texts -/
abbrev q_FL : List Cond := flatC (Jvm.Cond.and given_1 narrow_1)
def sxL (q : String × Nat × String × List Int32) : List Cond := Cond.exactly (.string q.1 q.2.1) "java/lang/String" :: Cond.eq (.field (.string q.1 q.2.1) "java/lang/String" "coder" "B") (.int 0) :: Cond.arrayOf (.field (.string q.1 q.2.1) "java/lang/String" "value" "[B") .byte :: Cond.eq (.length (.field (.string q.1 q.2.1) "java/lang/String" "value" "[B")) (.int (Int32.ofNat q.2.2.2.length)) :: (List.range q.2.2.2.length).map (fun j => Cond.eq (.elem (.field (.string q.1 q.2.1) "java/lang/String" "value" "[B") (.int (Int32.ofNat j))) (.int (q.2.2.2.getD j 0)))
def tx_at (q : String × Nat × String × List Int32) : Prop := (∀ x ∈ sxL q, x ∈ q_FL) ∧ Cond.stringRef q.1 q.2.1 q.2.2.1 ∈ lw_tbl
theorem tx_mk {q : String × Nat × String × List Int32} (o n : Nat) (h : (q_FL.drop o).take n = sxL q) (hr : Cond.stringRef q.1 q.2.1 q.2.2.1 ∈ lw_tbl) : tx_at q := ⟨fun x hx => List.mem_of_mem_drop (List.mem_of_mem_take (by rw [h]; exact hx)), hr⟩
theorem tx_0 : tx_at ("TaperTalk$Reader", 81, "night", [110, 105, 103, 104, 116]) := tx_mk 33 9 (by decide +kernel) (q_s3 _ (List.mem_of_getElem? (i := 29) (by decide +kernel)))
theorem tx_1 : tx_at ("TaperTalk$Reader", 87, "hours", [104, 111, 117, 114, 115]) := tx_mk 42 9 (by decide +kernel) (q_s3 _ (List.mem_of_getElem? (i := 90) (by decide +kernel)))
theorem tx_2 : tx_at ("TaperTalk$Reader", 95, "law", [108, 97, 119]) := tx_mk 51 7 (by decide +kernel) (q_s3 _ (List.mem_of_getElem? (i := 95) (by decide +kernel)))
theorem tx_3 : tx_at ("TaperTalk$Reader", 99, "odds", [111, 100, 100, 115]) := tx_mk 58 8 (by decide +kernel) (q_s3 _ (List.mem_of_getElem? (i := 96) (by decide +kernel)))
theorem tx_4 : tx_at ("TaperTalk$Reader", 53, "pew", [112, 101, 119]) := tx_mk 66 7 (by decide +kernel) (q_s3 _ (List.mem_of_getElem? (i := 97) (by decide +kernel)))
theorem tx_5 : tx_at ("TaperTalk$Reader", 123, "turn", [116, 117, 114, 110]) := tx_mk 73 8 (by decide +kernel) (q_s3 _ (List.mem_of_getElem? (i := 110) (by decide +kernel)))
theorem tx_6 : tx_at ("TaperTalk$Reader", 125, "drop", [100, 114, 111, 112]) := tx_mk 81 8 (by decide +kernel) (q_s3 _ (List.mem_of_getElem? (i := 111) (by decide +kernel)))
theorem tx_7 : tx_at ("TaperTalk$Reader", 127, "add", [97, 100, 100]) := tx_mk 89 7 (by decide +kernel) (q_s3 _ (List.mem_of_getElem? (i := 112) (by decide +kernel)))
theorem tx_8 : tx_at ("TaperTalk$Reader", 129, "change", [99, 104, 97, 110, 103, 101]) := tx_mk 96 10 (by decide +kernel) (q_s3 _ (List.mem_of_getElem? (i := 113) (by decide +kernel)))
theorem tx_9 : tx_at ("TaperTalk$Reader", 131, "rest", [114, 101, 115, 116]) := tx_mk 106 8 (by decide +kernel) (q_s3 _ (List.mem_of_getElem? (i := 114) (by decide +kernel)))
theorem tx_10 : tx_at ("TaperTalk$Reader", 62, "aisle", [97, 105, 115, 108, 101]) := tx_mk 114 9 (by decide +kernel) (q_s3 _ (List.mem_of_getElem? (i := 123) (by decide +kernel)))
theorem tx_11 : tx_at ("TaperTalk$Reader", 67, "light", [108, 105, 103, 104, 116]) := tx_mk 123 9 (by decide +kernel) (q_s3 _ (List.mem_of_getElem? (i := 136) (by decide +kernel)))
theorem tx_12 : tx_at ("TaperTalk$Reader", 72, "draught", [100, 114, 97, 117, 103, 104, 116]) := tx_mk 132 11 (by decide +kernel) (q_s3 _ (List.mem_of_getElem? (i := 148) (by decide +kernel)))
theorem tx_13 : tx_at ("TaperTalk$Reader", 160, "at", [97, 116]) := tx_mk 143 6 (by decide +kernel) (q_s3 _ (List.mem_of_getElem? (i := 153) (by decide +kernel)))
theorem tx_14 : tx_at ("TaperTalkModel", 158, "night", [110, 105, 103, 104, 116]) := tx_mk 149 9 (by decide +kernel) (q_s7 _ (List.mem_of_getElem? (i := 3) (by decide +kernel)))
theorem tx_15 : tx_at ("TaperTalkModel", 160, "hours", [104, 111, 117, 114, 115]) := tx_mk 159 9 (by decide +kernel) (q_s7 _ (List.mem_of_getElem? (i := 22) (by decide +kernel)))
theorem tx_16 : tx_at ("TaperTalkModel", 165, "law", [108, 97, 119]) := tx_mk 169 7 (by decide +kernel) (q_s7 _ (List.mem_of_getElem? (i := 31) (by decide +kernel)))
theorem tx_17 : tx_at ("TaperTalkModel", 167, "odds", [111, 100, 100, 115]) := tx_mk 177 8 (by decide +kernel) (q_s7 _ (List.mem_of_getElem? (i := 32) (by decide +kernel)))
theorem tx_18 : tx_at ("TaperTalkModel", 186, "pew", [112, 101, 119]) := tx_mk 186 7 (by decide +kernel) (q_s7 _ (List.mem_of_getElem? (i := 37) (by decide +kernel)))
theorem tx_19 : tx_at ("TaperTalkModel", 188, "aisle", [97, 105, 115, 108, 101]) := tx_mk 194 9 (by decide +kernel) (q_s7 _ (List.mem_of_getElem? (i := 38) (by decide +kernel)))
theorem tx_20 : tx_at ("TaperTalkModel", 190, "light", [108, 105, 103, 104, 116]) := tx_mk 204 9 (by decide +kernel) (q_s7 _ (List.mem_of_getElem? (i := 39) (by decide +kernel)))
theorem tx_21 : tx_at ("TaperTalkModel", 192, "draught", [100, 114, 97, 117, 103, 104, 116]) := tx_mk 214 11 (by decide +kernel) (q_s7 _ (List.mem_of_getElem? (i := 40) (by decide +kernel)))
theorem tx_22 : tx_at ("TaperTalkModel", 169, "rest", [114, 101, 115, 116]) := tx_mk 226 8 (by decide +kernel) (q_s7 _ (List.mem_of_getElem? (i := 49) (by decide +kernel)))
theorem tx_23 : tx_at ("TaperTalkModel", 171, "turn", [116, 117, 114, 110]) := tx_mk 235 8 (by decide +kernel) (q_s7 _ (List.mem_of_getElem? (i := 50) (by decide +kernel)))
theorem tx_24 : tx_at ("TaperTalkModel", 173, "drop", [100, 114, 111, 112]) := tx_mk 244 8 (by decide +kernel) (q_s7 _ (List.mem_of_getElem? (i := 51) (by decide +kernel)))
theorem tx_25 : tx_at ("TaperTalkModel", 175, "add", [97, 100, 100]) := tx_mk 253 7 (by decide +kernel) (q_s7 _ (List.mem_of_getElem? (i := 52) (by decide +kernel)))
theorem tx_26 : tx_at ("TaperTalkModel", 177, "change", [99, 104, 97, 110, 103, 101]) := tx_mk 261 10 (by decide +kernel) (q_s7 _ (List.mem_of_getElem? (i := 53) (by decide +kernel)))
theorem tx_27 : tx_at ("TaperTalkModel", 185, "at", [97, 116]) := tx_mk 272 6 (by decide +kernel) (q_s7 _ (List.mem_of_getElem? (i := 71) (by decide +kernel)))
theorem tx_ok : ∀ q ∈ q_SX, tx_at q := List.forall_mem_cons.mpr ⟨tx_0, List.forall_mem_cons.mpr ⟨tx_1, List.forall_mem_cons.mpr ⟨tx_2, List.forall_mem_cons.mpr ⟨tx_3, List.forall_mem_cons.mpr ⟨tx_4, List.forall_mem_cons.mpr ⟨tx_5, List.forall_mem_cons.mpr ⟨tx_6, List.forall_mem_cons.mpr ⟨tx_7, List.forall_mem_cons.mpr ⟨tx_8, List.forall_mem_cons.mpr ⟨tx_9, List.forall_mem_cons.mpr ⟨tx_10, List.forall_mem_cons.mpr ⟨tx_11, List.forall_mem_cons.mpr ⟨tx_12, List.forall_mem_cons.mpr ⟨tx_13, List.forall_mem_cons.mpr ⟨tx_14, List.forall_mem_cons.mpr ⟨tx_15, List.forall_mem_cons.mpr ⟨tx_16, List.forall_mem_cons.mpr ⟨tx_17, List.forall_mem_cons.mpr ⟨tx_18, List.forall_mem_cons.mpr ⟨tx_19, List.forall_mem_cons.mpr ⟨tx_20, List.forall_mem_cons.mpr ⟨tx_21, List.forall_mem_cons.mpr ⟨tx_22, List.forall_mem_cons.mpr ⟨tx_23, List.forall_mem_cons.mpr ⟨tx_24, List.forall_mem_cons.mpr ⟨tx_25, List.forall_mem_cons.mpr ⟨tx_26, List.forall_mem_cons.mpr ⟨tx_27, fun _ h => absurd h List.not_mem_nil⟩⟩⟩⟩⟩⟩⟩⟩⟩⟩⟩⟩⟩⟩⟩⟩⟩⟩⟩⟩⟩⟩⟩⟩⟩⟩⟩⟩
theorem kn_of {s : State} {args : Array Value} (hts : ∀ x ∈ lw_tbl, x.before args s = true) {ci : Nat} {C : String} {T : u_T} {N : Nat} {ty : Nat → FieldType} (hC : q_cls ci C T N ty) (hin : Cond.instantiable C N ∈ q_tb) : ∃ q : ClassId × (Nat → Nat), ∀ r : vw_C, vwCl[ci]? = some r → u_Kn s r.1 r.2.1 r.2.2 q.1 q.2 := by
  obtain ⟨cC, iS, h⟩ := u_known (ws := lw_tbl) hts (fun x hx => q_tb_in (hC.2.1 x hx)) (hts _ (q_tb_in hin))
  refine ⟨(cC, iS), fun r hr => ?_⟩
  have e := hC.1.symm.trans hr
  cases e
  exact h
theorem kn_all {s : State} {args : Array Value} (hts : ∀ x ∈ lw_tbl, x.before args s = true) : ∀ k : Nat, ∃ q : ClassId × (Nat → Nat), ∀ r : vw_C, vwCl[k]? = some r → u_Kn s r.1 r.2.1 r.2.2 q.1 q.2
  | 0 => kn_of hts q_clX0 in_X0
  | 1 => kn_of hts q_clX1 in_X1
  | 2 => kn_of hts q_clX2 in_X2
  | 3 => kn_of hts q_clX3 in_X3
  | 4 => kn_of hts q_clX4 in_X4
  | 5 => kn_of hts q_clX5 in_X5
  | 6 => kn_of hts q_clX6 in_X6
  | 7 => kn_of hts q_clX8 in_X8
  | 8 => kn_of hts q_clX9 in_X9
  | 9 => kn_of hts q_clX10 in_X10
  | 10 => kn_of hts q_clX11 in_X11
  | 11 => kn_of hts q_clX12 in_X12
  | k + 12 => ⟨(0, fun _ => 0), fun r hr => absurd (List.getElem?_eq_some_iff.mp hr).1 (by show ¬ k + 12 < 12; omega)⟩
theorem ar_p {s : State} {args : Array Value} {ty : FieldType} (h : (Cond.arrayClass ty).before args s = true) (hty : ty = .int ∨ ty = .byte ∨ ty = .long ∨ ty = .boolean) : ∃ c, ArrOfT s c ty ∧ va_RA s c ty := by
  obtain ⟨c, k, comp, h1, h2, h3⟩ := Cond.arrayClass_spec h
  refine ⟨c, fun N z => ⟨fun k h => (by cases h), k, h2, comp, h3⟩, ?_⟩
  rcases hty with rfl | rfl | rfl | rfl <;> exact h1
theorem ar_o {s : State} {args : Array Value} {C : String} (h : (Cond.arrayOver (.object C)).before args s = true) : ∃ c, ArrOfT s c (.object C) ∧ va_RA s c (.object C) := by
  obtain ⟨comp, c, k, h1, h2, h3, h4, h5⟩ := Cond.arrayOver_spec h
  exact ⟨c, fun N z => ⟨fun k h => (by cases h), k, h3, comp, h4⟩, ⟨k, comp, h3, h4, h1, h5⟩⟩
theorem ar_a {s : State} {args : Array Value} {t : FieldType} (h : (Cond.arrayOver (.array t)).before args s = true) : ∃ c, ArrOfT s c (.array t) ∧ va_RA s c (.array t) := by
  obtain ⟨comp, c, k, h1, h3, h4, h5⟩ := Cond.arrayOver_specA h
  exact ⟨c, fun N z => ⟨fun k h => (by cases h), k, h3, comp, h4⟩, h5⟩
theorem tx_all {s : State} {args : Array Value} {A : Nat → Prop} (hA : ∀ a : Nat, a < s.heap.size → ¬ A a) (hts : ∀ x ∈ lw_tbl, x.before args s = true) (hs : ∀ x ∈ q_FL, x.before args s = true) : ∀ i : Nat, ∃ d : Nat × Nat, ∀ q, q_SX[i]? = some q → vk_R q.1 q.2.1 q.2.2.1 d.1 s ∧ va_O "java/lang/String" d.1 A s s.heap ∧ va_OF "java/lang/String" "coder" "B" (.int 0) d.1 A s s.heap ∧ va_OF "java/lang/String" "value" "[B" (.ref d.2) d.1 A s s.heap ∧ va_T .byte d.2 q.2.2.2.length (fun j => .int (q.2.2.2.getD j 0)) A s s.heap := by
  intro i
  cases hq : q_SX[i]? with
  | none => exact ⟨(0, 0), fun q h => by cases h⟩
  | some q =>
    have hm := List.mem_of_getElem? hq
    obtain ⟨tx1, tx2⟩ := tx_ok q hm
    have m1 := tx1 _ List.mem_cons_self
    have m2 := tx1 _ (List.mem_cons_of_mem _ List.mem_cons_self)
    have m3 := tx1 _ (List.mem_cons_of_mem _ (List.mem_cons_of_mem _ List.mem_cons_self))
    have m4 := tx1 _ (List.mem_cons_of_mem _ (List.mem_cons_of_mem _ (List.mem_cons_of_mem _ List.mem_cons_self)))
    have m5 : ∀ j, j < q.2.2.2.length → Cond.eq (.elem (.field (.string q.1 q.2.1) "java/lang/String" "value" "[B") (.int (Int32.ofNat j))) (.int (q.2.2.2.getD j 0)) ∈ q_FL := fun j hj => tx1 _ (List.mem_cons_of_mem _ (List.mem_cons_of_mem _ (List.mem_cons_of_mem _ (List.mem_cons_of_mem _ (List.mem_map.mpr ⟨j, List.mem_range.mpr hj, rfl⟩)))))
    have hl := (sx_ok q hm).1.1
    obtain ⟨a, c, cA, kA, q1, q2, q3, q4, q5, q6, -⟩ := Cond.exactly_spec (args := args) (first := s) (o := none) (s := s) (idx := []) (t := .string q.1 q.2.1) (cls := "java/lang/String") (hs _ m1)
    obtain ⟨t, ht, hT⟩ := va_Tof (N := q.2.2.2.length) (f := fun j => .int (q.2.2.2.getD j 0)) (A := A) (by omega) (hs _ m3) (va_eqt (hs _ m4)) (fun j hj => va_eqt (hs _ (m5 j hj))) hA
    refine ⟨(a, t), fun r hr => ?_⟩
    cases hr
    exact ⟨vk_R.of (hts _ tx2) q1, ⟨cA, q3, q5, by rw [q6]; exact q2, hA a (Array.getElem?_eq_some_iff.mp q3).1⟩, vk_OFof q1 (va_eqt (hs _ m2)) hA, vk_OFof q1 ht hA, hT⟩
theorem q_start {s : State} {b : Nat} (hts : ∀ x ∈ lw_tbl, x.before #[Value.ref b] s = true) (hgv : (Jvm.Cond.and given_1 narrow_1).before #[Value.ref b] s = true) : ∃ w : q_Wc, w.1.1 = s.heap.size ∧ w.1.2 200 = b ∧ q_K w s := by
  have hs := flat_of_before _ hgv
  have hA : ∀ a : Nat, a < s.heap.size → ¬ (fun q : Nat => s.heap.size ≤ q) a := fun a h z => Nat.lt_irrefl _ (Nat.lt_of_lt_of_le h z)
  obtain ⟨kn, hkn⟩ := Classical.axiomOfChoice (kn_all hts)
  obtain ⟨ad, had⟩ := Classical.axiomOfChoice (tx_all hA hts hs)
  obtain ⟨c0, t0⟩ := ar_p (hts _ (q_tb_in ar_int)) (by decide)
  obtain ⟨c1, t1⟩ := ar_p (hts _ (q_tb_in ar_byte)) (by decide)
  obtain ⟨c2, t2⟩ := ar_p (hts _ (q_tb_in ar_long)) (by decide)
  obtain ⟨c3, t3⟩ := ar_p (hts _ (q_tb_in ar_boolean)) (by decide)
  have o4 : (Cond.arrayOver (.object "TaperTalk$Night")).before #[Value.ref b] s = true := hts _ (q_s1 _ (List.mem_of_getElem? (i := 213) (by decide +kernel)))
  have o5 : (Cond.arrayOver (.object "TaperTalk$Acts")).before #[Value.ref b] s = true := hts _ (q_s1 _ (List.mem_of_getElem? (i := 214) (by decide +kernel)))
  have o6 : (Cond.arrayOver (.array .long)).before #[Value.ref b] s = true := hts _ (q_s1 _ (List.mem_of_getElem? (i := 197) (by decide +kernel)))
  obtain ⟨c4, t4⟩ := ar_o o4
  obtain ⟨c5, t5⟩ := ar_o o5
  obtain ⟨c6, t6⟩ := ar_a o6
  have n1 : (Cond.methodLinkNest RX11 34 yX5_init RX11).before #[Value.ref b] s = true := hts _ (q_s1 _ (List.mem_of_getElem? (i := 165) (by decide +kernel)))
  have n2 : (Cond.methodLinkNest RX11 41 yX0_init RX11).before #[Value.ref b] s = true := hts _ (q_s1 _ (List.mem_of_getElem? (i := 168) (by decide +kernel)))
  have n3 : (Cond.methodLinkNest RX6 11 yX5_init RX11).before #[Value.ref b] s = true := hts _ (q_s1 _ (List.mem_of_getElem? (i := 37) (by decide +kernel)))
  have z1 : va_Z "java/lang/String" "COMPACT_STRINGS" "Z" (.int 1) (fun q : Nat => s.heap.size ≤ q) s s.heap := va_Zof (hts _ (q_s3 _ (List.mem_of_getElem? (i := 47) (by decide +kernel)))) (hts _ (q_s1 _ (List.mem_of_getElem? (i := 14) (by decide +kernel)))) (va_eqt (hs _ (List.mem_of_getElem? (i := 4) (by decide +kernel)))) hA
  have z2 : va_Zq "jdk/internal/util/Preconditions" "SIOOBE_FORMATTER" "Ljava/util/function/BiFunction;" (fun q : Nat => s.heap.size ≤ q) s s.heap := va_Zqof (hts _ (q_s3 _ (List.mem_of_getElem? (i := 63) (by decide +kernel)))) (hts _ (q_s1 _ (List.mem_of_getElem? (i := 16) (by decide +kernel)))) (hs _ (List.mem_of_getElem? (i := 5) (by decide +kernel))) hA
  obtain ⟨f0, hz2⟩ : ∃ f0 : Nat, ∃ v, (v = Value.null ∨ v = Value.ref f0) ∧ va_Z "jdk/internal/util/Preconditions" "SIOOBE_FORMATTER" "Ljava/util/function/BiFunction;" v (fun q : Nat => s.heap.size ≤ q) s s.heap := by
    rcases z2 with z | ⟨t, z⟩
    · exact ⟨0, _, Or.inl rfl, z⟩
    · exact ⟨t, _, Or.inr rfl, z⟩
  obtain ⟨fa, efa⟩ : ∃ fa : Nat → Nat, fa = fun n => if n = 0 then f0 else if n = 200 then b else if n < 101 then (ad (n - 1)).1 else (ad (n - 101)).2 := ⟨_, rfl⟩
  have fa0 : fa 0 = f0 := by rw [efa]; rfl
  have fa2 : fa 200 = b := by rw [efa]; rfl
  have faK : ∀ i, i < 28 → fa (1 + i) = (ad i).1 ∧ fa (101 + i) = (ad i).2 := fun i hi => by
    rw [efa]
    constructor
    · show (if 1 + i = 0 then f0 else if 1 + i = 200 then b else if 1 + i < 101 then (ad (1 + i - 1)).1 else (ad (1 + i - 101)).2) = _
      rw [if_neg (by omega), if_neg (by omega), if_pos (by omega), Nat.add_sub_cancel_left]
    · show (if 101 + i = 0 then f0 else if 101 + i = 200 then b else if 101 + i < 101 then (ad (101 + i - 1)).1 else (ad (101 + i - 101)).2) = _
      rw [if_neg (by omega), if_neg (by omega), if_neg (by omega), Nat.add_sub_cancel_left]
  refine ⟨((s.heap.size, fa), (fun k => (kn k).1, fun k => (kn k).2), fun k => if k = 0 then c0 else if k = 1 then c1 else if k = 2 then c2 else if k = 3 then c3 else if k = 4 then c4 else if k = 5 then c5 else c6), rfl, fa2, ⟨fun c q hq => hkn c q hq, ?_⟩, ⟨fun i q hi => ?_, z1, ?_⟩, va_AO.of o4, va_AO.of o5, o6, n1, n2, n3⟩
  · intro k q hq
    match k, hq with
    | 0, hq => cases hq; exact t0
    | 1, hq => cases hq; exact t1
    | 2, hq => cases hq; exact t2
    | 3, hq => cases hq; exact t3
    | 4, hq => cases hq; exact t4
    | 5, hq => cases hq; exact t5
    | 6, hq => cases hq; exact t6
    | k + 7, hq => exact absurd (List.getElem?_eq_some_iff.mp hq).1 (by show ¬ k + 7 < 7; omega)
  · have hlt := sx_lt hi
    obtain ⟨e1, e2⟩ := faK i hlt
    show vk_R q.1 q.2.1 q.2.2.1 (fa (1 + i)) s ∧ va_O "java/lang/String" (fa (1 + i)) _ s s.heap ∧ va_OF "java/lang/String" "coder" "B" (.int 0) (fa (1 + i)) _ s s.heap ∧ va_OF "java/lang/String" "value" "[B" (.ref (fa (101 + i))) (fa (1 + i)) _ s s.heap ∧ va_T .byte (fa (101 + i)) q.2.2.2.length (fun j => .int (q.2.2.2.getD j 0)) _ s s.heap
    rw [e1, e2]
    exact had i q hi
  · show ∃ v, (v = Value.null ∨ v = Value.ref (fa 0)) ∧ _
    rw [fa0]
    exact hz2
