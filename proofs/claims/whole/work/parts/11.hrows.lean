/-! ROWS OVER THE MEMORY BEHIND THE CONSTRUCTORS: all places are there, the references stay. -/
def q_mm (I : Nat → Nat → Int32) (L : Nat → Nat → Int64) : q_M := (q_NT, I, L, q_MR)
/-- a contract, and what comes from a point of a method, over this memory, anywhere -/
def q_C (y : q_Y) (args : List Value) (I : Nat → Nat → Int32) (L : Nat → Nat → Int64) (r : Option Value) (I' : Nat → Nat → Int32) (L' : Nat → Nat → Int64) : Prop := ∀ (w : q_Wc) (l : Launch), q_Ct w l y args (q_mm I L) r (q_mm I' L')
def q_W (y : q_Y) (pc : Nat) (lv : List (Nat × Value)) (st : List Value) (I : Nat → Nat → Int32) (L : Nat → Nat → Int64) (r : Option Value) (I' : Nat → Nat → Int32) (L' : Nat → Nat → Int64) : Prop := ∀ (w : q_Wc) (g : q_G), q_In w g y r (q_mm I' L') → q_Gs w g pc lv st (q_mm I L)
theorem narZ {e : Int32} (h : e = 0 ∨ e = 1) : narrow .boolean (.int e) = .int e := by
  rcases h with rfl | rfl <;> decide
theorem fitZ {e : Int32} (h : e = 0 ∨ e = 1) : fits .boolean (.int e) = true := by
  rcases h with rfl | rfl <;> decide
theorem vin3 {j : Int32} (h : vp_in j 3) : j = 0 ∨ j = 1 ∨ j = 2 := by
  obtain ⟨n, hn, rfl⟩ := vp_in_of h (by decide)
  have : n = 0 ∨ n = 1 ∨ n = 2 := by omega
  rcases this with rfl | rfl | rfl
  · exact Or.inl rfl
  · exact Or.inr (Or.inl rfl)
  · exact Or.inr (Or.inr rfl)
theorem q_LL {p : Nat} (h : 29 ≤ p ∧ p < 33) : q_LY.getD p (2, 0, 0) = (1, 2, 60) ∧ p < q_NT := by
  have : p = 29 ∨ p = 30 ∨ p = 31 ∨ p = 32 := by omega
  rcases this with rfl | rfl | rfl | rfl <;> exact ⟨rfl, by decide⟩
theorem q_MRL {n : Nat} (h : n < 4) : q_MR 28 n = some (29 + n) := by
  have : n = 0 ∨ n = 1 ∨ n = 2 ∨ n = 3 := by omega
  rcases this with rfl | rfl | rfl | rfl <;> rfl
theorem mx_stat : Cond.static Lib.Math.max.name ∈ q_tb := q_ap q_s4 146 (by decide +kernel) rfl
theorem mx_code : Cond.code Lib.Math.max.name Lib.Math.max.code 2 (some .int) ∈ q_tb := q_ap q_s4 147 (by decide +kernel) rfl
theorem mn_stat : Cond.static Lib.Math.min.name ∈ q_tb := q_ap q_s3 19 (by decide +kernel) rfl
theorem mn_code : Cond.code Lib.Math.min.name Lib.Math.min.code 2 (some .int) ∈ q_tb := q_ap q_s3 20 (by decide +kernel) rfl
theorem ma_stat : Cond.static Lib.MathLoose.abs_long.x ∈ q_tb := q_ap q_s5 26 (by decide +kernel) rfl
theorem ma_code : Cond.code Lib.MathLoose.abs_long.x Lib.MathLoose.abs_long.code 2 (some .long) ∈ q_tb := q_ap q_s5 27 (by decide +kernel) rfl
theorem mx_ini : Cond.initialized "java/lang/Math" ∈ q_tb := q_ap q_s1 13 (by decide +kernel) rfl
section QH
variable {w : q_Wc} {g : q_G} {y : q_Y} {pc : Nat} {lv : List (Nat × Value)} {st : List Value} {I I1 : Nat → Nat → Int32} {L L1 : Nat → Nat → Int64} {M : q_M}
variable {p ci nf i : Nat} {C : String} {T : u_T} {N : Nat} {ty : Nat → FieldType} {n : Nat} {j : Int32}
theorem g_nameI {e : Int32} (k : ∀ z : Int32, z = e → q_Gs w g pc lv (.int z :: st) M) : q_Gs w g pc lv (.int e :: st) M := k e rfl
theorem g_nameL {e : Int64} (k : ∀ z : Int64, z = e → q_Gs w g pc lv (.long z :: st) M) : q_Gs w g pc lv (.long e :: st) M := k e rfl
theorem g_nameMI {I0 : Nat → Nat → Int32} (k : ∀ z, z = I0 → q_Gs w g pc lv st (q_mm z L)) : q_Gs w g pc lv st (q_mm I0 L) := k I0 rfl
theorem g_nameML {L0 : Nat → Nat → Int64} (k : ∀ z, z = L0 → q_Gs w g pc lv st (q_mm I z)) : q_Gs w g pc lv st (q_mm I L0) := k L0 rfl
theorem h_getI (K : q_Ok w g y q_NT) (hC : q_cls ci C T N ty) (k : Nat) (hp : q_LY.getD p (2, 0, 0) = (0, ci, nf) ∧ p < q_NT) (hk : k < N ∧ (q_FK.getD ci [])[k]? = some 0) (hlink : Cond.fieldLink y.1.cls i (T k).1 (T k).2.1 (T k).2.2.1 ∈ q_tb) (hd : decode y.2.1 pc = .ok (.getfield i, 3)) (k2 : q_Gs w g (pc + 3) lv (.int (I p k) :: st) (q_mm I L)) : q_Gs w g pc lv (.ref p :: st) (q_mm I L) := g_getI K hC k hp.2 hp.1 hk.1 hk.2 hlink hd k2
theorem h_getL (K : q_Ok w g y q_NT) (hC : q_cls ci C T N ty) (k : Nat) (hp : q_LY.getD p (2, 0, 0) = (0, ci, nf) ∧ p < q_NT) (hk : k < N ∧ (q_FK.getD ci [])[k]? = some 1) (hlink : Cond.fieldLink y.1.cls i (T k).1 (T k).2.1 (T k).2.2.1 ∈ q_tb) (hd : decode y.2.1 pc = .ok (.getfield i, 3)) (k2 : q_Gs w g (pc + 3) lv (.long (L p k) :: st) (q_mm I L)) : q_Gs w g pc lv (.ref p :: st) (q_mm I L) := g_getL K hC k hp.2 hp.1 hk.1 hk.2 hlink hd k2
theorem h_getO (K : q_Ok w g y q_NT) (hC : q_cls ci C T N ty) (k q : Nat) (hp : q_LY.getD p (2, 0, 0) = (0, ci, nf) ∧ p < q_NT) (hk : k < N ∧ (q_FK.getD ci [])[k]? = some 2) (hq : q_MR p k = some q) (hlink : Cond.fieldLink y.1.cls i (T k).1 (T k).2.1 (T k).2.2.1 ∈ q_tb) (hd : decode y.2.1 pc = .ok (.getfield i, 3)) (k2 : q_Gs w g (pc + 3) lv (.ref q :: st) (q_mm I L)) : q_Gs w g pc lv (.ref p :: st) (q_mm I L) := g_getO K hC k q hp.2 hp.1 hk.1 hk.2 hq hlink hd k2
theorem h_putI (K : q_Ok w g y q_NT) (hC : q_cls ci C T N ty) (k : Nat) {x : Int32} (hp : q_LY.getD p (2, 0, 0) = (0, ci, nf) ∧ p < q_NT) (hk : k < N ∧ (q_FK.getD ci [])[k]? = some 0) (hlink : Cond.fieldLink y.1.cls i (T k).1 (T k).2.1 (T k).2.2.1 ∈ q_tb) (hf : (T k).2.2.2 = false) (hn : narrow (ty k) (.int x) = .int x) (hfit : fits (ty k) (.int x) = true) (hd : decode y.2.1 pc = .ok (.putfield i, 3)) (k2 : q_Gs w g (pc + 3) lv st (q_mm (up2 I p k x) L)) : q_Gs w g pc lv (.int x :: .ref p :: st) (q_mm I L) := g_putI K hC k hp.2 hp.1 hk.1 hk.2 hlink hf hn hfit hd k2
theorem h_putL (K : q_Ok w g y q_NT) (hC : q_cls ci C T N ty) (k : Nat) {x : Int64} (hp : q_LY.getD p (2, 0, 0) = (0, ci, nf) ∧ p < q_NT) (hk : k < N ∧ (q_FK.getD ci [])[k]? = some 1) (hlink : Cond.fieldLink y.1.cls i (T k).1 (T k).2.1 (T k).2.2.1 ∈ q_tb) (hf : (T k).2.2.2 = false) (hn : narrow (ty k) (.long x) = .long x) (hfit : fits (ty k) (.long x) = true) (hd : decode y.2.1 pc = .ok (.putfield i, 3)) (k2 : q_Gs w g (pc + 3) lv st (q_mm I (up2 L p k x))) : q_Gs w g pc lv (.long x :: .ref p :: st) (q_mm I L) := g_putL K hC k hp.2 hp.1 hk.1 hk.2 hlink hf hn hfit hd k2
theorem h_iaload (K : q_Ok w g y q_NT) (hp : q_LY.getD p (2, 0, 0) = (1, 0, n) ∧ p < q_NT) (hin : vp_in j n) (hd : decode y.2.1 pc = .ok (.iaload, 1)) (k2 : q_Gs w g (pc + 1) lv (.int (I p j.toNatClampNeg) :: st) (q_mm I L)) : q_Gs w g pc lv (.int j :: .ref p :: st) (q_mm I L) := g_iaload K hp.2 hp.1 hin hd k2
theorem h_baload (K : q_Ok w g y q_NT) (hp : q_LY.getD p (2, 0, 0) = (1, 1, n) ∧ p < q_NT) (hin : vp_in j n) (hd : decode y.2.1 pc = .ok (.baload, 1)) (k2 : q_Gs w g (pc + 1) lv (.int (I p j.toNatClampNeg) :: st) (q_mm I L)) : q_Gs w g pc lv (.int j :: .ref p :: st) (q_mm I L) := g_baload K hp.2 hp.1 hin hd k2
theorem h_zaload (K : q_Ok w g y q_NT) (hp : q_LY.getD p (2, 0, 0) = (1, 3, n) ∧ p < q_NT) (hin : vp_in j n) (hd : decode y.2.1 pc = .ok (.baload, 1)) (k2 : q_Gs w g (pc + 1) lv (.int (I p j.toNatClampNeg) :: st) (q_mm I L)) : q_Gs w g pc lv (.int j :: .ref p :: st) (q_mm I L) := g_zaload K hp.2 hp.1 hin hd k2
theorem h_laload (K : q_Ok w g y q_NT) (hp : q_LY.getD p (2, 0, 0) = (1, 2, n) ∧ p < q_NT) (hin : vp_in j n) (hd : decode y.2.1 pc = .ok (.laload, 1)) (k2 : q_Gs w g (pc + 1) lv (.long (L p j.toNatClampNeg) :: st) (q_mm I L)) : q_Gs w g pc lv (.int j :: .ref p :: st) (q_mm I L) := g_laload K hp.2 hp.1 hin hd k2
theorem h_laloadV (K : q_Ok w g y q_NT) (hp : 29 ≤ p ∧ p < 33) (hin : vp_in j 60) (hd : decode y.2.1 pc = .ok (.laload, 1)) (k2 : q_Gs w g (pc + 1) lv (.long (L p j.toNatClampNeg) :: st) (q_mm I L)) : q_Gs w g pc lv (.int j :: .ref p :: st) (q_mm I L) := g_laload K (q_LL hp).2 (q_LL hp).1 hin hd k2
theorem h_aaloadLL (K : q_Ok w g y q_NT) (hin : vp_in j 4) (hd : decode y.2.1 pc = .ok (.aaload, 1)) (k2 : q_Gs w g (pc + 1) lv (.ref (29 + j.toNatClampNeg) :: st) (q_mm I L)) : q_Gs w g pc lv (.int j :: .ref 28 :: st) (q_mm I L) := g_aaload (t := 6) (n := 4) K _ (show 28 < q_NT by decide) rfl (by omega) hin (q_MRL (Nat.not_le.mp fun q => hin (Or.inr q))) hd k2
theorem h_aaloadK {t : Nat} (K : q_Ok w g y q_NT) (q : Nat) (hp : q_LY.getD p (2, 0, 0) = (1, t, n) ∧ p < q_NT) (ht : t = 4 ∨ t = 5 ∨ t = 6) (hin : vp_in j n) (hq : q_MR p j.toNatClampNeg = some q) (hd : decode y.2.1 pc = .ok (.aaload, 1)) (k2 : q_Gs w g (pc + 1) lv (.ref q :: st) (q_mm I L)) : q_Gs w g pc lv (.int j :: .ref p :: st) (q_mm I L) := g_aaload K q hp.2 hp.1 ht hin hq hd k2
theorem h_iastore (K : q_Ok w g y q_NT) {x : Int32} (hp : q_LY.getD p (2, 0, 0) = (1, 0, n) ∧ p < q_NT) (hin : vp_in j n) (hd : decode y.2.1 pc = .ok (.iastore, 1)) (k2 : q_Gs w g (pc + 1) lv st (q_mm (up2 I p j.toNatClampNeg x) L)) : q_Gs w g pc lv (.int x :: .int j :: .ref p :: st) (q_mm I L) := g_iastore K hp.2 hp.1 hin hd k2
theorem h_bastore (K : q_Ok w g y q_NT) {x : Int32} (hp : q_LY.getD p (2, 0, 0) = (1, 1, n) ∧ p < q_NT) (hin : vp_in j n) (hd : decode y.2.1 pc = .ok (.bastore, 1)) (k2 : q_Gs w g (pc + 1) lv st (q_mm (up2 I p j.toNatClampNeg x.toInt8.toInt32) L)) : q_Gs w g pc lv (.int x :: .int j :: .ref p :: st) (q_mm I L) := g_bastore K hp.2 hp.1 hin hd k2
theorem h_zastore (K : q_Ok w g y q_NT) {x : Int32} (hp : q_LY.getD p (2, 0, 0) = (1, 3, n) ∧ p < q_NT) (hin : vp_in j n) (hd : decode y.2.1 pc = .ok (.bastore, 1)) (k2 : q_Gs w g (pc + 1) lv st (q_mm (up2 I p j.toNatClampNeg (vp_nar .boolean x)) L)) : q_Gs w g pc lv (.int x :: .int j :: .ref p :: st) (q_mm I L) := g_zastore K hp.2 hp.1 hin hd k2
theorem h_lastore (K : q_Ok w g y q_NT) {x : Int64} (hp : q_LY.getD p (2, 0, 0) = (1, 2, n) ∧ p < q_NT) (hin : vp_in j n) (hd : decode y.2.1 pc = .ok (.lastore, 1)) (k2 : q_Gs w g (pc + 1) lv st (q_mm I (up2 L p j.toNatClampNeg x))) : q_Gs w g pc lv (.long x :: .int j :: .ref p :: st) (q_mm I L) := g_lastore K hp.2 hp.1 hin hd k2
theorem h_lastoreV (K : q_Ok w g y q_NT) {x : Int64} (hp : 29 ≤ p ∧ p < 33) (hin : vp_in j 60) (hd : decode y.2.1 pc = .ok (.lastore, 1)) (k2 : q_Gs w g (pc + 1) lv st (q_mm I (up2 L p j.toNatClampNeg x))) : q_Gs w g pc lv (.long x :: .int j :: .ref p :: st) (q_mm I L) := g_lastore K (q_LL hp).2 (q_LL hp).1 hin hd k2
variable {q n0 n2 : Nat} {sp dp m : Int32}
theorem h_copyI (K : q_Ok w g y q_NT) (hp : q_LY.getD p (2, 0, 0) = (1, 0, n0) ∧ p < q_NT) (hq : q_LY.getD q (2, 0, 0) = (1, 0, n2) ∧ q < q_NT) (hg : ¬ sp < 0 ∧ ¬ dp < 0 ∧ ¬ m < 0 ∧ sp.toNatClampNeg + m.toNatClampNeg ≤ n0 ∧ dp.toNatClampNeg + m.toNatClampNeg ≤ n2) (hst : (st.map fun v => v.category).sum ≤ 8) (hf : 1 ≤ y.2.2.2.2.1 ∧ 30 ≤ y.2.2.2.2.2) (hlink : Cond.methodLink y.1.cls i arraycopyName ∈ q_tb) (hd : decode y.2.1 pc = .ok (.invokestatic i, 3))
    (k2 : q_Gs w g (pc + 3) lv st (q_mm (upr I q (va_cpy (I p) (I q) sp.toNatClampNeg dp.toNatClampNeg m.toNatClampNeg)) L)) : q_Gs w g pc lv (.int m :: .int dp :: .ref q :: .int sp :: .ref p :: st) (q_mm I L) := g_copyI K hp.2 hp.1 hq.2 hq.1 hg.1 hg.2.1 hg.2.2.1 hg.2.2.2.1 hg.2.2.2.2 hf.1 hf.2 hst hlink ac_nat ac_stat ac_ini hd k2
theorem h_copyLV (K : q_Ok w g y q_NT) (hp : 29 ≤ p ∧ p < 33) (hq : 29 ≤ q ∧ q < 33) (hg : ¬ sp < 0 ∧ ¬ dp < 0 ∧ ¬ m < 0 ∧ sp.toNatClampNeg + m.toNatClampNeg ≤ 60 ∧ dp.toNatClampNeg + m.toNatClampNeg ≤ 60) (hst : (st.map fun v => v.category).sum ≤ 8) (hf : 1 ≤ y.2.2.2.2.1 ∧ 30 ≤ y.2.2.2.2.2) (hlink : Cond.methodLink y.1.cls i arraycopyName ∈ q_tb) (hd : decode y.2.1 pc = .ok (.invokestatic i, 3))
    (k2 : q_Gs w g (pc + 3) lv st (q_mm I (upr L q (va_cpy (L p) (L q) sp.toNatClampNeg dp.toNatClampNeg m.toNatClampNeg)))) : q_Gs w g pc lv (.int m :: .int dp :: .ref q :: .int sp :: .ref p :: st) (q_mm I L) := g_copyL K (q_LL hp).2 (q_LL hp).1 (q_LL hq).2 (q_LL hq).1 hg.1 hg.2.1 hg.2.2.1 hg.2.2.2.1 hg.2.2.2.2 hf.1 hf.2 hst hlink ac_nat ac_stat ac_ini hd k2
variable {yc : q_Y} {r : Option Value}
theorem h_callS (K : q_Ok w g y q_NT) (As : List Value) (hct : q_Ct w (gl g) yc As (q_mm I L) r (q_mm I1 L1)) (hy : q_okS yc As.length) (hlink : Cond.methodLink y.1.cls i yc.1 ∈ q_tb) (hF : yc.2.2.2.2.1 + 1 ≤ y.2.2.2.2.1 ∧ 8 + (yc.2.2.1 + 11) + yc.2.2.2.2.2 ≤ y.2.2.2.2.2) (hst : (st.map fun v => v.category).sum ≤ 8) (hd : decode y.2.1 pc = .ok (.invokestatic i, 3)) (k : q_Gs w g (pc + 3) lv (r.toList ++ st) (q_mm I1 L1)) : q_Gs w g pc lv (As.reverse ++ st) (q_mm I L) := g_callS K As hct (Nat.le_refl _) hy hlink hF.1 hF.2 hst hd k
theorem h_callV (K : q_Ok w g y q_NT) (As : List Value) (hct : q_Ct w (gl g) yc (.ref p :: As) (q_mm I L) r (q_mm I1 L1)) (hC : q_cls ci C T N ty) (hp : q_LY.getD p (2, 0, 0) = (0, ci, nf) ∧ p < q_NT) (hcc : yc.1.cls = C) (hy : q_okV yc As.length) (hlink : Cond.methodLink y.1.cls i yc.1 ∈ q_tb) (hF : yc.2.2.2.2.1 + 1 ≤ y.2.2.2.2.1 ∧ 8 + (yc.2.2.1 + 11) + yc.2.2.2.2.2 ≤ y.2.2.2.2.2) (hst : (st.map fun v => v.category).sum ≤ 8) (hd : decode y.2.1 pc = .ok (.invokevirtual i, 3)) (k : q_Gs w g (pc + 3) lv (r.toList ++ st) (q_mm I1 L1)) : q_Gs w g pc lv (As.reverse ++ .ref p :: st) (q_mm I L) := g_callV K As hct (Nat.le_refl _) hC hp.2 hp.1 hcc hy hlink hF.1 hF.2 hst hd k
/-- a method of a text constant -/
theorem h_callStr (K : q_Ok w g y q_NT) (As : List Value) (hct : q_Ct w (gl g) yc (.ref p :: As) (q_mm I L) r (q_mm I1 L1)) (hp : 10001 ≤ p ∧ p < 10029) (hcc : yc.1.cls = "java/lang/String") (hy : q_okV yc As.length) (hlink : Cond.methodLink y.1.cls i yc.1 ∈ q_tb) (hF : yc.2.2.2.2.1 + 1 ≤ y.2.2.2.2.1 ∧ 8 + (yc.2.2.1 + 11) + yc.2.2.2.2.2 ≤ y.2.2.2.2.2) (hst : (st.map fun v => v.category).sum ≤ 8) (hd : decode y.2.1 pc = .ok (.invokevirtual i, 3)) (k : q_Gs w g (pc + 3) lv (r.toList ++ st) (q_mm I1 L1)) : q_Gs w g pc lv (As.reverse ++ .ref p :: st) (q_mm I L) := by
  intro H locs ls hR h0 hS hl
  intro Tt hT X
  have hsz := q_size K hR h0 hS hT X
  have ht := okT K
  obtain ⟨jj, rfl⟩ : ∃ jj, p = 10001 + jj := ⟨p - 10001, by omega⟩
  have hq : ∃ q, q_SX[jj]? = some q := ⟨q_SX[jj]'(by show jj < 28; omega), List.getElem?_eq_getElem _⟩
  obtain ⟨q, hq⟩ := hq
  obtain ⟨cell, c1, c2, c3, -⟩ := ((okS K).1 jj q hq).2.1.kept hS.2.1
  have e : q_al w (10001 + jj) = w.1.2 (1 + jj) := by unfold q_al; rw [if_neg (by omega), show 10001 + jj - 10000 = 1 + jj by omega]
  refine q_back K hct.1 hR h0 hS hl (a := ((Value.ref (10001 + jj) :: As).map (q_tv w)).toArray) ?_ k Tt hT X
  exact va_runV (own := y.1.cls) (C := yc.1.cls) (cc := y.2.1) (nL := gn g) (Ts := q_tb) (y := yc.1) (bytes := yc.2.1) (maxL := yc.2.2.1) (ret := yc.2.2.2.1) (n := As.length) (b := q_al w (10001 + jj)) (As := As.map (q_tv w)) ⟨okX K, okB K, okM K, okC K, ht⟩ hct.2
    ⟨callB_of As.length ht (q_good hy.1) rfl rfl rfl (ht _ hy.2.2.1) (ht _ hlink) hy.2.2.2.2 ⟨by rw [okF K]; exact hF.1, by rw [okL K]; exact hF.2⟩, ht _ hy.2.1, ht _ hy.2.2.2.1⟩
    ⟨q_blind, ⟨cell, by rw [e]; exact c1, c2, by rw [hcc]; exact c3⟩, q_pre (args := .ref (10001 + jj) :: As) K hR hS hsz⟩ rfl (by rw [List.length_map]) hl.1 (by show List.map _ (As.reverse ++ Value.ref (10001 + jj) :: st) = _; rw [List.map_append, List.map_reverse]; rfl) (q_rest hst) hd (q_fit K h0 hct.1 (Nat.le_refl _))
theorem h_mmax (K : q_Ok w g y q_NT) {a b : Int32} (hst : (st.map fun v => v.category).sum ≤ 8) (hf : 1 ≤ y.2.2.2.2.1 ∧ 30 ≤ y.2.2.2.2.2) (hlink : Cond.methodLink y.1.cls i Lib.Math.max.name ∈ q_tb) (hd : decode y.2.1 pc = .ok (.invokestatic i, 3)) (k2 : q_Gs w g (pc + 3) lv (.int (if a < b then b else a) :: st) (q_mm I L)) : q_Gs w g pc lv (.int b :: .int a :: st) (q_mm I L) := by
  intro H locs ls hR h0 hS hl
  exact va_mmax (okX K) (okB K) ((okM K).trans hl.1.symm) (okC K) (okT K _ hlink) (okT K _ mx_stat) (okT K _ mx_ini) (okT K _ mx_code) (by rw [okF K]; exact hf.1) (by
    rw [okL K, List.map_map, show ((fun v => v.category) ∘ q_tv w) = (fun v : Value => v.category) from funext fun v => q_tv_cat w v]
    omega) (okRc K) (okRs K) hd (k2 H locs ls hR h0 hS hl)
theorem h_mmin (K : q_Ok w g y q_NT) {a b : Int32} (hst : (st.map fun v => v.category).sum ≤ 8) (hf : 1 ≤ y.2.2.2.2.1 ∧ 30 ≤ y.2.2.2.2.2) (hlink : Cond.methodLink y.1.cls i Lib.Math.min.name ∈ q_tb) (hd : decode y.2.1 pc = .ok (.invokestatic i, 3)) (k2 : q_Gs w g (pc + 3) lv (.int (if b < a then b else a) :: st) (q_mm I L)) : q_Gs w g pc lv (.int b :: .int a :: st) (q_mm I L) := by
  intro H locs ls hR h0 hS hl
  exact va_mmin (okX K) (okB K) ((okM K).trans hl.1.symm) (okC K) (okT K _ hlink) (okT K _ mn_stat) (okT K _ mx_ini) (okT K _ mn_code) (by rw [okF K]; exact hf.1) (by
    rw [okL K, List.map_map, show ((fun v => v.category) ∘ q_tv w) = (fun v : Value => v.category) from funext fun v => q_tv_cat w v]
    omega) (okRc K) (okRs K) hd (k2 H locs ls hR h0 hS hl)
theorem h_mabs (K : q_Ok w g y q_NT) {a : Int64} (hst : (st.map fun v => v.category).sum ≤ 8) (hf : 1 ≤ y.2.2.2.2.1 ∧ 30 ≤ y.2.2.2.2.2) (hlink : Cond.methodLink y.1.cls i Lib.MathLoose.abs_long.x ∈ q_tb) (hd : decode y.2.1 pc = .ok (.invokestatic i, 3)) (k2 : q_Gs w g (pc + 3) lv (.long (if 0 < a then a else -a) :: st) (q_mm I L)) : q_Gs w g pc lv (.long a :: st) (q_mm I L) := by
  intro H locs ls hR h0 hS hl
  exact va_mabs_long (okX K) (okB K) ((okM K).trans hl.1.symm) (okC K) (okT K _ hlink) (okT K _ ma_stat) (okT K _ mx_ini) (okT K _ ma_code) (by rw [okF K]; exact hf.1) (by
    rw [okL K, List.map_map, show ((fun v => v.category) ∘ q_tv w) = (fun v : Value => v.category) from funext fun v => q_tv_cat w v]
    omega) (okRc K) (okRs K) hd (k2 H locs ls hR h0 hS hl)
end QH
