/-! ROWS OF THE MEMORY: fields, rows, copies, answers. -/
/-- a class of the world: its place in the list, its table, its words -/
def q_cls (ci : Nat) (C : String) (T : u_T) (N : Nat) (ty : Nat → FieldType) : Prop :=
  vwCl[ci]? = some (C, T, N) ∧ (∀ x ∈ u_ws C T N, x ∈ q_tb) ∧ (∀ k, k < N → parseFieldDescriptor (T k).2.2.1 = some (ty k)) ∧ (∀ a, a < N → ∀ b, b < N → a ≠ b → (T a).2.1 ≠ (T b).2.1)
section QM
variable {w : q_Wc} {g : q_G} {y : q_Y} {n1 : Nat} {pc : Nat} {lv lv' : List (Nat × Value)} {st : List Value} {M : q_M}
variable {p ci nf i : Nat} {C : String} {T : u_T} {N : Nat} {ty : Nat → FieldType}
theorem g_getI (K : q_Ok w g y n1) (hC : q_cls ci C T N ty) (k : Nat) (hp : p < M.1) (hLY : q_LY.getD p (2, 0, 0) = (0, ci, nf)) (hk : k < N) (hkind : (q_FK.getD ci [])[k]? = some 0) (hlink : Cond.fieldLink y.1.cls i (T k).1 (T k).2.1 (T k).2.2.1 ∈ q_tb) (hd : decode y.2.1 pc = .ok (.getfield i, 3)) (k2 : q_Gs w g (pc + 3) lv (.int (M.2.1 p k) :: st) M) : q_Gs w g pc lv (.ref p :: st) M := by
  intro H locs ls hR h0 hS hl
  exact va_get (ref := (T k).1) (okX K) (okB K) (okT K) hC.2.1 (okC K) (okK K) hR.2 p (fs := q_fs w M p ci) (by rw [q_ws_get hp, q_ce_ob hLY]) hC.1 k hk (okT K _ hlink) (fun x h => h) (v := .int (M.2.1 p k)) (by rw [q_fs_get hkind]; rfl) hd (k2 H locs ls hR h0 hS hl)
theorem g_getL (K : q_Ok w g y n1) (hC : q_cls ci C T N ty) (k : Nat) (hp : p < M.1) (hLY : q_LY.getD p (2, 0, 0) = (0, ci, nf)) (hk : k < N) (hkind : (q_FK.getD ci [])[k]? = some 1) (hlink : Cond.fieldLink y.1.cls i (T k).1 (T k).2.1 (T k).2.2.1 ∈ q_tb) (hd : decode y.2.1 pc = .ok (.getfield i, 3)) (k2 : q_Gs w g (pc + 3) lv (.long (M.2.2.1 p k) :: st) M) : q_Gs w g pc lv (.ref p :: st) M := by
  intro H locs ls hR h0 hS hl
  exact va_get (ref := (T k).1) (okX K) (okB K) (okT K) hC.2.1 (okC K) (okK K) hR.2 p (fs := q_fs w M p ci) (by rw [q_ws_get hp, q_ce_ob hLY]) hC.1 k hk (okT K _ hlink) (fun x h => h) (v := .long (M.2.2.1 p k)) (by rw [q_fs_get hkind]; rfl) hd (k2 H locs ls hR h0 hS hl)
theorem g_getO (K : q_Ok w g y n1) (hC : q_cls ci C T N ty) (k q : Nat) (hp : p < M.1) (hLY : q_LY.getD p (2, 0, 0) = (0, ci, nf)) (hk : k < N) (hkind : (q_FK.getD ci [])[k]? = some 2) (hq : M.2.2.2 p k = some q) (hlink : Cond.fieldLink y.1.cls i (T k).1 (T k).2.1 (T k).2.2.1 ∈ q_tb) (hd : decode y.2.1 pc = .ok (.getfield i, 3)) (k2 : q_Gs w g (pc + 3) lv (.ref q :: st) M) : q_Gs w g pc lv (.ref p :: st) M := by
  intro H locs ls hR h0 hS hl
  exact va_get (ref := (T k).1) (okX K) (okB K) (okT K) hC.2.1 (okC K) (okK K) hR.2 p (fs := q_fs w M p ci) (by rw [q_ws_get hp, q_ce_ob hLY]) hC.1 k hk (okT K _ hlink) (fun x h => h) (v := .ref (q_al w q)) (by rw [q_fs_get hkind]; show some (va_rf ((M.2.2.2 p k).map (q_al w))) = _; rw [hq]; rfl) hd (k2 H locs ls hR h0 hS hl)
theorem g_putI (K : q_Ok w g y n1) (hC : q_cls ci C T N ty) (k : Nat) {x : Int32} (hp : p < M.1) (hLY : q_LY.getD p (2, 0, 0) = (0, ci, nf)) (hk : k < N) (hkind : (q_FK.getD ci [])[k]? = some 0) (hlink : Cond.fieldLink y.1.cls i (T k).1 (T k).2.1 (T k).2.2.1 ∈ q_tb) (hf : (T k).2.2.2 = false) (hn : narrow (ty k) (.int x) = .int x) (hfit : fits (ty k) (.int x) = true) (hd : decode y.2.1 pc = .ok (.putfield i, 3)) (k2 : q_Gs w g (pc + 3) lv st (q_I M (up2 M.2.1 p k x))) : q_Gs w g pc lv (.int x :: .ref p :: st) M := by
  intro H locs ls hR h0 hS hl
  exact va_put (ref := (T k).1) (okX K) (okB K) (okT K) hC.2.1 ty hC.2.2.1 hC.2.2.2 (okC K) (okK K) hR.2 (q_ws_D hR.1) hS p (fs := q_fs w M p ci) (by rw [q_ws_get hp, q_ce_ob hLY]) hC.1 k hk (okT K _ hlink) (fun x h => h) hf (hC.2.2.1 k hk) hn hfit (by rw [q_fs_len]; exact (List.getElem?_eq_some_iff.mp hkind).1) hd
    (fun H1 locs1 hP1 _ hS1 => k2 H1 locs1 ls ⟨hR.1, by rw [← q_setI x hLY hkind]; exact hP1⟩ h0 hS1 hl)
theorem g_putL (K : q_Ok w g y n1) (hC : q_cls ci C T N ty) (k : Nat) {x : Int64} (hp : p < M.1) (hLY : q_LY.getD p (2, 0, 0) = (0, ci, nf)) (hk : k < N) (hkind : (q_FK.getD ci [])[k]? = some 1) (hlink : Cond.fieldLink y.1.cls i (T k).1 (T k).2.1 (T k).2.2.1 ∈ q_tb) (hf : (T k).2.2.2 = false) (hn : narrow (ty k) (.long x) = .long x) (hfit : fits (ty k) (.long x) = true) (hd : decode y.2.1 pc = .ok (.putfield i, 3)) (k2 : q_Gs w g (pc + 3) lv st (q_L M (up2 M.2.2.1 p k x))) : q_Gs w g pc lv (.long x :: .ref p :: st) M := by
  intro H locs ls hR h0 hS hl
  exact va_put (ref := (T k).1) (okX K) (okB K) (okT K) hC.2.1 ty hC.2.2.1 hC.2.2.2 (okC K) (okK K) hR.2 (q_ws_D hR.1) hS p (fs := q_fs w M p ci) (by rw [q_ws_get hp, q_ce_ob hLY]) hC.1 k hk (okT K _ hlink) (fun x h => h) hf (hC.2.2.1 k hk) hn hfit (by rw [q_fs_len]; exact (List.getElem?_eq_some_iff.mp hkind).1) hd
    (fun H1 locs1 hP1 _ hS1 => k2 H1 locs1 ls ⟨hR.1, by rw [← q_setL x hLY hkind]; exact hP1⟩ h0 hS1 hl)
theorem g_putF (K : q_Ok w g y n1) (hC : q_cls ci C T N ty) (k : Nat) {q : Nat} (hp : p < M.1) (hLY : q_LY.getD p (2, 0, 0) = (0, ci, nf)) (hk : k < N) (hkind : (q_FK.getD ci [])[k]? = some 2) (hlink : Cond.fieldLink y.1.cls i (T k).1 (T k).2.1 (T k).2.2.1 ∈ q_tb) (hf : (T k).2.2.2 = true) (hi : y.1.name = "<init>") (ho : (T k).1 = y.1.cls) (hn : ∀ a, narrow (ty k) (.ref a) = .ref a) (hfit : ∀ a, fits (ty k) (.ref a) = true) (hd : decode y.2.1 pc = .ok (.putfield i, 3)) (k2 : q_Gs w g (pc + 3) lv st (q_O M (up2 M.2.2.2 p k (some q)))) : q_Gs w g pc lv (.ref q :: .ref p :: st) M := by
  intro H locs ls hR h0 hS hl
  exact va_putF (ref := (T k).1) (okX K) (okB K) (okT K) hC.2.1 ty hC.2.2.1 hC.2.2.2 (okC K) (okK K) hR.2 (q_ws_D hR.1) hS p (fs := q_fs w M p ci) (by rw [q_ws_get hp, q_ce_ob hLY]) hC.1 k hk (okT K _ hlink) (fun x h => h) hf ((okI K).trans hi) ho (hC.2.2.1 k hk) (hn _) (hfit _) (by rw [q_fs_len]; exact (List.getElem?_eq_some_iff.mp hkind).1) hd
    (fun H1 locs1 hP1 _ hS1 => k2 H1 locs1 ls ⟨hR.1, by rw [← q_setO q hLY hkind]; exact hP1⟩ h0 hS1 hl)
variable {n : Nat} {j : Int32}
theorem g_iaload (K : q_Ok w g y n1) (hp : p < M.1) (hLY : q_LY.getD p (2, 0, 0) = (1, 0, n)) (hin : vp_in j n) (hd : decode y.2.1 pc = .ok (.iaload, 1)) (k2 : q_Gs w g (pc + 1) lv (.int (M.2.1 p j.toNatClampNeg) :: st) M) : q_Gs w g pc lv (.int j :: .ref p :: st) M := by
  intro H locs ls hR h0 hS hl
  exact va_iald (okX K) (okB K) (okK K) hR.2 p 0 (cA := w.2.2 0) (n := n) (f := M.2.1 p) (by rw [q_ws_get hp, q_ce_ar hLY]; rfl) rfl hin hd (k2 H locs ls hR h0 hS hl)
theorem g_baload (K : q_Ok w g y n1) (hp : p < M.1) (hLY : q_LY.getD p (2, 0, 0) = (1, 1, n)) (hin : vp_in j n) (hd : decode y.2.1 pc = .ok (.baload, 1)) (k2 : q_Gs w g (pc + 1) lv (.int (M.2.1 p j.toNatClampNeg) :: st) M) : q_Gs w g pc lv (.int j :: .ref p :: st) M := by
  intro H locs ls hR h0 hS hl
  exact va_bald (okX K) (okB K) (okK K) hR.2 p 1 (cA := w.2.2 1) (n := n) (f := M.2.1 p) (by rw [q_ws_get hp, q_ce_ar hLY]; rfl) rfl hin hd (k2 H locs ls hR h0 hS hl)
theorem g_zaload (K : q_Ok w g y n1) (hp : p < M.1) (hLY : q_LY.getD p (2, 0, 0) = (1, 3, n)) (hin : vp_in j n) (hd : decode y.2.1 pc = .ok (.baload, 1)) (k2 : q_Gs w g (pc + 1) lv (.int (M.2.1 p j.toNatClampNeg) :: st) M) : q_Gs w g pc lv (.int j :: .ref p :: st) M := by
  intro H locs ls hR h0 hS hl
  exact va_zald (okX K) (okB K) (okK K) hR.2 p 3 (cA := w.2.2 3) (n := n) (f := M.2.1 p) (by rw [q_ws_get hp, q_ce_ar hLY]; rfl) rfl hin hd (k2 H locs ls hR h0 hS hl)
theorem g_laload (K : q_Ok w g y n1) (hp : p < M.1) (hLY : q_LY.getD p (2, 0, 0) = (1, 2, n)) (hin : vp_in j n) (hd : decode y.2.1 pc = .ok (.laload, 1)) (k2 : q_Gs w g (pc + 1) lv (.long (M.2.2.1 p j.toNatClampNeg) :: st) M) : q_Gs w g pc lv (.int j :: .ref p :: st) M := by
  intro H locs ls hR h0 hS hl
  exact va_lald (okX K) (okB K) (okK K) hR.2 p 2 (cA := w.2.2 2) (n := n) (f := M.2.2.1 p) (by rw [q_ws_get hp, q_ce_ar hLY]; rfl) rfl hin hd (k2 H locs ls hR h0 hS hl)
theorem g_aaload {t : Nat} (K : q_Ok w g y n1) (q : Nat) (hp : p < M.1) (hLY : q_LY.getD p (2, 0, 0) = (1, t, n)) (ht : t = 4 ∨ t = 5 ∨ t = 6) (hin : vp_in j n) (hq : M.2.2.2 p j.toNatClampNeg = some q) (hd : decode y.2.1 pc = .ok (.aaload, 1)) (k2 : q_Gs w g (pc + 1) lv (.ref q :: st) M) : q_Gs w g pc lv (.int j :: .ref p :: st) M := by
  intro H locs ls hR h0 hS hl
  have hlt : j.toNatClampNeg < n := Nat.not_le.mp fun q => hin (Or.inr q)
  have hk := k2 H locs ls hR h0 hS hl
  have hcell := hR.2 p _ (q_ws_get hp)
  rw [q_ce_ar hLY] at hcell
  have har : q_ar w M p t = .inr (.inr (.inr (.inr (fun i => (M.2.2.2 p i).map (q_al w))))) := by
    unfold q_ar
    rw [if_neg (by omega), if_neg (by omega)]
  rw [har] at hcell
  obtain ⟨ty, hty, hrf⟩ : ∃ ty : FieldType, (q_ty w)[t]? = some (w.2.2 t, ty) ∧ ty.isReference = true := by
    rcases ht with rfl | rfl | rfl
    · exact ⟨_, rfl, rfl⟩
    · exact ⟨_, rfl, rfl⟩
    · exact ⟨_, rfl, rfl⟩
  refine W.aald (v := .ref (q_al w q)) (ty := ty) (okX K) (okB K) hcell (((okK K).2 t _ hty).1 n (fun i => va_rf ((M.2.2.2 p i).map (q_al w)))) hrf (fun q => by cases q) (by show ¬ (j < 0 ∨ (arrV _ _ _).slots.size ≤ _); rw [arrV_size]; exact hin) (by show (arrV _ _ _).slots[_]? = _; rw [arrV_read _ _ hlt]; show some (va_rf ((M.2.2.2 p j.toNatClampNeg).map (q_al w))) = _; rw [hq]; rfl) rfl rfl hd hk
theorem g_iastore (K : q_Ok w g y n1) {x : Int32} (hp : p < M.1) (hLY : q_LY.getD p (2, 0, 0) = (1, 0, n)) (hin : vp_in j n) (hd : decode y.2.1 pc = .ok (.iastore, 1)) (k2 : q_Gs w g (pc + 1) lv st (q_I M (up2 M.2.1 p j.toNatClampNeg x))) : q_Gs w g pc lv (.int x :: .int j :: .ref p :: st) M := by
  intro H locs ls hR h0 hS hl
  exact va_iast (okX K) (okB K) (okK K) hR.2 (q_ws_D hR.1) hS p 0 (cA := w.2.2 0) (n := n) (f := M.2.1 p) (by rw [q_ws_get hp, q_ce_ar hLY]; rfl) rfl hin hd
    (fun H1 locs1 hP1 _ hS1 => k2 H1 locs1 ls ⟨hR.1, by rw [← upr_upd, ← q_astI _ hLY (by omega) (by omega)]; exact hP1⟩ h0 hS1 hl)
theorem g_bastore (K : q_Ok w g y n1) {x : Int32} (hp : p < M.1) (hLY : q_LY.getD p (2, 0, 0) = (1, 1, n)) (hin : vp_in j n) (hd : decode y.2.1 pc = .ok (.bastore, 1)) (k2 : q_Gs w g (pc + 1) lv st (q_I M (up2 M.2.1 p j.toNatClampNeg x.toInt8.toInt32))) : q_Gs w g pc lv (.int x :: .int j :: .ref p :: st) M := by
  intro H locs ls hR h0 hS hl
  exact va_bast (okX K) (okB K) (okK K) hR.2 (q_ws_D hR.1) hS p 1 (cA := w.2.2 1) (n := n) (f := M.2.1 p) (by rw [q_ws_get hp, q_ce_ar hLY]; rfl) rfl hin hd
    (fun H1 locs1 hP1 _ hS1 => k2 H1 locs1 ls ⟨hR.1, by rw [← vp_nar_byte, ← upr_upd, ← q_astI _ hLY (by omega) (by omega)]; exact hP1⟩ h0 hS1 hl)
theorem g_zastore (K : q_Ok w g y n1) {x : Int32} (hp : p < M.1) (hLY : q_LY.getD p (2, 0, 0) = (1, 3, n)) (hin : vp_in j n) (hd : decode y.2.1 pc = .ok (.bastore, 1)) (k2 : q_Gs w g (pc + 1) lv st (q_I M (up2 M.2.1 p j.toNatClampNeg (vp_nar .boolean x)))) : q_Gs w g pc lv (.int x :: .int j :: .ref p :: st) M := by
  intro H locs ls hR h0 hS hl
  exact va_zast (okX K) (okB K) (okK K) hR.2 (q_ws_D hR.1) hS p 3 (cA := w.2.2 3) (n := n) (f := M.2.1 p) (by rw [q_ws_get hp, q_ce_ar hLY]; rfl) rfl hin hd
    (fun H1 locs1 hP1 _ hS1 => k2 H1 locs1 ls ⟨hR.1, by rw [← upr_upd, ← q_astI _ hLY (by omega) (by omega)]; exact hP1⟩ h0 hS1 hl)
theorem g_lastore (K : q_Ok w g y n1) {x : Int64} (hp : p < M.1) (hLY : q_LY.getD p (2, 0, 0) = (1, 2, n)) (hin : vp_in j n) (hd : decode y.2.1 pc = .ok (.lastore, 1)) (k2 : q_Gs w g (pc + 1) lv st (q_L M (up2 M.2.2.1 p j.toNatClampNeg x))) : q_Gs w g pc lv (.long x :: .int j :: .ref p :: st) M := by
  intro H locs ls hR h0 hS hl
  exact va_last (okX K) (okB K) (okK K) hR.2 (q_ws_D hR.1) hS p 2 (cA := w.2.2 2) (n := n) (f := M.2.2.1 p) (by rw [q_ws_get hp, q_ce_ar hLY]; rfl) rfl hin hd
    (fun H1 locs1 hP1 _ hS1 => k2 H1 locs1 ls ⟨hR.1, by rw [← upr_updL, ← q_astL _ hLY]; exact hP1⟩ h0 hS1 hl)
/-- System.arraycopy, of ints -/
theorem g_copyI (K : q_Ok w g y n1) {q n0 n2 : Nat} {sp dp m : Int32} (hp : p < M.1) (hLY : q_LY.getD p (2, 0, 0) = (1, 0, n0)) (hq : q < M.1) (hLQ : q_LY.getD q (2, 0, 0) = (1, 0, n2)) (h1 : ¬ sp < 0) (h2 : ¬ dp < 0) (h3 : ¬ m < 0) (h4 : sp.toNatClampNeg + m.toNatClampNeg ≤ n0) (h5 : dp.toNatClampNeg + m.toNatClampNeg ≤ n2)
    (hf : 1 ≤ y.2.2.2.2.1) (hlo : 30 ≤ y.2.2.2.2.2) (hst : (st.map fun v => v.category).sum ≤ 8) (hlink : Cond.methodLink y.1.cls i arraycopyName ∈ q_tb) (hnat : Cond.native arraycopyName ∈ q_tb) (hstat : Cond.static arraycopyName ∈ q_tb) (hini : Cond.initialized "java/lang/System" ∈ q_tb) (hd : decode y.2.1 pc = .ok (.invokestatic i, 3))
    (k2 : q_Gs w g (pc + 3) lv st (q_I M (upr M.2.1 q (va_cpy (M.2.1 p) (M.2.1 q) sp.toNatClampNeg dp.toNatClampNeg m.toNatClampNeg)))) : q_Gs w g pc lv (.int m :: .int dp :: .ref q :: .int sp :: .ref p :: st) M := by
  intro H locs ls hR h0 hS hl
  exact va_copyi (okX K) (okB K) ((okM K).trans hl.1.symm) (okC K) (okT K _ hlink) (okT K _ hnat) (okT K _ hstat) (okT K _ hini) (okK K) hR.2 (q_ws_D hR.1) hS p q 0 0 (c0 := w.2.2 0) (c1 := w.2.2 0) (n0 := n0) (n1 := n2) (f := M.2.1 p) (g := M.2.1 q) (ty := .int) (by rw [q_ws_get hp, q_ce_ar hLY]; rfl) (by rw [q_ws_get hq, q_ce_ar hLQ]; rfl) rfl rfl rfl h1 h2 h3 h4 h5 (fun _ _ => rfl) (by rw [okF K]; exact hf) (by
      rw [okL K, List.map_map, show ((fun v => v.category) ∘ q_tv w) = (fun v : Value => v.category) from funext fun v => q_tv_cat w v]
      have e : nativeFrameWords "java/lang/System" "arraycopy" 5 = 7 := by decide
      rw [e]
      omega) hd
    (fun H1 locs1 hP1 _ hS1 => k2 H1 locs1 ls ⟨hR.1, by rw [← q_astI _ hLQ (by omega) (by omega)]; exact hP1⟩ h0 hS1 hl)
theorem g_copyL (K : q_Ok w g y n1) {q n0 n2 : Nat} {sp dp m : Int32} (hp : p < M.1) (hLY : q_LY.getD p (2, 0, 0) = (1, 2, n0)) (hq : q < M.1) (hLQ : q_LY.getD q (2, 0, 0) = (1, 2, n2)) (h1 : ¬ sp < 0) (h2 : ¬ dp < 0) (h3 : ¬ m < 0) (h4 : sp.toNatClampNeg + m.toNatClampNeg ≤ n0) (h5 : dp.toNatClampNeg + m.toNatClampNeg ≤ n2)
    (hf : 1 ≤ y.2.2.2.2.1) (hlo : 30 ≤ y.2.2.2.2.2) (hst : (st.map fun v => v.category).sum ≤ 8) (hlink : Cond.methodLink y.1.cls i arraycopyName ∈ q_tb) (hnat : Cond.native arraycopyName ∈ q_tb) (hstat : Cond.static arraycopyName ∈ q_tb) (hini : Cond.initialized "java/lang/System" ∈ q_tb) (hd : decode y.2.1 pc = .ok (.invokestatic i, 3))
    (k2 : q_Gs w g (pc + 3) lv st (q_L M (upr M.2.2.1 q (va_cpy (M.2.2.1 p) (M.2.2.1 q) sp.toNatClampNeg dp.toNatClampNeg m.toNatClampNeg)))) : q_Gs w g pc lv (.int m :: .int dp :: .ref q :: .int sp :: .ref p :: st) M := by
  intro H locs ls hR h0 hS hl
  exact va_copyl (okX K) (okB K) ((okM K).trans hl.1.symm) (okC K) (okT K _ hlink) (okT K _ hnat) (okT K _ hstat) (okT K _ hini) (okK K) hR.2 (q_ws_D hR.1) hS p q 2 2 (c0 := w.2.2 2) (c1 := w.2.2 2) (n0 := n0) (n1 := n2) (f := M.2.2.1 p) (g := M.2.2.1 q) (by rw [q_ws_get hp, q_ce_ar hLY]; rfl) (by rw [q_ws_get hq, q_ce_ar hLQ]; rfl) rfl rfl rfl h1 h2 h3 h4 h5 (fun _ _ => rfl) (by rw [okF K]; exact hf) (by
      rw [okL K, List.map_map, show ((fun v => v.category) ∘ q_tv w) = (fun v : Value => v.category) from funext fun v => q_tv_cat w v]
      have e : nativeFrameWords "java/lang/System" "arraycopy" 5 = 7 := by decide
      rw [e]
      omega) hd
    (fun H1 locs1 hP1 _ hS1 => k2 H1 locs1 ls ⟨hR.1, by rw [← q_astL _ hLQ]; exact hP1⟩ h0 hS1 hl)
theorem q_end {r : Option Value} (K : q_In w g y r M) {H : Heap} {locs : List Loc} (hR : q_R w M H) (hS : va_S (q_A w) (gs g).heap H locs) : (∀ t : State, t.heap = H → (gs g).WarmedH t.vm → q_Qc w r M (ga g) (gs g) (.returned (r.map (q_tv w))) t) ∧ ∀ q ∈ locs, q_A w q.base :=
  ⟨fun t ht _ => ⟨rfl, by rw [ht]; exact hR, hS.F ht⟩, hS.2.2⟩
theorem g_ireturn {x : Int32} (K : q_In w g y (some (.int x)) M) (hr : y.2.2.2.1 = some .int) (hd : decode y.2.1 pc = .ok (.ireturn, 1)) : q_Gs w g pc lv [.int x] M := by
  intro H locs ls hR h0 hS hl
  rw [K.2]
  exact W.iret (Qc := q_Qc w (some (.int x)) M) (okX K.1) (okB K.1) ((okR K.1).trans hr) (q_end K hR hS).1 (q_end K hR hS).2 hd (okY K.1)
theorem g_zreturn {x : Int32} {rt : FieldType} (K : q_In w g y (some (.int x)) M) (hr : y.2.2.2.1 = some rt) (hn : narrow rt (.int x) = .int x) (hd : decode y.2.1 pc = .ok (.ireturn, 1)) : q_Gs w g pc lv [.int x] M := by
  intro H locs ls hR h0 hS hl
  rw [K.2]
  exact W.zret (Qc := q_Qc w (some (.int x)) M) (okX K.1) (okB K.1) ((okR K.1).trans hr) hn (q_end K hR hS).1 (q_end K hR hS).2 hd (okY K.1)
theorem g_lreturn {x : Int64} (K : q_In w g y (some (.long x)) M) (hr : y.2.2.2.1 = some .long) (hd : decode y.2.1 pc = .ok (.lreturn, 1)) : q_Gs w g pc lv [.long x] M := by
  intro H locs ls hR h0 hS hl
  rw [K.2]
  exact W.lret (Qc := q_Qc w (some (.long x)) M) (okX K.1) (okB K.1) ((okR K.1).trans hr) (q_end K hR hS).1 (q_end K hR hS).2 hd (okY K.1)
theorem g_vreturn (K : q_In w g y none M) (hr : y.2.2.2.1 = none) (hd : decode y.2.1 pc = .ok (.return_, 1)) : q_Gs w g pc lv [] M := by
  intro H locs ls hR h0 hS hl
  rw [K.2]
  exact W.vret (Qc := q_Qc w none M) (okX K.1) (okB K.1) ((okR K.1).trans hr) (q_end K hR hS).1 (q_end K hR hS).2 hd (okY K.1)
theorem g_areturn {q : Nat} {nm : String} (K : q_In w g y (some (.ref q)) M) (hr : y.2.2.2.1 = some (.object nm)) (hd : decode y.2.1 pc = .ok (.areturn, 1)) : q_Gs w g pc lv [.ref q] M := by
  intro H locs ls hR h0 hS hl
  rw [K.2]
  exact W.aret (Qc := q_Qc w (some (.ref q)) M) (v := .ref (q_al w q)) (okX K.1) (okB K.1) ((okR K.1).trans hr) (Or.inl ⟨_, rfl⟩) (Or.inr ⟨_, rfl⟩) (q_end K hR hS).1 (q_end K hR hS).2 hd (okY K.1)
end QM
