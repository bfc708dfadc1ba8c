/-! ROWS THAT MAKE CELLS: the next place, all 0 there. -/
def zr {α : Type} (z : α) (f : Nat → Nat → α) (n : Nat) : Nat → Nat → α := fun p k => if p = n then z else f p k
def q_nw (M : q_M) : q_M := (M.1 + 1, zr 0 M.2.1 M.1, zr 0 M.2.2.1 M.1, zr none M.2.2.2 M.1)
theorem q_ws_len {w : q_Wc} {M : q_M} : (q_ws w M).length = M.1 := by
  unfold q_ws
  rw [List.length_map, List.length_range]
theorem q_ws_app {w : q_Wc} {M M' : q_M} {e : va_E} (hn : M'.1 = M.1 + 1) (he : q_ce w M' M.1 = e) (ho : ∀ a, a < M.1 → q_ce w M' a = q_ce w M a) : q_ws w M ++ [(q_al w M.1, e)] = q_ws w M' := by
  unfold q_ws
  rw [hn, List.range_succ, List.map_append]
  congr 1
  · apply List.map_congr_left
    intro a ha
    rw [ho a (List.mem_range.mp ha)]
  · show [(q_al w M.1, e)] = [(q_al w M.1, q_ce w M' M.1)]
    rw [he]
theorem q_addr {w : q_Wc} {M : q_M} {q : Nat} {e : va_E} {H1 : Heap} (hlim : M.1 < 10000) (hD : va_D (q_A w) (q_ws w M ++ [(q, e)])) (hP : va_P w.2.1 vwCl (q_ws w M ++ [(q, e)]) H1) (hsz : H1.size ≤ w.1.1 + M.1 + 1) : q = w.1.1 + M.1 := by
  have hq : (q_ws w M ++ [(q, e)])[M.1]? = some (q, e) := by
    rw [List.getElem?_append_right (by rw [q_ws_len]; exact Nat.le_refl _), q_ws_len, Nat.sub_self]
    rfl
  have h1 : q < H1.size := (hP _ _ hq).lt
  have h2 : w.1.1 ≤ q := hD.2 _ _ hq
  by_cases h : q = w.1.1 + M.1
  · exact h
  · exfalso
    have hp : q - w.1.1 < M.1 := by omega
    have h3 : (q_ws w M ++ [(q, e)])[q - w.1.1]? = some (q_al w (q - w.1.1), q_ce w M (q - w.1.1)) := by
      rw [List.getElem?_append_left (by rw [q_ws_len]; exact hp)]
      exact q_ws_get hp
    have h4 := hD.1 _ _ _ _ h3 hq (by show q_al w (q - w.1.1) = q; rw [q_al_lo (by omega)]; omega)
    omega
def q_dv : Nat → Value
  | 0 => .int 0
  | 1 => .long 0
  | _ => .null
theorem q_ce_nw {w : q_Wc} {M : q_M} : ∀ a, a < M.1 → q_ce w (q_nw M) a = q_ce w M a := fun a ha => q_ce_eq (funext fun _ => if_neg (Nat.ne_of_lt ha)) (funext fun _ => if_neg (Nat.ne_of_lt ha)) (funext fun _ => if_neg (Nat.ne_of_lt ha))
theorem q_fv_nw {w : q_Wc} {M : q_M} {j t : Nat} : q_fv w (q_nw M) M.1 j t = q_dv t := by
  unfold q_fv q_nw q_dv zr
  match t with
  | 0 => simp
  | 1 => simp
  | t + 2 => simp [va_rf]
section QA
variable {w : q_Wc} {g : q_G} {y : q_Y} {n1 : Nat} {pc : Nat} {lv : List (Nat × Value)} {st : List Value} {M : q_M}
/-- behind a making: the address is the next one -/
theorem q_made (K : q_Ok w g y n1) {q N : Nat} {e : va_E} {H1 : Heap} {locs : List Loc} {ls : Array Slot} {pc2 : Nat} (hlim : M.1 < 10000) (h0 : g0 g ≤ M.1) (hsz1 : q_sz (M.1 + 1) = q_sz M.1 + N) (he : q_ce w (q_nw M) M.1 = e) (hP1 : va_P w.2.1 vwCl (q_ws w M ++ [(q, e)]) H1) (hD1 : va_D (q_A w) (q_ws w M ++ [(q, e)])) (hS1 : va_S (q_A w) (gs g).heap H1 locs) (hl : lv_has ls (gn g) (q_lv w lv)) (k : q_Gs w g pc2 lv (.ref M.1 :: st) (q_nw M)) :
    W (gp g) (gl g) (ge g) (gR g) (gs g) (gm g) (ga g) (gb g) (gt g) (gc g) H1 locs (M.1 - g0 g + 1) (q_sz M.1 - q_sz (g0 g) + N) (gQ g) (F0 (gm g) pc2 ls (.ref q :: st.map (q_tv w))) := by
  intro T1 hT1 X1
  have hz := X1.heapSize
  rw [hT1, K.2.2.2.2.2.2.1] at hz
  have hq := q_addr hlim hD1 hP1 (by omega)
  have hm := q_sz_mono h0
  have c1 : M.1 - g0 g + 1 = (q_nw M).1 - g0 g := by show _ = M.1 + 1 - g0 g; omega
  have c2 : q_sz M.1 - q_sz (g0 g) + N = q_sz (q_nw M).1 - q_sz (g0 g) := by show _ = q_sz (M.1 + 1) - _; rw [hsz1]; omega
  rw [c1, c2] at X1
  have ha : q = q_al w M.1 := by rw [q_al_lo hlim]; exact hq
  subst ha
  rw [q_ws_app rfl he q_ce_nw] at hP1
  exact k H1 locs ls ⟨by show M.1 + 1 ≤ 10000; omega, hP1⟩ (by show g0 g ≤ M.1 + 1; omega) hS1 hl T1 hT1 X1
theorem q_fit1 (K : q_Ok w g y n1) {N : Nat} (h0 : g0 g ≤ M.1) (hsz1 : q_sz (M.1 + 1) = q_sz M.1 + N) (hn1 : M.1 + 1 ≤ n1) : M.1 - g0 g + 1 ≤ (gR g).cells ∧ q_sz M.1 - q_sz (g0 g) + N ≤ (gR g).slots := by
  have k1 := okRc K
  have k2 := okRs K
  have h1 := q_sz_mono h0
  have h3 := q_sz_mono hn1
  exact ⟨by omega, by omega⟩
theorem g_new (K : q_Ok w g y n1) {ci i : Nat} {C : String} {T : u_T} {N : Nat} {ty : Nat → FieldType} (hC : q_cls ci C T N ty) (hdf : ∀ j, j < N → ((q_FK.getD ci [])[j]?).map q_dv = some (defaultValue (ty j))) (hLY : q_LY.getD M.1 (2, 0, 0) = (0, ci, N)) (hsz1 : q_sz (M.1 + 1) = q_sz M.1 + N) (hn1 : M.1 + 1 ≤ n1) (hlim : M.1 < 10000) (hcl : Cond.classLink y.1.cls i C ∈ q_tb) (hinst : Cond.instantiable C N ∈ q_tb) (hini : Cond.initialized C ∈ q_tb) (hd : decode y.2.1 pc = .ok (.new i, 3)) (k : q_Gs w g (pc + 3) lv (.ref M.1 :: st) (q_nw M)) : q_Gs w g pc lv st M := by
  intro H locs ls hR h0 hS hl
  have hf := q_fit1 K h0 hsz1 hn1
  refine va_new (okX K) (okB K) (okT K) hC.2.1 ty hC.2.2.1 (okC K) (okT K _ hcl) (okT K _ hinst) (okT K _ hini) (okK K) hR.2 (q_ws_D hR.1) hS (q_ok_hA K) hC.1 (fs := q_fs w (q_nw M) M.1 ci) (fun j hj => ?_) hf.1 hf.2 hd (fun q H1 hP1 hD1 hS1 => q_made K hlim h0 hsz1 (q_ce_ob hLY) hP1 hD1 hS1 hl k)
  have h := hdf j hj
  cases ht : (q_FK.getD ci [])[j]? with
  | none => rw [ht] at h; cases h
  | some t =>
    rw [ht] at h
    have h2 : q_dv t = defaultValue (ty j) := Option.some.inj h
    rw [← h2]
    unfold vp_V
    rw [List.getD_eq_getElem?_getD, q_fs_get ht, q_fv_nw]
    rfl
theorem g_newarr_int (K : q_Ok w g y n1) {m : Int32} {N : Nat} (hm : ¬ m < 0) (hN : m.toNatClampNeg = N) (hb : N * componentBytes .int ≤ 536870912) (hLY : q_LY.getD M.1 (2, 0, 0) = (1, 0, N)) (hsz1 : q_sz (M.1 + 1) = q_sz M.1 + N) (hn1 : M.1 + 1 ≤ n1) (hlim : M.1 < 10000) (hcl : Cond.arrayClass .int ∈ q_tb) (hd : decode y.2.1 pc = .ok (.newarray .int, 2)) (k : q_Gs w g (pc + 2) lv (.ref M.1 :: st) (q_nw M)) : q_Gs w g pc lv (.int m :: st) M := by
  intro H locs ls hR h0 hS hl
  have hf := q_fit1 K h0 hsz1 hn1
  refine va_newa (atype := .int) (ty := .int) (N' := N) (a0 := (N, q_ar w (q_nw M) M.1 0)) (okX K) (okB K) (okT K _ hcl) rfl (okK K) hR.2 (q_ws_D hR.1) hS (q_ok_hA K) (fun cA => ?_) hm hN hb hf.1 hf.2 hd (fun q cA H1 hK1 hP1 hD1 hS1 => ?_)
  · unfold q_ar q_nw zr
    simp [vp_cell, defaultValue]
  · have e : cA = w.2.2 0 := by
      have h1 := (hK1.2 7 (cA, .int) rfl).2
      have h2 := ((okK K).2 0 (w.2.2 0, .int) rfl).2
      exact Option.some.inj (h1.symm.trans h2)
    subst e
    exact q_made K hlim h0 hsz1 (q_ce_ar hLY) hP1 hD1 hS1 hl k
theorem g_newarr_byte (K : q_Ok w g y n1) {m : Int32} {N : Nat} (hm : ¬ m < 0) (hN : m.toNatClampNeg = N) (hb : N * componentBytes .byte ≤ 536870912) (hLY : q_LY.getD M.1 (2, 0, 0) = (1, 1, N)) (hsz1 : q_sz (M.1 + 1) = q_sz M.1 + N) (hn1 : M.1 + 1 ≤ n1) (hlim : M.1 < 10000) (hcl : Cond.arrayClass .byte ∈ q_tb) (hd : decode y.2.1 pc = .ok (.newarray .byte, 2)) (k : q_Gs w g (pc + 2) lv (.ref M.1 :: st) (q_nw M)) : q_Gs w g pc lv (.int m :: st) M := by
  intro H locs ls hR h0 hS hl
  have hf := q_fit1 K h0 hsz1 hn1
  refine va_newa (atype := .byte) (ty := .byte) (N' := N) (a0 := (N, q_ar w (q_nw M) M.1 1)) (okX K) (okB K) (okT K _ hcl) rfl (okK K) hR.2 (q_ws_D hR.1) hS (q_ok_hA K) (fun cA => ?_) hm hN hb hf.1 hf.2 hd (fun q cA H1 hK1 hP1 hD1 hS1 => ?_)
  · unfold q_ar q_nw zr
    simp [vp_cell, defaultValue]
  · have e : cA = w.2.2 1 := by
      have h1 := (hK1.2 7 (cA, .byte) rfl).2
      have h2 := ((okK K).2 1 (w.2.2 1, .byte) rfl).2
      exact Option.some.inj (h1.symm.trans h2)
    subst e
    exact q_made K hlim h0 hsz1 (q_ce_ar hLY) hP1 hD1 hS1 hl k
theorem g_newarr_long (K : q_Ok w g y n1) {m : Int32} {N : Nat} (hm : ¬ m < 0) (hN : m.toNatClampNeg = N) (hb : N * componentBytes .long ≤ 536870912) (hLY : q_LY.getD M.1 (2, 0, 0) = (1, 2, N)) (hsz1 : q_sz (M.1 + 1) = q_sz M.1 + N) (hn1 : M.1 + 1 ≤ n1) (hlim : M.1 < 10000) (hcl : Cond.arrayClass .long ∈ q_tb) (hd : decode y.2.1 pc = .ok (.newarray .long, 2)) (k : q_Gs w g (pc + 2) lv (.ref M.1 :: st) (q_nw M)) : q_Gs w g pc lv (.int m :: st) M := by
  intro H locs ls hR h0 hS hl
  have hf := q_fit1 K h0 hsz1 hn1
  refine va_newa (atype := .long) (ty := .long) (N' := N) (a0 := (N, q_ar w (q_nw M) M.1 2)) (okX K) (okB K) (okT K _ hcl) rfl (okK K) hR.2 (q_ws_D hR.1) hS (q_ok_hA K) (fun cA => ?_) hm hN hb hf.1 hf.2 hd (fun q cA H1 hK1 hP1 hD1 hS1 => ?_)
  · unfold q_ar q_nw zr
    simp [vp_cell, defaultValue]
  · have e : cA = w.2.2 2 := by
      have h1 := (hK1.2 7 (cA, .long) rfl).2
      have h2 := ((okK K).2 2 (w.2.2 2, .long) rfl).2
      exact Option.some.inj (h1.symm.trans h2)
    subst e
    exact q_made K hlim h0 hsz1 (q_ce_ar hLY) hP1 hD1 hS1 hl k
theorem g_newarr_boolean (K : q_Ok w g y n1) {m : Int32} {N : Nat} (hm : ¬ m < 0) (hN : m.toNatClampNeg = N) (hb : N * componentBytes .boolean ≤ 536870912) (hLY : q_LY.getD M.1 (2, 0, 0) = (1, 3, N)) (hsz1 : q_sz (M.1 + 1) = q_sz M.1 + N) (hn1 : M.1 + 1 ≤ n1) (hlim : M.1 < 10000) (hcl : Cond.arrayClass .boolean ∈ q_tb) (hd : decode y.2.1 pc = .ok (.newarray .boolean, 2)) (k : q_Gs w g (pc + 2) lv (.ref M.1 :: st) (q_nw M)) : q_Gs w g pc lv (.int m :: st) M := by
  intro H locs ls hR h0 hS hl
  have hf := q_fit1 K h0 hsz1 hn1
  refine va_newa (atype := .boolean) (ty := .boolean) (N' := N) (a0 := (N, q_ar w (q_nw M) M.1 3)) (okX K) (okB K) (okT K _ hcl) rfl (okK K) hR.2 (q_ws_D hR.1) hS (q_ok_hA K) (fun cA => ?_) hm hN hb hf.1 hf.2 hd (fun q cA H1 hK1 hP1 hD1 hS1 => ?_)
  · unfold q_ar q_nw zr
    simp [vp_cell, defaultValue]
  · have e : cA = w.2.2 3 := by
      have h1 := (hK1.2 7 (cA, .boolean) rfl).2
      have h2 := ((okK K).2 3 (w.2.2 3, .boolean) rfl).2
      exact Option.some.inj (h1.symm.trans h2)
    subst e
    exact q_made K hlim h0 hsz1 (q_ce_ar hLY) hP1 hD1 hS1 hl k
theorem g_anew_N (K : q_Ok w g y n1) {m : Int32} {N i : Nat} (hm : ¬ m < 0) (hN : m.toNatClampNeg = N) (hb : N * 4 ≤ 536870912) (hLY : q_LY.getD M.1 (2, 0, 0) = (1, 4, N)) (hsz1 : q_sz (M.1 + 1) = q_sz M.1 + N) (hn1 : M.1 + 1 ≤ n1) (hlim : M.1 < 10000) (hcl : Cond.classLink y.1.cls i "TaperTalk$Night" ∈ q_tb) (hd : decode y.2.1 pc = .ok (.anewarray i, 3)) (k : q_Gs w g (pc + 3) lv (.ref M.1 :: st) (q_nw M)) : q_Gs w g pc lv (.int m :: st) M := by
  intro H locs ls hR h0 hS hl
  have hf := q_fit1 K h0 hsz1 hn1
  refine va_newq (C := "TaperTalk$Night") (N' := N) (okX K) (okB K) (okC K) (okT K _ hcl) (K.2.2.2.2.2.1.2.2.1) (okK K) hR.2 (q_ws_D hR.1) hS (q_ok_hA K) hm hN hb hf.1 hf.2 hd (fun q cA H1 hK1 hP1 hD1 hS1 => ?_)
  have e : cA = w.2.2 4 := by
    obtain ⟨kA, comp, -, -, -, h1⟩ := (hK1.2 7 (cA, .object "TaperTalk$Night") rfl).2
    obtain ⟨kA2, comp2, -, -, -, h2⟩ := ((okK K).2 4 (w.2.2 4, .object "TaperTalk$Night") rfl).2
    exact Option.some.inj (h1.symm.trans h2)
  subst e
  refine q_made K hlim h0 hsz1 ?_ hP1 hD1 hS1 hl k
  rw [q_ce_ar hLY]
  unfold q_ar q_nw zr
  simp
theorem g_anew_A (K : q_Ok w g y n1) {m : Int32} {N i : Nat} (hm : ¬ m < 0) (hN : m.toNatClampNeg = N) (hb : N * 4 ≤ 536870912) (hLY : q_LY.getD M.1 (2, 0, 0) = (1, 5, N)) (hsz1 : q_sz (M.1 + 1) = q_sz M.1 + N) (hn1 : M.1 + 1 ≤ n1) (hlim : M.1 < 10000) (hcl : Cond.classLink y.1.cls i "TaperTalk$Acts" ∈ q_tb) (hd : decode y.2.1 pc = .ok (.anewarray i, 3)) (k : q_Gs w g (pc + 3) lv (.ref M.1 :: st) (q_nw M)) : q_Gs w g pc lv (.int m :: st) M := by
  intro H locs ls hR h0 hS hl
  have hf := q_fit1 K h0 hsz1 hn1
  refine va_newq (C := "TaperTalk$Acts") (N' := N) (okX K) (okB K) (okC K) (okT K _ hcl) (K.2.2.2.2.2.1.2.2.2.1) (okK K) hR.2 (q_ws_D hR.1) hS (q_ok_hA K) hm hN hb hf.1 hf.2 hd (fun q cA H1 hK1 hP1 hD1 hS1 => ?_)
  have e : cA = w.2.2 5 := by
    obtain ⟨kA, comp, -, -, -, h1⟩ := (hK1.2 7 (cA, .object "TaperTalk$Acts") rfl).2
    obtain ⟨kA2, comp2, -, -, -, h2⟩ := ((okK K).2 5 (w.2.2 5, .object "TaperTalk$Acts") rfl).2
    exact Option.some.inj (h1.symm.trans h2)
  subst e
  refine q_made K hlim h0 hsz1 ?_ hP1 hD1 hS1 hl k
  rw [q_ce_ar hLY]
  unfold q_ar q_nw zr
  simp
/-- Object's own constructor -/
theorem g_objInit (K : q_Ok w g y n1) {p i : Nat} (hlink : Cond.methodLink y.1.cls i Lib.objectInit ∈ q_tb) (hinst : Cond.instanceMethod Lib.objectInit ∈ q_tb) (hcode : Cond.code Lib.objectInit ⟨#[0xb1]⟩ 1 none ∈ q_tb) (hf : 1 ≤ y.2.2.2.2.1 ∧ 30 ≤ y.2.2.2.2.2) (hst : (st.map fun v => v.category).sum ≤ 8) (hd : decode y.2.1 pc = .ok (.invokespecial i, 3)) (k : q_Gs w g (pc + 3) lv st M) : q_Gs w g pc lv (.ref p :: st) M := by
  intro H locs ls hR h0 hS hl
  have hr := q_rest (w := w) (m := gm g) (pc := pc) (ls := ls) (st0 := .ref (q_al w p) :: st.map (q_tv w)) hst
  exact W.objInit (okX K) (okB K) (okC K) (okT K _ hlink) (okT K _ hinst) (okT K _ hcode) (g := F0 (gm g) pc ls (.ref (q_al w p) :: st.map (q_tv w))) rfl (hl.1.trans (okM K).symm) rfl hd (by rw [okF K]; exact hf.1) (by rw [okL K]; omega) (k H locs ls hR h0 hS hl)
/-- a constructor of a nest mate -/
theorem g_callIN (K : q_Ok w g y n1) {p i : Nat} {yc : q_Y} {M' : q_M} {host : String} (As : List Value) (hct : q_Ct w (gl g) yc (.ref p :: As) M none M') (hn1 : M'.1 ≤ n1) (hy : q_okI yc As.length) (hlink : va_Nw (.methodLinkNest y.1.cls i yc.1 host) (gs g)) (hF : yc.2.2.2.2.1 + 1 ≤ y.2.2.2.2.1) (hL : 8 + (yc.2.2.1 + 11) + yc.2.2.2.2.2 ≤ y.2.2.2.2.2) (hst : (st.map fun v => v.category).sum ≤ 8) (hd : decode y.2.1 pc = .ok (.invokespecial i, 3)) (k : q_Gs w g (pc + 3) lv st M') : q_Gs w g pc lv (As.reverse ++ .ref p :: st) M := by
  intro H locs ls hR h0 hS hl
  intro Tt hT X
  have hsz := q_size K hR h0 hS hT X
  have ht := okT K
  have hret := hy.2.2.2.1
  refine q_back K (r := none) hct.1 hR h0 hS hl (a := ((Value.ref p :: As).map (q_tv w)).toArray) ?_ k Tt hT X
  exact va_runIN (own := y.1.cls) (host := host) (cc := y.2.1) (nL := gn g) (Ts := q_tb) (y := yc.1) (bytes := yc.2.1) (maxL := yc.2.2.1) (n := As.length) (b := q_al w p) (As := As.map (q_tv w)) ⟨okX K, okB K, okM K, okC K, ht⟩ hct.2
    ⟨va_cnB As.length ht (q_good (by rw [hret]; exact hy.1)) (by unfold q_wy; rw [hret]) rfl rfl hlink (ht _ hy.2.2.1) hy.2.2.2.2.2 ⟨by rw [okF K]; exact hF, by rw [okL K]; exact hL⟩, hy.2.2.2.2.1, ht _ hy.2.1⟩
    ⟨q_blind, q_pre (args := .ref p :: As) K hR hS hsz⟩ rfl (by rw [List.length_map]) hl.1 (by show List.map _ (As.reverse ++ Value.ref p :: st) = _; rw [List.map_append, List.map_reverse]; rfl) (q_rest hst) hd (q_fit K h0 hct.1 hn1)
theorem q_astO {p t n : Nat} (f : Nat → Option Nat) (h : q_LY.getD p (2, 0, 0) = (1, t, n)) (ht : 4 ≤ t) : (q_ws w M).set p (q_al w p, .inl (w.2.2 t, n, .inr (.inr (.inr (.inr (fun i => (f i).map (q_al w))))))) = q_ws w (q_O M (upr M.2.2.2 p f)) := by
  refine q_ws_set rfl ?_ (fun a ha => q_ce_eq rfl rfl (funext fun b => if_neg ha))
  rw [q_ce_ar h]
  unfold q_ar
  rw [if_neg (by omega), if_neg (by omega)]
  congr 3
  congr 4
  funext b
  show ((if p = p then f b else M.2.2.2 p b)).map (q_al w) = _
  rw [if_pos rfl]
/-- a reference into a row of references -/
theorem g_aastore (K : q_Ok w g y n1) {p t n v ci nf : Nat} {C : String} {T : u_T} {N : Nat} {ty : Nat → FieldType} {j : Int32} (hC : q_cls ci C T N ty) (hp : p < M.1) (hLY : q_LY.getD p (2, 0, 0) = (1, t, n)) (ht : 4 ≤ t) (htt : (q_ty w)[t]? = some (w.2.2 t, .object C)) (hv : v < M.1) (hLV : q_LY.getD v (2, 0, 0) = (0, ci, nf)) (hin : vp_in j n) (hd : decode y.2.1 pc = .ok (.aastore, 1)) (k2 : q_Gs w g (pc + 1) lv st (q_O M (up2 M.2.2.2 p j.toNatClampNeg (some v)))) : q_Gs w g pc lv (.ref v :: .int j :: .ref p :: st) M := by
  intro H locs ls hR h0 hS hl
  have e1 : q_ar w M p t = .inr (.inr (.inr (.inr (fun i => (M.2.2.2 p i).map (q_al w))))) := by
    unfold q_ar
    rw [if_neg (by omega), if_neg (by omega)]
  have e2 : va_up (fun i => (M.2.2.2 p i).map (q_al w)) j.toNatClampNeg (some (q_al w v)) = fun i => (va_up (M.2.2.2 p) j.toNatClampNeg (some v) i).map (q_al w) := by
    funext i
    unfold va_up
    by_cases h : i = j.toNatClampNeg
    · rw [if_pos h, if_pos h]; rfl
    · rw [if_neg h, if_neg h]
  have e3 : upr M.2.2.2 p (va_up (M.2.2.2 p) j.toNatClampNeg (some v)) = up2 M.2.2.2 p j.toNatClampNeg (some v) := by
    funext a b
    unfold upr up2 va_up
    by_cases ha : a = p
    · subst ha
      simp
    · simp [ha]
  refine va_astq (r := (C, T, N)) (okX K) (okB K) (okK K) hR.2 (q_ws_D hR.1) hS p t v ci (cA := w.2.2 t) (n := n) (f := fun i => (M.2.2.2 p i).map (q_al w)) (vs := q_fs w M v ci) (by rw [q_ws_get hp, q_ce_ar hLY, e1]) htt (by rw [q_ws_get hv, q_ce_ob hLV]) hC.1 hin hd (fun H1 locs1 hP1 _ hS1 => k2 H1 locs1 ls ⟨hR.1, ?_⟩ h0 hS1 hl)
  rw [e2, q_astO _ hLY ht, e3] at hP1
  exact hP1
end QA
