theorem vr_outer (c : ClassId) (N h0 : Nat) : ∀ i : Nat, Jvm.Free.Multi.outerC c N h0 i = arrV c N (fun j => va_rf (if j < i then some (h0 + 1 + j) else none))
  | 0 => by
    show ({ cls := c, slots := Array.replicate N .null, vm := .none } : Cell) = _
    rw [arrV_new]
    refine congrArg (arrV c N) (funext fun j => ?_)
    simp [va_rf]
  | i + 1 => by
    show (Jvm.Free.Multi.outerC c N h0 i).setSlot i (.ref (h0 + 1 + i)) = _
    rw [vr_outer c N h0 i, arrV_store]
    refine congrArg (arrV c N) (funext fun j => ?_)
    by_cases e : j = i
    · subst e
      simp [updV, va_rf]
    · by_cases h : j < i
      · simp [updV, e, h, Nat.lt_succ_of_lt h]
      · simp [updV, e, h, show ¬ j < i + 1 by omega]
/-- new long[4][60]: the outer row, then its four -/
def q_nm (M : q_M) : q_M := (M.1 + 5, fun p k => if M.1 ≤ p ∧ p < M.1 + 5 then 0 else M.2.1 p k, fun p k => if M.1 ≤ p ∧ p < M.1 + 5 then 0 else M.2.2.1 p k, fun p k => if p = M.1 then (if k < 4 then some (M.1 + 1 + k) else none) else if M.1 ≤ p ∧ p < M.1 + 5 then none else M.2.2.2 p k)
section QN
variable {w : q_Wc} {g : q_G} {y : q_Y} {n1 : Nat} {pc : Nat} {lv : List (Nat × Value)} {st : List Value} {M : q_M}
set_option maxHeartbeats 1000000 in
theorem g_mna (K : q_Ok w g y n1) {i : Nat} (hLY0 : q_LY.getD M.1 (2, 0, 0) = (1, 6, 4)) (hLYr : ∀ j, j < 4 → q_LY.getD (M.1 + 1 + j) (2, 0, 0) = (1, 2, 60)) (hsz1 : q_sz (M.1 + 5) = q_sz M.1 + 244) (hn1 : M.1 + 5 ≤ n1) (hlim : M.1 + 5 ≤ 10000) (hcl : Cond.classLink y.1.cls i ("[" ++ (FieldType.array FieldType.long).toString) ∈ q_tb) (hac : Cond.arrayClass .long ∈ q_tb) (hd : decode y.2.1 pc = .ok (.multianewarray i 2, 4)) (k : q_Gs w g (pc + 4) lv (.ref M.1 :: st) (q_nm M)) : q_Gs w g pc lv (.int 60 :: .int 4 :: st) M := by
  intro H locs ls hR h0 hS hl
  intro T hT X
  have hsz := q_size K hR h0 hS hT X
  have k1 := okRc K
  have k2 := okRs K
  have m1 := q_sz_mono h0
  have m2 := q_sz_mono hn1
  have n4 : (4 : Int32).toNatClampNeg = 4 := by decide
  have n60 : (60 : Int32).toNatClampNeg = 60 := by decide
  obtain ⟨vm₁, cA, comp, -, fA, fC, hO, -, X', step⟩ := X.multianewarray2F (okX K) (okC K) (index := i) (ty := .long) (okT K _ hcl) (K.2.2.2.2.2.1.2.2.2.2.1) (okT K _ hac) (g := F0 (gm g) pc ls (.int 60 :: .int 4 :: st.map (q_tv w))) rfl (by rw [okB K]; exact hd) rfl (by decide) (by decide) (by rw [n4]; decide) (by rw [n60]; decide) (by rw [n60]; decide) rfl rfl (by rw [n4]; omega) (by rw [n4, n60]; omega)
  have hcJ : (gs g).vm.findClass ("[" ++ FieldType.long.toString) = some (w.2.2 2) := ((okK K).2 2 (w.2.2 2, .long) rfl).2
  have hcA : (gs g).vm.findClass ("[" ++ (FieldType.array FieldType.long).toString) = some (w.2.2 6) := ((okK K).2 6 (w.2.2 6, .array .long) rfl).2
  have ec : comp = w.2.2 2 := Option.some.inj (fC.symm.trans hcJ)
  have eA : cA = w.2.2 6 := Option.some.inj (fA.symm.trans hcA)
  subst ec
  subst eA
  generalize hF : Jvm.Free.Multi.fill (T.setVm vm₁) (w.2.2 6) (w.2.2 2) (4 : Int32).toNatClampNeg (60 : Int32).toNatClampNeg (defaultValue .long) (4 : Int32).toNatClampNeg = F at X' step
  have hTh : (T.setVm vm₁).heap = H := hT
  obtain ⟨f1, f2, -, -⟩ := Jvm.Free.Multi.fill_facts (T.setVm vm₁) (w.2.2 6) (w.2.2 2) (4 : Int32).toNatClampNeg (60 : Int32).toNatClampNeg (defaultValue .long) (4 : Int32).toNatClampNeg
  rw [hF, hTh] at f1 f2
  have hold : ∀ x : Nat, x < H.size → F.heap[x]? = H[x]? := fun x hx => by
    have := Jvm.Free.Multi.fill_old (T.setVm vm₁) (w.2.2 6) (w.2.2 2) (4 : Int32).toNatClampNeg (60 : Int32).toNatClampNeg (defaultValue .long) (a := x) (by rw [hTh]; exact hx) (4 : Int32).toNatClampNeg
    rw [hF, hTh] at this
    exact this
  have hrow : ∀ j : Nat, j < 4 → F.heap[H.size + 1 + j]? = some (vp_cell (w.2.2 2) (60, .inr (.inl (fun _ => 0)))) := fun j hj => by
    have := Jvm.Free.Multi.fill_inner (T.setVm vm₁) (w.2.2 6) (w.2.2 2) (4 : Int32).toNatClampNeg (60 : Int32).toNatClampNeg (defaultValue .long) (4 : Int32).toNatClampNeg j (by rw [n4]; exact hj)
    rw [hF, hTh, n60] at this
    rw [this, vp_cell_l, ← arrV_new]
    rfl
  rw [n4, vr_outer] at f2
  have hR' : q_R w (q_nm M) F.heap := by
    refine ⟨hlim, fun a q hq => ?_⟩
    obtain ⟨ha, rfl⟩ := q_ws_some hq
    have ha : a < M.1 + 5 := ha
    by_cases h1 : a < M.1
    · have e : q_ce w (q_nm M) a = q_ce w M a := q_ce_eq (funext fun _ => if_neg (by omega)) (funext fun _ => if_neg (by omega)) (funext fun _ => by show (if a = M.1 then _ else _) = _; rw [if_neg (by omega), if_neg (by omega)])
      rw [e]
      exact (hR.2 a _ (q_ws_get h1)).kept (hold _ ((hR.2 a _ (q_ws_get h1)).lt))
    · by_cases h2 : a = M.1
      · subst h2
        rw [q_ce_ar hLY0]
        show F.heap[q_al w M.1]? = some (vp_cell (w.2.2 6) (4, q_ar w (q_nm M) M.1 6))
        rw [q_al_lo (by omega), ← hsz, f2]
        congr 1
        have har : q_ar w (q_nm M) M.1 6 = .inr (.inr (.inr (.inr (fun i => ((q_nm M).2.2.2 M.1 i).map (q_al w))))) := rfl
        rw [har, vp_cell_q]
        congr 1
        funext j
        have hrr : (q_nm M).2.2.2 M.1 j = if j < 4 then some (M.1 + 1 + j) else none := if_pos rfl
        rw [hrr]
        by_cases hj : j < 4
        · rw [if_pos hj, if_pos hj]
          show va_rf (some (H.size + 1 + j)) = va_rf (some (q_al w (M.1 + 1 + j)))
          rw [q_al_lo (by omega), hsz]
          congr 2
          omega
        · rw [if_neg hj, if_neg hj]
          rfl
      · obtain ⟨j, rfl⟩ : ∃ j, a = M.1 + 1 + j := ⟨a - M.1 - 1, by omega⟩
        rw [q_ce_ar (hLYr j (by omega))]
        show F.heap[q_al w (M.1 + 1 + j)]? = some (vp_cell (w.2.2 2) (60, q_ar w (q_nm M) (M.1 + 1 + j) 2))
        rw [q_al_lo (by omega), show w.1.1 + (M.1 + 1 + j) = H.size + 1 + j by omega, hrow j (by omega)]
        have har : q_ar w (q_nm M) (M.1 + 1 + j) 2 = .inr (.inl ((q_nm M).2.2.1 (M.1 + 1 + j))) := rfl
        have hrr : (q_nm M).2.2.1 (M.1 + 1 + j) = fun _ => 0 := funext fun b => if_pos ⟨by omega, by omega⟩
        rw [har, hrr]
  have c1 : M.1 - g0 g + (1 + (4 : Int32).toNatClampNeg) = (q_nm M).1 - g0 g := by show _ = M.1 + 5 - g0 g; rw [n4]; omega
  have c2 : q_sz M.1 - q_sz (g0 g) + ((4 : Int32).toNatClampNeg + (4 : Int32).toNatClampNeg * (60 : Int32).toNatClampNeg) = q_sz (q_nm M).1 - q_sz (g0 g) := by show _ = q_sz (M.1 + 5) - _; rw [hsz1, n4, n60]; omega
  have X2 : Stand (gp g) (gl g) (ge g) (gR g) (gs g) (gm g) (ga g) (gb g) (gt g) (gc g) F locs ((q_nm M).1 - g0 g) (q_sz (q_nm M).1 - q_sz (g0 g)) := by
    rw [← c1, ← c2]
    exact X'
  obtain ⟨t, a1, b1⟩ := k F.heap locs ls hR' (by show g0 g ≤ M.1 + 5; omega) ⟨by rw [f1]; have := hS.1; omega, fun x h1 h2 => (hold x (Nat.lt_of_lt_of_le h1 hS.1)).trans (hS.2.1 x h1 h2), hS.2.2⟩ hl F rfl X2
  refine ⟨t, step t ?_, b1⟩
  have e : T.heap.size = q_al w M.1 := by rw [hT, hsz, q_al_lo (by omega)]
  rw [e]
  exact a1
end QN
