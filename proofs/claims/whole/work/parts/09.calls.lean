/-! CALLS: a callee's contract, used. -/
/-- a method's own words: they are in the tables; how many arguments it has -/
def q_okS (y : q_Y) (n : Nat) : Prop := Cond.code y.1 y.2.1 y.2.2.1 y.2.2.2.1 ∈ q_tb ∧ Cond.static y.1 ∈ q_tb ∧ Cond.initialized y.1.cls ∈ q_tb ∧ (y.1.cls ≠ "java/lang/invoke/MethodHandle" ∧ y.1.cls ≠ "java/lang/invoke/VarHandle" ∧ (parseMethodDescriptor y.1.desc).map (fun d => d.parameters.length) = some n)
def q_okV (y : q_Y) (n : Nat) : Prop := Cond.code y.1 y.2.1 y.2.2.1 y.2.2.2.1 ∈ q_tb ∧ Cond.instanceMethod y.1 ∈ q_tb ∧ Cond.initialized y.1.cls ∈ q_tb ∧ Cond.selects y.1.cls y.1 y.1 ∈ q_tb ∧ (y.1.cls ≠ "java/lang/invoke/MethodHandle" ∧ y.1.cls ≠ "java/lang/invoke/VarHandle" ∧ (parseMethodDescriptor y.1.desc).map (fun d => d.parameters.length) = some n)
def q_okI (y : q_Y) (n : Nat) : Prop := Cond.code y.1 y.2.1 y.2.2.1 none ∈ q_tb ∧ Cond.instanceMethod y.1 ∈ q_tb ∧ Cond.initialized y.1.cls ∈ q_tb ∧ y.2.2.2.1 = none ∧ y.1.name = "<init>" ∧ (y.1.cls ≠ "java/lang/invoke/MethodHandle" ∧ y.1.cls ≠ "java/lang/invoke/VarHandle" ∧ (parseMethodDescriptor y.1.desc).map (fun d => d.parameters.length) = some n)
theorem q_good {y : q_Y} (h : Cond.code y.1 y.2.1 y.2.2.1 y.2.2.2.1 ∈ q_tb) : GoodIn q_tb (q_wy y) := by
  intro x hx
  have hm : x ∈ q_tb := by
    rcases List.mem_cons.mp hx with rfl | h2
    · exact h
    · exact h2
  exact ⟨hm, good_of_word (List.mem_filter.mp hm).2⟩
theorem q_blind {w : q_Wc} {args : List Value} {M : q_M} : FrameBlind (q_Pc w args M) := fun _ _ _ _ h => ⟨h.1, h.2.1.calling, h.2.2.1, h.2.2.2⟩
section QC
variable {w : q_Wc} {g : q_G} {y : q_Y} {n1 : Nat} {pc : Nat} {lv : List (Nat × Value)} {st : List Value} {M M' : q_M} {yc : q_Y} {r : Option Value} {i : Nat}
/-- behind a call -/
theorem q_back (K : q_Ok w g y n1) {H : Heap} {locs : List Loc} {ls : Array Slot} {st0 : List Value} {a : Array Value} (hle : M.1 ≤ M'.1) (hR : q_R w M H) (h0 : g0 g ≤ M.1) (hS : va_S (q_A w) (gs g).heap H locs) (hl : lv_has ls (gn g) (q_lv w lv))
    (hr : va_Run (gp g) (gl g) (ge g) (gR g) (gs g) (gm g) (ga g) (gb g) (gt g) (gc g) H locs (M.1 - g0 g) (q_sz M.1 - q_sz (g0 g)) (M'.1 - M.1) (q_sz M'.1 - q_sz M.1) (F0 (gm g) pc ls st0) (st.map (q_tv w)) (q_Qc w r M' a) (q_A w))
    (k : q_Gs w g (pc + 3) lv (r.toList ++ st) M') : W (gp g) (gl g) (ge g) (gR g) (gs g) (gm g) (ga g) (gb g) (gt g) (gc g) H locs (M.1 - g0 g) (q_sz M.1 - q_sz (g0 g)) (gQ g) (F0 (gm g) pc ls st0) := by
  intro T hT X
  obtain ⟨v, st₀, t, T', L, e0, X', hL, e1, e2, ⟨hv, hR', hz, hk⟩, go⟩ := hr T hT X
  have hv : v = r.map (q_tv w) := by cases hv; rfl
  subst hv
  rw [e0] at hz hk
  have c1 : M.1 - g0 g + (M'.1 - M.1) = M'.1 - g0 g := by omega
  have c2 : q_sz M.1 - q_sz (g0 g) + (q_sz M'.1 - q_sz M.1) = q_sz M'.1 - q_sz (g0 g) := by
    have h1 := q_sz_mono h0
    have h2 := q_sz_mono hle
    omega
  rw [c1, c2] at X'
  have hS' : va_S (q_A w) (gs g).heap T'.heap (locs ++ L) := ⟨Nat.le_trans hS.1 (by rw [e1]; exact hz), fun q h1 h2 => by rw [e1, hk q (Nat.lt_of_lt_of_le h1 hS.1) h2]; exact hS.2.1 q h1 h2, fun q hq => by
    rcases List.mem_append.mp hq with h | h
    · exact hS.2.2 q h
    · exact hL q h⟩
  obtain ⟨t2, a1, b1⟩ := k T'.heap (locs ++ L) ls (by rw [e1]; exact hR') (Nat.le_trans h0 hle) hS' hl T' rfl X'
  refine ⟨t2, go t2 ?_, b1⟩
  have e3 : ({ F0 (gm g) pc ls st0 with pc := (F0 (gm g) pc ls st0).pc + 3, stack := (r.map (q_tv w)).toList ++ st.map (q_tv w) } : JFrame) = F0 (gm g) (pc + 3) ls ((r.toList ++ st).map (q_tv w)) := by
    cases r <;> rfl
  rw [e3]
  exact a1
theorem q_fit (K : q_Ok w g y n1) (h0 : g0 g ≤ M.1) (hle : M.1 ≤ M'.1) (hn : M'.1 ≤ n1) : M.1 - g0 g + (M'.1 - M.1) ≤ (gR g).cells ∧ q_sz M.1 - q_sz (g0 g) + (q_sz M'.1 - q_sz M.1) ≤ (gR g).slots := by
  have k1 := okRc K
  have k2 := okRs K
  have h1 := q_sz_mono h0
  have h2 := q_sz_mono hle
  have h3 := q_sz_mono hn
  exact ⟨by omega, by omega⟩
theorem q_rest {w : q_Wc} {m : MethodId} {pc : Nat} {ls : Array Slot} {st0 st : List Value} (h : (st.map fun v => v.category).sum ≤ 8) : 2 * (F0 m pc ls st0).monitorRoom + ((st.map (q_tv w)).map fun v => v.category).sum ≤ 8 := by
  refine lv_room ?_
  rw [List.map_map, show ((fun v => v.category) ∘ q_tv w) = (fun v : Value => v.category) from funext fun v => q_tv_cat w v]
  exact h
theorem q_pre (K : q_Ok w g y n1) {args : List Value} {H : Heap} {locs : List Loc} (hR : q_R w M H) (hS : va_S (q_A w) (gs g).heap H locs) (hsz : H.size = w.1.1 + M.1) : ∀ U : State, U.heap = H → (gs g).WarmedH U.vm → q_Pc w args M (args.map (q_tv w)).toArray U := fun U hU hW =>
  ⟨rfl, K.2.2.2.2.2.1.at hW (fun a h1 h2 => by rw [hU]; exact hS.2.1 a h1 h2), by rw [hU]; exact hR, by rw [hU]; exact hsz⟩
/-- invokestatic -/
theorem g_callS (K : q_Ok w g y n1) (As : List Value) (hct : q_Ct w (gl g) yc As M r M') (hn1 : M'.1 ≤ n1) (hy : q_okS yc As.length) (hlink : Cond.methodLink y.1.cls i yc.1 ∈ q_tb) (hF : yc.2.2.2.2.1 + 1 ≤ y.2.2.2.2.1) (hL : 8 + (yc.2.2.1 + 11) + yc.2.2.2.2.2 ≤ y.2.2.2.2.2) (hst : (st.map fun v => v.category).sum ≤ 8) (hd : decode y.2.1 pc = .ok (.invokestatic i, 3)) (k : q_Gs w g (pc + 3) lv (r.toList ++ st) M') : q_Gs w g pc lv (As.reverse ++ st) M := by
  intro H locs ls hR h0 hS hl
  intro T hT X
  have hsz := q_size K hR h0 hS hT X
  have ht := okT K
  refine q_back K hct.1 hR h0 hS hl (a := (As.map (q_tv w)).toArray) ?_ k T hT X
  exact va_runS (own := y.1.cls) (cc := y.2.1) (nL := gn g) (Ts := q_tb) (y := yc.1) (bytes := yc.2.1) (maxL := yc.2.2.1) (ret := yc.2.2.2.1) (n := As.length) (As := As.map (q_tv w)) ⟨okX K, okB K, okM K, okC K, ht⟩ hct.2
    ⟨callB_of As.length ht (q_good hy.1) rfl rfl rfl (ht _ hy.2.2.1) (ht _ hlink) hy.2.2.2 ⟨by rw [okF K]; exact hF, by rw [okL K]; exact hL⟩, ht _ hy.2.1⟩
    ⟨q_blind, q_pre K hR hS hsz⟩ rfl (by rw [List.length_map]) hl.1 (by show List.map _ (As.reverse ++ st) = _; rw [List.map_append, List.map_reverse]) (q_rest hst) hd (q_fit K h0 hct.1 hn1)
/-- invokevirtual -/
theorem g_callV (K : q_Ok w g y n1) {p ci nf : Nat} {C : String} {T : u_T} {N : Nat} {ty : Nat → FieldType} (As : List Value) (hct : q_Ct w (gl g) yc (.ref p :: As) M r M') (hn1 : M'.1 ≤ n1) (hC : q_cls ci C T N ty) (hp : p < M.1) (hLY : q_LY.getD p (2, 0, 0) = (0, ci, nf)) (hcc : yc.1.cls = C) (hy : q_okV yc As.length) (hlink : Cond.methodLink y.1.cls i yc.1 ∈ q_tb) (hF : yc.2.2.2.2.1 + 1 ≤ y.2.2.2.2.1) (hL : 8 + (yc.2.2.1 + 11) + yc.2.2.2.2.2 ≤ y.2.2.2.2.2) (hst : (st.map fun v => v.category).sum ≤ 8) (hd : decode y.2.1 pc = .ok (.invokevirtual i, 3)) (k : q_Gs w g (pc + 3) lv (r.toList ++ st) M') : q_Gs w g pc lv (As.reverse ++ .ref p :: st) M := by
  intro H locs ls hR h0 hS hl
  intro Tt hT X
  have hsz := q_size K hR h0 hS hT X
  have ht := okT K
  subst hcc
  refine q_back K hct.1 hR h0 hS hl (a := ((Value.ref p :: As).map (q_tv w)).toArray) ?_ k Tt hT X
  exact va_runV (own := y.1.cls) (C := yc.1.cls) (cc := y.2.1) (nL := gn g) (Ts := q_tb) (y := yc.1) (bytes := yc.2.1) (maxL := yc.2.2.1) (ret := yc.2.2.2.1) (n := As.length) (b := q_al w p) (As := As.map (q_tv w)) ⟨okX K, okB K, okM K, okC K, ht⟩ hct.2
    ⟨callB_of As.length ht (q_good hy.1) rfl rfl rfl (ht _ hy.2.2.1) (ht _ hlink) hy.2.2.2.2 ⟨by rw [okF K]; exact hF, by rw [okL K]; exact hL⟩, ht _ hy.2.1, ht _ hy.2.2.2.1⟩
    ⟨q_blind, va_recv (okK K) hR.2 hC.1 (q0 := p) (fs := q_fs w M p ci) (by rw [q_ws_get hp, q_ce_ob hLY]), q_pre (args := .ref p :: As) K hR hS hsz⟩ rfl (by rw [List.length_map]) hl.1 (by show List.map _ (As.reverse ++ Value.ref p :: st) = _; rw [List.map_append, List.map_reverse]; rfl) (q_rest hst) hd (q_fit K h0 hct.1 hn1)
/-- invokespecial of a constructor -/
theorem g_callI (K : q_Ok w g y n1) {p : Nat} (As : List Value) (hct : q_Ct w (gl g) yc (.ref p :: As) M none M') (hn1 : M'.1 ≤ n1) (hy : q_okI yc As.length) (hlink : Cond.methodLink y.1.cls i yc.1 ∈ q_tb) (hF : yc.2.2.2.2.1 + 1 ≤ y.2.2.2.2.1) (hL : 8 + (yc.2.2.1 + 11) + yc.2.2.2.2.2 ≤ y.2.2.2.2.2) (hst : (st.map fun v => v.category).sum ≤ 8) (hd : decode y.2.1 pc = .ok (.invokespecial i, 3)) (k : q_Gs w g (pc + 3) lv st M') : q_Gs w g pc lv (As.reverse ++ .ref p :: st) M := by
  intro H locs ls hR h0 hS hl
  intro Tt hT X
  have hsz := q_size K hR h0 hS hT X
  have ht := okT K
  have hret := hy.2.2.2.1
  refine q_back K (r := none) hct.1 hR h0 hS hl (a := ((Value.ref p :: As).map (q_tv w)).toArray) ?_ k Tt hT X
  exact va_runI (own := y.1.cls) (cc := y.2.1) (nL := gn g) (Ts := q_tb) (y := yc.1) (bytes := yc.2.1) (maxL := yc.2.2.1) (n := As.length) (b := q_al w p) (As := As.map (q_tv w)) ⟨okX K, okB K, okM K, okC K, ht⟩ hct.2
    ⟨callB_of As.length ht (q_good (by rw [hret]; exact hy.1)) (by unfold q_wy; rw [hret]) rfl rfl (ht _ hy.2.2.1) (ht _ hlink) hy.2.2.2.2.2 ⟨by rw [okF K]; exact hF, by rw [okL K]; exact hL⟩, hy.2.2.2.2.1, ht _ hy.2.1⟩
    ⟨q_blind, q_pre (args := .ref p :: As) K hR hS hsz⟩ rfl (by rw [List.length_map]) hl.1 (by show List.map _ (As.reverse ++ Value.ref p :: st) = _; rw [List.map_append, List.map_reverse]; rfl) (q_rest hst) hd (q_fit K h0 hct.1 hn1)
end QC
