/-! TEXT CONSTANTS: length() and charAt() by their own code. -/
theorem q_ofWF {l : Launch} {y : MethodName} {ws ws' : List Cond} {rm : Room} {Pc : Array Value → State → Prop} {Qc : Array Value → State → Outcome → State → Prop} {mc ms : Nat} {free : Addr → Prop} {cc : ByteArray} {maxL : Nat} {ret : Option FieldType}
    (hy : plainFor y = true) (hw : ws = Cond.code y cc maxL ret :: ws')
    (body : ∀ p e s m args below meth c s₁, BodyLoose p l y (headSpec ws rm) cc maxL ret e s m args below meth c s₁ → c.maxLocals = maxL → Pc args s →
      W p l e (headSpec ws rm).room s m args below meth c s.heap [] 0 0 (MQ below Qc args s mc ms free) (entryFrame m args maxL)) : Met l y ws rm Pc Qc mc ms free := by
  refine MetFree.of_bodySF (code := cc) (maxLocals := maxL) (ret := ret) hy ?_ ?_
  · intro args s m h hn
    obtain ⟨meth, c, h1, h2, h3, h4, h5, h6, -, -⟩ := Cond.code_spec hn (atoms_spec (ws := ws) h _ (by rw [hw]; exact List.mem_cons_self))
    exact ⟨meth, c, h1, h2, h3, h4, h5, h6⟩
  · intro p e s m args below meth c s₁ B hml hP _
    have hh0 : s₁.heap = s.heap := by rw [B.state]; rfl
    obtain ⟨t, a1, o, b1, b2, b3⟩ := body p e s m args below meth c s₁ B hml hP s₁ hh0 (Stand.of_body B)
    exact ⟨t, o, a1, b1, b2, ⟨b3.1, b3.2⟩⟩
theorem q_ctF {w : q_Wc} {l : Launch} {y : q_Y} {args : List Value} {M M' : q_M} {r : Option Value} (hp : plainFor y.1 = true) (hn : (lg_sl args).length ≤ y.2.2.1) (hle : M.1 ≤ M'.1)
    (h : ∀ g : q_G, g0 g = M.1 → q_In w g y r M' → q_Gs w g 0 (lv_args 0 args) [] M) : q_Ct w l y args M r M' := by
  refine ⟨hle, ?_⟩
  refine q_ofWF (cc := y.2.1) (maxL := y.2.2.1) (ret := y.2.2.2.1) (ws' := q_tb) hp rfl ?_
  intro p e s m as below meth c s₁ B hml hv
  obtain ⟨rfl, hK, hR, hsz⟩ := hv
  have hts := atoms_spec (ws := q_wy y) B.pre
  have K := h (p, l, e, (headSpec (q_wy y) (q_rm y M.1 M'.1)).room, s, m, (args.map (q_tv w)).toArray, below, meth, c, MQ below (q_Qc w r M') (args.map (q_tv w)).toArray s (M'.1 - M.1) (q_sz M'.1 - q_sz M.1) (q_A w), y.2.2.1, M.1) rfl
    ⟨⟨B.exec, B.bytes, hml, findClass_of_methodNamed B.named, fun x hx => hts x (List.mem_cons_of_mem _ hx), hK, hsz, rfl, rfl, Nat.le_refl _, Nat.le_refl _, B.returns, B.notSynchronized, rfl, (name_of_methodNamed B.named B.method).1⟩, rfl⟩
  have hl := lv_entry (args.map (q_tv w)) (n := y.2.2.1) (by rw [q_sl_len]; exact hn)
  rw [q_lv_args] at hl
  rw [lg_entry_eq]
  have K2 := K s.heap [] _ hR (Nat.le_refl _) va_S.rf hl
  have e1 : M.1 - M.1 = 0 := Nat.sub_self _
  have e2 : q_sz M.1 - q_sz M.1 = 0 := Nat.sub_self _
  simp only [g0, e1, e2] at K2
  exact K2
section QS
variable {w : q_Wc} {g : q_G} {y : q_Y} {n1 : Nat} {pc : Nat} {lv : List (Nat × Value)} {st : List Value} {M : q_M} {i j : Nat} {q : String × Nat × String × List Int32}
theorem q_al1 (w : q_Wc) (j : Nat) : q_al w (10001 + j) = w.1.2 (1 + j) := by unfold q_al; rw [if_neg (by omega), show 10001 + j - 10000 = 1 + j by omega]
theorem q_al2 (w : q_Wc) (j : Nat) : q_al w (10101 + j) = w.1.2 (101 + j) := by unfold q_al; rw [if_neg (by omega), show 10101 + j - 10000 = 101 + j by omega]
theorem g_strV (K : q_Ok w g y n1) (hq : q_SX[j]? = some q) (hlink : Cond.fieldLink y.1.cls i "java/lang/String" "value" "[B" ∈ q_tb) (hd : decode y.2.1 pc = .ok (.getfield i, 3)) (k2 : q_Gs w g (pc + 3) lv (.ref (10101 + j) :: st) M) : q_Gs w g pc lv (.ref (10001 + j) :: st) M := by
  intro H locs ls hR h0 hS hl
  have h := ((okS K).1 j q hq).2.2.2.1
  have k3 := k2 H locs ls hR h0 hS hl
  rw [List.map_cons, show q_tv w (.ref (10101 + j)) = .ref (w.1.2 (101 + j)) by show Value.ref _ = _; rw [q_al2]] at k3
  rw [List.map_cons, show q_tv w (.ref (10001 + j)) = .ref (w.1.2 (1 + j)) by show Value.ref _ = _; rw [q_al1]]
  exact vk_getf (okX K) (okB K) h hS (okC K) (okT K _ hlink) (fun x h => h) hd k3
theorem g_strC (K : q_Ok w g y n1) (hq : q_SX[j]? = some q) (hlink : Cond.fieldLink y.1.cls i "java/lang/String" "coder" "B" ∈ q_tb) (hd : decode y.2.1 pc = .ok (.getfield i, 3)) (k2 : q_Gs w g (pc + 3) lv (.int 0 :: st) M) : q_Gs w g pc lv (.ref (10001 + j) :: st) M := by
  intro H locs ls hR h0 hS hl
  have h := ((okS K).1 j q hq).2.2.1
  rw [List.map_cons, show q_tv w (.ref (10001 + j)) = .ref (w.1.2 (1 + j)) by show Value.ref _ = _; rw [q_al1]]
  exact vk_getf (okX K) (okB K) h hS (okC K) (okT K _ hlink) (fun x h => h) hd (k2 H locs ls hR h0 hS hl)
theorem g_compact (K : q_Ok w g y n1) (hlink : Cond.fieldLink y.1.cls i "java/lang/String" "COMPACT_STRINGS" "Z" ∈ q_tb) (hd : decode y.2.1 pc = .ok (.getstatic i, 3)) (k2 : q_Gs w g (pc + 3) lv (.int 1 :: st) M) : q_Gs w g pc lv st M := by
  intro H locs ls hR h0 hS hl
  exact va_gets (okX K) (okB K) (okS K).2.1 hS (okC K) (okT K _ hlink) (fun x h => h) hd (k2 H locs ls hR h0 hS hl)
theorem g_sioobe (K : q_Ok w g y n1) (hlink : Cond.fieldLink y.1.cls i "jdk/internal/util/Preconditions" "SIOOBE_FORMATTER" "Ljava/util/function/BiFunction;" ∈ q_tb) (hd : decode y.2.1 pc = .ok (.getstatic i, 3)) (k2 : ∀ v, (v = Value.null ∨ v = Value.ref 10000) → q_Gs w g (pc + 3) lv (v :: st) M) : q_Gs w g pc lv st M := by
  intro H locs ls hR h0 hS hl
  obtain ⟨v, hv, hz⟩ := (okS K).2.2
  rcases hv with rfl | rfl
  · have k3 := k2 .null (Or.inl rfl) H locs ls hR h0 hS hl
    rw [List.map_cons, show q_tv w .null = .null from rfl] at k3
    exact va_gets (okX K) (okB K) hz hS (okC K) (okT K _ hlink) (fun x h => h) hd k3
  · have k3 := k2 (.ref 10000) (Or.inr rfl) H locs ls hR h0 hS hl
    rw [List.map_cons, show q_tv w (.ref 10000) = .ref (w.1.2 0) from rfl] at k3
    exact va_gets (okX K) (okB K) hz hS (okC K) (okT K _ hlink) (fun x h => h) hd k3
theorem g_strlen (K : q_Ok w g y n1) (hq : q_SX[j]? = some q) (hd : decode y.2.1 pc = .ok (.arraylength, 1)) (k2 : q_Gs w g (pc + 1) lv (.int (nI q.2.2.2.length) :: st) M) : q_Gs w g pc lv (.ref (10101 + j) :: st) M := by
  intro H locs ls hR h0 hS hl
  rw [List.map_cons, show q_tv w (.ref (10101 + j)) = .ref (w.1.2 (101 + j)) by show Value.ref _ = _; rw [q_al2]]
  exact va_tlen (okX K) (okB K) ((okS K).1 j q hq).2.2.2.2 hS rfl hd (k2 H locs ls hR h0 hS hl)
theorem g_strb (K : q_Ok w g y n1) {a : Int32} (hq : q_SX[j]? = some q) (hin : vp_in a q.2.2.2.length) (hd : decode y.2.1 pc = .ok (.baload, 1)) (k2 : q_Gs w g (pc + 1) lv (.int (q.2.2.2.getD a.toNatClampNeg 0) :: st) M) : q_Gs w g pc lv (.int a :: .ref (10101 + j) :: st) M := by
  intro H locs ls hR h0 hS hl
  rw [List.map_cons, List.map_cons, show q_tv w (.ref (10101 + j)) = .ref (w.1.2 (101 + j)) by show Value.ref _ = _; rw [q_al2]]
  exact va_tb (okX K) (okB K) ((okS K).1 j q hq).2.2.2.2 hS hin rfl hd (k2 H locs ls hR h0 hS hl)
end QS
