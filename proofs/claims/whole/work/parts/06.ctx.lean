/-! THE PLACE WHERE A METHOD RUNS, and what a state of it means. -/
abbrev q_G : Type := Program × Launch × Env × Room × State × MethodId × Array Value × List Frame × Method × Code × (State → Prop) × Nat × Nat
abbrev gp (g : q_G) : Program := g.1
abbrev gl (g : q_G) : Launch := g.2.1
abbrev ge (g : q_G) : Env := g.2.2.1
abbrev gR (g : q_G) : Room := g.2.2.2.1
abbrev gs (g : q_G) : State := g.2.2.2.2.1
abbrev gm (g : q_G) : MethodId := g.2.2.2.2.2.1
abbrev ga (g : q_G) : Array Value := g.2.2.2.2.2.2.1
abbrev gb (g : q_G) : List Frame := g.2.2.2.2.2.2.2.1
abbrev gt (g : q_G) : Method := g.2.2.2.2.2.2.2.2.1
abbrev gc (g : q_G) : Code := g.2.2.2.2.2.2.2.2.2.1
abbrev gQ (g : q_G) : State → Prop := g.2.2.2.2.2.2.2.2.2.2.1
abbrev gn (g : q_G) : Nat := g.2.2.2.2.2.2.2.2.2.2.2.1
abbrev g0 (g : q_G) : Nat := g.2.2.2.2.2.2.2.2.2.2.2.2
/-- slots of the first n places -/
def q_sz (n : Nat) : Nat := ((q_LY.take n).map (fun x => x.2.2)).sum
theorem q_sz_mono {a b : Nat} (h : a ≤ b) : q_sz a ≤ q_sz b := by
  unfold q_sz
  obtain ⟨d, rfl⟩ := Nat.le.dest h
  rw [List.take_add, List.map_append, List.sum_append]
  exact Nat.le_add_right _ _
def q_ty (w : q_Wc) : List (ClassId × FieldType) := [(w.2.2 0, .int), (w.2.2 1, .byte), (w.2.2 2, .long), (w.2.2 3, .boolean), (w.2.2 4, .object "TaperTalk$Night"), (w.2.2 5, .object "TaperTalk$Acts"), (w.2.2 6, .array .long)]
/-- what is known of the texts that lie in the heap ahead of all -/
def q_S (w : q_Wc) (U : State) : Prop :=
  (∀ (i : Nat) (q : String × Nat × String × List Int32), q_SX[i]? = some q → vk_R q.1 q.2.1 q.2.2.1 (w.1.2 (1 + i)) U ∧ va_O "java/lang/String" (w.1.2 (1 + i)) (q_A w) U U.heap ∧ va_OF "java/lang/String" "coder" "B" (.int 0) (w.1.2 (1 + i)) (q_A w) U U.heap ∧ va_OF "java/lang/String" "value" "[B" (.ref (w.1.2 (101 + i))) (w.1.2 (1 + i)) (q_A w) U U.heap ∧ va_T .byte (w.1.2 (101 + i)) q.2.2.2.length (fun j => .int (q.2.2.2.getD j 0)) (q_A w) U U.heap) ∧
  va_Z "java/lang/String" "COMPACT_STRINGS" "Z" (.int 1) (q_A w) U U.heap ∧
  ∃ v, (v = Value.null ∨ v = Value.ref (w.1.2 0)) ∧ va_Z "jdk/internal/util/Preconditions" "SIOOBE_FORMATTER" "Ljava/util/function/BiFunction;" v (q_A w) U U.heap
/-- the words that every later state keeps -/
def q_tb : List Cond := lw_tbl.filter goodWord
theorem q_mem {x : Cond} (i : Nat) (h : lw_tbl[i]? = some x) (hg : goodWord x = true) : x ∈ q_tb := List.mem_filter.mpr ⟨List.mem_of_getElem? h, hg⟩
theorem q_tb_in {x : Cond} (h : x ∈ q_tb) : x ∈ lw_tbl := (List.mem_filter.mp h).1
def q_AOL (U : State) : Prop := (Cond.arrayOver (.array .long)).before #[] U = true
theorem q_AOL.moved {u U : State} (hvm : u.vm.Alike U.vm) (h : q_AOL u) : q_AOL U := by
  unfold q_AOL Cond.before at h ⊢
  simp only [Cond.holds, Cond.value, beq_iff_eq] at h ⊢
  cases hc : u.vm.findClass (FieldType.array FieldType.long).toString with
  | none => simp [hc] at h
  | some comp =>
    rw [hvm.findClass, hc]
    simp only [hc, Option.bind_some, Option.bind_eq_some_iff, Option.map_eq_some_iff] at h ⊢
    obtain ⟨c, hi, k, hk, hb⟩ := h
    obtain ⟨k', hk', he⟩ := hvm.2.2 _ _ hk
    refine ⟨c, ?_, k', hk', ?_⟩
    · have h2 : (u.vm.classes.findIdx? fun (x : Class) => match x.kind with | .array component _ => component == comp | _ => false) = some c := hi
      have h3 : (U.vm.classes.findIdx? fun (x : Class) => match x.kind with | .array component _ => component == comp | _ => false) = some c := by
        have e1 := va_idx_bare u.vm comp
        have e2 := va_idx_bare U.vm comp
        first | rw [hvm.bare_eq] at e2 | rw [← hvm.bare_eq] at e2
        exact e2.symm.trans (e1.trans h2)
      exact h3
    · rw [he, hvm.findClass]
      exact hb
/-- words of another kind: rows of references, constructors of nest mates -/
def q_X (U : State) : Prop := va_AO "TaperTalk$Night" U ∧ va_AO "TaperTalk$Acts" U ∧ q_AOL U ∧ va_Nw (.methodLinkNest RX11 34 yX5_init RX11) U ∧ va_Nw (.methodLinkNest RX11 41 yX0_init RX11) U ∧ va_Nw (.methodLinkNest RX6 11 yX5_init RX11) U
theorem q_X.warm {s U : State} (hW : s.WarmedH U.vm) (h : q_X s) : q_X U := ⟨h.1.moved hW.alike, h.2.1.moved hW.alike, h.2.2.1.moved hW.alike, h.2.2.2.1.warmM hW, h.2.2.2.2.1.warmM hW, h.2.2.2.2.2.warmM hW⟩
theorem q_X.same {u U : State} (hv : u.vm = U.vm) (h : q_X u) : q_X U := by
  have ha : u.vm.Alike U.vm := hv ▸ Vm.Alike.refl u.vm
  exact ⟨h.1.moved ha, h.2.1.moved ha, h.2.2.1.moved ha, h.2.2.2.1.same rfl hv, h.2.2.2.2.1.same rfl hv, h.2.2.2.2.2.same rfl hv⟩
def q_K (w : q_Wc) (U : State) : Prop := va_K w.2.1 vwCl (q_ty w) U ∧ q_S w U ∧ q_X U
theorem q_K.at {w : q_Wc} {s U : State} (h : q_K w s) (hW : s.WarmedH U.vm) (hq : ∀ a : Nat, a < s.heap.size → ¬ q_A w a → U.heap[a]? = s.heap[a]?) : q_K w U := by
  have hv := hW.alike
  refine ⟨va_K.moved hv h.1, ⟨fun i q hi => ?_, (h.2.1.2.1.kept hq).moved hv, h.2.1.2.2.imp fun _ z => ⟨z.1, (z.2.kept hq).moved hv⟩⟩, h.2.2.warm hW⟩
  obtain ⟨h1, h2, h3, h4, h5⟩ := h.2.1.1 i q hi
  exact ⟨h1.warm hW, (h2.kept hq).moved hv, (h3.kept hq).moved hv, (h4.kept hq).moved hv, (h5.kept hq).moved hv⟩
theorem q_K.calling {w : q_Wc} {U : State} {g : JFrame} {mk : MethodId} {a : Array Value} (h : q_K w U) : q_K w (U.calling g mk a) := by
  have hv : U.vm.Alike (U.calling g mk a).vm := Vm.Alike.refl U.vm
  refine ⟨va_K.moved hv h.1, ⟨fun i q hi => ?_, h.2.1.2.1.moved hv, h.2.1.2.2.imp fun _ z => ⟨z.1, z.2.moved hv⟩⟩, h.2.2.same rfl⟩
  obtain ⟨h1, h2, h3, h4, h5⟩ := h.2.1.1 i q hi
  exact ⟨vk_R.same (u := U) rfl h1, h2.moved hv, h3.moved hv, h4.moved hv, h5.moved hv⟩
/-- name, code, locals, kind of answer, frames, words of locals below -/
abbrev q_Y : Type := MethodName × ByteArray × Nat × Option FieldType × Nat × Nat
def q_rm (y : q_Y) (n n' : Nat) : Room := { frames := y.2.2.2.2.1, cells := n' - n, slots := q_sz n' - q_sz n, locals := y.2.2.2.2.2 }
def q_wy (y : q_Y) : List Cond := Cond.code y.1 y.2.1 y.2.2.1 y.2.2.2.1 :: q_tb
def q_Pc (w : q_Wc) (args : List Value) (M : q_M) : Array Value → State → Prop := va_Pc (args.map (q_tv w)) (fun U => q_K w U ∧ q_R w M U.heap ∧ U.heap.size = w.1.1 + M.1)
def q_Qc (w : q_Wc) (r : Option Value) (M' : q_M) : Array Value → State → Outcome → State → Prop := fun _ st o t => o = .returned (r.map (q_tv w)) ∧ q_R w M' t.heap ∧ va_F (q_A w) st t
/-- THE CONTRACT: from the memory M the method y answers r, and the memory is M' -/
def q_Ct (w : q_Wc) (l : Launch) (y : q_Y) (args : List Value) (M : q_M) (r : Option Value) (M' : q_M) : Prop :=
  M.1 ≤ M'.1 ∧ Met l y.1 (q_wy y) (q_rm y M.1 M'.1) (q_Pc w args M) (q_Qc w r M') (M'.1 - M.1) (q_sz M'.1 - q_sz M.1) (q_A w)
def q_lv (w : q_Wc) (lv : List (Nat × Value)) : List (Nat × Value) := lv.map (fun q => (q.1, q_tv w q.2))
/-- THE GOAL AT A POINT of a method: from every heap that holds M the machine comes to its end -/
def q_Gs (w : q_Wc) (g : q_G) (pc : Nat) (lv : List (Nat × Value)) (st : List Value) (M : q_M) : Prop :=
  ∀ (H : Heap) (locs : List Loc) (ls : Array Slot), q_R w M H → g0 g ≤ M.1 → va_S (q_A w) (gs g).heap H locs → lv_has ls (gn g) (q_lv w lv) →
    W (gp g) (gl g) (ge g) (gR g) (gs g) (gm g) (ga g) (gb g) (gt g) (gc g) H locs (M.1 - g0 g) (q_sz M.1 - q_sz (g0 g)) (gQ g) (F0 (gm g) pc ls (st.map (q_tv w)))
/-- what is known of the place: machine, code, class, words, world, size, room (n1: how many cells there may be), kind of answer -/
def q_Ok (w : q_Wc) (g : q_G) (y : q_Y) (n1 : Nat) : Prop :=
  (gp g).tables.exec = Jvm.exec ∧ (gc g).code = y.2.1 ∧ (gc g).maxLocals = gn g ∧ (gs g).vm.findClass y.1.cls = some (gm g).cls ∧ (∀ x ∈ q_tb, x.before (ga g) (gs g) = true) ∧ q_K w (gs g) ∧ (gs g).heap.size = w.1.1 + g0 g ∧
  (gR g).frames = y.2.2.2.2.1 ∧ (gR g).locals = y.2.2.2.2.2 ∧ n1 - g0 g ≤ (gR g).cells ∧ q_sz n1 - q_sz (g0 g) ≤ (gR g).slots ∧ (gt g).sig.returnType = y.2.2.2.1 ∧ (gt g).locks = false ∧ gn g = y.2.2.1 ∧ (gt g).name = y.1.name
/-- and of its end -/
def q_In (w : q_Wc) (g : q_G) (y : q_Y) (r : Option Value) (M' : q_M) : Prop :=
  q_Ok w g y M'.1 ∧ gQ g = MQ (gb g) (q_Qc w r M') (ga g) (gs g) (M'.1 - g0 g) (q_sz M'.1 - q_sz (g0 g)) (q_A w)
theorem q_lv_args (w : q_Wc) : ∀ (vs : List Value) (i : Nat), lv_args i (vs.map (q_tv w)) = q_lv w (lv_args i vs)
  | [], _ => rfl
  | v :: vs, i => by
    show (i, q_tv w v) :: lv_args (if (q_tv w v).category = 2 then i + 2 else i + 1) (vs.map (q_tv w)) = (i, q_tv w v) :: q_lv w (lv_args (if v.category = 2 then i + 2 else i + 1) vs)
    rw [q_tv_cat, q_lv_args w vs]
theorem q_sl_len (w : q_Wc) (vs : List Value) : (lg_sl (vs.map (q_tv w))).length = (lg_sl vs).length := by
  unfold lg_sl
  induction vs with
  | nil => rfl
  | cons v t ih =>
    rw [List.map_cons, List.flatMap_cons, List.flatMap_cons, List.length_append, List.length_append, ih, q_tv_cat]
    by_cases h : v.category = 2
    · rw [if_pos h, if_pos h]; rfl
    · rw [if_neg h, if_neg h]; rfl
/-- A CONTRACT OUT OF THE WALK of a body -/
theorem q_ct {w : q_Wc} {l : Launch} {y : q_Y} {args : List Value} {M M' : q_M} {r : Option Value} (hp : plainName y.1.cls = true) (hn : (lg_sl args).length ≤ y.2.2.1) (hle : M.1 ≤ M'.1)
    (h : ∀ g : q_G, g0 g = M.1 → q_In w g y r M' → q_Gs w g 0 (lv_args 0 args) [] M) : q_Ct w l y args M r M' := by
  refine ⟨hle, ?_⟩
  refine Met.ofW (cc := y.2.1) (maxL := y.2.2.1) (ret := y.2.2.2.1) (ws' := q_tb) hp rfl ?_
  intro p e s m as below meth c s₁ B hml hv
  obtain ⟨rfl, hK, hR, hsz⟩ := hv
  have hts := atoms_spec (ws := q_wy y) B.pre
  have K := h (p, l, e, (headSpec (q_wy y) (q_rm y M.1 M'.1)).room, s, m, (args.map (q_tv w)).toArray, below, meth, c, MQ below (q_Qc w r M') (args.map (q_tv w)).toArray s (M'.1 - M.1) (q_sz M'.1 - q_sz M.1) (q_A w), y.2.2.1, M.1) rfl
    ⟨⟨B.exec, B.bytes, hml, findClass_of_methodNamed B.named, fun x hx => hts x (List.mem_cons_of_mem _ hx), hK, hsz, rfl, rfl, Nat.le_refl _, Nat.le_refl _, B.returns, B.notSynchronized, rfl, (name_of_methodNamed B.named B.method).1⟩, rfl⟩
  have hl := lv_entry (args.map (q_tv w)) (n := y.2.2.1) (by rw [q_sl_len]; exact hn)
  rw [q_lv_args] at hl
  rw [lg_entry_eq]
  have K2 := K s.heap [] _ hR (Nat.le_refl _) va_S.rf hl
  have e1 : M.1 - M.1 = 0 := Nat.sub_self _
  have e2 : q_sz M.1 - q_sz M.1 = 0 := Nat.sub_self _
  simp only [g0, e1, e2] at K2
  exact K2
/-- the heap's size, where the walk stands -/
theorem q_size {w : q_Wc} {g : q_G} {y : q_Y} {n1 : Nat} (K : q_Ok w g y n1) {M : q_M} {H : Heap} {locs : List Loc} (hR : q_R w M H) (h0 : g0 g ≤ M.1) (hS : va_S (q_A w) (gs g).heap H locs) {T : State} (hT : T.heap = H) (X : Stand (gp g) (gl g) (ge g) (gR g) (gs g) (gm g) (ga g) (gb g) (gt g) (gc g) T locs (M.1 - g0 g) (q_sz M.1 - q_sz (g0 g))) : H.size = w.1.1 + M.1 := by
  have h1 := X.heapSize
  rw [hT, K.2.2.2.2.2.2.1] at h1
  have h2 : w.1.1 + M.1 ≤ H.size := by
    by_cases hz : M.1 = g0 g
    · have h3 := hS.1
      rw [K.2.2.2.2.2.2.1] at h3
      omega
    · have hl := (hR.2 (M.1 - 1) _ (q_ws_get (by omega))).lt
      have hl : q_al w (M.1 - 1) < H.size := hl
      rw [q_al_lo (by have := hR.1; omega)] at hl
      omega
  omega
theorem q_ok_hA {w : q_Wc} {g : q_G} {y : q_Y} {n1 : Nat} (K : q_Ok w g y n1) : ∀ q, (gs g).heap.size ≤ q → q_A w q := fun q h => by
  rw [K.2.2.2.2.2.2.1] at h
  show w.1.1 ≤ q
  omega
