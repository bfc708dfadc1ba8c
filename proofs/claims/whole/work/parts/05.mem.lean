/-! THE MEMORY AS PURE DATA. A state of all cells is (how many there are, ints by place and slot, longs, references). -/
def up2 {α : Type} (f : Nat → Nat → α) (p k : Nat) (x : α) : Nat → Nat → α := fun a b => if a = p ∧ b = k then x else f a b
theorem up2_s {α : Type} (f : Nat → Nat → α) (p k : Nat) (x : α) : up2 f p k x p k = x := by simp [up2]
theorem up2_p {α : Type} {f : Nat → Nat → α} {p k a b : Nat} {x : α} (h : a ≠ p) : up2 f p k x a b = f a b := by simp [up2, h]
theorem up2_k {α : Type} {f : Nat → Nat → α} {p k a b : Nat} {x : α} (h : b ≠ k) : up2 f p k x a b = f a b := by simp [up2, h]
/-- one row is another one -/
def upr {α : Type} (f : Nat → Nat → α) (p : Nat) (r : Nat → α) : Nat → Nat → α := fun a b => if a = p then r b else f a b
abbrev q_M : Type := Nat × (Nat → Nat → Int32) × (Nat → Nat → Int64) × (Nat → Nat → Option Nat)
abbrev q_Wc : Type := (Nat × (Nat → Nat)) × va_G × (Nat → ClassId)
def q_al (w : q_Wc) (p : Nat) : Nat := if p < 10000 then w.1.1 + p else w.1.2 (p - 10000)
def q_tv (w : q_Wc) : Value → Value
  | .ref p => .ref (q_al w p)
  | v => v
def q_A (w : q_Wc) : Nat → Prop := fun q => w.1.1 ≤ q
def q_fv (w : q_Wc) (M : q_M) (p k : Nat) : Nat → Value
  | 0 => .int (M.2.1 p k)
  | 1 => .long (M.2.2.1 p k)
  | _ => va_rf ((M.2.2.2 p k).map (q_al w))
def q_fs (w : q_Wc) (M : q_M) (p ci : Nat) : List Value := (q_FK.getD ci []).mapIdx (fun k t => q_fv w M p k t)
def q_ar (w : q_Wc) (M : q_M) (p t : Nat) : (Nat → Int32) ⊕ (Nat → Int64) ⊕ (Nat → UInt32) ⊕ (Nat → UInt64) ⊕ (Nat → Option Nat) :=
  if t = 2 then .inr (.inl (M.2.2.1 p)) else if t < 4 then .inl (M.2.1 p) else .inr (.inr (.inr (.inr (fun i => (M.2.2.2 p i).map (q_al w)))))
def q_ce (w : q_Wc) (M : q_M) (p : Nat) : va_E := match q_LY.getD p (2, 0, 0) with
  | (0, ci, _) => .inr (ci, q_fs w M p ci)
  | (1, t, n) => .inl (w.2.2 t, n, q_ar w M p t)
  | _ => .inr (0, [])
def q_ws (w : q_Wc) (M : q_M) : va_W := (List.range M.1).map (fun p => (q_al w p, q_ce w M p))
def q_R (w : q_Wc) (M : q_M) (H : Heap) : Prop := M.1 ≤ 10000 ∧ va_P w.2.1 vwCl (q_ws w M) H
theorem q_al_lo {w : q_Wc} {p : Nat} (h : p < 10000) : q_al w p = w.1.1 + p := if_pos h
theorem q_ws_get {w : q_Wc} {M : q_M} {p : Nat} (h : p < M.1) : (q_ws w M)[p]? = some (q_al w p, q_ce w M p) := by
  unfold q_ws
  rw [List.getElem?_map, List.getElem?_range h]
  rfl
theorem q_ws_some {w : q_Wc} {M : q_M} {p : Nat} {q : Nat × va_E} (h : (q_ws w M)[p]? = some q) : p < M.1 ∧ q = (q_al w p, q_ce w M p) := by
  by_cases hp : p < M.1
  · rw [q_ws_get hp] at h
    exact ⟨hp, (Option.some.inj h).symm⟩
  · exfalso
    unfold q_ws at h
    rw [List.getElem?_map, List.getElem?_eq_none (by rw [List.length_range]; omega)] at h
    cases h
theorem q_ws_D {w : q_Wc} {M : q_M} (h : M.1 ≤ 10000) : va_D (q_A w) (q_ws w M) := by
  refine ⟨fun i j x y hx hy e => ?_, fun k x hx => ?_⟩
  · obtain ⟨h1, rfl⟩ := q_ws_some hx
    obtain ⟨h2, rfl⟩ := q_ws_some hy
    have e : q_al w i = q_al w j := e
    rw [q_al_lo (by omega), q_al_lo (by omega)] at e
    omega
  · obtain ⟨h1, rfl⟩ := q_ws_some hx
    show w.1.1 ≤ q_al w k
    rw [q_al_lo (by omega)]
    omega
/-- two memories that have the same cells but for one place -/
theorem q_ws_set {w : q_Wc} {M M' : q_M} {p : Nat} {e : va_E} (hn : M'.1 = M.1) (he : q_ce w M' p = e) (ho : ∀ a, a ≠ p → q_ce w M' a = q_ce w M a) : (q_ws w M).set p (q_al w p, e) = q_ws w M' := by
  apply List.ext_getElem?
  intro a
  rw [List.getElem?_set]
  by_cases hp : p = a
  · subst hp
    rw [if_pos rfl]
    by_cases hl : p < M.1
    · rw [if_pos (by unfold q_ws; rw [List.length_map, List.length_range]; exact hl), q_ws_get (by rw [hn]; exact hl), he]
    · rw [if_neg (by unfold q_ws; rw [List.length_map, List.length_range]; exact hl)]
      unfold q_ws
      rw [List.getElem?_map, List.getElem?_eq_none (by rw [List.length_range, hn]; omega)]
      rfl
  · rw [if_neg hp]
    by_cases hl : a < M.1
    · rw [q_ws_get hl, q_ws_get (by rw [hn]; exact hl), ho a (Ne.symm hp)]
    · unfold q_ws
      rw [List.getElem?_map, List.getElem?_map, List.getElem?_eq_none (by rw [List.length_range]; omega), List.getElem?_eq_none (by rw [List.length_range, hn]; omega)]
      rfl
/-- the ints, the longs, the references anew -/
def q_I (M : q_M) (f : Nat → Nat → Int32) : q_M := (M.1, f, M.2.2.1, M.2.2.2)
def q_L (M : q_M) (f : Nat → Nat → Int64) : q_M := (M.1, M.2.1, f, M.2.2.2)
def q_O (M : q_M) (f : Nat → Nat → Option Nat) : q_M := (M.1, M.2.1, M.2.2.1, f)
theorem q_fs_get {w : q_Wc} {M : q_M} {p ci k t : Nat} (h : (q_FK.getD ci [])[k]? = some t) : (q_fs w M p ci)[k]? = some (q_fv w M p k t) := by
  unfold q_fs
  rw [List.getElem?_mapIdx, h]
  rfl
theorem q_fs_len {w : q_Wc} {M : q_M} {p ci : Nat} : (q_fs w M p ci).length = (q_FK.getD ci []).length := by
  unfold q_fs
  rw [List.length_mapIdx]
/-- one field's value, all others as they were -/
theorem q_fs_set {w : q_Wc} {M M' : q_M} {p ci k t : Nat} {v : Value} (h : (q_FK.getD ci [])[k]? = some t) (hv : q_fv w M' p k t = v) (ho : ∀ j u, j ≠ k → (q_FK.getD ci [])[j]? = some u → q_fv w M' p j u = q_fv w M p j u) : (q_fs w M p ci).set k v = q_fs w M' p ci := by
  apply List.ext_getElem?
  intro j
  rw [List.getElem?_set]
  by_cases hj : k = j
  · subst hj
    have hl : k < (q_FK.getD ci []).length := (List.getElem?_eq_some_iff.mp h).1
    rw [if_pos rfl, if_pos (by rw [q_fs_len]; exact hl), q_fs_get h, hv]
  · rw [if_neg hj]
    cases hu : (q_FK.getD ci [])[j]? with
    | some u => rw [q_fs_get hu, q_fs_get hu, ho j u (Ne.symm hj) hu]
    | none =>
      unfold q_fs
      rw [List.getElem?_mapIdx, List.getElem?_mapIdx, hu]
      rfl
theorem q_ce_ob {w : q_Wc} {M : q_M} {p ci n : Nat} (h : q_LY.getD p (2, 0, 0) = (0, ci, n)) : q_ce w M p = .inr (ci, q_fs w M p ci) := by
  unfold q_ce
  rw [h]
  rfl
theorem q_ce_ar {w : q_Wc} {M : q_M} {p t n : Nat} (h : q_LY.getD p (2, 0, 0) = (1, t, n)) : q_ce w M p = .inl (w.2.2 t, n, q_ar w M p t) := by
  unfold q_ce
  rw [h]
  rfl
/-- cells that read the same rows are the same -/
theorem q_ce_eq {w : q_Wc} {M M' : q_M} {p : Nat} (h1 : M'.2.1 p = M.2.1 p) (h2 : M'.2.2.1 p = M.2.2.1 p) (h3 : M'.2.2.2 p = M.2.2.2 p) : q_ce w M' p = q_ce w M p := by
  unfold q_ce q_fs q_ar
  have e : ∀ k t, q_fv w M' p k t = q_fv w M p k t := by
    intro k t
    unfold q_fv
    rw [h1, h2, h3]
  simp only [e, h1, h2, h3]
theorem q_setI {w : q_Wc} {M : q_M} {p ci n k : Nat} (x : Int32) (h : q_LY.getD p (2, 0, 0) = (0, ci, n)) (hk : (q_FK.getD ci [])[k]? = some 0) : (q_ws w M).set p (q_al w p, .inr (ci, (q_fs w M p ci).set k (.int x))) = q_ws w (q_I M (up2 M.2.1 p k x)) := by
  refine q_ws_set rfl ?_ (fun a ha => q_ce_eq (funext fun b => up2_p ha) rfl rfl)
  rw [q_ce_ob h, q_fs_set (M' := q_I M (up2 M.2.1 p k x)) hk (by show Value.int (up2 M.2.1 p k x p k) = _; rw [up2_s])]
  intro j u hj _
  unfold q_fv q_I
  simp only [up2_k hj]
theorem q_setL {w : q_Wc} {M : q_M} {p ci n k : Nat} (x : Int64) (h : q_LY.getD p (2, 0, 0) = (0, ci, n)) (hk : (q_FK.getD ci [])[k]? = some 1) : (q_ws w M).set p (q_al w p, .inr (ci, (q_fs w M p ci).set k (.long x))) = q_ws w (q_L M (up2 M.2.2.1 p k x)) := by
  refine q_ws_set rfl ?_ (fun a ha => q_ce_eq rfl (funext fun b => up2_p ha) rfl)
  rw [q_ce_ob h, q_fs_set (M' := q_L M (up2 M.2.2.1 p k x)) hk (by show Value.long (up2 M.2.2.1 p k x p k) = _; rw [up2_s])]
  intro j u hj _
  unfold q_fv q_L
  simp only [up2_k hj]
theorem q_setO {w : q_Wc} {M : q_M} {p ci n k : Nat} (x : Nat) (h : q_LY.getD p (2, 0, 0) = (0, ci, n)) (hk : (q_FK.getD ci [])[k]? = some 2) : (q_ws w M).set p (q_al w p, .inr (ci, (q_fs w M p ci).set k (.ref (q_al w x)))) = q_ws w (q_O M (up2 M.2.2.2 p k (some x))) := by
  refine q_ws_set rfl ?_ (fun a ha => q_ce_eq rfl rfl (funext fun b => up2_p ha))
  rw [q_ce_ob h, q_fs_set (M' := q_O M (up2 M.2.2.2 p k (some x))) hk (by show va_rf ((up2 M.2.2.2 p k (some x) p k).map (q_al w)) = _; rw [up2_s]; rfl)]
  intro j u hj _
  unfold q_fv q_O
  simp only [up2_k hj]
theorem q_astI {w : q_Wc} {M : q_M} {p t n : Nat} (f : Nat → Int32) (h : q_LY.getD p (2, 0, 0) = (1, t, n)) (ht : t < 4) (ht2 : t ≠ 2) : (q_ws w M).set p (q_al w p, .inl (w.2.2 t, n, .inl f)) = q_ws w (q_I M (upr M.2.1 p f)) := by
  refine q_ws_set rfl ?_ (fun a ha => q_ce_eq (funext fun b => if_neg ha) rfl rfl)
  rw [q_ce_ar h]
  unfold q_ar
  rw [if_neg ht2, if_pos ht]
  congr 3
  congr 1
  funext b
  exact (if_pos rfl)
theorem q_astL {w : q_Wc} {M : q_M} {p n : Nat} (f : Nat → Int64) (h : q_LY.getD p (2, 0, 0) = (1, 2, n)) : (q_ws w M).set p (q_al w p, .inl (w.2.2 2, n, .inr (.inl f))) = q_ws w (q_L M (upr M.2.2.1 p f)) := by
  refine q_ws_set rfl ?_ (fun a ha => q_ce_eq rfl (funext fun b => if_neg ha) rfl)
  rw [q_ce_ar h]
  unfold q_ar
  rw [if_pos rfl]
  congr 4
  congr 1
  funext b
  exact (if_pos rfl)
theorem upr_upd {f : Nat → Nat → Int32} {p k : Nat} {x : Int32} : upr f p (upd (f p) k x) = up2 f p k x := by
  funext a b
  unfold upr up2 upd
  by_cases ha : a = p
  · subst ha
    simp
  · simp [ha]
theorem upr_updL {f : Nat → Nat → Int64} {p k : Nat} {x : Int64} : upr f p (vp_updL (f p) k x) = up2 f p k x := by
  funext a b
  unfold upr up2 vp_updL
  by_cases ha : a = p
  · subst ha
    simp
  · simp [ha]
theorem q_tv_cat (w : q_Wc) (v : Value) : (q_tv w v).category = v.category := by
  cases v <;> rfl
