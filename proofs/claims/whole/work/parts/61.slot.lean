/-! WRITE, PASTE. -/
theorem ls_sum (a b : Int32) : (a.toInt64 + b.toInt64).toInt = a.toInt + b.toInt := by
  have h1 := t_rng a
  have h2 := t_rng b
  rw [Int64.toInt_add, Int32.toInt_toInt64, Int32.toInt_toInt64, Int.bmod_eq_of_le (by omega) (by omega)]
abbrev byd (n : Nat) (i m : Int32) : Prop := i < 0 ∨ m < 0 ∨ (n : Int) < i.toInt + m.toInt
theorem l_sumle {n : Nat} (hn : n < 2147483648) (i m : Int32) : i.toInt64 + m.toInt64 ≤ (nI n).toInt64 ↔ i.toInt + m.toInt ≤ (n : Int) := by
  rw [Int64.le_iff_toInt_le, ls_sum, Int32.toInt_toInt64, t_n hn]
section SL
variable {Z : St} {I : Nat → Nat → Int32} {L : Nat → Nat → Int64}
theorem ct_beyond (hr : Bc Z I L) {s w n : Nat} {f : Nat → Int64} (hs : s < 4) (hz : Z.2.2.2.2 s = some (w, n, f)) (i m : Int32) : q_C kX9_areBeyond [.ref 25, .int (nI s), .int i, .int m] I L (some (.int (if byd n i m then 1 else 0))) I L := by
  obtain ⟨h1, h2, h3, h4, h5⟩ := (hr.2.2.2.2 s hs).2 w n f hz
  refine c0_X9_areBeyond (vc_X9_areBeyond_0 ⟨fun q => ?_, fun q => ⟨fun q2 => ?_, fun q2 => ⟨u_in hs (by decide), ?_⟩⟩⟩)
  · rw [if_pos (Or.inl q : byd n i m)]; exact ⟨rfl, rfl, rfl⟩
  · rw [if_pos (Or.inr (Or.inl q2) : byd n i m)]; exact ⟨rfl, rfl, rfl⟩
  · rw [u_cl (by omega), h4, lg_cmp_le, l_sumle (by omega)]
    refine ⟨fun q3 => ?_, fun q3 => ?_⟩
    · rw [if_neg (fun c : byd n i m => c.elim q (fun c => c.elim q2 (fun c => by omega)))]; exact ⟨rfl, rfl, rfl⟩
    · rw [if_pos (Or.inr (Or.inr (by omega)) : byd n i m)]; exact ⟨rfl, rfl, rfl⟩
end SL
def clp (v : Int64) (w : Nat) : Int64 := (v <<< (((64 - ((8 : Int32) <<< (nI w &&& 31))) : Int32).toInt64 &&& 63)) >>> (((64 - ((8 : Int32) <<< (nI w &&& 31))) : Int32).toInt64 &&& 63)
theorem q_write (Z : St) (x y : Int32) (v : Int64) : ∃ Z' a, Q2 Z Z' kX11_write kX12_write [.int x, .int y, .long v] (.int a) := by
  by_cases hx : ib 0 3 x
  · exact ⟨Z, -2, QC_q fun I L hr => ⟨I, c0_X11_write (vc_X11_write_0 ⟨_, ct_noSlot x, g1p hx ⟨rfl, rfl, rfl⟩⟩), Fq.rf, hr.2.1, hr.2.2⟩, QM_q fun I L hr => ⟨I, c0_X12_write (vc_X12_write_0 ⟨_, ct_isSlot x, g0p hx ⟨rfl, rfl, rfl⟩⟩), Mq.rf⟩⟩
  obtain ⟨s, -, hs, ex⟩ := xIn (a := 0) (b := 3) (by decide) (by decide) hx
  subst ex
  have hins : vp_in (nI s) 4 := u_in (by omega) (by decide)
  cases hz : Z.2.2.2.2 s with
  | none =>
    refine ⟨Z, -6, QC_q fun I L hr => ⟨I, c0_X11_write (vc_X11_write_0 ⟨_, ct_noSlot _, g1n hx ⟨_, ct_hasRow hr.1 (by omega), g0p hz ⟨rfl, rfl, rfl⟩⟩⟩), Fq.rf, hr.2.1, hr.2.2⟩, QM_q fun I L hr => ⟨I, c0_X12_write (vc_X12_write_0 ⟨_, ct_isSlot _, g0n hx ⟨hins, fun _ => ⟨rfl, rfl, rfl⟩, fun q => absurd ?_ q⟩⟩), Mq.rf⟩⟩
    rw [u_cl (by omega)]; exact (md_none hr (by omega)).mpr hz
  | some t =>
    obtain ⟨w, n, f⟩ := t
    have hne : ¬ Z.2.2.2.2 s = none := by rw [hz]; exact fun c => by cases c
    have eqv : n ≤ 60 → (ib 0 (nI n - 1) y ↔ byd n y 1) := fun hn => by
      unfold ib byd
      rw [t_lt, t_lt, t_lt, t_n1 (by omega), show (0 : Int32).toInt = 0 from rfl, show (1 : Int32).toInt = 1 from rfl]
      omega
    by_cases hb : byd n y 1
    · refine ⟨Z, -7, QC_q fun I L hr => ⟨I, c0_X11_write (vc_X11_write_0 ⟨_, ct_noSlot _, g1n hx ⟨_, ct_hasRow hr.1 (by omega), g0n hne ⟨_, ct_beyond hr.1 (by omega) hz y 1, g1p hb ⟨rfl, rfl, rfl⟩⟩⟩⟩), Fq.rf, hr.2.1, hr.2.2⟩, QM_q fun I L hr => ?_⟩
      obtain ⟨k1, k2, k3, k4, k5⟩ := (hr.2.2.2.2 s (by omega)).2 w n f hz
      refine ⟨I, c0_X12_write (vc_X12_write_0 ⟨_, ct_isSlot _, g0n hx ⟨hins, ?_⟩⟩), Mq.rf⟩
      rw [u_cl (by omega)]
      refine ⟨fun q => absurd ((md_none hr (by omega)).mp q) hne, fun _ => ⟨hins, _, by rw [k3]; exact ct_inI y 0 _, g0p ((eqv k2).mpr hb) ⟨rfl, rfl, rfl⟩⟩⟩
    · refine ⟨slU Z s (w, n, fun j => if j = y.toNatClampNeg then clp v w else f j), 0, fun I L hr => ?_, fun I L hr => ?_⟩
      · obtain ⟨k1, k2, k3, k4, k5⟩ := (hr.1.2.2.2.2 s (by omega)).2 w n f hz
        obtain ⟨i, hi, ey⟩ : ∃ i, i < n ∧ y = nI i := by
          have hb2 : ¬ ib 0 (nI n - 1) y := fun q => hb ((eqv k2).mp q)
          unfold ib at hb2
          rw [t_lt, t_lt, t_n1 (by omega), show (0 : Int32).toInt = 0 from rfl] at hb2
          refine ⟨y.toInt.toNat, by omega, ?_⟩
          have := t_rng y
          rw [t_eq, t_n (by omega)]; omega
        subst ey
        rw [u_cl (by omega)]
        refine ⟨I, up2 L (29 + s) i (clp v w), c0_X11_write (vc_X11_write_0 ⟨_, ct_noSlot _, g1n hx ⟨_, ct_hasRow hr.1 (by omega), g0n hne ⟨_, ct_beyond hr.1 (by omega) hz _ 1, g1n hb ⟨up2 L (29 + s) i (clp v w), c0_X9_put (vc_X9_put_0 ?_), rfl, rfl, rfl⟩⟩⟩⟩), RelC_sl hr (fun a k q => rfl) (fun j i2 hj e => up2_p (by omega)) k1 k2 k3 k4 (fun j hj => ?_), fun a k q => ⟨rfl, up2_p (by omega)⟩⟩
        · rw [u_cl (n := s) (by omega), u_cl (n := i) (by omega), k3]
          refine ⟨hins, fun z1 e1 => ⟨hins, ⟨by omega, by omega⟩, u_in (by omega) (by decide), fun L2 e2 => ⟨rfl, rfl, ?_⟩⟩⟩
          rw [e2, e1]
          rfl
        · by_cases e : j = i
          · subst e; rw [up2_s, if_pos rfl]
          · rw [up2_k e, if_neg e]; exact k5 j hj
      · obtain ⟨k1, k2, k3, k4, k5⟩ := (hr.2.2.2.2 s (by omega)).2 w n f hz
        have hb2 : ¬ ib 0 (nI n - 1) y := fun q => hb ((eqv k2).mp q)
        obtain ⟨i, hi, ey⟩ : ∃ i, i < n ∧ y = nI i := by
          have hb2 := hb2
          unfold ib at hb2
          rw [t_lt, t_lt, t_n1 (by omega), show (0 : Int32).toInt = 0 from rfl] at hb2
          refine ⟨y.toInt.toNat, by omega, ?_⟩
          have := t_rng y
          rw [t_eq, t_n (by omega)]; omega
        subst ey
        rw [u_cl (by omega)]
        refine ⟨I, up2 L 111 (60 * s + i) (clp v w), c0_X12_write (vc_X12_write_0 ⟨_, ct_isSlot _, g0n hx ⟨hins, ?_⟩⟩), RelM_sl hr (fun a k q => rfl) (fun j q => up2_k (by omega)) k1 k2 k3 k4 (fun j hj => ?_), fun a k q => ⟨rfl, up2_p (by omega)⟩⟩
        · rw [u_cl (n := s) (by omega)]
          refine ⟨fun q => absurd ((md_none hr (by omega)).mp q) hne, fun _ => ⟨hins, _, by rw [k3]; exact ct_inI _ 0 _, g0n hb2 ⟨hins, clp v w, ?_, ?_, ?_⟩⟩⟩
          · rw [k4]; exact c0_X12_clipped (vc_X12_clipped_0 ⟨rfl, rfl, rfl⟩)
          · rw [show (60 : Int32) * nI s + nI i = nI (60 * s + i) by rw [show (60 : Int32) = nI 60 from rfl, u_mul, u_add]]
            exact u_in (by omega) (by decide)
          · rw [show (60 : Int32) * nI s + nI i = nI (60 * s + i) by rw [show (60 : Int32) = nI 60 from rfl, u_mul, u_add], u_cl (by omega)]
            exact ⟨rfl, rfl, rfl⟩
        · by_cases e : j = i
          · subst e; rw [up2_s, if_pos rfl]
          · rw [up2_k (by omega), if_neg e]; exact k5 j hj
theorem q_paste (Z : St) (x y z u m : Int32) : ∃ Z' a, Q2 Z Z' kX11_paste kX12_paste [.int x, .int y, .int z, .int u, .int m] (.int a) := by
  by_cases hx : ib 0 3 x
  · exact ⟨Z, -2, QC_q fun I L hr => ⟨I, c0_X11_paste (vc_X11_paste_0 ⟨_, ct_noSlot x, g1p hx ⟨rfl, rfl, rfl⟩⟩), Fq.rf, hr.2.1, hr.2.2⟩, QM_q fun I L hr => ⟨I, c0_X12_paste (vc_X12_paste_0 ⟨_, ct_isSlot x, g0p hx ⟨rfl, rfl, rfl⟩⟩), Mq.rf⟩⟩
  by_cases hz : ib 0 3 z
  · exact ⟨Z, -2, QC_q fun I L hr => ⟨I, c0_X11_paste (vc_X11_paste_0 ⟨_, ct_noSlot x, g1n hx ⟨_, ct_noSlot z, g1p hz ⟨rfl, rfl, rfl⟩⟩⟩), Fq.rf, hr.2.1, hr.2.2⟩, QM_q fun I L hr => ⟨I, c0_X12_paste (vc_X12_paste_0 ⟨_, ct_isSlot x, g0n hx ⟨_, ct_isSlot z, g0p hz ⟨rfl, rfl, rfl⟩⟩⟩), Mq.rf⟩⟩
  obtain ⟨s, -, hs, ex⟩ := xIn (a := 0) (b := 3) (by decide) (by decide) hx
  obtain ⟨t, -, ht, ez⟩ := xIn (a := 0) (b := 3) (by decide) (by decide) hz
  subst ex; subst ez
  have hins : vp_in (nI s) 4 := u_in (by omega) (by decide)
  have hint : vp_in (nI t) 4 := u_in (by omega) (by decide)
  cases hzs : Z.2.2.2.2 s with
  | none =>
    refine ⟨Z, -6, QC_q fun I L hr => ⟨I, c0_X11_paste (vc_X11_paste_0 ⟨_, ct_noSlot _, g1n hx ⟨_, ct_noSlot _, g1n hz ⟨_, ct_hasRow hr.1 (by omega), g0p hzs ⟨rfl, rfl, rfl⟩⟩⟩⟩), Fq.rf, hr.2.1, hr.2.2⟩, QM_q fun I L hr => ⟨I, c0_X12_paste (vc_X12_paste_0 ⟨_, ct_isSlot _, g0n hx ⟨_, ct_isSlot _, g0n hz ⟨hins, fun _ => ⟨rfl, rfl, rfl⟩, fun q => absurd ?_ q⟩⟩⟩), Mq.rf⟩⟩
    rw [u_cl (by omega)]; exact (md_none hr (by omega)).mpr hzs
  | some ts =>
  have hnes : ¬ Z.2.2.2.2 s = none := by rw [hzs]; exact fun c => by cases c
  cases hzt : Z.2.2.2.2 t with
  | none =>
    refine ⟨Z, -6, QC_q fun I L hr => ⟨I, c0_X11_paste (vc_X11_paste_0 ⟨_, ct_noSlot _, g1n hx ⟨_, ct_noSlot _, g1n hz ⟨_, ct_hasRow hr.1 (by omega), g0n hnes ⟨_, ct_hasRow hr.1 (by omega), g0p hzt ⟨rfl, rfl, rfl⟩⟩⟩⟩⟩), Fq.rf, hr.2.1, hr.2.2⟩, QM_q fun I L hr => ⟨I, c0_X12_paste (vc_X12_paste_0 ⟨_, ct_isSlot _, g0n hx ⟨_, ct_isSlot _, g0n hz ⟨hins, fun q => absurd ?_ hnes, fun _ => ⟨hint, fun _ => ⟨rfl, rfl, rfl⟩, fun q => absurd ?_ q⟩⟩⟩⟩), Mq.rf⟩⟩
    · rw [u_cl (by omega)] at q; exact (md_none hr (by omega)).mp q
    · rw [u_cl (by omega)]; exact (md_none hr (by omega)).mpr hzt
  | some tt =>
  have hnet : ¬ Z.2.2.2.2 t = none := by rw [hzt]; exact fun c => by cases c
  obtain ⟨w, n, f⟩ := ts
  obtain ⟨w', n', f'⟩ := tt
  have preC : ∀ I I' L L' a, RelC Z I L → ((w = w' → (∃ r5, q_C kX9_areBeyond [.ref 25, .int (nI s), .int y, .int m] I L (some (.int r5)) I L ∧ ((r5 = 0 → (∃ r6, q_C kX9_areBeyond [.ref 25, .int (nI t), .int u, .int m] I L (some (.int r6)) I L ∧ ((r6 = 0 → (vp_in (nI s) 4 ∧ (vp_in (nI t) 4 ∧ ((29 ≤ (29 + s) ∧ (29 + s) < 33) ∧ (29 ≤ (29 + t) ∧ (29 + t) < 33) ∧ (¬ y < 0 ∧ ¬ u < 0 ∧ ¬ m < 0 ∧ y.toNatClampNeg + m.toNatClampNeg ≤ 60 ∧ u.toNatClampNeg + m.toNatClampNeg ≤ 60) ∧ ∀ L7, L7 = (upr L (29 + t) (va_cpy (L (29 + s)) (L (29 + t)) y.toNatClampNeg u.toNatClampNeg m.toNatClampNeg)) → (some (Value.int a) = some (.int 0) ∧ I' = I ∧ L' = L7))))) ∧ (¬ r6 = 0 → (some (Value.int a) = some (.int (-7)) ∧ I' = I ∧ L' = L))))) ∧ (¬ r5 = 0 → (some (Value.int a) = some (.int (-7)) ∧ I' = I ∧ L' = L))))) ∧ (¬ w = w' → (some (Value.int a) = some (.int (-8)) ∧ I' = I ∧ L' = L))) → q_C kX11_paste [.ref 0, .int (nI s), .int y, .int (nI t), .int u, .int m] I L (some (.int a)) I' L' := by
    intro I I' L L' a hr hw
    obtain ⟨k1, k2, k3, k4, k5⟩ := (hr.1.2.2.2.2 s (by omega)).2 w n f hzs
    obtain ⟨j1, j2, j3, j4, j5⟩ := (hr.1.2.2.2.2 t (by omega)).2 w' n' f' hzt
    refine c0_X11_paste (vc_X11_paste_0 ⟨_, ct_noSlot _, g1n hx ⟨_, ct_noSlot _, g1n hz ⟨_, ct_hasRow hr.1 (by omega), g0n hnes ⟨_, ct_hasRow hr.1 (by omega), g0n hnet ⟨hins, hint, ?_⟩⟩⟩⟩⟩)
    rw [u_cl (n := s) (by omega), u_cl (n := t) (by omega), k3, j3, u_eq (by omega) (by omega)]
    exact hw
  have preM : ∀ I I' L L' a, RelM Z I L → ((w = w' → ((y < 0 → (some (Value.int a) = some (.int (-7)) ∧ I' = I ∧ L' = L)) ∧ (¬ y < 0 → ((u < 0 → (some (Value.int a) = some (.int (-7)) ∧ I' = I ∧ L' = L)) ∧ (¬ u < 0 → ((m < 0 → (some (Value.int a) = some (.int (-7)) ∧ I' = I ∧ L' = L)) ∧ (¬ m < 0 → (((n : Int) < y.toInt + m.toInt → (some (Value.int a) = some (.int (-7)) ∧ I' = I ∧ L' = L)) ∧ (¬ (n : Int) < y.toInt + m.toInt → ((u.toInt + m.toInt ≤ (n' : Int) → (v_X12_paste_113 (some (.int a)) I' L' I L (nI s) y (nI t) u m 0)) ∧ (¬ u.toInt + m.toInt ≤ (n' : Int) → (some (Value.int a) = some (.int (-7)) ∧ I' = I ∧ L' = L)))))))))))) ∧ (¬ w = w' → (some (Value.int a) = some (.int (-8)) ∧ I' = I ∧ L' = L))) → q_C kX12_paste [.ref 96, .int (nI s), .int y, .int (nI t), .int u, .int m] I L (some (.int a)) I' L' := by
    intro I I' L L' a hr hw
    obtain ⟨k1, k2, k3, k4, k5⟩ := (hr.2.2.2.2 s (by omega)).2 w n f hzs
    obtain ⟨j1, j2, j3, j4, j5⟩ := (hr.2.2.2.2 t (by omega)).2 w' n' f' hzt
    refine c0_X12_paste (vc_X12_paste_0 ⟨_, ct_isSlot _, g0n hx ⟨_, ct_isSlot _, g0n hz ?_⟩⟩)
    rw [u_cl (n := s) (by omega), u_cl (n := t) (by omega), md_none hr (by omega), md_none hr (by omega), k3, k4, j3, j4, u_eq (by omega) (by omega), lg_cmp_gt, lg_cmp_le, l_sumle (by omega), ← Int64.not_le, l_sumle (by omega), Int.not_le]
    exact ⟨hins, fun q => absurd q hnes, fun _ => ⟨hint, fun q => absurd q hnet, fun _ => ⟨hins, hint, fun e => ⟨(hw.1 e).1, fun q1 => ⟨((hw.1 e).2 q1).1, fun q2 => ⟨(((hw.1 e).2 q1).2 q2).1, fun q3 => ⟨hins, ((((hw.1 e).2 q1).2 q2).2 q3).1, fun q4 => ⟨hint, ((((hw.1 e).2 q1).2 q2).2 q3).2 q4⟩⟩⟩⟩⟩, hw.2⟩⟩⟩
  by_cases hw : w = w'
  · by_cases hb1 : byd n y m
    · refine ⟨Z, -7, QC_q fun I L hr => ⟨I, preC I I L L _ hr ⟨fun _ => ⟨_, ct_beyond hr.1 (by omega) hzs y m, g1p hb1 ⟨rfl, rfl, rfl⟩⟩, fun q => absurd hw q⟩, Fq.rf, hr.2.1, hr.2.2⟩, QM_q fun I L hr => ⟨I, preM I I L L _ hr ⟨fun _ => ⟨fun _ => ⟨rfl, rfl, rfl⟩, fun q1 => ⟨fun _ => ⟨rfl, rfl, rfl⟩, fun q2 => ⟨fun _ => ⟨rfl, rfl, rfl⟩, fun q3 => ⟨fun _ => ⟨rfl, rfl, rfl⟩, fun q4 => absurd hb1 (fun c => c.elim q1 (fun c => c.elim q3 q4))⟩⟩⟩⟩, fun q => absurd hw q⟩, Mq.rf⟩⟩
    · by_cases hb2 : byd n' u m
      · refine ⟨Z, -7, QC_q fun I L hr => ⟨I, preC I I L L _ hr ⟨fun _ => ⟨_, ct_beyond hr.1 (by omega) hzs y m, g1n hb1 ⟨_, ct_beyond hr.1 (by omega) hzt u m, g1p hb2 ⟨rfl, rfl, rfl⟩⟩⟩, fun q => absurd hw q⟩, Fq.rf, hr.2.1, hr.2.2⟩, QM_q fun I L hr => ⟨I, preM I I L L _ hr ⟨fun _ => ⟨fun _ => ⟨rfl, rfl, rfl⟩, fun q1 => ⟨fun _ => ⟨rfl, rfl, rfl⟩, fun q2 => ⟨fun _ => ⟨rfl, rfl, rfl⟩, fun q3 => ⟨fun _ => ⟨rfl, rfl, rfl⟩, fun q4 => ⟨fun q5 => absurd hb2 (fun c => c.elim q2 (fun c => c.elim q3 (fun c => by omega))), fun _ => ⟨rfl, rfl, rfl⟩⟩⟩⟩⟩⟩, fun q => absurd hw q⟩, Mq.rf⟩⟩
      · have hb1' : ¬ y < 0 ∧ ¬ m < 0 ∧ y.toInt + m.toInt ≤ n := ⟨fun c => hb1 (Or.inl c), fun c => hb1 (Or.inr (Or.inl c)), Int.not_lt.mp fun c => hb1 (Or.inr (Or.inr c))⟩
        have hb2' : ¬ u < 0 ∧ u.toInt + m.toInt ≤ n' := ⟨fun c => hb2 (Or.inl c), Int.not_lt.mp fun c => hb2 (Or.inr (Or.inr c))⟩
        obtain ⟨y', hy', ey⟩ := nI_of hb1'.1
        obtain ⟨m', hm', em⟩ := nI_of hb1'.2.1
        obtain ⟨u', hu', eu⟩ := nI_of hb2'.1
        subst ey; subst em; subst eu
        rw [t_n hy', t_n hm'] at hb1'
        rw [t_n hu', t_n hm'] at hb2'
        have hA : y' + m' ≤ n := by omega
        have hB : u' + m' ≤ n' := by omega
        refine ⟨slU Z t (w', n', va_cpy f f' y' u' m'), 0, fun I L hr => ?_, fun I L hr => ?_⟩
        · obtain ⟨k1, k2, k3, k4, k5⟩ := (hr.1.2.2.2.2 s (by omega)).2 w n f hzs
          obtain ⟨j1, j2, j3, j4, j5⟩ := (hr.1.2.2.2.2 t (by omega)).2 w' n' f' hzt
          refine ⟨I, upr L (29 + t) (va_cpy (L (29 + s)) (L (29 + t)) y' u' m'), preC I I L _ _ hr ⟨fun _ => ⟨_, ct_beyond hr.1 (by omega) hzs _ _, g1n hb1 ⟨_, ct_beyond hr.1 (by omega) hzt _ _, g1n hb2 ⟨hins, hint, ⟨by omega, by omega⟩, ⟨by omega, by omega⟩, ?_⟩⟩⟩, fun q => absurd hw q⟩, RelC_sl hr (fun a k q => rfl) (fun j i hj e => ?_) j1 j2 j3 j4 (fun i hi => ?_), fun a k q => ⟨rfl, ?_⟩⟩
          · rw [u_cl hy', u_cl hm', u_cl hu']
            exact ⟨⟨hb1'.1, hb2'.1, hb1'.2.1, by omega, by omega⟩, fun L7 h7 => ⟨rfl, rfl, h7.symm⟩⟩
          · unfold upr; rw [if_neg (by omega)]
          · unfold upr va_cpy
            rw [if_pos rfl]
            by_cases e : u' ≤ i ∧ i < u' + m'
            · rw [if_pos e, if_pos e]; exact k5 _ (by omega)
            · rw [if_neg e, if_neg e]; exact j5 i hi
          · unfold upr; rw [if_neg (by omega)]
        · obtain ⟨k1, k2, k3, k4, k5⟩ := (hr.2.2.2.2 s (by omega)).2 w n f hzs
          obtain ⟨j1, j2, j3, j4, j5⟩ := (hr.2.2.2.2 t (by omega)).2 w' n' f' hzt
          have loop2 : ∀ L1 : Nat → Nat → Int64, (∀ i, i < m' → L1 112 i = f (y' + i)) → (∀ a k, a ≠ 112 → L1 a k = L a k) → ∃ L', v_X12_paste_150 (some (.int 0)) I L' I L1 (nI t) (nI u') (nI m') 0 ∧ (∀ i, i < 60 → L' 111 (60 * t + i) = va_cpy f f' y' u' m' i) ∧ (∀ a k, a ≠ 112 → (a ≠ 111 ∨ k < 60 * t ∨ 60 * t + 60 ≤ k) → L' a k = L a k) := by
            intro L1 g1 g2
            have h := mloop (α := Nat → Nat → Int64) (V := fun k L' M => v_X12_paste_150 (some (.int 0)) I L' I M (nI t) (nI u') (nI m') (nI k)) (Inv := fun k M => (∀ i, i < 60 → M 111 (60 * t + i) = va_cpy f f' y' u' k i) ∧ (∀ a i, (a ≠ 111 ∨ i < 60 * t ∨ 60 * t + 60 ≤ i) → M a i = L1 a i)) (n := m') (Q := fun M => (∀ i, i < 60 → M 111 (60 * t + i) = va_cpy f f' y' u' m' i) ∧ (∀ a i, (a ≠ 111 ∨ i < 60 * t ∨ 60 * t + 60 ≤ i) → M a i = L1 a i)) (fun M hM => ⟨M, vc_X12_paste_150 ⟨fun _ => ⟨rfl, rfl, rfl⟩, fun q => absurd (nI_le (Nat.le_refl _) hm') q⟩, hM⟩) ?_ L1 ⟨fun i hi => ?_, fun _ _ _ => rfl⟩
            · obtain ⟨L', hv, q1, q2⟩ := h
              exact ⟨L', hv, q1, fun a k e1 e2 => by rw [q2 a k e2]; exact g2 a k e1⟩
            · rintro k M hk ⟨q1, q2⟩
              refine ⟨up2 M 111 (60 * t + u' + k) (M 112 k), ⟨fun i hi => ?_, fun a i q => ?_⟩, fun L' hv => vc_X12_paste_150 ?_⟩
              · unfold va_cpy
                by_cases e : i = u' + k
                · subst e
                  rw [show 60 * t + (u' + k) = 60 * t + u' + k by omega, up2_s, if_pos (by omega), q2 112 k (by omega), g1 k hk]
                  congr 1; omega
                · rw [up2_k (by omega), q1 i hi]
                  unfold va_cpy
                  by_cases e2 : u' ≤ i ∧ i < u' + k
                  · rw [if_pos e2, if_pos (by omega)]
                  · rw [if_neg e2, if_neg (by omega)]
              · rw [up2_o' (by omega)]; exact q2 a i q
              · rw [show (60 : Int32) * nI t + nI u' + nI k = nI (60 * t + u' + k) by rw [show (60 : Int32) = nI 60 from rfl, u_mul, u_add, u_add], u_cl (n := 60 * t + u' + k) (by omega), u_cl (n := k) (by omega), nI_1]
                refine ⟨fun q => absurd q (nI_ge hk hm'), fun _ => ⟨u_in (by omega) (by decide), u_in (by omega) (by decide), fun L2 e2 => ?_⟩⟩
                rw [e2]; exact hv
            · unfold va_cpy
              rw [if_neg (by omega), g2 111 _ (by decide)]
              exact j5 i hi
          have h := mloop (α := Nat → Nat → Int64) (V := fun k L' M => v_X12_paste_113 (some (.int 0)) I L' I M (nI s) (nI y') (nI t) (nI u') (nI m') (nI k)) (Inv := fun k M => (∀ i, i < k → M 112 i = f (y' + i)) ∧ (∀ a i, a ≠ 112 → M a i = L a i)) (n := m') (Q := fun L' => (∀ i, i < 60 → L' 111 (60 * t + i) = va_cpy f f' y' u' m' i) ∧ (∀ a k, a ≠ 112 → (a ≠ 111 ∨ k < 60 * t ∨ 60 * t + 60 ≤ k) → L' a k = L a k)) ?_ ?_ L ⟨fun i hi => absurd hi (by omega), fun _ _ _ => rfl⟩
          · obtain ⟨L', hv, q1, q2⟩ := h
            refine ⟨I, L', preM I I L L' _ hr ⟨fun _ => ⟨fun c => absurd c hb1'.1, fun _ => ⟨fun c => absurd c hb2'.1, fun _ => ⟨fun c => absurd c hb1'.2.1, fun _ => ⟨fun c => ?_, fun _ => ⟨fun _ => hv, fun c => ?_⟩⟩⟩⟩⟩, fun q => absurd hw q⟩, RelM_sl hr (fun a k q => rfl) (fun i q => q2 111 i (by decide) (by omega)) j1 j2 j3 j4 q1, fun a k q => ⟨rfl, q2 a k (by omega) (by omega)⟩⟩
            · rw [t_n hy', t_n hm'] at c; omega
            · rw [t_n hu', t_n hm'] at c; omega
          · rintro M ⟨g1, g2⟩
            obtain ⟨L', hv, q1, q2⟩ := loop2 M g1 g2
            exact ⟨L', vc_X12_paste_113 ⟨fun _ => hv, fun q => absurd (nI_le (Nat.le_refl _) hm') q⟩, q1, q2⟩
          · rintro k M hk ⟨g1, g2⟩
            refine ⟨up2 M 112 k (M 111 (60 * s + y' + k)), ⟨fun i hi => ?_, fun a i q => ?_⟩, fun L' hv => vc_X12_paste_113 ?_⟩
            · by_cases e : i = k
              · subst e
                rw [up2_s, g2 111 _ (by decide), Nat.add_assoc, k5 _ (by omega)]
              · rw [up2_k e]; exact g1 i (by omega)
            · rw [up2_p q]; exact g2 a i q
            · rw [show (60 : Int32) * nI s + nI y' + nI k = nI (60 * s + y' + k) by rw [show (60 : Int32) = nI 60 from rfl, u_mul, u_add, u_add], u_cl (n := 60 * s + y' + k) (by omega), u_cl (n := k) (by omega), nI_1]
              refine ⟨fun q => absurd q (nI_ge hk hm'), fun _ => ⟨u_in (by omega) (by decide), u_in (by omega) (by decide), fun L2 e2 => ?_⟩⟩
              rw [e2]; exact hv
  · exact ⟨Z, -8, QC_q fun I L hr => ⟨I, preC I I L L _ hr ⟨fun q => absurd q hw, fun _ => ⟨rfl, rfl, rfl⟩⟩, Fq.rf, hr.2.1, hr.2.2⟩, QM_q fun I L hr => ⟨I, preM I I L L _ hr ⟨fun q => absurd q hw, fun _ => ⟨rfl, rfl, rfl⟩⟩, Mq.rf⟩⟩
