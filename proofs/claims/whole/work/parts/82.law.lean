/-! THE LAW: its cases, its loop. -/
def kL (nm : String) : q_Y := (⟨RL, nm, "([I)Z"⟩, code, 4, ret, 15, 560)
/-- the script, that lies ahead of all -/
def q_Sc (w : q_Wc) (g : q_G) (b N : Nat) (xs : Nat → Int32) : Prop := va_X b N xs (gs g) (gs g).heap ∧ b < (gs g).heap.size ∧ g0 g = 0 ∧ w.1.2 200 = b ∧ N ≤ 3072
def lvL (i : Nat) : List (Nat × Value) := [(0, .ref 10200), (1, .ref 0), (2, .ref 96), (3, .int (nI i))]
theorem q_tvb {w : q_Wc} {b : Nat} (h : w.1.2 200 = b) : q_tv w (.ref 10200) = .ref b := by
  show Value.ref (q_al w 10200) = _
  unfold q_al
  rw [if_neg (by decide)]
  show Value.ref (w.1.2 200) = _
  rw [h]
theorem RelM_hi {Z : St} {I I' : Nat → Nat → Int32} {L L' : Nat → Nat → Int64} (h : ∀ a k, 95 < a → I' a k = I a k ∧ L' a k = L a k) (hr : RelM Z I L) : RelM Z I' L' := by
  obtain ⟨⟨b1, b2⟩, ⟨b3, b4, b5⟩, ⟨b6, b7⟩, b8, b9⟩ := hr
  refine ⟨⟨RM_of2 (fun k => (h 97 k (by omega)).1) b1, b2⟩, ⟨b3, by rw [(h 96 5 (by omega)).1]; exact b4, fun k hk => by rw [(h 100 k (by omega)).1]; exact b5 k hk⟩, ⟨by rw [(h 96 12 (by omega)).1]; exact b6, by rw [(h 96 13 (by omega)).1]; exact b7⟩, fun k hk => ⟨fun z => ?_, fun B z => ?_⟩, fun s hs => ⟨fun z => ?_, fun w n f z => ?_⟩⟩
  · rw [(h 99 k (by omega)).1]; exact (b8 k hk).1 z
  · obtain ⟨c1, c2, c3⟩ := (b8 k hk).2 B z
    exact ⟨by rw [(h 99 k (by omega)).1]; exact c1, RM_of2 (fun j => (h 98 j (by omega)).1) c2, c3⟩
  · rw [(h 109 s (by omega)).1]; exact (b9 s hs).1 z
  · obtain ⟨d1, d2, d3, d4, d5⟩ := (b9 s hs).2 w n f z
    rw [(h 109 s (by omega)).1, (h 110 s (by omega)).1]
    exact ⟨d1, d2, d3, d4, fun i hi => by rw [(h 111 _ (by omega)).2]; exact d5 i hi⟩
theorem RelC_lo {Z : St} {I I' : Nat → Nat → Int32} {L L' : Nat → Nat → Int64} (h : ∀ a k, a < 96 → I' a k = I a k ∧ L' a k = L a k) (hr : RelC Z I L) : RelC Z I' L' := by
  obtain ⟨⟨⟨b1, b2⟩, ⟨b3, b4, b5⟩, ⟨b6, b7⟩, b8, b9⟩, hs, hw⟩ := hr
  refine ⟨⟨⟨RC_of2 (fun a k q => (h a k (by omega)).1) b1, b2⟩, ⟨b3, by rw [(h 0 1 (by omega)).1]; exact b4, fun k hk => by rw [(h 1 k (by omega)).1]; exact b5 k hk⟩, ⟨by rw [(h 0 2 (by omega)).1]; exact b6, by rw [(h 0 3 (by omega)).1]; exact b7⟩, fun k hk => ⟨fun z => ?_, fun B z => ?_⟩, fun s hs => ⟨fun z => ?_, fun w n f z => ?_⟩⟩, ?_, Wo_of (fun k => (h 89 k (by omega)).1) hw⟩
  · rw [(h 35 k (by omega)).1]; exact (b8 k hk).1 z
  · obtain ⟨c1, c2, c3⟩ := (b8 k hk).2 B z
    exact ⟨by rw [(h 35 k (by omega)).1]; exact c1, RC_of2 (fun a j q => (h a j (by omega)).1) c2, c3⟩
  · rw [(h 26 s (by omega)).1]; exact (b9 s hs).1 z
  · obtain ⟨d1, d2, d3, d4, d5⟩ := (b9 s hs).2 w n f z
    rw [(h 26 s (by omega)).1, (h 27 s (by omega)).1]
    exact ⟨d1, d2, d3, d4, fun i hi => by rw [(h (29 + s) i (by omega)).2]; exact d5 i hi⟩
  · show Se Z.1 I'
    unfold Se at hs ⊢
    rw [(h 0 18 (by omega)).1]
    rcases hs with q | ⟨q1, q2, q3⟩
    · exact Or.inl q
    · exact Or.inr ⟨q1, crs_of (fun a k z => (h a k (by omega)).1) q2, lts_of (fun k => (h _ k (by omega)).1) q3⟩
theorem lg_cmp_self (v : Int64) : lg_cmp v v = 0 := by
  unfold lg_cmp
  simp
section LW
variable {w : q_Wc} {g : q_G} {y : q_Y} {n1 pc b N : Nat} {xs : Nat → Int32} {lv : List (Nat × Value)} {st : List Value} {M : q_M} {nm : String} {I : Nat → Nat → Int32} {L : Nat → Nat → Int64} {Z : St} {i : Nat}
theorem q_notA (K : q_Ok w g y n1) (hs : q_Sc w g b N xs) : ¬ q_A w b := fun z => by
  have h1 := K.2.2.2.2.2.2.1
  have h2 := hs.2.1
  have h3 := hs.2.2.1
  have z : w.1.1 ≤ b := z
  omega
theorem g_slen (K : q_Ok w g y n1) (hs : q_Sc w g b N xs) (hd : decode y.2.1 pc = .ok (.arraylength, 1)) (k : q_Gs w g (pc + 1) lv (.int (nI N) :: st) M) : q_Gs w g pc lv (.ref 10200 :: st) M := fun H locs ls hR h0 hS hl => by
  have e := q_tvb hs.2.2.2.1
  show W _ _ _ _ _ _ _ _ _ _ _ _ _ _ _ (F0 (gm g) pc ls (q_tv w (.ref 10200) :: st.map (q_tv w)))
  rw [e]
  exact va_slen (okX K) (okB K) hs.1 hs.2.1 (q_notA K hs) hS hd (k H locs ls hR h0 hS hl)
theorem g_sld (K : q_Ok w g y n1) (hs : q_Sc w g b N xs) {j : Nat} (hj : j < N) (hd : decode y.2.1 pc = .ok (.iaload, 1)) (k : q_Gs w g (pc + 1) lv (.int (xs j) :: st) M) : q_Gs w g pc lv (.int (nI j) :: .ref 10200 :: st) M := fun H locs ls hR h0 hS hl => by
  have e := q_tvb hs.2.2.2.1
  have hN := hs.2.2.2.2
  show W _ _ _ _ _ _ _ _ _ _ _ _ _ _ _ (F0 (gm g) pc ls (.int (nI j) :: q_tv w (.ref 10200) :: st.map (q_tv w)))
  rw [e]
  refine va_sld (okX K) (okB K) hs.1 hs.2.1 (q_notA K hs) hS (u_in hj (by omega)) hd ?_
  rw [u_cl (by omega)]
  exact k H locs ls hR h0 hS hl
theorem g_arg (K : q_Ok w g (kL nm) n1) (hs : q_Sc w g b N xs) {j : Nat} {n : Int} (hn : Int32.ofInt n = nI j) (hj : i + j < N) (d0 : decode code pc = .ok (.aload_n 0, 1)) (d1 : decode code (pc + 1) = .ok (.iload_n 3, 1)) (d2 : decode code (pc + 2) = .ok (.iconst n, 1)) (d3 : decode code (pc + 3) = .ok (.iadd, 1)) (d4 : decode code (pc + 4) = .ok (.iaload, 1)) (k : q_Gs w g (pc + 5) (lvL i) (.int (xs (i + j)) :: st) M) : q_Gs w g pc (lvL i) st M := by
  refine g_aload_n K 0 d0 rfl ?_
  refine g_iload_n K 3 d1 rfl ?_
  refine g_iconst K (nI j) d2 hn ?_
  refine g_iadd K d3 ?_
  rw [u_add]
  exact g_sld K hs hj d4 k
/-- feed -/
theorem lc_0 (K : q_Ok w g (kL nm) q_NT) (hs : q_Sc w g b N xs) (hi : i + 6 ≤ N) (hc : RelC Z I L) (hm : RelM Z I L) (k : ∀ I' L' Z', RelC Z' I' L' → RelM Z' I' L' → q_Gs w g 2313 (lvL i) [] (q_mm I' L')) : q_Gs w g 324 (lvL i) [] (q_mm I L) := by
  obtain ⟨Z1, v, q1, q2⟩ := q_feed Z (xs (i + 1)) (xs (i + 2)) (xs (i + 3)) (xs (i + 4)) (xs (i + 5))
  obtain ⟨I1, L1, c1, r1, f1⟩ := q1 I L hc
  obtain ⟨I2, L2, c2, r2, f2⟩ := q2 I1 L1 (RelM_hi f1 hm)
  refine g_aload_n K 1 dL_law_324 rfl ?_
  refine g_arg K hs (j := 1) rfl (by omega) dL_law_325 dL_law_326 dL_law_327 dL_law_328 dL_law_329 ?_
  refine g_arg K hs (j := 2) rfl (by omega) dL_law_330 dL_law_331 dL_law_332 dL_law_333 dL_law_334 ?_
  refine g_arg K hs (j := 3) rfl (by omega) dL_law_335 dL_law_336 dL_law_337 dL_law_338 dL_law_339 ?_
  refine g_arg K hs (j := 4) rfl (by omega) dL_law_340 dL_law_341 dL_law_342 dL_law_343 dL_law_344 ?_
  refine g_arg K hs (j := 5) rfl (by omega) dL_law_345 dL_law_346 dL_law_347 dL_law_348 dL_law_349 ?_
  refine h_callV K (st := []) [.int (xs (i + 1)), .int (xs (i + 2)), .int (xs (i + 3)), .int (xs (i + 4)), .int (xs (i + 5))] (c1 w (gl g)) q_clX11 lyp_0 rfl ok_X11_feed ml_L_13 ⟨Nat.le_of_ble_eq_true rfl, Nat.le_of_ble_eq_true rfl⟩ (Nat.le_of_ble_eq_true rfl) dL_law_350 ?_
  refine g_aload_n K 2 dL_law_353 rfl ?_
  refine g_arg K hs (j := 1) rfl (by omega) dL_law_354 dL_law_355 dL_law_356 dL_law_357 dL_law_358 ?_
  refine g_arg K hs (j := 2) rfl (by omega) dL_law_359 dL_law_360 dL_law_361 dL_law_362 dL_law_363 ?_
  refine g_arg K hs (j := 3) rfl (by omega) dL_law_364 dL_law_365 dL_law_366 dL_law_367 dL_law_368 ?_
  refine g_arg K hs (j := 4) rfl (by omega) dL_law_369 dL_law_370 dL_law_371 dL_law_372 dL_law_373 ?_
  refine g_arg K hs (j := 5) rfl (by omega) dL_law_374 dL_law_375 dL_law_376 dL_law_377 dL_law_378 ?_
  refine h_callV K (st := [.int v]) [.int (xs (i + 1)), .int (xs (i + 2)), .int (xs (i + 3)), .int (xs (i + 4)), .int (xs (i + 5))] (c2 w (gl g)) q_clX12 lyp_96 rfl ok_X12_feed ml_L_17 ⟨Nat.le_of_ble_eq_true rfl, Nat.le_of_ble_eq_true rfl⟩ (Nat.le_of_ble_eq_true rfl) dL_law_379 ?_
  exact g_icmp_eq K 2313 dL_law_382 (by decide) (fun _ => k I2 L2 Z1 (RelC_lo f2 r1) r2) (fun z => absurd rfl z)
/-- end -/
theorem lc_1 (K : q_Ok w g (kL nm) q_NT) (hs : q_Sc w g b N xs) (hi : i + 6 ≤ N) (hc : RelC Z I L) (hm : RelM Z I L) (k : ∀ I' L' Z', RelC Z' I' L' → RelM Z' I' L' → q_Gs w g 2313 (lvL i) [] (q_mm I' L')) : q_Gs w g 387 (lvL i) [] (q_mm I L) := by
  obtain ⟨Z1, v, q1, q2⟩ := qz_end Z (xs (i + 1))
  obtain ⟨I1, L1, c1, r1, f1⟩ := q1 I L hc
  obtain ⟨I2, L2, c2, r2, f2⟩ := q2 I1 L1 (RelM_hi f1 hm)
  refine g_aload_n K 1 dL_law_387 rfl ?_
  refine g_arg K hs (j := 1) rfl (by omega) dL_law_388 dL_law_389 dL_law_390 dL_law_391 dL_law_392 ?_
  refine h_callV K (st := []) [.int (xs (i + 1))] (c1 w (gl g)) q_clX11 lyp_0 rfl ok_X11_end ml_L_18 ⟨Nat.le_of_ble_eq_true rfl, Nat.le_of_ble_eq_true rfl⟩ (Nat.le_of_ble_eq_true rfl) dL_law_393 ?_
  refine g_aload_n K 2 dL_law_396 rfl ?_
  refine g_arg K hs (j := 1) rfl (by omega) dL_law_397 dL_law_398 dL_law_399 dL_law_400 dL_law_401 ?_
  refine h_callV K (st := [.int v]) [.int (xs (i + 1))] (c2 w (gl g)) q_clX12 lyp_96 rfl ok_X12_end ml_L_22 ⟨Nat.le_of_ble_eq_true rfl, Nat.le_of_ble_eq_true rfl⟩ (Nat.le_of_ble_eq_true rfl) dL_law_402 ?_
  exact g_icmp_eq K 2313 dL_law_405 (by decide) (fun _ => k I2 L2 Z1 (RelC_lo f2 r1) r2) (fun z => absurd rfl z)
/-- night -/
theorem lc_2 (K : q_Ok w g (kL nm) q_NT) (hs : q_Sc w g b N xs) (hi : i + 6 ≤ N) (hc : RelC Z I L) (hm : RelM Z I L) (k : ∀ I' L' Z', RelC Z' I' L' → RelM Z' I' L' → q_Gs w g 2313 (lvL i) [] (q_mm I' L')) : q_Gs w g 410 (lvL i) [] (q_mm I L) := by
  obtain ⟨Z1, v, q1, q2⟩ := q_night Z 
  obtain ⟨I1, L1, c1, r1, f1⟩ := q1 I L hc
  obtain ⟨I2, L2, c2, r2, f2⟩ := q2 I1 L1 (RelM_hi f1 hm)
  refine g_aload_n K 1 dL_law_410 rfl ?_
  refine h_callV K (st := []) [] (c1 w (gl g)) q_clX11 lyp_0 rfl ok_X11_night ml_L_23 ⟨Nat.le_of_ble_eq_true rfl, Nat.le_of_ble_eq_true rfl⟩ (Nat.le_of_ble_eq_true rfl) dL_law_411 ?_
  refine g_aload_n K 2 dL_law_414 rfl ?_
  refine h_callV K (st := [.int v]) [] (c2 w (gl g)) q_clX12 lyp_96 rfl ok_X12_night ml_L_27 ⟨Nat.le_of_ble_eq_true rfl, Nat.le_of_ble_eq_true rfl⟩ (Nat.le_of_ble_eq_true rfl) dL_law_415 ?_
  exact g_icmp_eq K 2313 dL_law_418 (by decide) (fun _ => k I2 L2 Z1 (RelC_lo f2 r1) r2) (fun z => absurd rfl z)
/-- fault -/
theorem lc_3 (K : q_Ok w g (kL nm) q_NT) (hs : q_Sc w g b N xs) (hi : i + 6 ≤ N) (hc : RelC Z I L) (hm : RelM Z I L) (k : ∀ I' L' Z', RelC Z' I' L' → RelM Z' I' L' → q_Gs w g 2313 (lvL i) [] (q_mm I' L')) : q_Gs w g 423 (lvL i) [] (q_mm I L) := by
  obtain ⟨v, q1, q2⟩ := q_fault Z (xs (i + 1))
  obtain ⟨Z1, eZ⟩ : ∃ Z1, Z1 = Z := ⟨_, rfl⟩
  rw [← eZ] at hc hm q1 q2
  obtain ⟨I1, L1, c1, r1, f1⟩ := q1 I L hc
  obtain ⟨I2, L2, c2, r2, f2⟩ := q2 I1 L1 (RelM_hi f1 hm)
  refine g_aload_n K 1 dL_law_423 rfl ?_
  refine g_arg K hs (j := 1) rfl (by omega) dL_law_424 dL_law_425 dL_law_426 dL_law_427 dL_law_428 ?_
  refine h_callV K (st := []) [.int (xs (i + 1))] (c1 w (gl g)) q_clX11 lyp_0 rfl ok_X11_fault ml_L_28 ⟨Nat.le_of_ble_eq_true rfl, Nat.le_of_ble_eq_true rfl⟩ (Nat.le_of_ble_eq_true rfl) dL_law_429 ?_
  refine g_aload_n K 2 dL_law_432 rfl ?_
  refine g_arg K hs (j := 1) rfl (by omega) dL_law_433 dL_law_434 dL_law_435 dL_law_436 dL_law_437 ?_
  refine h_callV K (st := [.int v]) [.int (xs (i + 1))] (c2 w (gl g)) q_clX12 lyp_96 rfl ok_X12_fault ml_L_31 ⟨Nat.le_of_ble_eq_true rfl, Nat.le_of_ble_eq_true rfl⟩ (Nat.le_of_ble_eq_true rfl) dL_law_438 ?_
  exact g_icmp_eq K 2313 dL_law_441 (by decide) (fun _ => k I2 L2 Z1 (RelC_lo f2 r1) r2) (fun z => absurd rfl z)
/-- pew -/
theorem lc_4 (K : q_Ok w g (kL nm) q_NT) (hs : q_Sc w g b N xs) (hi : i + 6 ≤ N) (hc : RelC Z I L) (hm : RelM Z I L) (k : ∀ I' L' Z', RelC Z' I' L' → RelM Z' I' L' → q_Gs w g 2313 (lvL i) [] (q_mm I' L')) : q_Gs w g 446 (lvL i) [] (q_mm I L) := by
  obtain ⟨v, q1, q2⟩ := q_pew Z (xs (i + 1)) (xs (i + 2))
  obtain ⟨Z1, eZ⟩ : ∃ Z1, Z1 = Z := ⟨_, rfl⟩
  rw [← eZ] at hc hm q1 q2
  obtain ⟨I1, L1, c1, r1, f1⟩ := q1 I L hc
  obtain ⟨I2, L2, c2, r2, f2⟩ := q2 I1 L1 (RelM_hi f1 hm)
  refine g_aload_n K 1 dL_law_446 rfl ?_
  refine g_arg K hs (j := 1) rfl (by omega) dL_law_447 dL_law_448 dL_law_449 dL_law_450 dL_law_451 ?_
  refine g_arg K hs (j := 2) rfl (by omega) dL_law_452 dL_law_453 dL_law_454 dL_law_455 dL_law_456 ?_
  refine h_callV K (st := []) [.int (xs (i + 1)), .int (xs (i + 2))] (c1 w (gl g)) q_clX11 lyp_0 rfl ok_X11_pew ml_L_32 ⟨Nat.le_of_ble_eq_true rfl, Nat.le_of_ble_eq_true rfl⟩ (Nat.le_of_ble_eq_true rfl) dL_law_457 ?_
  refine g_aload_n K 2 dL_law_460 rfl ?_
  refine g_arg K hs (j := 1) rfl (by omega) dL_law_461 dL_law_462 dL_law_463 dL_law_464 dL_law_465 ?_
  refine g_arg K hs (j := 2) rfl (by omega) dL_law_466 dL_law_467 dL_law_468 dL_law_469 dL_law_470 ?_
  refine h_callV K (st := [.int v]) [.int (xs (i + 1)), .int (xs (i + 2))] (c2 w (gl g)) q_clX12 lyp_96 rfl ok_X12_pew ml_L_36 ⟨Nat.le_of_ble_eq_true rfl, Nat.le_of_ble_eq_true rfl⟩ (Nat.le_of_ble_eq_true rfl) dL_law_471 ?_
  exact g_icmp_eq K 2313 dL_law_474 (by decide) (fun _ => k I2 L2 Z1 (RelC_lo f2 r1) r2) (fun z => absurd rfl z)
/-- near -/
theorem lc_5 (K : q_Ok w g (kL nm) q_NT) (hs : q_Sc w g b N xs) (hi : i + 6 ≤ N) (hc : RelC Z I L) (hm : RelM Z I L) (k : ∀ I' L' Z', RelC Z' I' L' → RelM Z' I' L' → q_Gs w g 2313 (lvL i) [] (q_mm I' L')) : q_Gs w g 479 (lvL i) [] (q_mm I L) := by
  obtain ⟨v, q1, q2⟩ := q_near Z (xs (i + 1))
  obtain ⟨Z1, eZ⟩ : ∃ Z1, Z1 = Z := ⟨_, rfl⟩
  rw [← eZ] at hc hm q1 q2
  obtain ⟨I1, L1, c1, r1, f1⟩ := q1 I L hc
  obtain ⟨I2, L2, c2, r2, f2⟩ := q2 I1 L1 (RelM_hi f1 hm)
  refine g_aload_n K 1 dL_law_479 rfl ?_
  refine g_arg K hs (j := 1) rfl (by omega) dL_law_480 dL_law_481 dL_law_482 dL_law_483 dL_law_484 ?_
  refine h_callV K (st := []) [.int (xs (i + 1))] (c1 w (gl g)) q_clX11 lyp_0 rfl ok_X11_near ml_L_37 ⟨Nat.le_of_ble_eq_true rfl, Nat.le_of_ble_eq_true rfl⟩ (Nat.le_of_ble_eq_true rfl) dL_law_485 ?_
  refine g_aload_n K 2 dL_law_488 rfl ?_
  refine g_arg K hs (j := 1) rfl (by omega) dL_law_489 dL_law_490 dL_law_491 dL_law_492 dL_law_493 ?_
  refine h_callV K (st := [.int v]) [.int (xs (i + 1))] (c2 w (gl g)) q_clX12 lyp_96 rfl ok_X12_near ml_L_40 ⟨Nat.le_of_ble_eq_true rfl, Nat.le_of_ble_eq_true rfl⟩ (Nat.le_of_ble_eq_true rfl) dL_law_494 ?_
  exact g_icmp_eq K 2313 dL_law_497 (by decide) (fun _ => k I2 L2 Z1 (RelC_lo f2 r1) r2) (fun z => absurd rfl z)
/-- far -/
theorem lc_6 (K : q_Ok w g (kL nm) q_NT) (hs : q_Sc w g b N xs) (hi : i + 6 ≤ N) (hc : RelC Z I L) (hm : RelM Z I L) (k : ∀ I' L' Z', RelC Z' I' L' → RelM Z' I' L' → q_Gs w g 2313 (lvL i) [] (q_mm I' L')) : q_Gs w g 502 (lvL i) [] (q_mm I L) := by
  obtain ⟨v, q1, q2⟩ := q_far Z (xs (i + 1)) (xs (i + 2))
  obtain ⟨Z1, eZ⟩ : ∃ Z1, Z1 = Z := ⟨_, rfl⟩
  rw [← eZ] at hc hm q1 q2
  obtain ⟨I1, L1, c1, r1, f1⟩ := q1 I L hc
  obtain ⟨I2, L2, c2, r2, f2⟩ := q2 I1 L1 (RelM_hi f1 hm)
  refine g_aload_n K 1 dL_law_502 rfl ?_
  refine g_arg K hs (j := 1) rfl (by omega) dL_law_503 dL_law_504 dL_law_505 dL_law_506 dL_law_507 ?_
  refine g_arg K hs (j := 2) rfl (by omega) dL_law_508 dL_law_509 dL_law_510 dL_law_511 dL_law_512 ?_
  refine h_callV K (st := []) [.int (xs (i + 1)), .int (xs (i + 2))] (c1 w (gl g)) q_clX11 lyp_0 rfl ok_X11_far ml_L_41 ⟨Nat.le_of_ble_eq_true rfl, Nat.le_of_ble_eq_true rfl⟩ (Nat.le_of_ble_eq_true rfl) dL_law_513 ?_
  refine g_aload_n K 2 dL_law_516 rfl ?_
  refine g_arg K hs (j := 1) rfl (by omega) dL_law_517 dL_law_518 dL_law_519 dL_law_520 dL_law_521 ?_
  refine g_arg K hs (j := 2) rfl (by omega) dL_law_522 dL_law_523 dL_law_524 dL_law_525 dL_law_526 ?_
  refine h_callV K (st := [.int v]) [.int (xs (i + 1)), .int (xs (i + 2))] (c2 w (gl g)) q_clX12 lyp_96 rfl ok_X12_far ml_L_44 ⟨Nat.le_of_ble_eq_true rfl, Nat.le_of_ble_eq_true rfl⟩ (Nat.le_of_ble_eq_true rfl) dL_law_527 ?_
  exact g_icmp_eq K 2313 dL_law_530 (by decide) (fun _ => k I2 L2 Z1 (RelC_lo f2 r1) r2) (fun z => absurd rfl z)
/-- told -/
theorem lc_7 (K : q_Ok w g (kL nm) q_NT) (hs : q_Sc w g b N xs) (hi : i + 6 ≤ N) (hc : RelC Z I L) (hm : RelM Z I L) (k : ∀ I' L' Z', RelC Z' I' L' → RelM Z' I' L' → q_Gs w g 2313 (lvL i) [] (q_mm I' L')) : q_Gs w g 535 (lvL i) [] (q_mm I L) := by
  obtain ⟨v, q1, q2⟩ := q_told Z (xs (i + 1)) (xs (i + 2))
  obtain ⟨Z1, eZ⟩ : ∃ Z1, Z1 = Z := ⟨_, rfl⟩
  rw [← eZ] at hc hm q1 q2
  obtain ⟨I1, L1, c1, r1, f1⟩ := q1 I L hc
  obtain ⟨I2, L2, c2, r2, f2⟩ := q2 I1 L1 (RelM_hi f1 hm)
  refine g_aload_n K 1 dL_law_535 rfl ?_
  refine g_arg K hs (j := 1) rfl (by omega) dL_law_536 dL_law_537 dL_law_538 dL_law_539 dL_law_540 ?_
  refine g_arg K hs (j := 2) rfl (by omega) dL_law_541 dL_law_542 dL_law_543 dL_law_544 dL_law_545 ?_
  refine h_callV K (st := []) [.int (xs (i + 1)), .int (xs (i + 2))] (c1 w (gl g)) q_clX11 lyp_0 rfl ok_X11_told ml_L_45 ⟨Nat.le_of_ble_eq_true rfl, Nat.le_of_ble_eq_true rfl⟩ (Nat.le_of_ble_eq_true rfl) dL_law_546 ?_
  refine g_aload_n K 2 dL_law_549 rfl ?_
  refine g_arg K hs (j := 1) rfl (by omega) dL_law_550 dL_law_551 dL_law_552 dL_law_553 dL_law_554 ?_
  refine g_arg K hs (j := 2) rfl (by omega) dL_law_555 dL_law_556 dL_law_557 dL_law_558 dL_law_559 ?_
  refine h_callV K (st := [.int v]) [.int (xs (i + 1)), .int (xs (i + 2))] (c2 w (gl g)) q_clX12 lyp_96 rfl ok_X12_told ml_L_48 ⟨Nat.le_of_ble_eq_true rfl, Nat.le_of_ble_eq_true rfl⟩ (Nat.le_of_ble_eq_true rfl) dL_law_560 ?_
  exact g_icmp_eq K 2313 dL_law_563 (by decide) (fun _ => k I2 L2 Z1 (RelC_lo f2 r1) r2) (fun z => absurd rfl z)
/-- lit -/
theorem lc_8 (K : q_Ok w g (kL nm) q_NT) (hs : q_Sc w g b N xs) (hi : i + 6 ≤ N) (hc : RelC Z I L) (hm : RelM Z I L) (k : ∀ I' L' Z', RelC Z' I' L' → RelM Z' I' L' → q_Gs w g 2313 (lvL i) [] (q_mm I' L')) : q_Gs w g 568 (lvL i) [] (q_mm I L) := by
  obtain ⟨v, q1, q2⟩ := q_lit Z (xs (i + 1))
  obtain ⟨Z1, eZ⟩ : ∃ Z1, Z1 = Z := ⟨_, rfl⟩
  rw [← eZ] at hc hm q1 q2
  obtain ⟨I1, L1, c1, r1, f1⟩ := q1 I L hc
  obtain ⟨I2, L2, c2, r2, f2⟩ := q2 I1 L1 (RelM_hi f1 hm)
  refine g_aload_n K 1 dL_law_568 rfl ?_
  refine g_arg K hs (j := 1) rfl (by omega) dL_law_569 dL_law_570 dL_law_571 dL_law_572 dL_law_573 ?_
  refine h_callV K (st := []) [.int (xs (i + 1))] (c1 w (gl g)) q_clX11 lyp_0 rfl ok_X11_lit ml_L_49 ⟨Nat.le_of_ble_eq_true rfl, Nat.le_of_ble_eq_true rfl⟩ (Nat.le_of_ble_eq_true rfl) dL_law_574 ?_
  refine g_aload_n K 2 dL_law_577 rfl ?_
  refine g_arg K hs (j := 1) rfl (by omega) dL_law_578 dL_law_579 dL_law_580 dL_law_581 dL_law_582 ?_
  refine h_callV K (st := [.int v]) [.int (xs (i + 1))] (c2 w (gl g)) q_clX12 lyp_96 rfl ok_X12_lit ml_L_52 ⟨Nat.le_of_ble_eq_true rfl, Nat.le_of_ble_eq_true rfl⟩ (Nat.le_of_ble_eq_true rfl) dL_law_583 ?_
  exact g_icmp_eq K 2313 dL_law_586 (by decide) (fun _ => k I2 L2 Z1 (RelC_lo f2 r1) r2) (fun z => absurd rfl z)
/-- letters -/
theorem lc_9 (K : q_Ok w g (kL nm) q_NT) (hs : q_Sc w g b N xs) (hi : i + 6 ≤ N) (hc : RelC Z I L) (hm : RelM Z I L) (k : ∀ I' L' Z', RelC Z' I' L' → RelM Z' I' L' → q_Gs w g 2313 (lvL i) [] (q_mm I' L')) : q_Gs w g 591 (lvL i) [] (q_mm I L) := by
  obtain ⟨v, q1, q2⟩ := q_letters Z (xs (i + 1)) (xs (i + 2))
  obtain ⟨Z1, eZ⟩ : ∃ Z1, Z1 = Z := ⟨_, rfl⟩
  rw [← eZ] at hc hm q1 q2
  obtain ⟨I1, L1, c1, r1, f1⟩ := q1 I L hc
  obtain ⟨I2, L2, c2, r2, f2⟩ := q2 I1 L1 (RelM_hi f1 hm)
  refine g_aload_n K 1 dL_law_591 rfl ?_
  refine g_arg K hs (j := 1) rfl (by omega) dL_law_592 dL_law_593 dL_law_594 dL_law_595 dL_law_596 ?_
  refine g_arg K hs (j := 2) rfl (by omega) dL_law_597 dL_law_598 dL_law_599 dL_law_600 dL_law_601 ?_
  refine h_callV K (st := []) [.int (xs (i + 1)), .int (xs (i + 2))] (c1 w (gl g)) q_clX11 lyp_0 rfl ok_X11_letters ml_L_53 ⟨Nat.le_of_ble_eq_true rfl, Nat.le_of_ble_eq_true rfl⟩ (Nat.le_of_ble_eq_true rfl) dL_law_602 ?_
  refine g_aload_n K 2 dL_law_605 rfl ?_
  refine g_arg K hs (j := 1) rfl (by omega) dL_law_606 dL_law_607 dL_law_608 dL_law_609 dL_law_610 ?_
  refine g_arg K hs (j := 2) rfl (by omega) dL_law_611 dL_law_612 dL_law_613 dL_law_614 dL_law_615 ?_
  refine h_callV K (st := [.int v]) [.int (xs (i + 1)), .int (xs (i + 2))] (c2 w (gl g)) q_clX12 lyp_96 rfl ok_X12_letters ml_L_56 ⟨Nat.le_of_ble_eq_true rfl, Nat.le_of_ble_eq_true rfl⟩ (Nat.le_of_ble_eq_true rfl) dL_law_616 ?_
  exact g_icmp_eq K 2313 dL_law_619 (by decide) (fun _ => k I2 L2 Z1 (RelC_lo f2 r1) r2) (fun z => absurd rfl z)
/-- says -/
theorem lc_10 (K : q_Ok w g (kL nm) q_NT) (hs : q_Sc w g b N xs) (hi : i + 6 ≤ N) (hc : RelC Z I L) (hm : RelM Z I L) (k : ∀ I' L' Z', RelC Z' I' L' → RelM Z' I' L' → q_Gs w g 2313 (lvL i) [] (q_mm I' L')) : q_Gs w g 624 (lvL i) [] (q_mm I L) := by
  obtain ⟨v, q1, q2⟩ := q_says Z (xs (i + 1)) (xs (i + 2)) (xs (i + 3))
  obtain ⟨Z1, eZ⟩ : ∃ Z1, Z1 = Z := ⟨_, rfl⟩
  rw [← eZ] at hc hm q1 q2
  obtain ⟨I1, L1, c1, r1, f1⟩ := q1 I L hc
  obtain ⟨I2, L2, c2, r2, f2⟩ := q2 I1 L1 (RelM_hi f1 hm)
  refine g_aload_n K 1 dL_law_624 rfl ?_
  refine g_arg K hs (j := 1) rfl (by omega) dL_law_625 dL_law_626 dL_law_627 dL_law_628 dL_law_629 ?_
  refine g_arg K hs (j := 2) rfl (by omega) dL_law_630 dL_law_631 dL_law_632 dL_law_633 dL_law_634 ?_
  refine g_arg K hs (j := 3) rfl (by omega) dL_law_635 dL_law_636 dL_law_637 dL_law_638 dL_law_639 ?_
  refine h_callV K (st := []) [.int (xs (i + 1)), .int (xs (i + 2)), .int (xs (i + 3))] (c1 w (gl g)) q_clX11 lyp_0 rfl ok_X11_says ml_L_57 ⟨Nat.le_of_ble_eq_true rfl, Nat.le_of_ble_eq_true rfl⟩ (Nat.le_of_ble_eq_true rfl) dL_law_640 ?_
  refine g_aload_n K 2 dL_law_643 rfl ?_
  refine g_arg K hs (j := 1) rfl (by omega) dL_law_644 dL_law_645 dL_law_646 dL_law_647 dL_law_648 ?_
  refine g_arg K hs (j := 2) rfl (by omega) dL_law_649 dL_law_650 dL_law_651 dL_law_652 dL_law_653 ?_
  refine g_arg K hs (j := 3) rfl (by omega) dL_law_654 dL_law_655 dL_law_656 dL_law_657 dL_law_658 ?_
  refine h_callV K (st := [.int v]) [.int (xs (i + 1)), .int (xs (i + 2)), .int (xs (i + 3))] (c2 w (gl g)) q_clX12 lyp_96 rfl ok_X12_says ml_L_61 ⟨Nat.le_of_ble_eq_true rfl, Nat.le_of_ble_eq_true rfl⟩ (Nat.le_of_ble_eq_true rfl) dL_law_659 ?_
  exact g_icmp_eq K 2313 dL_law_662 (by decide) (fun _ => k I2 L2 Z1 (RelC_lo f2 r1) r2) (fun z => absurd rfl z)
/-- from -/
theorem lc_11 (K : q_Ok w g (kL nm) q_NT) (hs : q_Sc w g b N xs) (hi : i + 6 ≤ N) (hc : RelC Z I L) (hm : RelM Z I L) (k : ∀ I' L' Z', RelC Z' I' L' → RelM Z' I' L' → q_Gs w g 2313 (lvL i) [] (q_mm I' L')) : q_Gs w g 667 (lvL i) [] (q_mm I L) := by
  obtain ⟨v, q1, q2⟩ := q_from Z (xs (i + 1)) (xs (i + 2))
  obtain ⟨Z1, eZ⟩ : ∃ Z1, Z1 = Z := ⟨_, rfl⟩
  rw [← eZ] at hc hm q1 q2
  obtain ⟨I1, L1, c1, r1, f1⟩ := q1 I L hc
  obtain ⟨I2, L2, c2, r2, f2⟩ := q2 I1 L1 (RelM_hi f1 hm)
  refine g_aload_n K 1 dL_law_667 rfl ?_
  refine g_arg K hs (j := 1) rfl (by omega) dL_law_668 dL_law_669 dL_law_670 dL_law_671 dL_law_672 ?_
  refine g_arg K hs (j := 2) rfl (by omega) dL_law_673 dL_law_674 dL_law_675 dL_law_676 dL_law_677 ?_
  refine h_callV K (st := []) [.int (xs (i + 1)), .int (xs (i + 2))] (c1 w (gl g)) q_clX11 lyp_0 rfl ok_X11_from ml_L_62 ⟨Nat.le_of_ble_eq_true rfl, Nat.le_of_ble_eq_true rfl⟩ (Nat.le_of_ble_eq_true rfl) dL_law_678 ?_
  refine g_aload_n K 2 dL_law_681 rfl ?_
  refine g_arg K hs (j := 1) rfl (by omega) dL_law_682 dL_law_683 dL_law_684 dL_law_685 dL_law_686 ?_
  refine g_arg K hs (j := 2) rfl (by omega) dL_law_687 dL_law_688 dL_law_689 dL_law_690 dL_law_691 ?_
  refine h_callV K (st := [.int v]) [.int (xs (i + 1)), .int (xs (i + 2))] (c2 w (gl g)) q_clX12 lyp_96 rfl ok_X12_from ml_L_65 ⟨Nat.le_of_ble_eq_true rfl, Nat.le_of_ble_eq_true rfl⟩ (Nat.le_of_ble_eq_true rfl) dL_law_692 ?_
  exact g_icmp_eq K 2313 dL_law_695 (by decide) (fun _ => k I2 L2 Z1 (RelC_lo f2 r1) r2) (fun z => absurd rfl z)
/-- since -/
theorem lc_12 (K : q_Ok w g (kL nm) q_NT) (hs : q_Sc w g b N xs) (hi : i + 6 ≤ N) (hc : RelC Z I L) (hm : RelM Z I L) (k : ∀ I' L' Z', RelC Z' I' L' → RelM Z' I' L' → q_Gs w g 2313 (lvL i) [] (q_mm I' L')) : q_Gs w g 700 (lvL i) [] (q_mm I L) := by
  obtain ⟨v, q1, q2⟩ := q_since Z (xs (i + 1)) (xs (i + 2))
  obtain ⟨Z1, eZ⟩ : ∃ Z1, Z1 = Z := ⟨_, rfl⟩
  rw [← eZ] at hc hm q1 q2
  obtain ⟨I1, L1, c1, r1, f1⟩ := q1 I L hc
  obtain ⟨I2, L2, c2, r2, f2⟩ := q2 I1 L1 (RelM_hi f1 hm)
  refine g_aload_n K 1 dL_law_700 rfl ?_
  refine g_arg K hs (j := 1) rfl (by omega) dL_law_701 dL_law_702 dL_law_703 dL_law_704 dL_law_705 ?_
  refine g_arg K hs (j := 2) rfl (by omega) dL_law_706 dL_law_707 dL_law_708 dL_law_709 dL_law_710 ?_
  refine h_callV K (st := []) [.int (xs (i + 1)), .int (xs (i + 2))] (c1 w (gl g)) q_clX11 lyp_0 rfl ok_X11_since ml_L_66 ⟨Nat.le_of_ble_eq_true rfl, Nat.le_of_ble_eq_true rfl⟩ (Nat.le_of_ble_eq_true rfl) dL_law_711 ?_
  refine g_aload_n K 2 dL_law_714 rfl ?_
  refine g_arg K hs (j := 1) rfl (by omega) dL_law_715 dL_law_716 dL_law_717 dL_law_718 dL_law_719 ?_
  refine g_arg K hs (j := 2) rfl (by omega) dL_law_720 dL_law_721 dL_law_722 dL_law_723 dL_law_724 ?_
  refine h_callV K (st := [.int v]) [.int (xs (i + 1)), .int (xs (i + 2))] (c2 w (gl g)) q_clX12 lyp_96 rfl ok_X12_since ml_L_69 ⟨Nat.le_of_ble_eq_true rfl, Nat.le_of_ble_eq_true rfl⟩ (Nat.le_of_ble_eq_true rfl) dL_law_725 ?_
  exact g_icmp_eq K 2313 dL_law_728 (by decide) (fun _ => k I2 L2 Z1 (RelC_lo f2 r1) r2) (fun z => absurd rfl z)
/-- when -/
theorem lc_13 (K : q_Ok w g (kL nm) q_NT) (hs : q_Sc w g b N xs) (hi : i + 6 ≤ N) (hc : RelC Z I L) (hm : RelM Z I L) (k : ∀ I' L' Z', RelC Z' I' L' → RelM Z' I' L' → q_Gs w g 2313 (lvL i) [] (q_mm I' L')) : q_Gs w g 733 (lvL i) [] (q_mm I L) := by
  obtain ⟨v, q1, q2⟩ := q_when Z (xs (i + 1))
  obtain ⟨Z1, eZ⟩ : ∃ Z1, Z1 = Z := ⟨_, rfl⟩
  rw [← eZ] at hc hm q1 q2
  obtain ⟨I1, L1, c1, r1, f1⟩ := q1 I L hc
  obtain ⟨I2, L2, c2, r2, f2⟩ := q2 I1 L1 (RelM_hi f1 hm)
  refine g_aload_n K 1 dL_law_733 rfl ?_
  refine g_arg K hs (j := 1) rfl (by omega) dL_law_734 dL_law_735 dL_law_736 dL_law_737 dL_law_738 ?_
  refine h_callV K (st := []) [.int (xs (i + 1))] (c1 w (gl g)) q_clX11 lyp_0 rfl ok_X11_when ml_L_70 ⟨Nat.le_of_ble_eq_true rfl, Nat.le_of_ble_eq_true rfl⟩ (Nat.le_of_ble_eq_true rfl) dL_law_739 ?_
  refine g_aload_n K 2 dL_law_742 rfl ?_
  refine g_arg K hs (j := 1) rfl (by omega) dL_law_743 dL_law_744 dL_law_745 dL_law_746 dL_law_747 ?_
  refine h_callV K (st := [.int v]) [.int (xs (i + 1))] (c2 w (gl g)) q_clX12 lyp_96 rfl ok_X12_when ml_L_73 ⟨Nat.le_of_ble_eq_true rfl, Nat.le_of_ble_eq_true rfl⟩ (Nat.le_of_ble_eq_true rfl) dL_law_748 ?_
  exact g_icmp_eq K 2313 dL_law_751 (by decide) (fun _ => k I2 L2 Z1 (RelC_lo f2 r1) r2) (fun z => absurd rfl z)
/-- often -/
theorem lc_14 (K : q_Ok w g (kL nm) q_NT) (hs : q_Sc w g b N xs) (hi : i + 6 ≤ N) (hc : RelC Z I L) (hm : RelM Z I L) (k : ∀ I' L' Z', RelC Z' I' L' → RelM Z' I' L' → q_Gs w g 2313 (lvL i) [] (q_mm I' L')) : q_Gs w g 756 (lvL i) [] (q_mm I L) := by
  obtain ⟨v, q1, q2⟩ := q_often Z (xs (i + 1))
  obtain ⟨Z1, eZ⟩ : ∃ Z1, Z1 = Z := ⟨_, rfl⟩
  rw [← eZ] at hc hm q1 q2
  obtain ⟨I1, L1, c1, r1, f1⟩ := q1 I L hc
  obtain ⟨I2, L2, c2, r2, f2⟩ := q2 I1 L1 (RelM_hi f1 hm)
  refine g_aload_n K 1 dL_law_756 rfl ?_
  refine g_arg K hs (j := 1) rfl (by omega) dL_law_757 dL_law_758 dL_law_759 dL_law_760 dL_law_761 ?_
  refine h_callV K (st := []) [.int (xs (i + 1))] (c1 w (gl g)) q_clX11 lyp_0 rfl ok_X11_often ml_L_74 ⟨Nat.le_of_ble_eq_true rfl, Nat.le_of_ble_eq_true rfl⟩ (Nat.le_of_ble_eq_true rfl) dL_law_762 ?_
  refine g_aload_n K 2 dL_law_765 rfl ?_
  refine g_arg K hs (j := 1) rfl (by omega) dL_law_766 dL_law_767 dL_law_768 dL_law_769 dL_law_770 ?_
  refine h_callV K (st := [.int v]) [.int (xs (i + 1))] (c2 w (gl g)) q_clX12 lyp_96 rfl ok_X12_often ml_L_77 ⟨Nat.le_of_ble_eq_true rfl, Nat.le_of_ble_eq_true rfl⟩ (Nat.le_of_ble_eq_true rfl) dL_law_771 ?_
  exact g_icmp_eq K 2313 dL_law_774 (by decide) (fun _ => k I2 L2 Z1 (RelC_lo f2 r1) r2) (fun z => absurd rfl z)
/-- full -/
theorem lc_15 (K : q_Ok w g (kL nm) q_NT) (hs : q_Sc w g b N xs) (hi : i + 6 ≤ N) (hc : RelC Z I L) (hm : RelM Z I L) (k : ∀ I' L' Z', RelC Z' I' L' → RelM Z' I' L' → q_Gs w g 2313 (lvL i) [] (q_mm I' L')) : q_Gs w g 779 (lvL i) [] (q_mm I L) := by
  obtain ⟨v, q1, q2⟩ := q_full Z 
  obtain ⟨Z1, eZ⟩ : ∃ Z1, Z1 = Z := ⟨_, rfl⟩
  rw [← eZ] at hc hm q1 q2
  obtain ⟨I1, L1, c1, r1, f1⟩ := q1 I L hc
  obtain ⟨I2, L2, c2, r2, f2⟩ := q2 I1 L1 (RelM_hi f1 hm)
  refine g_aload_n K 1 dL_law_779 rfl ?_
  refine h_callV K (st := []) [] (c1 w (gl g)) q_clX11 lyp_0 rfl ok_X11_full ml_L_78 ⟨Nat.le_of_ble_eq_true rfl, Nat.le_of_ble_eq_true rfl⟩ (Nat.le_of_ble_eq_true rfl) dL_law_780 ?_
  refine g_aload_n K 2 dL_law_783 rfl ?_
  refine h_callV K (st := [.int v]) [] (c2 w (gl g)) q_clX12 lyp_96 rfl ok_X12_full ml_L_81 ⟨Nat.le_of_ble_eq_true rfl, Nat.le_of_ble_eq_true rfl⟩ (Nat.le_of_ble_eq_true rfl) dL_law_784 ?_
  exact g_icmp_eq K 2313 dL_law_787 (by decide) (fun _ => k I2 L2 Z1 (RelC_lo f2 r1) r2) (fun z => absurd rfl z)
/-- dark -/
theorem lc_16 (K : q_Ok w g (kL nm) q_NT) (hs : q_Sc w g b N xs) (hi : i + 6 ≤ N) (hc : RelC Z I L) (hm : RelM Z I L) (k : ∀ I' L' Z', RelC Z' I' L' → RelM Z' I' L' → q_Gs w g 2313 (lvL i) [] (q_mm I' L')) : q_Gs w g 792 (lvL i) [] (q_mm I L) := by
  obtain ⟨v, q1, q2⟩ := q_dark Z 
  obtain ⟨Z1, eZ⟩ : ∃ Z1, Z1 = Z := ⟨_, rfl⟩
  rw [← eZ] at hc hm q1 q2
  obtain ⟨I1, L1, c1, r1, f1⟩ := q1 I L hc
  obtain ⟨I2, L2, c2, r2, f2⟩ := q2 I1 L1 (RelM_hi f1 hm)
  refine g_aload_n K 1 dL_law_792 rfl ?_
  refine h_callV K (st := []) [] (c1 w (gl g)) q_clX11 lyp_0 rfl ok_X11_dark ml_L_82 ⟨Nat.le_of_ble_eq_true rfl, Nat.le_of_ble_eq_true rfl⟩ (Nat.le_of_ble_eq_true rfl) dL_law_793 ?_
  refine g_aload_n K 2 dL_law_796 rfl ?_
  refine h_callV K (st := [.int v]) [] (c2 w (gl g)) q_clX12 lyp_96 rfl ok_X12_dark ml_L_85 ⟨Nat.le_of_ble_eq_true rfl, Nat.le_of_ble_eq_true rfl⟩ (Nat.le_of_ble_eq_true rfl) dL_law_797 ?_
  exact g_icmp_eq K 2313 dL_law_800 (by decide) (fun _ => k I2 L2 Z1 (RelC_lo f2 r1) r2) (fun z => absurd rfl z)
/-- still -/
theorem lc_17 (K : q_Ok w g (kL nm) q_NT) (hs : q_Sc w g b N xs) (hi : i + 6 ≤ N) (hc : RelC Z I L) (hm : RelM Z I L) (k : ∀ I' L' Z', RelC Z' I' L' → RelM Z' I' L' → q_Gs w g 2313 (lvL i) [] (q_mm I' L')) : q_Gs w g 805 (lvL i) [] (q_mm I L) := by
  obtain ⟨v, q1, q2⟩ := q_still Z 
  obtain ⟨Z1, eZ⟩ : ∃ Z1, Z1 = Z := ⟨_, rfl⟩
  rw [← eZ] at hc hm q1 q2
  obtain ⟨I1, L1, c1, r1, f1⟩ := q1 I L hc
  obtain ⟨I2, L2, c2, r2, f2⟩ := q2 I1 L1 (RelM_hi f1 hm)
  refine g_aload_n K 1 dL_law_805 rfl ?_
  refine h_callV K (st := []) [] (c1 w (gl g)) q_clX11 lyp_0 rfl ok_X11_still ml_L_86 ⟨Nat.le_of_ble_eq_true rfl, Nat.le_of_ble_eq_true rfl⟩ (Nat.le_of_ble_eq_true rfl) dL_law_806 ?_
  refine g_aload_n K 2 dL_law_809 rfl ?_
  refine h_callV K (st := [.int v]) [] (c2 w (gl g)) q_clX12 lyp_96 rfl ok_X12_still ml_L_89 ⟨Nat.le_of_ble_eq_true rfl, Nat.le_of_ble_eq_true rfl⟩ (Nat.le_of_ble_eq_true rfl) dL_law_810 ?_
  exact g_icmp_eq K 2313 dL_law_813 (by decide) (fun _ => k I2 L2 Z1 (RelC_lo f2 r1) r2) (fun z => absurd rfl z)
/-- sorts -/
theorem lc_18 (K : q_Ok w g (kL nm) q_NT) (hs : q_Sc w g b N xs) (hi : i + 6 ≤ N) (hc : RelC Z I L) (hm : RelM Z I L) (k : ∀ I' L' Z', RelC Z' I' L' → RelM Z' I' L' → q_Gs w g 2313 (lvL i) [] (q_mm I' L')) : q_Gs w g 818 (lvL i) [] (q_mm I L) := by
  obtain ⟨v, q1, q2⟩ := q_sorts Z (xs (i + 1))
  obtain ⟨Z1, eZ⟩ : ∃ Z1, Z1 = Z := ⟨_, rfl⟩
  rw [← eZ] at hc hm q1 q2
  obtain ⟨I1, L1, c1, r1, f1⟩ := q1 I L hc
  obtain ⟨I2, L2, c2, r2, f2⟩ := q2 I1 L1 (RelM_hi f1 hm)
  refine g_aload_n K 1 dL_law_818 rfl ?_
  refine g_arg K hs (j := 1) rfl (by omega) dL_law_819 dL_law_820 dL_law_821 dL_law_822 dL_law_823 ?_
  refine h_callV K (st := []) [.int (xs (i + 1))] (c1 w (gl g)) q_clX11 lyp_0 rfl ok_X11_sorts ml_L_90 ⟨Nat.le_of_ble_eq_true rfl, Nat.le_of_ble_eq_true rfl⟩ (Nat.le_of_ble_eq_true rfl) dL_law_824 ?_
  refine g_aload_n K 2 dL_law_827 rfl ?_
  refine g_arg K hs (j := 1) rfl (by omega) dL_law_828 dL_law_829 dL_law_830 dL_law_831 dL_law_832 ?_
  refine h_callV K (st := [.int v]) [.int (xs (i + 1))] (c2 w (gl g)) q_clX12 lyp_96 rfl ok_X12_sorts ml_L_93 ⟨Nat.le_of_ble_eq_true rfl, Nat.le_of_ble_eq_true rfl⟩ (Nat.le_of_ble_eq_true rfl) dL_law_833 ?_
  exact g_icmp_eq K 2313 dL_law_836 (by decide) (fun _ => k I2 L2 Z1 (RelC_lo f2 r1) r2) (fun z => absurd rfl z)
/-- alike -/
theorem lc_19 (K : q_Ok w g (kL nm) q_NT) (hs : q_Sc w g b N xs) (hi : i + 6 ≤ N) (hc : RelC Z I L) (hm : RelM Z I L) (k : ∀ I' L' Z', RelC Z' I' L' → RelM Z' I' L' → q_Gs w g 2313 (lvL i) [] (q_mm I' L')) : q_Gs w g 841 (lvL i) [] (q_mm I L) := by
  obtain ⟨v, q1, q2⟩ := q_alike Z (xs (i + 1)) (xs (i + 2))
  obtain ⟨Z1, eZ⟩ : ∃ Z1, Z1 = Z := ⟨_, rfl⟩
  rw [← eZ] at hc hm q1 q2
  obtain ⟨I1, L1, c1, r1, f1⟩ := q1 I L hc
  obtain ⟨I2, L2, c2, r2, f2⟩ := q2 I1 L1 (RelM_hi f1 hm)
  refine g_aload_n K 1 dL_law_841 rfl ?_
  refine g_arg K hs (j := 1) rfl (by omega) dL_law_842 dL_law_843 dL_law_844 dL_law_845 dL_law_846 ?_
  refine g_arg K hs (j := 2) rfl (by omega) dL_law_847 dL_law_848 dL_law_849 dL_law_850 dL_law_851 ?_
  refine h_callV K (st := []) [.int (xs (i + 1)), .int (xs (i + 2))] (c1 w (gl g)) q_clX11 lyp_0 rfl ok_X11_alike ml_L_94 ⟨Nat.le_of_ble_eq_true rfl, Nat.le_of_ble_eq_true rfl⟩ (Nat.le_of_ble_eq_true rfl) dL_law_852 ?_
  refine g_aload_n K 2 dL_law_855 rfl ?_
  refine g_arg K hs (j := 1) rfl (by omega) dL_law_856 dL_law_857 dL_law_858 dL_law_859 dL_law_860 ?_
  refine g_arg K hs (j := 2) rfl (by omega) dL_law_861 dL_law_862 dL_law_863 dL_law_864 dL_law_865 ?_
  refine h_callV K (st := [.int v]) [.int (xs (i + 1)), .int (xs (i + 2))] (c2 w (gl g)) q_clX12 lyp_96 rfl ok_X12_alike ml_L_97 ⟨Nat.le_of_ble_eq_true rfl, Nat.le_of_ble_eq_true rfl⟩ (Nat.le_of_ble_eq_true rfl) dL_law_866 ?_
  exact g_icmp_eq K 2313 dL_law_869 (by decide) (fun _ => k I2 L2 Z1 (RelC_lo f2 r1) r2) (fun z => absurd rfl z)
/-- depth -/
theorem lc_20 (K : q_Ok w g (kL nm) q_NT) (hs : q_Sc w g b N xs) (hi : i + 6 ≤ N) (hc : RelC Z I L) (hm : RelM Z I L) (k : ∀ I' L' Z', RelC Z' I' L' → RelM Z' I' L' → q_Gs w g 2313 (lvL i) [] (q_mm I' L')) : q_Gs w g 874 (lvL i) [] (q_mm I L) := by
  obtain ⟨v, q1, q2⟩ := q_depth Z (xs (i + 1)) (xs (i + 2))
  obtain ⟨Z1, eZ⟩ : ∃ Z1, Z1 = Z := ⟨_, rfl⟩
  rw [← eZ] at hc hm q1 q2
  obtain ⟨I1, L1, c1, r1, f1⟩ := q1 I L hc
  obtain ⟨I2, L2, c2, r2, f2⟩ := q2 I1 L1 (RelM_hi f1 hm)
  refine g_aload_n K 1 dL_law_874 rfl ?_
  refine g_arg K hs (j := 1) rfl (by omega) dL_law_875 dL_law_876 dL_law_877 dL_law_878 dL_law_879 ?_
  refine g_arg K hs (j := 2) rfl (by omega) dL_law_880 dL_law_881 dL_law_882 dL_law_883 dL_law_884 ?_
  refine h_callV K (st := []) [.int (xs (i + 1)), .int (xs (i + 2))] (c1 w (gl g)) q_clX11 lyp_0 rfl ok_X11_depth ml_L_98 ⟨Nat.le_of_ble_eq_true rfl, Nat.le_of_ble_eq_true rfl⟩ (Nat.le_of_ble_eq_true rfl) dL_law_885 ?_
  refine g_aload_n K 2 dL_law_888 rfl ?_
  refine g_arg K hs (j := 1) rfl (by omega) dL_law_889 dL_law_890 dL_law_891 dL_law_892 dL_law_893 ?_
  refine g_arg K hs (j := 2) rfl (by omega) dL_law_894 dL_law_895 dL_law_896 dL_law_897 dL_law_898 ?_
  refine h_callV K (st := [.int v]) [.int (xs (i + 1)), .int (xs (i + 2))] (c2 w (gl g)) q_clX12 lyp_96 rfl ok_X12_depth ml_L_101 ⟨Nat.le_of_ble_eq_true rfl, Nat.le_of_ble_eq_true rfl⟩ (Nat.le_of_ble_eq_true rfl) dL_law_899 ?_
  exact g_icmp_eq K 2313 dL_law_902 (by decide) (fun _ => k I2 L2 Z1 (RelC_lo f2 r1) r2) (fun z => absurd rfl z)
/-- longest -/
theorem lc_21 (K : q_Ok w g (kL nm) q_NT) (hs : q_Sc w g b N xs) (hi : i + 6 ≤ N) (hc : RelC Z I L) (hm : RelM Z I L) (k : ∀ I' L' Z', RelC Z' I' L' → RelM Z' I' L' → q_Gs w g 2313 (lvL i) [] (q_mm I' L')) : q_Gs w g 907 (lvL i) [] (q_mm I L) := by
  obtain ⟨v, q1, q2⟩ := q_longest Z (xs (i + 1))
  obtain ⟨Z1, eZ⟩ : ∃ Z1, Z1 = Z := ⟨_, rfl⟩
  rw [← eZ] at hc hm q1 q2
  obtain ⟨I1, L1, c1, r1, f1⟩ := q1 I L hc
  obtain ⟨I2, L2, c2, r2, f2⟩ := q2 I1 L1 (RelM_hi f1 hm)
  refine g_aload_n K 1 dL_law_907 rfl ?_
  refine g_arg K hs (j := 1) rfl (by omega) dL_law_908 dL_law_909 dL_law_910 dL_law_911 dL_law_912 ?_
  refine h_callV K (st := []) [.int (xs (i + 1))] (c1 w (gl g)) q_clX11 lyp_0 rfl ok_X11_longest ml_L_102 ⟨Nat.le_of_ble_eq_true rfl, Nat.le_of_ble_eq_true rfl⟩ (Nat.le_of_ble_eq_true rfl) dL_law_913 ?_
  refine g_aload_n K 2 dL_law_916 rfl ?_
  refine g_arg K hs (j := 1) rfl (by omega) dL_law_917 dL_law_918 dL_law_919 dL_law_920 dL_law_921 ?_
  refine h_callV K (st := [.int v]) [.int (xs (i + 1))] (c2 w (gl g)) q_clX12 lyp_96 rfl ok_X12_longest ml_L_105 ⟨Nat.le_of_ble_eq_true rfl, Nat.le_of_ble_eq_true rfl⟩ (Nat.le_of_ble_eq_true rfl) dL_law_922 ?_
  exact g_icmp_eq K 2313 dL_law_925 (by decide) (fun _ => k I2 L2 Z1 (RelC_lo f2 r1) r2) (fun z => absurd rfl z)
/-- shortest -/
theorem lc_22 (K : q_Ok w g (kL nm) q_NT) (hs : q_Sc w g b N xs) (hi : i + 6 ≤ N) (hc : RelC Z I L) (hm : RelM Z I L) (k : ∀ I' L' Z', RelC Z' I' L' → RelM Z' I' L' → q_Gs w g 2313 (lvL i) [] (q_mm I' L')) : q_Gs w g 930 (lvL i) [] (q_mm I L) := by
  obtain ⟨v, q1, q2⟩ := q_shortest Z (xs (i + 1))
  obtain ⟨Z1, eZ⟩ : ∃ Z1, Z1 = Z := ⟨_, rfl⟩
  rw [← eZ] at hc hm q1 q2
  obtain ⟨I1, L1, c1, r1, f1⟩ := q1 I L hc
  obtain ⟨I2, L2, c2, r2, f2⟩ := q2 I1 L1 (RelM_hi f1 hm)
  refine g_aload_n K 1 dL_law_930 rfl ?_
  refine g_arg K hs (j := 1) rfl (by omega) dL_law_931 dL_law_932 dL_law_933 dL_law_934 dL_law_935 ?_
  refine h_callV K (st := []) [.int (xs (i + 1))] (c1 w (gl g)) q_clX11 lyp_0 rfl ok_X11_shortest ml_L_106 ⟨Nat.le_of_ble_eq_true rfl, Nat.le_of_ble_eq_true rfl⟩ (Nat.le_of_ble_eq_true rfl) dL_law_936 ?_
  refine g_aload_n K 2 dL_law_939 rfl ?_
  refine g_arg K hs (j := 1) rfl (by omega) dL_law_940 dL_law_941 dL_law_942 dL_law_943 dL_law_944 ?_
  refine h_callV K (st := [.int v]) [.int (xs (i + 1))] (c2 w (gl g)) q_clX12 lyp_96 rfl ok_X12_shortest ml_L_109 ⟨Nat.le_of_ble_eq_true rfl, Nat.le_of_ble_eq_true rfl⟩ (Nat.le_of_ble_eq_true rfl) dL_law_945 ?_
  exact g_icmp_eq K 2313 dL_law_948 (by decide) (fun _ => k I2 L2 Z1 (RelC_lo f2 r1) r2) (fun z => absurd rfl z)
/-- words -/
theorem lc_23 (K : q_Ok w g (kL nm) q_NT) (hs : q_Sc w g b N xs) (hi : i + 6 ≤ N) (hc : RelC Z I L) (hm : RelM Z I L) (k : ∀ I' L' Z', RelC Z' I' L' → RelM Z' I' L' → q_Gs w g 2313 (lvL i) [] (q_mm I' L')) : q_Gs w g 953 (lvL i) [] (q_mm I L) := by
  obtain ⟨v, q1, q2⟩ := q_words Z (xs (i + 1))
  obtain ⟨Z1, eZ⟩ : ∃ Z1, Z1 = Z := ⟨_, rfl⟩
  rw [← eZ] at hc hm q1 q2
  obtain ⟨I1, L1, c1, r1, f1⟩ := q1 I L hc
  obtain ⟨I2, L2, c2, r2, f2⟩ := q2 I1 L1 (RelM_hi f1 hm)
  refine g_aload_n K 1 dL_law_953 rfl ?_
  refine g_arg K hs (j := 1) rfl (by omega) dL_law_954 dL_law_955 dL_law_956 dL_law_957 dL_law_958 ?_
  refine h_callV K (st := []) [.int (xs (i + 1))] (c1 w (gl g)) q_clX11 lyp_0 rfl ok_X11_words ml_L_110 ⟨Nat.le_of_ble_eq_true rfl, Nat.le_of_ble_eq_true rfl⟩ (Nat.le_of_ble_eq_true rfl) dL_law_959 ?_
  refine g_aload_n K 2 dL_law_962 rfl ?_
  refine g_arg K hs (j := 1) rfl (by omega) dL_law_963 dL_law_964 dL_law_965 dL_law_966 dL_law_967 ?_
  refine h_callV K (st := [.int v]) [.int (xs (i + 1))] (c2 w (gl g)) q_clX12 lyp_96 rfl ok_X12_words ml_L_113 ⟨Nat.le_of_ble_eq_true rfl, Nat.le_of_ble_eq_true rfl⟩ (Nat.le_of_ble_eq_true rfl) dL_law_968 ?_
  exact g_icmp_eq K 2313 dL_law_971 (by decide) (fun _ => k I2 L2 Z1 (RelC_lo f2 r1) r2) (fun z => absurd rfl z)
/-- turned -/
theorem lc_24 (K : q_Ok w g (kL nm) q_NT) (hs : q_Sc w g b N xs) (hi : i + 6 ≤ N) (hc : RelC Z I L) (hm : RelM Z I L) (k : ∀ I' L' Z', RelC Z' I' L' → RelM Z' I' L' → q_Gs w g 2313 (lvL i) [] (q_mm I' L')) : q_Gs w g 976 (lvL i) [] (q_mm I L) := by
  obtain ⟨v, q1, q2⟩ := q_turned Z (xs (i + 1))
  obtain ⟨Z1, eZ⟩ : ∃ Z1, Z1 = Z := ⟨_, rfl⟩
  rw [← eZ] at hc hm q1 q2
  obtain ⟨I1, L1, c1, r1, f1⟩ := q1 I L hc
  obtain ⟨I2, L2, c2, r2, f2⟩ := q2 I1 L1 (RelM_hi f1 hm)
  refine g_aload_n K 1 dL_law_976 rfl ?_
  refine g_arg K hs (j := 1) rfl (by omega) dL_law_977 dL_law_978 dL_law_979 dL_law_980 dL_law_981 ?_
  refine h_callV K (st := []) [.int (xs (i + 1))] (c1 w (gl g)) q_clX11 lyp_0 rfl ok_X11_turned ml_L_114 ⟨Nat.le_of_ble_eq_true rfl, Nat.le_of_ble_eq_true rfl⟩ (Nat.le_of_ble_eq_true rfl) dL_law_982 ?_
  refine g_aload_n K 2 dL_law_985 rfl ?_
  refine g_arg K hs (j := 1) rfl (by omega) dL_law_986 dL_law_987 dL_law_988 dL_law_989 dL_law_990 ?_
  refine h_callV K (st := [.int v]) [.int (xs (i + 1))] (c2 w (gl g)) q_clX12 lyp_96 rfl ok_X12_turned ml_L_117 ⟨Nat.le_of_ble_eq_true rfl, Nat.le_of_ble_eq_true rfl⟩ (Nat.le_of_ble_eq_true rfl) dL_law_991 ?_
  exact g_icmp_eq K 2313 dL_law_994 (by decide) (fun _ => k I2 L2 Z1 (RelC_lo f2 r1) r2) (fun z => absurd rfl z)
/-- spoken -/
theorem lc_25 (K : q_Ok w g (kL nm) q_NT) (hs : q_Sc w g b N xs) (hi : i + 6 ≤ N) (hc : RelC Z I L) (hm : RelM Z I L) (k : ∀ I' L' Z', RelC Z' I' L' → RelM Z' I' L' → q_Gs w g 2313 (lvL i) [] (q_mm I' L')) : q_Gs w g 999 (lvL i) [] (q_mm I L) := by
  obtain ⟨v, q1, q2⟩ := q_spoken Z (xs (i + 1)) (xs (i + 2))
  obtain ⟨Z1, eZ⟩ : ∃ Z1, Z1 = Z := ⟨_, rfl⟩
  rw [← eZ] at hc hm q1 q2
  obtain ⟨I1, L1, c1, r1, f1⟩ := q1 I L hc
  obtain ⟨I2, L2, c2, r2, f2⟩ := q2 I1 L1 (RelM_hi f1 hm)
  refine g_aload_n K 1 dL_law_999 rfl ?_
  refine g_arg K hs (j := 1) rfl (by omega) dL_law_1000 dL_law_1001 dL_law_1002 dL_law_1003 dL_law_1004 ?_
  refine g_arg K hs (j := 2) rfl (by omega) dL_law_1005 dL_law_1006 dL_law_1007 dL_law_1008 dL_law_1009 ?_
  refine h_callV K (st := []) [.int (xs (i + 1)), .int (xs (i + 2))] (c1 w (gl g)) q_clX11 lyp_0 rfl ok_X11_spoken ml_L_118 ⟨Nat.le_of_ble_eq_true rfl, Nat.le_of_ble_eq_true rfl⟩ (Nat.le_of_ble_eq_true rfl) dL_law_1010 ?_
  refine g_aload_n K 2 dL_law_1013 rfl ?_
  refine g_arg K hs (j := 1) rfl (by omega) dL_law_1014 dL_law_1015 dL_law_1016 dL_law_1017 dL_law_1018 ?_
  refine g_arg K hs (j := 2) rfl (by omega) dL_law_1019 dL_law_1020 dL_law_1021 dL_law_1022 dL_law_1023 ?_
  refine h_callV K (st := [.int v]) [.int (xs (i + 1)), .int (xs (i + 2))] (c2 w (gl g)) q_clX12 lyp_96 rfl ok_X12_spoken ml_L_121 ⟨Nat.le_of_ble_eq_true rfl, Nat.le_of_ble_eq_true rfl⟩ (Nat.le_of_ble_eq_true rfl) dL_law_1024 ?_
  exact g_icmp_eq K 2313 dL_law_1027 (by decide) (fun _ => k I2 L2 Z1 (RelC_lo f2 r1) r2) (fun z => absurd rfl z)
/-- taught -/
theorem lc_26 (K : q_Ok w g (kL nm) q_NT) (hs : q_Sc w g b N xs) (hi : i + 6 ≤ N) (hc : RelC Z I L) (hm : RelM Z I L) (k : ∀ I' L' Z', RelC Z' I' L' → RelM Z' I' L' → q_Gs w g 2313 (lvL i) [] (q_mm I' L')) : q_Gs w g 1032 (lvL i) [] (q_mm I L) := by
  obtain ⟨v, q1, q2⟩ := q_taught Z (xs (i + 1))
  obtain ⟨Z1, eZ⟩ : ∃ Z1, Z1 = Z := ⟨_, rfl⟩
  rw [← eZ] at hc hm q1 q2
  obtain ⟨I1, L1, c1, r1, f1⟩ := q1 I L hc
  obtain ⟨I2, L2, c2, r2, f2⟩ := q2 I1 L1 (RelM_hi f1 hm)
  refine g_aload_n K 1 dL_law_1032 rfl ?_
  refine g_arg K hs (j := 1) rfl (by omega) dL_law_1033 dL_law_1034 dL_law_1035 dL_law_1036 dL_law_1037 ?_
  refine h_callV K (st := []) [.int (xs (i + 1))] (c1 w (gl g)) q_clX11 lyp_0 rfl ok_X11_taught ml_L_122 ⟨Nat.le_of_ble_eq_true rfl, Nat.le_of_ble_eq_true rfl⟩ (Nat.le_of_ble_eq_true rfl) dL_law_1038 ?_
  refine g_aload_n K 2 dL_law_1041 rfl ?_
  refine g_arg K hs (j := 1) rfl (by omega) dL_law_1042 dL_law_1043 dL_law_1044 dL_law_1045 dL_law_1046 ?_
  refine h_callV K (st := [.int v]) [.int (xs (i + 1))] (c2 w (gl g)) q_clX12 lyp_96 rfl ok_X12_taught ml_L_125 ⟨Nat.le_of_ble_eq_true rfl, Nat.le_of_ble_eq_true rfl⟩ (Nat.le_of_ble_eq_true rfl) dL_law_1047 ?_
  exact g_icmp_eq K 2313 dL_law_1050 (by decide) (fun _ => k I2 L2 Z1 (RelC_lo f2 r1) r2) (fun z => absurd rfl z)
/-- deepest -/
theorem lc_27 (K : q_Ok w g (kL nm) q_NT) (hs : q_Sc w g b N xs) (hi : i + 6 ≤ N) (hc : RelC Z I L) (hm : RelM Z I L) (k : ∀ I' L' Z', RelC Z' I' L' → RelM Z' I' L' → q_Gs w g 2313 (lvL i) [] (q_mm I' L')) : q_Gs w g 1055 (lvL i) [] (q_mm I L) := by
  obtain ⟨v, q1, q2⟩ := q_deepest Z 
  obtain ⟨Z1, eZ⟩ : ∃ Z1, Z1 = Z := ⟨_, rfl⟩
  rw [← eZ] at hc hm q1 q2
  obtain ⟨I1, L1, c1, r1, f1⟩ := q1 I L hc
  obtain ⟨I2, L2, c2, r2, f2⟩ := q2 I1 L1 (RelM_hi f1 hm)
  refine g_aload_n K 1 dL_law_1055 rfl ?_
  refine h_callV K (st := []) [] (c1 w (gl g)) q_clX11 lyp_0 rfl ok_X11_deepest ml_L_126 ⟨Nat.le_of_ble_eq_true rfl, Nat.le_of_ble_eq_true rfl⟩ (Nat.le_of_ble_eq_true rfl) dL_law_1056 ?_
  refine g_aload_n K 2 dL_law_1059 rfl ?_
  refine h_callV K (st := [.int v]) [] (c2 w (gl g)) q_clX12 lyp_96 rfl ok_X12_deepest ml_L_129 ⟨Nat.le_of_ble_eq_true rfl, Nat.le_of_ble_eq_true rfl⟩ (Nat.le_of_ble_eq_true rfl) dL_law_1060 ?_
  exact g_icmp_eq K 2313 dL_law_1063 (by decide) (fun _ => k I2 L2 Z1 (RelC_lo f2 r1) r2) (fun z => absurd rfl z)
/-- fresh -/
theorem lc_28 (K : q_Ok w g (kL nm) q_NT) (hs : q_Sc w g b N xs) (hi : i + 6 ≤ N) (hc : RelC Z I L) (hm : RelM Z I L) (k : ∀ I' L' Z', RelC Z' I' L' → RelM Z' I' L' → q_Gs w g 2313 (lvL i) [] (q_mm I' L')) : q_Gs w g 1068 (lvL i) [] (q_mm I L) := by
  obtain ⟨v, q1, q2⟩ := q_fresh Z (xs (i + 1))
  obtain ⟨Z1, eZ⟩ : ∃ Z1, Z1 = Z := ⟨_, rfl⟩
  rw [← eZ] at hc hm q1 q2
  obtain ⟨I1, L1, c1, r1, f1⟩ := q1 I L hc
  obtain ⟨I2, L2, c2, r2, f2⟩ := q2 I1 L1 (RelM_hi f1 hm)
  refine g_aload_n K 1 dL_law_1068 rfl ?_
  refine g_arg K hs (j := 1) rfl (by omega) dL_law_1069 dL_law_1070 dL_law_1071 dL_law_1072 dL_law_1073 ?_
  refine h_callV K (st := []) [.int (xs (i + 1))] (c1 w (gl g)) q_clX11 lyp_0 rfl ok_X11_fresh ml_L_130 ⟨Nat.le_of_ble_eq_true rfl, Nat.le_of_ble_eq_true rfl⟩ (Nat.le_of_ble_eq_true rfl) dL_law_1074 ?_
  refine g_aload_n K 2 dL_law_1077 rfl ?_
  refine g_arg K hs (j := 1) rfl (by omega) dL_law_1078 dL_law_1079 dL_law_1080 dL_law_1081 dL_law_1082 ?_
  refine h_callV K (st := [.int v]) [.int (xs (i + 1))] (c2 w (gl g)) q_clX12 lyp_96 rfl ok_X12_fresh ml_L_133 ⟨Nat.le_of_ble_eq_true rfl, Nat.le_of_ble_eq_true rfl⟩ (Nat.le_of_ble_eq_true rfl) dL_law_1083 ?_
  exact g_icmp_eq K 2313 dL_law_1086 (by decide) (fun _ => k I2 L2 Z1 (RelC_lo f2 r1) r2) (fun z => absurd rfl z)
/-- gone -/
theorem lc_29 (K : q_Ok w g (kL nm) q_NT) (hs : q_Sc w g b N xs) (hi : i + 6 ≤ N) (hc : RelC Z I L) (hm : RelM Z I L) (k : ∀ I' L' Z', RelC Z' I' L' → RelM Z' I' L' → q_Gs w g 2313 (lvL i) [] (q_mm I' L')) : q_Gs w g 1091 (lvL i) [] (q_mm I L) := by
  obtain ⟨v, q1, q2⟩ := q_gone Z (xs (i + 1))
  obtain ⟨Z1, eZ⟩ : ∃ Z1, Z1 = Z := ⟨_, rfl⟩
  rw [← eZ] at hc hm q1 q2
  obtain ⟨I1, L1, c1, r1, f1⟩ := q1 I L hc
  obtain ⟨I2, L2, c2, r2, f2⟩ := q2 I1 L1 (RelM_hi f1 hm)
  refine g_aload_n K 1 dL_law_1091 rfl ?_
  refine g_arg K hs (j := 1) rfl (by omega) dL_law_1092 dL_law_1093 dL_law_1094 dL_law_1095 dL_law_1096 ?_
  refine h_callV K (st := []) [.int (xs (i + 1))] (c1 w (gl g)) q_clX11 lyp_0 rfl ok_X11_gone ml_L_134 ⟨Nat.le_of_ble_eq_true rfl, Nat.le_of_ble_eq_true rfl⟩ (Nat.le_of_ble_eq_true rfl) dL_law_1097 ?_
  refine g_aload_n K 2 dL_law_1100 rfl ?_
  refine g_arg K hs (j := 1) rfl (by omega) dL_law_1101 dL_law_1102 dL_law_1103 dL_law_1104 dL_law_1105 ?_
  refine h_callV K (st := [.int v]) [.int (xs (i + 1))] (c2 w (gl g)) q_clX12 lyp_96 rfl ok_X12_gone ml_L_137 ⟨Nat.le_of_ble_eq_true rfl, Nat.le_of_ble_eq_true rfl⟩ (Nat.le_of_ble_eq_true rfl) dL_law_1106 ?_
  exact g_icmp_eq K 2313 dL_law_1109 (by decide) (fun _ => k I2 L2 Z1 (RelC_lo f2 r1) r2) (fun z => absurd rfl z)
/-- hears -/
theorem lc_30 (K : q_Ok w g (kL nm) q_NT) (hs : q_Sc w g b N xs) (hi : i + 6 ≤ N) (hc : RelC Z I L) (hm : RelM Z I L) (k : ∀ I' L' Z', RelC Z' I' L' → RelM Z' I' L' → q_Gs w g 2313 (lvL i) [] (q_mm I' L')) : q_Gs w g 1114 (lvL i) [] (q_mm I L) := by
  obtain ⟨v, q1, q2⟩ := q_hears Z (xs (i + 1)) (xs (i + 2)) (xs (i + 3))
  obtain ⟨Z1, eZ⟩ : ∃ Z1, Z1 = Z := ⟨_, rfl⟩
  rw [← eZ] at hc hm q1 q2
  obtain ⟨I1, L1, c1, r1, f1⟩ := q1 I L hc
  obtain ⟨I2, L2, c2, r2, f2⟩ := q2 I1 L1 (RelM_hi f1 hm)
  refine g_aload_n K 1 dL_law_1114 rfl ?_
  refine g_arg K hs (j := 1) rfl (by omega) dL_law_1115 dL_law_1116 dL_law_1117 dL_law_1118 dL_law_1119 ?_
  refine g_arg K hs (j := 2) rfl (by omega) dL_law_1120 dL_law_1121 dL_law_1122 dL_law_1123 dL_law_1124 ?_
  refine g_arg K hs (j := 3) rfl (by omega) dL_law_1125 dL_law_1126 dL_law_1127 dL_law_1128 dL_law_1129 ?_
  refine h_callV K (st := []) [.int (xs (i + 1)), .int (xs (i + 2)), .int (xs (i + 3))] (c1 w (gl g)) q_clX11 lyp_0 rfl ok_X11_hears ml_L_138 ⟨Nat.le_of_ble_eq_true rfl, Nat.le_of_ble_eq_true rfl⟩ (Nat.le_of_ble_eq_true rfl) dL_law_1130 ?_
  refine g_aload_n K 2 dL_law_1133 rfl ?_
  refine g_arg K hs (j := 1) rfl (by omega) dL_law_1134 dL_law_1135 dL_law_1136 dL_law_1137 dL_law_1138 ?_
  refine g_arg K hs (j := 2) rfl (by omega) dL_law_1139 dL_law_1140 dL_law_1141 dL_law_1142 dL_law_1143 ?_
  refine g_arg K hs (j := 3) rfl (by omega) dL_law_1144 dL_law_1145 dL_law_1146 dL_law_1147 dL_law_1148 ?_
  refine h_callV K (st := [.int v]) [.int (xs (i + 1)), .int (xs (i + 2)), .int (xs (i + 3))] (c2 w (gl g)) q_clX12 lyp_96 rfl ok_X12_hears ml_L_141 ⟨Nat.le_of_ble_eq_true rfl, Nat.le_of_ble_eq_true rfl⟩ (Nat.le_of_ble_eq_true rfl) dL_law_1149 ?_
  exact g_icmp_eq K 2313 dL_law_1152 (by decide) (fun _ => k I2 L2 Z1 (RelC_lo f2 r1) r2) (fun z => absurd rfl z)
/-- heard -/
theorem lc_31 (K : q_Ok w g (kL nm) q_NT) (hs : q_Sc w g b N xs) (hi : i + 6 ≤ N) (hc : RelC Z I L) (hm : RelM Z I L) (k : ∀ I' L' Z', RelC Z' I' L' → RelM Z' I' L' → q_Gs w g 2313 (lvL i) [] (q_mm I' L')) : q_Gs w g 1157 (lvL i) [] (q_mm I L) := by
  obtain ⟨v, q1, q2⟩ := q_heard Z (xs (i + 1)) (xs (i + 2)) (xs (i + 3)) (xs (i + 4))
  obtain ⟨Z1, eZ⟩ : ∃ Z1, Z1 = Z := ⟨_, rfl⟩
  rw [← eZ] at hc hm q1 q2
  obtain ⟨I1, L1, c1, r1, f1⟩ := q1 I L hc
  obtain ⟨I2, L2, c2, r2, f2⟩ := q2 I1 L1 (RelM_hi f1 hm)
  refine g_aload_n K 1 dL_law_1157 rfl ?_
  refine g_arg K hs (j := 1) rfl (by omega) dL_law_1158 dL_law_1159 dL_law_1160 dL_law_1161 dL_law_1162 ?_
  refine g_arg K hs (j := 2) rfl (by omega) dL_law_1163 dL_law_1164 dL_law_1165 dL_law_1166 dL_law_1167 ?_
  refine g_arg K hs (j := 3) rfl (by omega) dL_law_1168 dL_law_1169 dL_law_1170 dL_law_1171 dL_law_1172 ?_
  refine g_arg K hs (j := 4) rfl (by omega) dL_law_1173 dL_law_1174 dL_law_1175 dL_law_1176 dL_law_1177 ?_
  refine h_callV K (st := []) [.int (xs (i + 1)), .int (xs (i + 2)), .int (xs (i + 3)), .int (xs (i + 4))] (c1 w (gl g)) q_clX11 lyp_0 rfl ok_X11_heard ml_L_142 ⟨Nat.le_of_ble_eq_true rfl, Nat.le_of_ble_eq_true rfl⟩ (Nat.le_of_ble_eq_true rfl) dL_law_1178 ?_
  refine g_aload_n K 2 dL_law_1181 rfl ?_
  refine g_arg K hs (j := 1) rfl (by omega) dL_law_1182 dL_law_1183 dL_law_1184 dL_law_1185 dL_law_1186 ?_
  refine g_arg K hs (j := 2) rfl (by omega) dL_law_1187 dL_law_1188 dL_law_1189 dL_law_1190 dL_law_1191 ?_
  refine g_arg K hs (j := 3) rfl (by omega) dL_law_1192 dL_law_1193 dL_law_1194 dL_law_1195 dL_law_1196 ?_
  refine g_arg K hs (j := 4) rfl (by omega) dL_law_1197 dL_law_1198 dL_law_1199 dL_law_1200 dL_law_1201 ?_
  refine h_callV K (st := [.int v]) [.int (xs (i + 1)), .int (xs (i + 2)), .int (xs (i + 3)), .int (xs (i + 4))] (c2 w (gl g)) q_clX12 lyp_96 rfl ok_X12_heard ml_L_146 ⟨Nat.le_of_ble_eq_true rfl, Nat.le_of_ble_eq_true rfl⟩ (Nat.le_of_ble_eq_true rfl) dL_law_1202 ?_
  exact g_icmp_eq K 2313 dL_law_1205 (by decide) (fun _ => k I2 L2 Z1 (RelC_lo f2 r1) r2) (fun z => absurd rfl z)
/-- round -/
theorem lc_32 (K : q_Ok w g (kL nm) q_NT) (hs : q_Sc w g b N xs) (hi : i + 6 ≤ N) (hc : RelC Z I L) (hm : RelM Z I L) (k : ∀ I' L' Z', RelC Z' I' L' → RelM Z' I' L' → q_Gs w g 2313 (lvL i) [] (q_mm I' L')) : q_Gs w g 1210 (lvL i) [] (q_mm I L) := by
  obtain ⟨v, q1, q2⟩ := q_round Z (xs (i + 1)) (xs (i + 2)) (xs (i + 3))
  obtain ⟨Z1, eZ⟩ : ∃ Z1, Z1 = Z := ⟨_, rfl⟩
  rw [← eZ] at hc hm q1 q2
  obtain ⟨I1, L1, c1, r1, f1⟩ := q1 I L hc
  obtain ⟨I2, L2, c2, r2, f2⟩ := q2 I1 L1 (RelM_hi f1 hm)
  refine g_aload_n K 1 dL_law_1210 rfl ?_
  refine g_arg K hs (j := 1) rfl (by omega) dL_law_1211 dL_law_1212 dL_law_1213 dL_law_1214 dL_law_1215 ?_
  refine g_arg K hs (j := 2) rfl (by omega) dL_law_1216 dL_law_1217 dL_law_1218 dL_law_1219 dL_law_1220 ?_
  refine g_arg K hs (j := 3) rfl (by omega) dL_law_1221 dL_law_1222 dL_law_1223 dL_law_1224 dL_law_1225 ?_
  refine h_callV K (st := []) [.int (xs (i + 1)), .int (xs (i + 2)), .int (xs (i + 3))] (c1 w (gl g)) q_clX11 lyp_0 rfl ok_X11_round ml_L_147 ⟨Nat.le_of_ble_eq_true rfl, Nat.le_of_ble_eq_true rfl⟩ (Nat.le_of_ble_eq_true rfl) dL_law_1226 ?_
  refine g_aload_n K 2 dL_law_1229 rfl ?_
  refine g_arg K hs (j := 1) rfl (by omega) dL_law_1230 dL_law_1231 dL_law_1232 dL_law_1233 dL_law_1234 ?_
  refine g_arg K hs (j := 2) rfl (by omega) dL_law_1235 dL_law_1236 dL_law_1237 dL_law_1238 dL_law_1239 ?_
  refine g_arg K hs (j := 3) rfl (by omega) dL_law_1240 dL_law_1241 dL_law_1242 dL_law_1243 dL_law_1244 ?_
  refine h_callV K (st := [.int v]) [.int (xs (i + 1)), .int (xs (i + 2)), .int (xs (i + 3))] (c2 w (gl g)) q_clX12 lyp_96 rfl ok_X12_round ml_L_150 ⟨Nat.le_of_ble_eq_true rfl, Nat.le_of_ble_eq_true rfl⟩ (Nat.le_of_ble_eq_true rfl) dL_law_1245 ?_
  exact g_icmp_eq K 2313 dL_law_1248 (by decide) (fun _ => k I2 L2 Z1 (RelC_lo f2 r1) r2) (fun z => absurd rfl z)
/-- first -/
theorem lc_33 (K : q_Ok w g (kL nm) q_NT) (hs : q_Sc w g b N xs) (hi : i + 6 ≤ N) (hc : RelC Z I L) (hm : RelM Z I L) (k : ∀ I' L' Z', RelC Z' I' L' → RelM Z' I' L' → q_Gs w g 2313 (lvL i) [] (q_mm I' L')) : q_Gs w g 1253 (lvL i) [] (q_mm I L) := by
  obtain ⟨v, q1, q2⟩ := q_first Z (xs (i + 1)) (xs (i + 2)) (xs (i + 3))
  obtain ⟨Z1, eZ⟩ : ∃ Z1, Z1 = Z := ⟨_, rfl⟩
  rw [← eZ] at hc hm q1 q2
  obtain ⟨I1, L1, c1, r1, f1⟩ := q1 I L hc
  obtain ⟨I2, L2, c2, r2, f2⟩ := q2 I1 L1 (RelM_hi f1 hm)
  refine g_aload_n K 1 dL_law_1253 rfl ?_
  refine g_arg K hs (j := 1) rfl (by omega) dL_law_1254 dL_law_1255 dL_law_1256 dL_law_1257 dL_law_1258 ?_
  refine g_arg K hs (j := 2) rfl (by omega) dL_law_1259 dL_law_1260 dL_law_1261 dL_law_1262 dL_law_1263 ?_
  refine g_arg K hs (j := 3) rfl (by omega) dL_law_1264 dL_law_1265 dL_law_1266 dL_law_1267 dL_law_1268 ?_
  refine h_callV K (st := []) [.int (xs (i + 1)), .int (xs (i + 2)), .int (xs (i + 3))] (c1 w (gl g)) q_clX11 lyp_0 rfl ok_X11_first ml_L_151 ⟨Nat.le_of_ble_eq_true rfl, Nat.le_of_ble_eq_true rfl⟩ (Nat.le_of_ble_eq_true rfl) dL_law_1269 ?_
  refine g_aload_n K 2 dL_law_1272 rfl ?_
  refine g_arg K hs (j := 1) rfl (by omega) dL_law_1273 dL_law_1274 dL_law_1275 dL_law_1276 dL_law_1277 ?_
  refine g_arg K hs (j := 2) rfl (by omega) dL_law_1278 dL_law_1279 dL_law_1280 dL_law_1281 dL_law_1282 ?_
  refine g_arg K hs (j := 3) rfl (by omega) dL_law_1283 dL_law_1284 dL_law_1285 dL_law_1286 dL_law_1287 ?_
  refine h_callV K (st := [.int v]) [.int (xs (i + 1)), .int (xs (i + 2)), .int (xs (i + 3))] (c2 w (gl g)) q_clX12 lyp_96 rfl ok_X12_first ml_L_154 ⟨Nat.le_of_ble_eq_true rfl, Nat.le_of_ble_eq_true rfl⟩ (Nat.le_of_ble_eq_true rfl) dL_law_1288 ?_
  exact g_icmp_eq K 2313 dL_law_1291 (by decide) (fun _ => k I2 L2 Z1 (RelC_lo f2 r1) r2) (fun z => absurd rfl z)
/-- letter -/
theorem lc_34 (K : q_Ok w g (kL nm) q_NT) (hs : q_Sc w g b N xs) (hi : i + 6 ≤ N) (hc : RelC Z I L) (hm : RelM Z I L) (k : ∀ I' L' Z', RelC Z' I' L' → RelM Z' I' L' → q_Gs w g 2313 (lvL i) [] (q_mm I' L')) : q_Gs w g 1296 (lvL i) [] (q_mm I L) := by
  obtain ⟨v, q1, q2⟩ := q_letter Z (xs (i + 1)) (xs (i + 2)) (xs (i + 3)) (xs (i + 4))
  obtain ⟨Z1, eZ⟩ : ∃ Z1, Z1 = Z := ⟨_, rfl⟩
  rw [← eZ] at hc hm q1 q2
  obtain ⟨I1, L1, c1, r1, f1⟩ := q1 I L hc
  obtain ⟨I2, L2, c2, r2, f2⟩ := q2 I1 L1 (RelM_hi f1 hm)
  refine g_aload_n K 1 dL_law_1296 rfl ?_
  refine g_arg K hs (j := 1) rfl (by omega) dL_law_1297 dL_law_1298 dL_law_1299 dL_law_1300 dL_law_1301 ?_
  refine g_arg K hs (j := 2) rfl (by omega) dL_law_1302 dL_law_1303 dL_law_1304 dL_law_1305 dL_law_1306 ?_
  refine g_arg K hs (j := 3) rfl (by omega) dL_law_1307 dL_law_1308 dL_law_1309 dL_law_1310 dL_law_1311 ?_
  refine g_arg K hs (j := 4) rfl (by omega) dL_law_1312 dL_law_1313 dL_law_1314 dL_law_1315 dL_law_1316 ?_
  refine h_callV K (st := []) [.int (xs (i + 1)), .int (xs (i + 2)), .int (xs (i + 3)), .int (xs (i + 4))] (c1 w (gl g)) q_clX11 lyp_0 rfl ok_X11_letter ml_L_155 ⟨Nat.le_of_ble_eq_true rfl, Nat.le_of_ble_eq_true rfl⟩ (Nat.le_of_ble_eq_true rfl) dL_law_1317 ?_
  refine g_aload_n K 2 dL_law_1320 rfl ?_
  refine g_arg K hs (j := 1) rfl (by omega) dL_law_1321 dL_law_1322 dL_law_1323 dL_law_1324 dL_law_1325 ?_
  refine g_arg K hs (j := 2) rfl (by omega) dL_law_1326 dL_law_1327 dL_law_1328 dL_law_1329 dL_law_1330 ?_
  refine g_arg K hs (j := 3) rfl (by omega) dL_law_1331 dL_law_1332 dL_law_1333 dL_law_1334 dL_law_1335 ?_
  refine g_arg K hs (j := 4) rfl (by omega) dL_law_1336 dL_law_1337 dL_law_1338 dL_law_1339 dL_law_1340 ?_
  refine h_callV K (st := [.int v]) [.int (xs (i + 1)), .int (xs (i + 2)), .int (xs (i + 3)), .int (xs (i + 4))] (c2 w (gl g)) q_clX12 lyp_96 rfl ok_X12_letter ml_L_158 ⟨Nat.le_of_ble_eq_true rfl, Nat.le_of_ble_eq_true rfl⟩ (Nat.le_of_ble_eq_true rfl) dL_law_1341 ?_
  exact g_icmp_eq K 2313 dL_law_1344 (by decide) (fun _ => k I2 L2 Z1 (RelC_lo f2 r1) r2) (fun z => absurd rfl z)
/-- ways -/
theorem lc_35 (K : q_Ok w g (kL nm) q_NT) (hs : q_Sc w g b N xs) (hi : i + 6 ≤ N) (hc : RelC Z I L) (hm : RelM Z I L) (k : ∀ I' L' Z', RelC Z' I' L' → RelM Z' I' L' → q_Gs w g 2313 (lvL i) [] (q_mm I' L')) : q_Gs w g 1349 (lvL i) [] (q_mm I L) := by
  obtain ⟨v, q1, q2⟩ := q_ways Z (xs (i + 1)) (xs (i + 2)) (xs (i + 3))
  obtain ⟨Z1, eZ⟩ : ∃ Z1, Z1 = Z := ⟨_, rfl⟩
  rw [← eZ] at hc hm q1 q2
  obtain ⟨I1, L1, c1, r1, f1⟩ := q1 I L hc
  obtain ⟨I2, L2, c2, r2, f2⟩ := q2 I1 L1 (RelM_hi f1 hm)
  refine g_aload_n K 1 dL_law_1349 rfl ?_
  refine g_arg K hs (j := 1) rfl (by omega) dL_law_1350 dL_law_1351 dL_law_1352 dL_law_1353 dL_law_1354 ?_
  refine g_arg K hs (j := 2) rfl (by omega) dL_law_1355 dL_law_1356 dL_law_1357 dL_law_1358 dL_law_1359 ?_
  refine g_arg K hs (j := 3) rfl (by omega) dL_law_1360 dL_law_1361 dL_law_1362 dL_law_1363 dL_law_1364 ?_
  refine h_callV K (st := []) [.int (xs (i + 1)), .int (xs (i + 2)), .int (xs (i + 3))] (c1 w (gl g)) q_clX11 lyp_0 rfl ok_X11_ways ml_L_159 ⟨Nat.le_of_ble_eq_true rfl, Nat.le_of_ble_eq_true rfl⟩ (Nat.le_of_ble_eq_true rfl) dL_law_1365 ?_
  refine g_aload_n K 2 dL_law_1368 rfl ?_
  refine g_arg K hs (j := 1) rfl (by omega) dL_law_1369 dL_law_1370 dL_law_1371 dL_law_1372 dL_law_1373 ?_
  refine g_arg K hs (j := 2) rfl (by omega) dL_law_1374 dL_law_1375 dL_law_1376 dL_law_1377 dL_law_1378 ?_
  refine g_arg K hs (j := 3) rfl (by omega) dL_law_1379 dL_law_1380 dL_law_1381 dL_law_1382 dL_law_1383 ?_
  refine h_callV K (st := [.int v]) [.int (xs (i + 1)), .int (xs (i + 2)), .int (xs (i + 3))] (c2 w (gl g)) q_clX12 lyp_96 rfl ok_X12_ways ml_L_162 ⟨Nat.le_of_ble_eq_true rfl, Nat.le_of_ble_eq_true rfl⟩ (Nat.le_of_ble_eq_true rfl) dL_law_1384 ?_
  exact g_icmp_eq K 2313 dL_law_1387 (by decide) (fun _ => k I2 L2 Z1 (RelC_lo f2 r1) r2) (fun z => absurd rfl z)
/-- best -/
theorem lc_36 (K : q_Ok w g (kL nm) q_NT) (hs : q_Sc w g b N xs) (hi : i + 6 ≤ N) (hc : RelC Z I L) (hm : RelM Z I L) (k : ∀ I' L' Z', RelC Z' I' L' → RelM Z' I' L' → q_Gs w g 2313 (lvL i) [] (q_mm I' L')) : q_Gs w g 1392 (lvL i) [] (q_mm I L) := by
  obtain ⟨v, q1, q2⟩ := q_best Z 
  obtain ⟨Z1, eZ⟩ : ∃ Z1, Z1 = Z := ⟨_, rfl⟩
  rw [← eZ] at hc hm q1 q2
  obtain ⟨I1, L1, c1, r1, f1⟩ := q1 I L hc
  obtain ⟨I2, L2, c2, r2, f2⟩ := q2 I1 L1 (RelM_hi f1 hm)
  refine g_aload_n K 1 dL_law_1392 rfl ?_
  refine h_callV K (st := []) [] (c1 w (gl g)) q_clX11 lyp_0 rfl ok_X11_best ml_L_163 ⟨Nat.le_of_ble_eq_true rfl, Nat.le_of_ble_eq_true rfl⟩ (Nat.le_of_ble_eq_true rfl) dL_law_1393 ?_
  refine g_aload_n K 2 dL_law_1396 rfl ?_
  refine h_callV K (st := [.int v]) [] (c2 w (gl g)) q_clX12 lyp_96 rfl ok_X12_best ml_L_166 ⟨Nat.le_of_ble_eq_true rfl, Nat.le_of_ble_eq_true rfl⟩ (Nat.le_of_ble_eq_true rfl) dL_law_1397 ?_
  exact g_icmp_eq K 2313 dL_law_1400 (by decide) (fun _ => k I2 L2 Z1 (RelC_lo f2 r1) r2) (fun z => absurd rfl z)
/-- worth -/
theorem lc_37 (K : q_Ok w g (kL nm) q_NT) (hs : q_Sc w g b N xs) (hi : i + 6 ≤ N) (hc : RelC Z I L) (hm : RelM Z I L) (k : ∀ I' L' Z', RelC Z' I' L' → RelM Z' I' L' → q_Gs w g 2313 (lvL i) [] (q_mm I' L')) : q_Gs w g 1405 (lvL i) [] (q_mm I L) := by
  obtain ⟨v, q1, q2⟩ := q_worth Z (xs (i + 1))
  obtain ⟨Z1, eZ⟩ : ∃ Z1, Z1 = Z := ⟨_, rfl⟩
  rw [← eZ] at hc hm q1 q2
  obtain ⟨I1, L1, c1, r1, f1⟩ := q1 I L hc
  obtain ⟨I2, L2, c2, r2, f2⟩ := q2 I1 L1 (RelM_hi f1 hm)
  refine g_aload_n K 1 dL_law_1405 rfl ?_
  refine g_arg K hs (j := 1) rfl (by omega) dL_law_1406 dL_law_1407 dL_law_1408 dL_law_1409 dL_law_1410 ?_
  refine h_callV K (st := []) [.int (xs (i + 1))] (c1 w (gl g)) q_clX11 lyp_0 rfl ok_X11_worth ml_L_167 ⟨Nat.le_of_ble_eq_true rfl, Nat.le_of_ble_eq_true rfl⟩ (Nat.le_of_ble_eq_true rfl) dL_law_1411 ?_
  refine g_aload_n K 2 dL_law_1414 rfl ?_
  refine g_arg K hs (j := 1) rfl (by omega) dL_law_1415 dL_law_1416 dL_law_1417 dL_law_1418 dL_law_1419 ?_
  refine h_callV K (st := [.int v]) [.int (xs (i + 1))] (c2 w (gl g)) q_clX12 lyp_96 rfl ok_X12_worth ml_L_170 ⟨Nat.le_of_ble_eq_true rfl, Nat.le_of_ble_eq_true rfl⟩ (Nat.le_of_ble_eq_true rfl) dL_law_1420 ?_
  exact g_icmp_eq K 2313 dL_law_1423 (by decide) (fun _ => k I2 L2 Z1 (RelC_lo f2 r1) r2) (fun z => absurd rfl z)
/-- share -/
theorem lc_38 (K : q_Ok w g (kL nm) q_NT) (hs : q_Sc w g b N xs) (hi : i + 6 ≤ N) (hc : RelC Z I L) (hm : RelM Z I L) (k : ∀ I' L' Z', RelC Z' I' L' → RelM Z' I' L' → q_Gs w g 2313 (lvL i) [] (q_mm I' L')) : q_Gs w g 1428 (lvL i) [] (q_mm I L) := by
  obtain ⟨v, q1, q2⟩ := q_share Z (xs (i + 1)) (xs (i + 2))
  obtain ⟨Z1, eZ⟩ : ∃ Z1, Z1 = Z := ⟨_, rfl⟩
  rw [← eZ] at hc hm q1 q2
  obtain ⟨I1, L1, c1, r1, f1⟩ := q1 I L hc
  obtain ⟨I2, L2, c2, r2, f2⟩ := q2 I1 L1 (RelM_hi f1 hm)
  refine g_aload_n K 1 dL_law_1428 rfl ?_
  refine g_arg K hs (j := 1) rfl (by omega) dL_law_1429 dL_law_1430 dL_law_1431 dL_law_1432 dL_law_1433 ?_
  refine g_arg K hs (j := 2) rfl (by omega) dL_law_1434 dL_law_1435 dL_law_1436 dL_law_1437 dL_law_1438 ?_
  refine h_callV K (st := []) [.int (xs (i + 1)), .int (xs (i + 2))] (c1 w (gl g)) q_clX11 lyp_0 rfl ok_X11_share ml_L_171 ⟨Nat.le_of_ble_eq_true rfl, Nat.le_of_ble_eq_true rfl⟩ (Nat.le_of_ble_eq_true rfl) dL_law_1439 ?_
  refine g_aload_n K 2 dL_law_1442 rfl ?_
  refine g_arg K hs (j := 1) rfl (by omega) dL_law_1443 dL_law_1444 dL_law_1445 dL_law_1446 dL_law_1447 ?_
  refine g_arg K hs (j := 2) rfl (by omega) dL_law_1448 dL_law_1449 dL_law_1450 dL_law_1451 dL_law_1452 ?_
  refine h_callV K (st := [.int v]) [.int (xs (i + 1)), .int (xs (i + 2))] (c2 w (gl g)) q_clX12 lyp_96 rfl ok_X12_share ml_L_174 ⟨Nat.le_of_ble_eq_true rfl, Nat.le_of_ble_eq_true rfl⟩ (Nat.le_of_ble_eq_true rfl) dL_law_1453 ?_
  exact g_icmp_eq K 2313 dL_law_1456 (by decide) (fun _ => k I2 L2 Z1 (RelC_lo f2 r1) r2) (fun z => absurd rfl z)
/-- fewest -/
theorem lc_39 (K : q_Ok w g (kL nm) q_NT) (hs : q_Sc w g b N xs) (hi : i + 6 ≤ N) (hc : RelC Z I L) (hm : RelM Z I L) (k : ∀ I' L' Z', RelC Z' I' L' → RelM Z' I' L' → q_Gs w g 2313 (lvL i) [] (q_mm I' L')) : q_Gs w g 1461 (lvL i) [] (q_mm I L) := by
  obtain ⟨v, q1, q2⟩ := q_fewest Z 
  obtain ⟨Z1, eZ⟩ : ∃ Z1, Z1 = Z := ⟨_, rfl⟩
  rw [← eZ] at hc hm q1 q2
  obtain ⟨I1, L1, c1, r1, f1⟩ := q1 I L hc
  obtain ⟨I2, L2, c2, r2, f2⟩ := q2 I1 L1 (RelM_hi f1 hm)
  refine g_aload_n K 1 dL_law_1461 rfl ?_
  refine h_callV K (st := []) [] (c1 w (gl g)) q_clX11 lyp_0 rfl ok_X11_fewest ml_L_175 ⟨Nat.le_of_ble_eq_true rfl, Nat.le_of_ble_eq_true rfl⟩ (Nat.le_of_ble_eq_true rfl) dL_law_1462 ?_
  refine g_aload_n K 2 dL_law_1465 rfl ?_
  refine h_callV K (st := [.int v]) [] (c2 w (gl g)) q_clX12 lyp_96 rfl ok_X12_fewest ml_L_178 ⟨Nat.le_of_ble_eq_true rfl, Nat.le_of_ble_eq_true rfl⟩ (Nat.le_of_ble_eq_true rfl) dL_law_1466 ?_
  exact g_icmp_eq K 2313 dL_law_1469 (by decide) (fun _ => k I2 L2 Z1 (RelC_lo f2 r1) r2) (fun z => absurd rfl z)
/-- sets -/
theorem lc_40 (K : q_Ok w g (kL nm) q_NT) (hs : q_Sc w g b N xs) (hi : i + 6 ≤ N) (hc : RelC Z I L) (hm : RelM Z I L) (k : ∀ I' L' Z', RelC Z' I' L' → RelM Z' I' L' → q_Gs w g 2313 (lvL i) [] (q_mm I' L')) : q_Gs w g 1474 (lvL i) [] (q_mm I L) := by
  obtain ⟨v, q1, q2⟩ := q_sets Z 
  obtain ⟨Z1, eZ⟩ : ∃ Z1, Z1 = Z := ⟨_, rfl⟩
  rw [← eZ] at hc hm q1 q2
  obtain ⟨I1, L1, c1, r1, f1⟩ := q1 I L hc
  obtain ⟨I2, L2, c2, r2, f2⟩ := q2 I1 L1 (RelM_hi f1 hm)
  refine g_aload_n K 1 dL_law_1474 rfl ?_
  refine h_callV K (st := []) [] (c1 w (gl g)) q_clX11 lyp_0 rfl ok_X11_sets ml_L_179 ⟨Nat.le_of_ble_eq_true rfl, Nat.le_of_ble_eq_true rfl⟩ (Nat.le_of_ble_eq_true rfl) dL_law_1475 ?_
  refine g_aload_n K 2 dL_law_1478 rfl ?_
  refine h_callV K (st := [.int v]) [] (c2 w (gl g)) q_clX12 lyp_96 rfl ok_X12_sets ml_L_182 ⟨Nat.le_of_ble_eq_true rfl, Nat.le_of_ble_eq_true rfl⟩ (Nat.le_of_ble_eq_true rfl) dL_law_1479 ?_
  exact g_icmp_eq K 2313 dL_law_1482 (by decide) (fun _ => k I2 L2 Z1 (RelC_lo f2 r1) r2) (fun z => absurd rfl z)
/-- gust -/
theorem lc_41 (K : q_Ok w g (kL nm) q_NT) (hs : q_Sc w g b N xs) (hi : i + 6 ≤ N) (hc : RelC Z I L) (hm : RelM Z I L) (k : ∀ I' L' Z', RelC Z' I' L' → RelM Z' I' L' → q_Gs w g 2313 (lvL i) [] (q_mm I' L')) : q_Gs w g 1487 (lvL i) [] (q_mm I L) := by
  obtain ⟨v, q1, q2⟩ := q_gust Z (xs (i + 1))
  obtain ⟨Z1, eZ⟩ : ∃ Z1, Z1 = Z := ⟨_, rfl⟩
  rw [← eZ] at hc hm q1 q2
  obtain ⟨I1, L1, c1, r1, f1⟩ := q1 I L hc
  obtain ⟨I2, L2, c2, r2, f2⟩ := q2 I1 L1 (RelM_hi f1 hm)
  refine g_aload_n K 1 dL_law_1487 rfl ?_
  refine g_arg K hs (j := 1) rfl (by omega) dL_law_1488 dL_law_1489 dL_law_1490 dL_law_1491 dL_law_1492 ?_
  refine h_callV K (st := []) [.int (xs (i + 1))] (c1 w (gl g)) q_clX11 lyp_0 rfl ok_X11_gust ml_L_183 ⟨Nat.le_of_ble_eq_true rfl, Nat.le_of_ble_eq_true rfl⟩ (Nat.le_of_ble_eq_true rfl) dL_law_1493 ?_
  refine g_aload_n K 2 dL_law_1496 rfl ?_
  refine g_arg K hs (j := 1) rfl (by omega) dL_law_1497 dL_law_1498 dL_law_1499 dL_law_1500 dL_law_1501 ?_
  refine h_callV K (st := [.int v]) [.int (xs (i + 1))] (c2 w (gl g)) q_clX12 lyp_96 rfl ok_X12_gust ml_L_186 ⟨Nat.le_of_ble_eq_true rfl, Nat.le_of_ble_eq_true rfl⟩ (Nat.le_of_ble_eq_true rfl) dL_law_1502 ?_
  exact g_icmp_eq K 2313 dL_law_1505 (by decide) (fun _ => k I2 L2 Z1 (RelC_lo f2 r1) r2) (fun z => absurd rfl z)
/-- guard -/
theorem lc_42 (K : q_Ok w g (kL nm) q_NT) (hs : q_Sc w g b N xs) (hi : i + 6 ≤ N) (hc : RelC Z I L) (hm : RelM Z I L) (k : ∀ I' L' Z', RelC Z' I' L' → RelM Z' I' L' → q_Gs w g 2313 (lvL i) [] (q_mm I' L')) : q_Gs w g 1510 (lvL i) [] (q_mm I L) := by
  obtain ⟨v, q1, q2⟩ := q_guard Z 
  obtain ⟨Z1, eZ⟩ : ∃ Z1, Z1 = Z := ⟨_, rfl⟩
  rw [← eZ] at hc hm q1 q2
  obtain ⟨I1, L1, c1, r1, f1⟩ := q1 I L hc
  obtain ⟨I2, L2, c2, r2, f2⟩ := q2 I1 L1 (RelM_hi f1 hm)
  refine g_aload_n K 1 dL_law_1510 rfl ?_
  refine h_callV K (st := []) [] (c1 w (gl g)) q_clX11 lyp_0 rfl ok_X11_guard ml_L_187 ⟨Nat.le_of_ble_eq_true rfl, Nat.le_of_ble_eq_true rfl⟩ (Nat.le_of_ble_eq_true rfl) dL_law_1511 ?_
  refine g_aload_n K 2 dL_law_1514 rfl ?_
  refine h_callV K (st := [.int v]) [] (c2 w (gl g)) q_clX12 lyp_96 rfl ok_X12_guard ml_L_190 ⟨Nat.le_of_ble_eq_true rfl, Nat.le_of_ble_eq_true rfl⟩ (Nat.le_of_ble_eq_true rfl) dL_law_1515 ?_
  exact g_icmp_eq K 2313 dL_law_1518 (by decide) (fun _ => k I2 L2 Z1 (RelC_lo f2 r1) r2) (fun z => absurd rfl z)
/-- whom -/
theorem lc_43 (K : q_Ok w g (kL nm) q_NT) (hs : q_Sc w g b N xs) (hi : i + 6 ≤ N) (hc : RelC Z I L) (hm : RelM Z I L) (k : ∀ I' L' Z', RelC Z' I' L' → RelM Z' I' L' → q_Gs w g 2313 (lvL i) [] (q_mm I' L')) : q_Gs w g 1523 (lvL i) [] (q_mm I L) := by
  obtain ⟨v, q1, q2⟩ := q_whom Z (xs (i + 1))
  obtain ⟨Z1, eZ⟩ : ∃ Z1, Z1 = Z := ⟨_, rfl⟩
  rw [← eZ] at hc hm q1 q2
  obtain ⟨I1, L1, c1, r1, f1⟩ := q1 I L hc
  obtain ⟨I2, L2, c2, r2, f2⟩ := q2 I1 L1 (RelM_hi f1 hm)
  refine g_aload_n K 1 dL_law_1523 rfl ?_
  refine g_arg K hs (j := 1) rfl (by omega) dL_law_1524 dL_law_1525 dL_law_1526 dL_law_1527 dL_law_1528 ?_
  refine h_callV K (st := []) [.int (xs (i + 1))] (c1 w (gl g)) q_clX11 lyp_0 rfl ok_X11_whom ml_L_191 ⟨Nat.le_of_ble_eq_true rfl, Nat.le_of_ble_eq_true rfl⟩ (Nat.le_of_ble_eq_true rfl) dL_law_1529 ?_
  refine g_aload_n K 2 dL_law_1532 rfl ?_
  refine g_arg K hs (j := 1) rfl (by omega) dL_law_1533 dL_law_1534 dL_law_1535 dL_law_1536 dL_law_1537 ?_
  refine h_callV K (st := [.int v]) [.int (xs (i + 1))] (c2 w (gl g)) q_clX12 lyp_96 rfl ok_X12_whom ml_L_194 ⟨Nat.le_of_ble_eq_true rfl, Nat.le_of_ble_eq_true rfl⟩ (Nat.le_of_ble_eq_true rfl) dL_law_1538 ?_
  exact g_icmp_eq K 2313 dL_law_1541 (by decide) (fun _ => k I2 L2 Z1 (RelC_lo f2 r1) r2) (fun z => absurd rfl z)
/-- ask -/
theorem lc_44 (K : q_Ok w g (kL nm) q_NT) (hs : q_Sc w g b N xs) (hi : i + 6 ≤ N) (hc : RelC Z I L) (hm : RelM Z I L) (k : ∀ I' L' Z', RelC Z' I' L' → RelM Z' I' L' → q_Gs w g 2313 (lvL i) [] (q_mm I' L')) : q_Gs w g 1546 (lvL i) [] (q_mm I L) := by
  obtain ⟨v, q1, q2⟩ := q_ask Z (xs (i + 1))
  obtain ⟨Z1, eZ⟩ : ∃ Z1, Z1 = Z := ⟨_, rfl⟩
  rw [← eZ] at hc hm q1 q2
  obtain ⟨I1, L1, c1, r1, f1⟩ := q1 I L hc
  obtain ⟨I2, L2, c2, r2, f2⟩ := q2 I1 L1 (RelM_hi f1 hm)
  refine g_aload_n K 1 dL_law_1546 rfl ?_
  refine g_arg K hs (j := 1) rfl (by omega) dL_law_1547 dL_law_1548 dL_law_1549 dL_law_1550 dL_law_1551 ?_
  refine h_callV K (st := []) [.int (xs (i + 1))] (c1 w (gl g)) q_clX11 lyp_0 rfl ok_X11_ask ml_L_195 ⟨Nat.le_of_ble_eq_true rfl, Nat.le_of_ble_eq_true rfl⟩ (Nat.le_of_ble_eq_true rfl) dL_law_1552 ?_
  refine g_aload_n K 2 dL_law_1555 rfl ?_
  refine g_arg K hs (j := 1) rfl (by omega) dL_law_1556 dL_law_1557 dL_law_1558 dL_law_1559 dL_law_1560 ?_
  refine h_callV K (st := [.int v]) [.int (xs (i + 1))] (c2 w (gl g)) q_clX12 lyp_96 rfl ok_X12_ask ml_L_198 ⟨Nat.le_of_ble_eq_true rfl, Nat.le_of_ble_eq_true rfl⟩ (Nat.le_of_ble_eq_true rfl) dL_law_1561 ?_
  exact g_icmp_eq K 2313 dL_law_1564 (by decide) (fun _ => k I2 L2 Z1 (RelC_lo f2 r1) r2) (fun z => absurd rfl z)
/-- leaves -/
theorem lc_45 (K : q_Ok w g (kL nm) q_NT) (hs : q_Sc w g b N xs) (hi : i + 6 ≤ N) (hc : RelC Z I L) (hm : RelM Z I L) (k : ∀ I' L' Z', RelC Z' I' L' → RelM Z' I' L' → q_Gs w g 2313 (lvL i) [] (q_mm I' L')) : q_Gs w g 1569 (lvL i) [] (q_mm I L) := by
  obtain ⟨v, q1, q2⟩ := q_leaves Z (xs (i + 1))
  obtain ⟨Z1, eZ⟩ : ∃ Z1, Z1 = Z := ⟨_, rfl⟩
  rw [← eZ] at hc hm q1 q2
  obtain ⟨I1, L1, c1, r1, f1⟩ := q1 I L hc
  obtain ⟨I2, L2, c2, r2, f2⟩ := q2 I1 L1 (RelM_hi f1 hm)
  refine g_aload_n K 1 dL_law_1569 rfl ?_
  refine g_arg K hs (j := 1) rfl (by omega) dL_law_1570 dL_law_1571 dL_law_1572 dL_law_1573 dL_law_1574 ?_
  refine h_callV K (st := []) [.int (xs (i + 1))] (c1 w (gl g)) q_clX11 lyp_0 rfl ok_X11_leaves ml_L_199 ⟨Nat.le_of_ble_eq_true rfl, Nat.le_of_ble_eq_true rfl⟩ (Nat.le_of_ble_eq_true rfl) dL_law_1575 ?_
  refine g_aload_n K 2 dL_law_1578 rfl ?_
  refine g_arg K hs (j := 1) rfl (by omega) dL_law_1579 dL_law_1580 dL_law_1581 dL_law_1582 dL_law_1583 ?_
  refine h_callV K (st := [.int v]) [.int (xs (i + 1))] (c2 w (gl g)) q_clX12 lyp_96 rfl ok_X12_leaves ml_L_202 ⟨Nat.le_of_ble_eq_true rfl, Nat.le_of_ble_eq_true rfl⟩ (Nat.le_of_ble_eq_true rfl) dL_law_1584 ?_
  exact g_icmp_eq K 2313 dL_law_1587 (by decide) (fun _ => k I2 L2 Z1 (RelC_lo f2 r1) r2) (fun z => absurd rfl z)
/-- laws -/
theorem lc_46 (K : q_Ok w g (kL nm) q_NT) (hs : q_Sc w g b N xs) (hi : i + 6 ≤ N) (hc : RelC Z I L) (hm : RelM Z I L) (k : ∀ I' L' Z', RelC Z' I' L' → RelM Z' I' L' → q_Gs w g 2313 (lvL i) [] (q_mm I' L')) : q_Gs w g 1592 (lvL i) [] (q_mm I L) := by
  obtain ⟨v, q1, q2⟩ := q_laws Z (xs (i + 1))
  obtain ⟨Z1, eZ⟩ : ∃ Z1, Z1 = Z := ⟨_, rfl⟩
  rw [← eZ] at hc hm q1 q2
  obtain ⟨I1, L1, c1, r1, f1⟩ := q1 I L hc
  obtain ⟨I2, L2, c2, r2, f2⟩ := q2 I1 L1 (RelM_hi f1 hm)
  refine g_aload_n K 1 dL_law_1592 rfl ?_
  refine g_arg K hs (j := 1) rfl (by omega) dL_law_1593 dL_law_1594 dL_law_1595 dL_law_1596 dL_law_1597 ?_
  refine h_callV K (st := []) [.int (xs (i + 1))] (c1 w (gl g)) q_clX11 lyp_0 rfl ok_X11_laws ml_L_203 ⟨Nat.le_of_ble_eq_true rfl, Nat.le_of_ble_eq_true rfl⟩ (Nat.le_of_ble_eq_true rfl) dL_law_1598 ?_
  refine g_aload_n K 2 dL_law_1601 rfl ?_
  refine g_arg K hs (j := 1) rfl (by omega) dL_law_1602 dL_law_1603 dL_law_1604 dL_law_1605 dL_law_1606 ?_
  refine h_callV K (st := [.int v]) [.int (xs (i + 1))] (c2 w (gl g)) q_clX12 lyp_96 rfl ok_X12_laws ml_L_206 ⟨Nat.le_of_ble_eq_true rfl, Nat.le_of_ble_eq_true rfl⟩ (Nat.le_of_ble_eq_true rfl) dL_law_1607 ?_
  exact g_icmp_eq K 2313 dL_law_1610 (by decide) (fun _ => k I2 L2 Z1 (RelC_lo f2 r1) r2) (fun z => absurd rfl z)
/-- by -/
theorem lc_47 (K : q_Ok w g (kL nm) q_NT) (hs : q_Sc w g b N xs) (hi : i + 6 ≤ N) (hc : RelC Z I L) (hm : RelM Z I L) (k : ∀ I' L' Z', RelC Z' I' L' → RelM Z' I' L' → q_Gs w g 2313 (lvL i) [] (q_mm I' L')) : q_Gs w g 1615 (lvL i) [] (q_mm I L) := by
  obtain ⟨v, q1, q2⟩ := q_by Z (xs (i + 1))
  obtain ⟨Z1, eZ⟩ : ∃ Z1, Z1 = Z := ⟨_, rfl⟩
  rw [← eZ] at hc hm q1 q2
  obtain ⟨I1, L1, c1, r1, f1⟩ := q1 I L hc
  obtain ⟨I2, L2, c2, r2, f2⟩ := q2 I1 L1 (RelM_hi f1 hm)
  refine g_aload_n K 1 dL_law_1615 rfl ?_
  refine g_arg K hs (j := 1) rfl (by omega) dL_law_1616 dL_law_1617 dL_law_1618 dL_law_1619 dL_law_1620 ?_
  refine h_callV K (st := []) [.int (xs (i + 1))] (c1 w (gl g)) q_clX11 lyp_0 rfl ok_X11_by ml_L_207 ⟨Nat.le_of_ble_eq_true rfl, Nat.le_of_ble_eq_true rfl⟩ (Nat.le_of_ble_eq_true rfl) dL_law_1621 ?_
  refine g_aload_n K 2 dL_law_1624 rfl ?_
  refine g_arg K hs (j := 1) rfl (by omega) dL_law_1625 dL_law_1626 dL_law_1627 dL_law_1628 dL_law_1629 ?_
  refine h_callV K (st := [.int v]) [.int (xs (i + 1))] (c2 w (gl g)) q_clX12 lyp_96 rfl ok_X12_by ml_L_210 ⟨Nat.le_of_ble_eq_true rfl, Nat.le_of_ble_eq_true rfl⟩ (Nat.le_of_ble_eq_true rfl) dL_law_1630 ?_
  exact g_icmp_eq K 2313 dL_law_1633 (by decide) (fun _ => k I2 L2 Z1 (RelC_lo f2 r1) r2) (fun z => absurd rfl z)
/-- law -/
theorem lc_48 (K : q_Ok w g (kL nm) q_NT) (hs : q_Sc w g b N xs) (hi : i + 6 ≤ N) (hc : RelC Z I L) (hm : RelM Z I L) (k : ∀ I' L' Z', RelC Z' I' L' → RelM Z' I' L' → q_Gs w g 2313 (lvL i) [] (q_mm I' L')) : q_Gs w g 1638 (lvL i) [] (q_mm I L) := by
  obtain ⟨v, q1, q2⟩ := q_law Z 
  obtain ⟨Z1, eZ⟩ : ∃ Z1, Z1 = Z := ⟨_, rfl⟩
  rw [← eZ] at hc hm q1 q2
  obtain ⟨I1, L1, c1, r1, f1⟩ := q1 I L hc
  obtain ⟨I2, L2, c2, r2, f2⟩ := q2 I1 L1 (RelM_hi f1 hm)
  refine g_aload_n K 1 dL_law_1638 rfl ?_
  refine h_callV K (st := []) [] (c1 w (gl g)) q_clX11 lyp_0 rfl ok_X11_law ml_L_211 ⟨Nat.le_of_ble_eq_true rfl, Nat.le_of_ble_eq_true rfl⟩ (Nat.le_of_ble_eq_true rfl) dL_law_1639 ?_
  refine g_aload_n K 2 dL_law_1642 rfl ?_
  refine h_callV K (st := [.int v]) [] (c2 w (gl g)) q_clX12 lyp_96 rfl ok_X12_law ml_L_214 ⟨Nat.le_of_ble_eq_true rfl, Nat.le_of_ble_eq_true rfl⟩ (Nat.le_of_ble_eq_true rfl) dL_law_1643 ?_
  exact g_icmp_eq K 2313 dL_law_1646 (by decide) (fun _ => k I2 L2 Z1 (RelC_lo f2 r1) r2) (fun z => absurd rfl z)
/-- rector -/
theorem lc_49 (K : q_Ok w g (kL nm) q_NT) (hs : q_Sc w g b N xs) (hi : i + 6 ≤ N) (hc : RelC Z I L) (hm : RelM Z I L) (k : ∀ I' L' Z', RelC Z' I' L' → RelM Z' I' L' → q_Gs w g 2313 (lvL i) [] (q_mm I' L')) : q_Gs w g 1651 (lvL i) [] (q_mm I L) := by
  obtain ⟨v, q1, q2⟩ := q_rector Z 
  obtain ⟨Z1, eZ⟩ : ∃ Z1, Z1 = Z := ⟨_, rfl⟩
  rw [← eZ] at hc hm q1 q2
  obtain ⟨I1, L1, c1, r1, f1⟩ := q1 I L hc
  obtain ⟨I2, L2, c2, r2, f2⟩ := q2 I1 L1 (RelM_hi f1 hm)
  refine g_aload_n K 1 dL_law_1651 rfl ?_
  refine h_callV K (st := []) [] (c1 w (gl g)) q_clX11 lyp_0 rfl ok_X11_rector ml_L_215 ⟨Nat.le_of_ble_eq_true rfl, Nat.le_of_ble_eq_true rfl⟩ (Nat.le_of_ble_eq_true rfl) dL_law_1652 ?_
  refine g_aload_n K 2 dL_law_1655 rfl ?_
  refine h_callV K (st := [.int v]) [] (c2 w (gl g)) q_clX12 lyp_96 rfl ok_X12_rector ml_L_218 ⟨Nat.le_of_ble_eq_true rfl, Nat.le_of_ble_eq_true rfl⟩ (Nat.le_of_ble_eq_true rfl) dL_law_1656 ?_
  exact g_icmp_eq K 2313 dL_law_1659 (by decide) (fun _ => k I2 L2 Z1 (RelC_lo f2 r1) r2) (fun z => absurd rfl z)
/-- opens -/
theorem lc_50 (K : q_Ok w g (kL nm) q_NT) (hs : q_Sc w g b N xs) (hi : i + 6 ≤ N) (hc : RelC Z I L) (hm : RelM Z I L) (k : ∀ I' L' Z', RelC Z' I' L' → RelM Z' I' L' → q_Gs w g 2313 (lvL i) [] (q_mm I' L')) : q_Gs w g 1664 (lvL i) [] (q_mm I L) := by
  obtain ⟨v, q1, q2⟩ := q_opens Z 
  obtain ⟨Z1, eZ⟩ : ∃ Z1, Z1 = Z := ⟨_, rfl⟩
  rw [← eZ] at hc hm q1 q2
  obtain ⟨I1, L1, c1, r1, f1⟩ := q1 I L hc
  obtain ⟨I2, L2, c2, r2, f2⟩ := q2 I1 L1 (RelM_hi f1 hm)
  refine g_aload_n K 1 dL_law_1664 rfl ?_
  refine h_callV K (st := []) [] (c1 w (gl g)) q_clX11 lyp_0 rfl ok_X11_opens ml_L_219 ⟨Nat.le_of_ble_eq_true rfl, Nat.le_of_ble_eq_true rfl⟩ (Nat.le_of_ble_eq_true rfl) dL_law_1665 ?_
  refine g_aload_n K 2 dL_law_1668 rfl ?_
  refine h_callV K (st := [.int v]) [] (c2 w (gl g)) q_clX12 lyp_96 rfl ok_X12_opens ml_L_222 ⟨Nat.le_of_ble_eq_true rfl, Nat.le_of_ble_eq_true rfl⟩ (Nat.le_of_ble_eq_true rfl) dL_law_1669 ?_
  exact g_icmp_eq K 2313 dL_law_1672 (by decide) (fun _ => k I2 L2 Z1 (RelC_lo f2 r1) r2) (fun z => absurd rfl z)
/-- replies -/
theorem lc_51 (K : q_Ok w g (kL nm) q_NT) (hs : q_Sc w g b N xs) (hi : i + 6 ≤ N) (hc : RelC Z I L) (hm : RelM Z I L) (k : ∀ I' L' Z', RelC Z' I' L' → RelM Z' I' L' → q_Gs w g 2313 (lvL i) [] (q_mm I' L')) : q_Gs w g 1677 (lvL i) [] (q_mm I L) := by
  obtain ⟨v, q1, q2⟩ := q_replies Z (xs (i + 1))
  obtain ⟨Z1, eZ⟩ : ∃ Z1, Z1 = Z := ⟨_, rfl⟩
  rw [← eZ] at hc hm q1 q2
  obtain ⟨I1, L1, c1, r1, f1⟩ := q1 I L hc
  obtain ⟨I2, L2, c2, r2, f2⟩ := q2 I1 L1 (RelM_hi f1 hm)
  refine g_aload_n K 1 dL_law_1677 rfl ?_
  refine g_arg K hs (j := 1) rfl (by omega) dL_law_1678 dL_law_1679 dL_law_1680 dL_law_1681 dL_law_1682 ?_
  refine h_callV K (st := []) [.int (xs (i + 1))] (c1 w (gl g)) q_clX11 lyp_0 rfl ok_X11_replies ml_L_223 ⟨Nat.le_of_ble_eq_true rfl, Nat.le_of_ble_eq_true rfl⟩ (Nat.le_of_ble_eq_true rfl) dL_law_1683 ?_
  refine g_aload_n K 2 dL_law_1686 rfl ?_
  refine g_arg K hs (j := 1) rfl (by omega) dL_law_1687 dL_law_1688 dL_law_1689 dL_law_1690 dL_law_1691 ?_
  refine h_callV K (st := [.int v]) [.int (xs (i + 1))] (c2 w (gl g)) q_clX12 lyp_96 rfl ok_X12_replies ml_L_226 ⟨Nat.le_of_ble_eq_true rfl, Nat.le_of_ble_eq_true rfl⟩ (Nat.le_of_ble_eq_true rfl) dL_law_1692 ?_
  exact g_icmp_eq K 2313 dL_law_1695 (by decide) (fun _ => k I2 L2 Z1 (RelC_lo f2 r1) r2) (fun z => absurd rfl z)
/-- rests -/
theorem lc_52 (K : q_Ok w g (kL nm) q_NT) (hs : q_Sc w g b N xs) (hi : i + 6 ≤ N) (hc : RelC Z I L) (hm : RelM Z I L) (k : ∀ I' L' Z', RelC Z' I' L' → RelM Z' I' L' → q_Gs w g 2313 (lvL i) [] (q_mm I' L')) : q_Gs w g 1700 (lvL i) [] (q_mm I L) := by
  obtain ⟨v, q1, q2⟩ := q_rests Z (xs (i + 1)) (xs (i + 2))
  obtain ⟨Z1, eZ⟩ : ∃ Z1, Z1 = Z := ⟨_, rfl⟩
  rw [← eZ] at hc hm q1 q2
  obtain ⟨I1, L1, c1, r1, f1⟩ := q1 I L hc
  obtain ⟨I2, L2, c2, r2, f2⟩ := q2 I1 L1 (RelM_hi f1 hm)
  refine g_aload_n K 1 dL_law_1700 rfl ?_
  refine g_arg K hs (j := 1) rfl (by omega) dL_law_1701 dL_law_1702 dL_law_1703 dL_law_1704 dL_law_1705 ?_
  refine g_arg K hs (j := 2) rfl (by omega) dL_law_1706 dL_law_1707 dL_law_1708 dL_law_1709 dL_law_1710 ?_
  refine h_callV K (st := []) [.int (xs (i + 1)), .int (xs (i + 2))] (c1 w (gl g)) q_clX11 lyp_0 rfl ok_X11_rests ml_L_227 ⟨Nat.le_of_ble_eq_true rfl, Nat.le_of_ble_eq_true rfl⟩ (Nat.le_of_ble_eq_true rfl) dL_law_1711 ?_
  refine g_aload_n K 2 dL_law_1714 rfl ?_
  refine g_arg K hs (j := 1) rfl (by omega) dL_law_1715 dL_law_1716 dL_law_1717 dL_law_1718 dL_law_1719 ?_
  refine g_arg K hs (j := 2) rfl (by omega) dL_law_1720 dL_law_1721 dL_law_1722 dL_law_1723 dL_law_1724 ?_
  refine h_callV K (st := [.int v]) [.int (xs (i + 1)), .int (xs (i + 2))] (c2 w (gl g)) q_clX12 lyp_96 rfl ok_X12_rests ml_L_230 ⟨Nat.le_of_ble_eq_true rfl, Nat.le_of_ble_eq_true rfl⟩ (Nat.le_of_ble_eq_true rfl) dL_law_1725 ?_
  exact g_icmp_eq K 2313 dL_law_1728 (by decide) (fun _ => k I2 L2 Z1 (RelC_lo f2 r1) r2) (fun z => absurd rfl z)
/-- gets -/
theorem lc_53 (K : q_Ok w g (kL nm) q_NT) (hs : q_Sc w g b N xs) (hi : i + 6 ≤ N) (hc : RelC Z I L) (hm : RelM Z I L) (k : ∀ I' L' Z', RelC Z' I' L' → RelM Z' I' L' → q_Gs w g 2313 (lvL i) [] (q_mm I' L')) : q_Gs w g 1733 (lvL i) [] (q_mm I L) := by
  obtain ⟨v, q1, q2⟩ := q_gets Z (xs (i + 1)) (xs (i + 2)) (xs (i + 3)) (xs (i + 4))
  obtain ⟨Z1, eZ⟩ : ∃ Z1, Z1 = Z := ⟨_, rfl⟩
  rw [← eZ] at hc hm q1 q2
  obtain ⟨I1, L1, c1, r1, f1⟩ := q1 I L hc
  obtain ⟨I2, L2, c2, r2, f2⟩ := q2 I1 L1 (RelM_hi f1 hm)
  refine g_aload_n K 1 dL_law_1733 rfl ?_
  refine g_arg K hs (j := 1) rfl (by omega) dL_law_1734 dL_law_1735 dL_law_1736 dL_law_1737 dL_law_1738 ?_
  refine g_arg K hs (j := 2) rfl (by omega) dL_law_1739 dL_law_1740 dL_law_1741 dL_law_1742 dL_law_1743 ?_
  refine g_arg K hs (j := 3) rfl (by omega) dL_law_1744 dL_law_1745 dL_law_1746 dL_law_1747 dL_law_1748 ?_
  refine g_arg K hs (j := 4) rfl (by omega) dL_law_1749 dL_law_1750 dL_law_1751 dL_law_1752 dL_law_1753 ?_
  refine h_callV K (st := []) [.int (xs (i + 1)), .int (xs (i + 2)), .int (xs (i + 3)), .int (xs (i + 4))] (c1 w (gl g)) q_clX11 lyp_0 rfl ok_X11_gets ml_L_231 ⟨Nat.le_of_ble_eq_true rfl, Nat.le_of_ble_eq_true rfl⟩ (Nat.le_of_ble_eq_true rfl) dL_law_1754 ?_
  refine g_aload_n K 2 dL_law_1757 rfl ?_
  refine g_arg K hs (j := 1) rfl (by omega) dL_law_1758 dL_law_1759 dL_law_1760 dL_law_1761 dL_law_1762 ?_
  refine g_arg K hs (j := 2) rfl (by omega) dL_law_1763 dL_law_1764 dL_law_1765 dL_law_1766 dL_law_1767 ?_
  refine g_arg K hs (j := 3) rfl (by omega) dL_law_1768 dL_law_1769 dL_law_1770 dL_law_1771 dL_law_1772 ?_
  refine g_arg K hs (j := 4) rfl (by omega) dL_law_1773 dL_law_1774 dL_law_1775 dL_law_1776 dL_law_1777 ?_
  refine h_callV K (st := [.int v]) [.int (xs (i + 1)), .int (xs (i + 2)), .int (xs (i + 3)), .int (xs (i + 4))] (c2 w (gl g)) q_clX12 lyp_96 rfl ok_X12_gets ml_L_234 ⟨Nat.le_of_ble_eq_true rfl, Nat.le_of_ble_eq_true rfl⟩ (Nat.le_of_ble_eq_true rfl) dL_law_1778 ?_
  exact g_icmp_eq K 2313 dL_law_1781 (by decide) (fun _ => k I2 L2 Z1 (RelC_lo f2 r1) r2) (fun z => absurd rfl z)
/-- chance -/
theorem lc_54 (K : q_Ok w g (kL nm) q_NT) (hs : q_Sc w g b N xs) (hi : i + 6 ≤ N) (hc : RelC Z I L) (hm : RelM Z I L) (k : ∀ I' L' Z', RelC Z' I' L' → RelM Z' I' L' → q_Gs w g 2313 (lvL i) [] (q_mm I' L')) : q_Gs w g 1786 (lvL i) [] (q_mm I L) := by
  obtain ⟨v, q1, q2⟩ := q_chance Z (xs (i + 1)) (xs (i + 2)) (xs (i + 3))
  obtain ⟨Z1, eZ⟩ : ∃ Z1, Z1 = Z := ⟨_, rfl⟩
  rw [← eZ] at hc hm q1 q2
  obtain ⟨I1, L1, c1, r1, f1⟩ := q1 I L hc
  obtain ⟨I2, L2, c2, r2, f2⟩ := q2 I1 L1 (RelM_hi f1 hm)
  refine g_aload_n K 1 dL_law_1786 rfl ?_
  refine g_arg K hs (j := 1) rfl (by omega) dL_law_1787 dL_law_1788 dL_law_1789 dL_law_1790 dL_law_1791 ?_
  refine g_arg K hs (j := 2) rfl (by omega) dL_law_1792 dL_law_1793 dL_law_1794 dL_law_1795 dL_law_1796 ?_
  refine g_arg K hs (j := 3) rfl (by omega) dL_law_1797 dL_law_1798 dL_law_1799 dL_law_1800 dL_law_1801 ?_
  refine h_callV K (st := []) [.int (xs (i + 1)), .int (xs (i + 2)), .int (xs (i + 3))] (c1 w (gl g)) q_clX11 lyp_0 rfl ok_X11_chance ml_L_235 ⟨Nat.le_of_ble_eq_true rfl, Nat.le_of_ble_eq_true rfl⟩ (Nat.le_of_ble_eq_true rfl) dL_law_1802 ?_
  refine g_aload_n K 2 dL_law_1805 rfl ?_
  refine g_arg K hs (j := 1) rfl (by omega) dL_law_1806 dL_law_1807 dL_law_1808 dL_law_1809 dL_law_1810 ?_
  refine g_arg K hs (j := 2) rfl (by omega) dL_law_1811 dL_law_1812 dL_law_1813 dL_law_1814 dL_law_1815 ?_
  refine g_arg K hs (j := 3) rfl (by omega) dL_law_1816 dL_law_1817 dL_law_1818 dL_law_1819 dL_law_1820 ?_
  refine h_callV K (st := [.long v]) [.int (xs (i + 1)), .int (xs (i + 2)), .int (xs (i + 3))] (c2 w (gl g)) q_clX12 lyp_96 rfl ok_X12_chance ml_L_239 ⟨Nat.le_of_ble_eq_true rfl, Nat.le_of_ble_eq_true rfl⟩ (Nat.le_of_ble_eq_true rfl) dL_law_1821 ?_
  refine g_lcmp K dL_law_1824 ?_
  exact g_if_eq K 2313 dL_law_1825 (by decide) (fun _ => k I2 L2 Z1 (RelC_lo f2 r1) r2) (fun z => absurd (lg_cmp_self v) z)
/-- mean -/
theorem lc_55 (K : q_Ok w g (kL nm) q_NT) (hs : q_Sc w g b N xs) (hi : i + 6 ≤ N) (hc : RelC Z I L) (hm : RelM Z I L) (k : ∀ I' L' Z', RelC Z' I' L' → RelM Z' I' L' → q_Gs w g 2313 (lvL i) [] (q_mm I' L')) : q_Gs w g 1830 (lvL i) [] (q_mm I L) := by
  obtain ⟨v, q1, q2⟩ := q_mean Z (xs (i + 1)) (xs (i + 2))
  obtain ⟨Z1, eZ⟩ : ∃ Z1, Z1 = Z := ⟨_, rfl⟩
  rw [← eZ] at hc hm q1 q2
  obtain ⟨I1, L1, c1, r1, f1⟩ := q1 I L hc
  obtain ⟨I2, L2, c2, r2, f2⟩ := q2 I1 L1 (RelM_hi f1 hm)
  refine g_aload_n K 1 dL_law_1830 rfl ?_
  refine g_arg K hs (j := 1) rfl (by omega) dL_law_1831 dL_law_1832 dL_law_1833 dL_law_1834 dL_law_1835 ?_
  refine g_arg K hs (j := 2) rfl (by omega) dL_law_1836 dL_law_1837 dL_law_1838 dL_law_1839 dL_law_1840 ?_
  refine h_callV K (st := []) [.int (xs (i + 1)), .int (xs (i + 2))] (c1 w (gl g)) q_clX11 lyp_0 rfl ok_X11_mean ml_L_240 ⟨Nat.le_of_ble_eq_true rfl, Nat.le_of_ble_eq_true rfl⟩ (Nat.le_of_ble_eq_true rfl) dL_law_1841 ?_
  refine g_aload_n K 2 dL_law_1844 rfl ?_
  refine g_arg K hs (j := 1) rfl (by omega) dL_law_1845 dL_law_1846 dL_law_1847 dL_law_1848 dL_law_1849 ?_
  refine g_arg K hs (j := 2) rfl (by omega) dL_law_1850 dL_law_1851 dL_law_1852 dL_law_1853 dL_law_1854 ?_
  refine h_callV K (st := [.long v]) [.int (xs (i + 1)), .int (xs (i + 2))] (c2 w (gl g)) q_clX12 lyp_96 rfl ok_X12_mean ml_L_244 ⟨Nat.le_of_ble_eq_true rfl, Nat.le_of_ble_eq_true rfl⟩ (Nat.le_of_ble_eq_true rfl) dL_law_1855 ?_
  refine g_lcmp K dL_law_1858 ?_
  exact g_if_eq K 2313 dL_law_1859 (by decide) (fun _ => k I2 L2 Z1 (RelC_lo f2 r1) r2) (fun z => absurd (lg_cmp_self v) z)
/-- light -/
theorem lc_56 (K : q_Ok w g (kL nm) q_NT) (hs : q_Sc w g b N xs) (hi : i + 6 ≤ N) (hc : RelC Z I L) (hm : RelM Z I L) (k : ∀ I' L' Z', RelC Z' I' L' → RelM Z' I' L' → q_Gs w g 2313 (lvL i) [] (q_mm I' L')) : q_Gs w g 1864 (lvL i) [] (q_mm I L) := by
  obtain ⟨Z1, v, q1, q2⟩ := q_light Z (xs (i + 1)) (xs (i + 2)) (xs (i + 3))
  obtain ⟨I1, L1, c1, r1, f1⟩ := q1 I L hc
  obtain ⟨I2, L2, c2, r2, f2⟩ := q2 I1 L1 (RelM_hi f1 hm)
  refine g_aload_n K 1 dL_law_1864 rfl ?_
  refine g_arg K hs (j := 1) rfl (by omega) dL_law_1865 dL_law_1866 dL_law_1867 dL_law_1868 dL_law_1869 ?_
  refine g_arg K hs (j := 2) rfl (by omega) dL_law_1870 dL_law_1871 dL_law_1872 dL_law_1873 dL_law_1874 ?_
  refine g_arg K hs (j := 3) rfl (by omega) dL_law_1875 dL_law_1876 dL_law_1877 dL_law_1878 dL_law_1879 ?_
  refine h_callV K (st := []) [.int (xs (i + 1)), .int (xs (i + 2)), .int (xs (i + 3))] (c1 w (gl g)) q_clX11 lyp_0 rfl ok_X11_light ml_L_245 ⟨Nat.le_of_ble_eq_true rfl, Nat.le_of_ble_eq_true rfl⟩ (Nat.le_of_ble_eq_true rfl) dL_law_1880 ?_
  refine g_aload_n K 2 dL_law_1883 rfl ?_
  refine g_arg K hs (j := 1) rfl (by omega) dL_law_1884 dL_law_1885 dL_law_1886 dL_law_1887 dL_law_1888 ?_
  refine g_arg K hs (j := 2) rfl (by omega) dL_law_1889 dL_law_1890 dL_law_1891 dL_law_1892 dL_law_1893 ?_
  refine g_arg K hs (j := 3) rfl (by omega) dL_law_1894 dL_law_1895 dL_law_1896 dL_law_1897 dL_law_1898 ?_
  refine h_callV K (st := [.int v]) [.int (xs (i + 1)), .int (xs (i + 2)), .int (xs (i + 3))] (c2 w (gl g)) q_clX12 lyp_96 rfl ok_X12_light ml_L_248 ⟨Nat.le_of_ble_eq_true rfl, Nat.le_of_ble_eq_true rfl⟩ (Nat.le_of_ble_eq_true rfl) dL_law_1899 ?_
  exact g_icmp_eq K 2313 dL_law_1902 (by decide) (fun _ => k I2 L2 Z1 (RelC_lo f2 r1) r2) (fun z => absurd rfl z)
/-- draught -/
theorem lc_57 (K : q_Ok w g (kL nm) q_NT) (hs : q_Sc w g b N xs) (hi : i + 6 ≤ N) (hc : RelC Z I L) (hm : RelM Z I L) (k : ∀ I' L' Z', RelC Z' I' L' → RelM Z' I' L' → q_Gs w g 2313 (lvL i) [] (q_mm I' L')) : q_Gs w g 1907 (lvL i) [] (q_mm I L) := by
  obtain ⟨Z1, v, q1, q2⟩ := q_draught Z (xs (i + 1)) (xs (i + 2))
  obtain ⟨I1, L1, c1, r1, f1⟩ := q1 I L hc
  obtain ⟨I2, L2, c2, r2, f2⟩ := q2 I1 L1 (RelM_hi f1 hm)
  refine g_aload_n K 1 dL_law_1907 rfl ?_
  refine g_arg K hs (j := 1) rfl (by omega) dL_law_1908 dL_law_1909 dL_law_1910 dL_law_1911 dL_law_1912 ?_
  refine g_arg K hs (j := 2) rfl (by omega) dL_law_1913 dL_law_1914 dL_law_1915 dL_law_1916 dL_law_1917 ?_
  refine h_callV K (st := []) [.int (xs (i + 1)), .int (xs (i + 2))] (c1 w (gl g)) q_clX11 lyp_0 rfl ok_X11_draught ml_L_249 ⟨Nat.le_of_ble_eq_true rfl, Nat.le_of_ble_eq_true rfl⟩ (Nat.le_of_ble_eq_true rfl) dL_law_1918 ?_
  refine g_aload_n K 2 dL_law_1921 rfl ?_
  refine g_arg K hs (j := 1) rfl (by omega) dL_law_1922 dL_law_1923 dL_law_1924 dL_law_1925 dL_law_1926 ?_
  refine g_arg K hs (j := 2) rfl (by omega) dL_law_1927 dL_law_1928 dL_law_1929 dL_law_1930 dL_law_1931 ?_
  refine h_callV K (st := [.int v]) [.int (xs (i + 1)), .int (xs (i + 2))] (c2 w (gl g)) q_clX12 lyp_96 rfl ok_X12_draught ml_L_252 ⟨Nat.le_of_ble_eq_true rfl, Nat.le_of_ble_eq_true rfl⟩ (Nat.le_of_ble_eq_true rfl) dL_law_1932 ?_
  exact g_icmp_eq K 2313 dL_law_1935 (by decide) (fun _ => k I2 L2 Z1 (RelC_lo f2 r1) r2) (fun z => absurd rfl z)
/-- undo -/
theorem lc_58 (K : q_Ok w g (kL nm) q_NT) (hs : q_Sc w g b N xs) (hi : i + 6 ≤ N) (hc : RelC Z I L) (hm : RelM Z I L) (k : ∀ I' L' Z', RelC Z' I' L' → RelM Z' I' L' → q_Gs w g 2313 (lvL i) [] (q_mm I' L')) : q_Gs w g 1940 (lvL i) [] (q_mm I L) := by
  obtain ⟨Z1, v, q1, q2⟩ := q_undo Z 
  obtain ⟨I1, L1, c1, r1, f1⟩ := q1 I L hc
  obtain ⟨I2, L2, c2, r2, f2⟩ := q2 I1 L1 (RelM_hi f1 hm)
  refine g_aload_n K 1 dL_law_1940 rfl ?_
  refine h_callV K (st := []) [] (c1 w (gl g)) q_clX11 lyp_0 rfl ok_X11_undo ml_L_253 ⟨Nat.le_of_ble_eq_true rfl, Nat.le_of_ble_eq_true rfl⟩ (Nat.le_of_ble_eq_true rfl) dL_law_1941 ?_
  refine g_aload_n K 2 dL_law_1944 rfl ?_
  refine h_callV K (st := [.int v]) [] (c2 w (gl g)) q_clX12 lyp_96 rfl ok_X12_undo ml_L_256 ⟨Nat.le_of_ble_eq_true rfl, Nat.le_of_ble_eq_true rfl⟩ (Nat.le_of_ble_eq_true rfl) dL_law_1945 ?_
  exact g_icmp_eq K 2313 dL_law_1948 (by decide) (fun _ => k I2 L2 Z1 (RelC_lo f2 r1) r2) (fun z => absurd rfl z)
/-- anew -/
theorem lc_59 (K : q_Ok w g (kL nm) q_NT) (hs : q_Sc w g b N xs) (hi : i + 6 ≤ N) (hc : RelC Z I L) (hm : RelM Z I L) (k : ∀ I' L' Z', RelC Z' I' L' → RelM Z' I' L' → q_Gs w g 2313 (lvL i) [] (q_mm I' L')) : q_Gs w g 1953 (lvL i) [] (q_mm I L) := by
  obtain ⟨Z1, v, q1, q2⟩ := q_anew Z 
  obtain ⟨I1, L1, c1, r1, f1⟩ := q1 I L hc
  obtain ⟨I2, L2, c2, r2, f2⟩ := q2 I1 L1 (RelM_hi f1 hm)
  refine g_aload_n K 1 dL_law_1953 rfl ?_
  refine h_callV K (st := []) [] (c1 w (gl g)) q_clX11 lyp_0 rfl ok_X11_anew ml_L_257 ⟨Nat.le_of_ble_eq_true rfl, Nat.le_of_ble_eq_true rfl⟩ (Nat.le_of_ble_eq_true rfl) dL_law_1954 ?_
  refine g_aload_n K 2 dL_law_1957 rfl ?_
  refine h_callV K (st := [.int v]) [] (c2 w (gl g)) q_clX12 lyp_96 rfl ok_X12_anew ml_L_260 ⟨Nat.le_of_ble_eq_true rfl, Nat.le_of_ble_eq_true rfl⟩ (Nat.le_of_ble_eq_true rfl) dL_law_1958 ?_
  exact g_icmp_eq K 2313 dL_law_1961 (by decide) (fun _ => k I2 L2 Z1 (RelC_lo f2 r1) r2) (fun z => absurd rfl z)
/-- drawn -/
theorem lc_60 (K : q_Ok w g (kL nm) q_NT) (hs : q_Sc w g b N xs) (hi : i + 6 ≤ N) (hc : RelC Z I L) (hm : RelM Z I L) (k : ∀ I' L' Z', RelC Z' I' L' → RelM Z' I' L' → q_Gs w g 2313 (lvL i) [] (q_mm I' L')) : q_Gs w g 1966 (lvL i) [] (q_mm I L) := by
  obtain ⟨v, q1, q2⟩ := q_drawn Z (xs (i + 1)) (xs (i + 2))
  obtain ⟨Z1, eZ⟩ : ∃ Z1, Z1 = Z := ⟨_, rfl⟩
  rw [← eZ] at hc hm q1 q2
  obtain ⟨I1, L1, c1, r1, f1⟩ := q1 I L hc
  obtain ⟨I2, L2, c2, r2, f2⟩ := q2 I1 L1 (RelM_hi f1 hm)
  refine g_aload_n K 1 dL_law_1966 rfl ?_
  refine g_arg K hs (j := 1) rfl (by omega) dL_law_1967 dL_law_1968 dL_law_1969 dL_law_1970 dL_law_1971 ?_
  refine g_arg K hs (j := 2) rfl (by omega) dL_law_1972 dL_law_1973 dL_law_1974 dL_law_1975 dL_law_1976 ?_
  refine h_callV K (st := []) [.int (xs (i + 1)), .int (xs (i + 2))] (c1 w (gl g)) q_clX11 lyp_0 rfl ok_X11_drawn ml_L_261 ⟨Nat.le_of_ble_eq_true rfl, Nat.le_of_ble_eq_true rfl⟩ (Nat.le_of_ble_eq_true rfl) dL_law_1977 ?_
  refine g_aload_n K 2 dL_law_1980 rfl ?_
  refine g_arg K hs (j := 1) rfl (by omega) dL_law_1981 dL_law_1982 dL_law_1983 dL_law_1984 dL_law_1985 ?_
  refine g_arg K hs (j := 2) rfl (by omega) dL_law_1986 dL_law_1987 dL_law_1988 dL_law_1989 dL_law_1990 ?_
  refine h_callV K (st := [.int v]) [.int (xs (i + 1)), .int (xs (i + 2))] (c2 w (gl g)) q_clX12 lyp_96 rfl ok_X12_drawn ml_L_264 ⟨Nat.le_of_ble_eq_true rfl, Nat.le_of_ble_eq_true rfl⟩ (Nat.le_of_ble_eq_true rfl) dL_law_1991 ?_
  exact g_icmp_eq K 2313 dL_law_1994 (by decide) (fun _ => k I2 L2 Z1 (RelC_lo f2 r1) r2) (fun z => absurd rfl z)
/-- luck -/
theorem lc_61 (K : q_Ok w g (kL nm) q_NT) (hs : q_Sc w g b N xs) (hi : i + 6 ≤ N) (hc : RelC Z I L) (hm : RelM Z I L) (k : ∀ I' L' Z', RelC Z' I' L' → RelM Z' I' L' → q_Gs w g 2313 (lvL i) [] (q_mm I' L')) : q_Gs w g 1999 (lvL i) [] (q_mm I L) := by
  obtain ⟨v, q1, q2⟩ := q_luck Z (xs (i + 1)) (xs (i + 2)) (xs (i + 3))
  obtain ⟨Z1, eZ⟩ : ∃ Z1, Z1 = Z := ⟨_, rfl⟩
  rw [← eZ] at hc hm q1 q2
  obtain ⟨I1, L1, c1, r1, f1⟩ := q1 I L hc
  obtain ⟨I2, L2, c2, r2, f2⟩ := q2 I1 L1 (RelM_hi f1 hm)
  refine g_aload_n K 1 dL_law_1999 rfl ?_
  refine g_arg K hs (j := 1) rfl (by omega) dL_law_2000 dL_law_2001 dL_law_2002 dL_law_2003 dL_law_2004 ?_
  refine g_arg K hs (j := 2) rfl (by omega) dL_law_2005 dL_law_2006 dL_law_2007 dL_law_2008 dL_law_2009 ?_
  refine g_arg K hs (j := 3) rfl (by omega) dL_law_2010 dL_law_2011 dL_law_2012 dL_law_2013 dL_law_2014 ?_
  refine h_callV K (st := []) [.int (xs (i + 1)), .int (xs (i + 2)), .int (xs (i + 3))] (c1 w (gl g)) q_clX11 lyp_0 rfl ok_X11_luck ml_L_265 ⟨Nat.le_of_ble_eq_true rfl, Nat.le_of_ble_eq_true rfl⟩ (Nat.le_of_ble_eq_true rfl) dL_law_2015 ?_
  refine g_aload_n K 2 dL_law_2018 rfl ?_
  refine g_arg K hs (j := 1) rfl (by omega) dL_law_2019 dL_law_2020 dL_law_2021 dL_law_2022 dL_law_2023 ?_
  refine g_arg K hs (j := 2) rfl (by omega) dL_law_2024 dL_law_2025 dL_law_2026 dL_law_2027 dL_law_2028 ?_
  refine g_arg K hs (j := 3) rfl (by omega) dL_law_2029 dL_law_2030 dL_law_2031 dL_law_2032 dL_law_2033 ?_
  refine h_callV K (st := [.int v]) [.int (xs (i + 1)), .int (xs (i + 2)), .int (xs (i + 3))] (c2 w (gl g)) q_clX12 lyp_96 rfl ok_X12_luck ml_L_268 ⟨Nat.le_of_ble_eq_true rfl, Nat.le_of_ble_eq_true rfl⟩ (Nat.le_of_ble_eq_true rfl) dL_law_2034 ?_
  exact g_icmp_eq K 2313 dL_law_2037 (by decide) (fun _ => k I2 L2 Z1 (RelC_lo f2 r1) r2) (fun z => absurd rfl z)
/-- hushes -/
theorem lc_62 (K : q_Ok w g (kL nm) q_NT) (hs : q_Sc w g b N xs) (hi : i + 6 ≤ N) (hc : RelC Z I L) (hm : RelM Z I L) (k : ∀ I' L' Z', RelC Z' I' L' → RelM Z' I' L' → q_Gs w g 2313 (lvL i) [] (q_mm I' L')) : q_Gs w g 2042 (lvL i) [] (q_mm I L) := by
  obtain ⟨Z1, v, q1, q2⟩ := q_hushes Z (xs (i + 1))
  obtain ⟨I1, L1, c1, r1, f1⟩ := q1 I L hc
  obtain ⟨I2, L2, c2, r2, f2⟩ := q2 I1 L1 (RelM_hi f1 hm)
  refine g_aload_n K 1 dL_law_2042 rfl ?_
  refine g_arg K hs (j := 1) rfl (by omega) dL_law_2043 dL_law_2044 dL_law_2045 dL_law_2046 dL_law_2047 ?_
  refine h_callV K (st := []) [.int (xs (i + 1))] (c1 w (gl g)) q_clX11 lyp_0 rfl ok_X11_hushes ml_L_269 ⟨Nat.le_of_ble_eq_true rfl, Nat.le_of_ble_eq_true rfl⟩ (Nat.le_of_ble_eq_true rfl) dL_law_2048 ?_
  refine g_aload_n K 2 dL_law_2051 rfl ?_
  refine g_arg K hs (j := 1) rfl (by omega) dL_law_2052 dL_law_2053 dL_law_2054 dL_law_2055 dL_law_2056 ?_
  refine h_callV K (st := [.int v]) [.int (xs (i + 1))] (c2 w (gl g)) q_clX12 lyp_96 rfl ok_X12_hushes ml_L_272 ⟨Nat.le_of_ble_eq_true rfl, Nat.le_of_ble_eq_true rfl⟩ (Nat.le_of_ble_eq_true rfl) dL_law_2057 ?_
  exact g_icmp_eq K 2313 dL_law_2060 (by decide) (fun _ => k I2 L2 Z1 (RelC_lo f2 r1) r2) (fun z => absurd rfl z)
/-- count -/
theorem lc_63 (K : q_Ok w g (kL nm) q_NT) (hs : q_Sc w g b N xs) (hi : i + 6 ≤ N) (hc : RelC Z I L) (hm : RelM Z I L) (k : ∀ I' L' Z', RelC Z' I' L' → RelM Z' I' L' → q_Gs w g 2313 (lvL i) [] (q_mm I' L')) : q_Gs w g 2065 (lvL i) [] (q_mm I L) := by
  obtain ⟨v, q1, q2⟩ := q_count Z (xs (i + 1))
  obtain ⟨Z1, eZ⟩ : ∃ Z1, Z1 = Z := ⟨_, rfl⟩
  rw [← eZ] at hc hm q1 q2
  obtain ⟨I1, L1, c1, r1, f1⟩ := q1 I L hc
  obtain ⟨I2, L2, c2, r2, f2⟩ := q2 I1 L1 (RelM_hi f1 hm)
  refine g_aload_n K 1 dL_law_2065 rfl ?_
  refine g_arg K hs (j := 1) rfl (by omega) dL_law_2066 dL_law_2067 dL_law_2068 dL_law_2069 dL_law_2070 ?_
  refine h_callV K (st := []) [.int (xs (i + 1))] (c1 w (gl g)) q_clX11 lyp_0 rfl ok_X11_count ml_L_273 ⟨Nat.le_of_ble_eq_true rfl, Nat.le_of_ble_eq_true rfl⟩ (Nat.le_of_ble_eq_true rfl) dL_law_2071 ?_
  refine g_aload_n K 2 dL_law_2074 rfl ?_
  refine g_arg K hs (j := 1) rfl (by omega) dL_law_2075 dL_law_2076 dL_law_2077 dL_law_2078 dL_law_2079 ?_
  refine h_callV K (st := [.int v]) [.int (xs (i + 1))] (c2 w (gl g)) q_clX12 lyp_96 rfl ok_X12_count ml_L_276 ⟨Nat.le_of_ble_eq_true rfl, Nat.le_of_ble_eq_true rfl⟩ (Nat.le_of_ble_eq_true rfl) dL_law_2080 ?_
  exact g_icmp_eq K 2313 dL_law_2083 (by decide) (fun _ => k I2 L2 Z1 (RelC_lo f2 r1) r2) (fun z => absurd rfl z)
/-- image -/
theorem lc_64 (K : q_Ok w g (kL nm) q_NT) (hs : q_Sc w g b N xs) (hi : i + 6 ≤ N) (hc : RelC Z I L) (hm : RelM Z I L) (k : ∀ I' L' Z', RelC Z' I' L' → RelM Z' I' L' → q_Gs w g 2313 (lvL i) [] (q_mm I' L')) : q_Gs w g 2088 (lvL i) [] (q_mm I L) := by
  obtain ⟨Z1, v, q1, q2⟩ := q_image Z (xs (i + 1))
  obtain ⟨I1, L1, c1, r1, f1⟩ := q1 I L hc
  obtain ⟨I2, L2, c2, r2, f2⟩ := q2 I1 L1 (RelM_hi f1 hm)
  refine g_aload_n K 1 dL_law_2088 rfl ?_
  refine g_arg K hs (j := 1) rfl (by omega) dL_law_2089 dL_law_2090 dL_law_2091 dL_law_2092 dL_law_2093 ?_
  refine h_callV K (st := []) [.int (xs (i + 1))] (c1 w (gl g)) q_clX11 lyp_0 rfl ok_X11_image ml_L_277 ⟨Nat.le_of_ble_eq_true rfl, Nat.le_of_ble_eq_true rfl⟩ (Nat.le_of_ble_eq_true rfl) dL_law_2094 ?_
  refine g_aload_n K 2 dL_law_2097 rfl ?_
  refine g_arg K hs (j := 1) rfl (by omega) dL_law_2098 dL_law_2099 dL_law_2100 dL_law_2101 dL_law_2102 ?_
  refine h_callV K (st := [.int v]) [.int (xs (i + 1))] (c2 w (gl g)) q_clX12 lyp_96 rfl ok_X12_image ml_L_280 ⟨Nat.le_of_ble_eq_true rfl, Nat.le_of_ble_eq_true rfl⟩ (Nat.le_of_ble_eq_true rfl) dL_law_2103 ?_
  exact g_icmp_eq K 2313 dL_law_2106 (by decide) (fun _ => k I2 L2 Z1 (RelC_lo f2 r1) r2) (fun z => absurd rfl z)
/-- back -/
theorem lc_65 (K : q_Ok w g (kL nm) q_NT) (hs : q_Sc w g b N xs) (hi : i + 6 ≤ N) (hc : RelC Z I L) (hm : RelM Z I L) (k : ∀ I' L' Z', RelC Z' I' L' → RelM Z' I' L' → q_Gs w g 2313 (lvL i) [] (q_mm I' L')) : q_Gs w g 2111 (lvL i) [] (q_mm I L) := by
  obtain ⟨Z1, v, q1, q2⟩ := qz_back Z (xs (i + 1))
  obtain ⟨I1, L1, c1, r1, f1⟩ := q1 I L hc
  obtain ⟨I2, L2, c2, r2, f2⟩ := q2 I1 L1 (RelM_hi f1 hm)
  refine g_aload_n K 1 dL_law_2111 rfl ?_
  refine g_arg K hs (j := 1) rfl (by omega) dL_law_2112 dL_law_2113 dL_law_2114 dL_law_2115 dL_law_2116 ?_
  refine h_callV K (st := []) [.int (xs (i + 1))] (c1 w (gl g)) q_clX11 lyp_0 rfl ok_X11_back ml_L_281 ⟨Nat.le_of_ble_eq_true rfl, Nat.le_of_ble_eq_true rfl⟩ (Nat.le_of_ble_eq_true rfl) dL_law_2117 ?_
  refine g_aload_n K 2 dL_law_2120 rfl ?_
  refine g_arg K hs (j := 1) rfl (by omega) dL_law_2121 dL_law_2122 dL_law_2123 dL_law_2124 dL_law_2125 ?_
  refine h_callV K (st := [.int v]) [.int (xs (i + 1))] (c2 w (gl g)) q_clX12 lyp_96 rfl ok_X12_back ml_L_284 ⟨Nat.le_of_ble_eq_true rfl, Nat.le_of_ble_eq_true rfl⟩ (Nat.le_of_ble_eq_true rfl) dL_law_2126 ?_
  exact g_icmp_eq K 2313 dL_law_2129 (by decide) (fun _ => k I2 L2 Z1 (RelC_lo f2 r1) r2) (fun z => absurd rfl z)
/-- row -/
theorem lc_66 (K : q_Ok w g (kL nm) q_NT) (hs : q_Sc w g b N xs) (hi : i + 6 ≤ N) (hc : RelC Z I L) (hm : RelM Z I L) (k : ∀ I' L' Z', RelC Z' I' L' → RelM Z' I' L' → q_Gs w g 2313 (lvL i) [] (q_mm I' L')) : q_Gs w g 2134 (lvL i) [] (q_mm I L) := by
  obtain ⟨Z1, v, q1, q2⟩ := q_row Z (xs (i + 1)) (xs (i + 2)) (xs (i + 3))
  obtain ⟨I1, L1, c1, r1, f1⟩ := q1 I L hc
  obtain ⟨I2, L2, c2, r2, f2⟩ := q2 I1 L1 (RelM_hi f1 hm)
  refine g_aload_n K 1 dL_law_2134 rfl ?_
  refine g_arg K hs (j := 1) rfl (by omega) dL_law_2135 dL_law_2136 dL_law_2137 dL_law_2138 dL_law_2139 ?_
  refine g_arg K hs (j := 2) rfl (by omega) dL_law_2140 dL_law_2141 dL_law_2142 dL_law_2143 dL_law_2144 ?_
  refine g_arg K hs (j := 3) rfl (by omega) dL_law_2145 dL_law_2146 dL_law_2147 dL_law_2148 dL_law_2149 ?_
  refine h_callV K (st := []) [.int (xs (i + 1)), .int (xs (i + 2)), .int (xs (i + 3))] (c1 w (gl g)) q_clX11 lyp_0 rfl ok_X11_row ml_L_285 ⟨Nat.le_of_ble_eq_true rfl, Nat.le_of_ble_eq_true rfl⟩ (Nat.le_of_ble_eq_true rfl) dL_law_2150 ?_
  refine g_aload_n K 2 dL_law_2153 rfl ?_
  refine g_arg K hs (j := 1) rfl (by omega) dL_law_2154 dL_law_2155 dL_law_2156 dL_law_2157 dL_law_2158 ?_
  refine g_arg K hs (j := 2) rfl (by omega) dL_law_2159 dL_law_2160 dL_law_2161 dL_law_2162 dL_law_2163 ?_
  refine g_arg K hs (j := 3) rfl (by omega) dL_law_2164 dL_law_2165 dL_law_2166 dL_law_2167 dL_law_2168 ?_
  refine h_callV K (st := [.int v]) [.int (xs (i + 1)), .int (xs (i + 2)), .int (xs (i + 3))] (c2 w (gl g)) q_clX12 lyp_96 rfl ok_X12_row ml_L_288 ⟨Nat.le_of_ble_eq_true rfl, Nat.le_of_ble_eq_true rfl⟩ (Nat.le_of_ble_eq_true rfl) dL_law_2169 ?_
  exact g_icmp_eq K 2313 dL_law_2172 (by decide) (fun _ => k I2 L2 Z1 (RelC_lo f2 r1) r2) (fun z => absurd rfl z)
/-- write -/
theorem lc_67 (K : q_Ok w g (kL nm) q_NT) (hs : q_Sc w g b N xs) (hi : i + 6 ≤ N) (hc : RelC Z I L) (hm : RelM Z I L) (k : ∀ I' L' Z', RelC Z' I' L' → RelM Z' I' L' → q_Gs w g 2313 (lvL i) [] (q_mm I' L')) : q_Gs w g 2177 (lvL i) [] (q_mm I L) := by
  obtain ⟨Z1, v, q1, q2⟩ := q_write Z (xs (i + 1)) (xs (i + 2)) ((xs (i + 3)).toInt64 <<< ((32 : Int32).toInt64 &&& 63) ||| (xs (i + 4)).toInt64 &&& 4294967295)
  obtain ⟨I1, L1, c1, r1, f1⟩ := q1 I L hc
  obtain ⟨I2, L2, c2, r2, f2⟩ := q2 I1 L1 (RelM_hi f1 hm)
  refine g_aload_n K 1 dL_law_2177 rfl ?_
  refine g_arg K hs (j := 1) rfl (by omega) dL_law_2178 dL_law_2179 dL_law_2180 dL_law_2181 dL_law_2182 ?_
  refine g_arg K hs (j := 2) rfl (by omega) dL_law_2183 dL_law_2184 dL_law_2185 dL_law_2186 dL_law_2187 ?_
  refine g_arg K hs (j := 3) rfl (by omega) dL_law_2188 dL_law_2189 dL_law_2190 dL_law_2191 dL_law_2192 ?_
  refine g_i2l K dL_law_2193 ?_
  refine g_bipush K 32 dL_law_2194 rfl ?_
  refine g_lshl K dL_law_2196 ?_
  refine g_arg K hs (j := 4) rfl (by omega) dL_law_2197 dL_law_2198 dL_law_2199 dL_law_2200 dL_law_2201 ?_
  refine g_i2l K dL_law_2202 ?_
  refine g_ldc2_w K 4294967295 dL_law_2203 cn_L_289 ?_
  refine g_land K dL_law_2206 ?_
  refine g_lor K dL_law_2207 ?_
  refine h_callV K (st := []) [.int (xs (i + 1)), .int (xs (i + 2)), .long ((xs (i + 3)).toInt64 <<< ((32 : Int32).toInt64 &&& 63) ||| (xs (i + 4)).toInt64 &&& 4294967295)] (c1 w (gl g)) q_clX11 lyp_0 rfl ok_X11_write ml_L_291 ⟨Nat.le_of_ble_eq_true rfl, Nat.le_of_ble_eq_true rfl⟩ (Nat.le_of_ble_eq_true rfl) dL_law_2208 ?_
  refine g_aload_n K 2 dL_law_2211 rfl ?_
  refine g_arg K hs (j := 1) rfl (by omega) dL_law_2212 dL_law_2213 dL_law_2214 dL_law_2215 dL_law_2216 ?_
  refine g_arg K hs (j := 2) rfl (by omega) dL_law_2217 dL_law_2218 dL_law_2219 dL_law_2220 dL_law_2221 ?_
  refine g_arg K hs (j := 3) rfl (by omega) dL_law_2222 dL_law_2223 dL_law_2224 dL_law_2225 dL_law_2226 ?_
  refine g_i2l K dL_law_2227 ?_
  refine g_bipush K 32 dL_law_2228 rfl ?_
  refine g_lshl K dL_law_2230 ?_
  refine g_arg K hs (j := 4) rfl (by omega) dL_law_2231 dL_law_2232 dL_law_2233 dL_law_2234 dL_law_2235 ?_
  refine g_i2l K dL_law_2236 ?_
  refine g_ldc2_w K 4294967295 dL_law_2237 cn_L_289 ?_
  refine g_land K dL_law_2240 ?_
  refine g_lor K dL_law_2241 ?_
  refine h_callV K (st := [.int v]) [.int (xs (i + 1)), .int (xs (i + 2)), .long ((xs (i + 3)).toInt64 <<< ((32 : Int32).toInt64 &&& 63) ||| (xs (i + 4)).toInt64 &&& 4294967295)] (c2 w (gl g)) q_clX12 lyp_96 rfl ok_X12_write ml_L_295 ⟨Nat.le_of_ble_eq_true rfl, Nat.le_of_ble_eq_true rfl⟩ (Nat.le_of_ble_eq_true rfl) dL_law_2242 ?_
  exact g_icmp_eq K 2313 dL_law_2245 (by decide) (fun _ => k I2 L2 Z1 (RelC_lo f2 r1) r2) (fun z => absurd rfl z)
/-- paste -/
theorem lc_68 (K : q_Ok w g (kL nm) q_NT) (hs : q_Sc w g b N xs) (hi : i + 6 ≤ N) (hc : RelC Z I L) (hm : RelM Z I L) (k : ∀ I' L' Z', RelC Z' I' L' → RelM Z' I' L' → q_Gs w g 2313 (lvL i) [] (q_mm I' L')) : q_Gs w g 2250 (lvL i) [] (q_mm I L) := by
  obtain ⟨Z1, v, q1, q2⟩ := q_paste Z (xs (i + 1)) (xs (i + 2)) (xs (i + 3)) (xs (i + 4)) (xs (i + 5))
  obtain ⟨I1, L1, c1, r1, f1⟩ := q1 I L hc
  obtain ⟨I2, L2, c2, r2, f2⟩ := q2 I1 L1 (RelM_hi f1 hm)
  refine g_aload_n K 1 dL_law_2250 rfl ?_
  refine g_arg K hs (j := 1) rfl (by omega) dL_law_2251 dL_law_2252 dL_law_2253 dL_law_2254 dL_law_2255 ?_
  refine g_arg K hs (j := 2) rfl (by omega) dL_law_2256 dL_law_2257 dL_law_2258 dL_law_2259 dL_law_2260 ?_
  refine g_arg K hs (j := 3) rfl (by omega) dL_law_2261 dL_law_2262 dL_law_2263 dL_law_2264 dL_law_2265 ?_
  refine g_arg K hs (j := 4) rfl (by omega) dL_law_2266 dL_law_2267 dL_law_2268 dL_law_2269 dL_law_2270 ?_
  refine g_arg K hs (j := 5) rfl (by omega) dL_law_2271 dL_law_2272 dL_law_2273 dL_law_2274 dL_law_2275 ?_
  refine h_callV K (st := []) [.int (xs (i + 1)), .int (xs (i + 2)), .int (xs (i + 3)), .int (xs (i + 4)), .int (xs (i + 5))] (c1 w (gl g)) q_clX11 lyp_0 rfl ok_X11_paste ml_L_296 ⟨Nat.le_of_ble_eq_true rfl, Nat.le_of_ble_eq_true rfl⟩ (Nat.le_of_ble_eq_true rfl) dL_law_2276 ?_
  refine g_aload_n K 2 dL_law_2279 rfl ?_
  refine g_arg K hs (j := 1) rfl (by omega) dL_law_2280 dL_law_2281 dL_law_2282 dL_law_2283 dL_law_2284 ?_
  refine g_arg K hs (j := 2) rfl (by omega) dL_law_2285 dL_law_2286 dL_law_2287 dL_law_2288 dL_law_2289 ?_
  refine g_arg K hs (j := 3) rfl (by omega) dL_law_2290 dL_law_2291 dL_law_2292 dL_law_2293 dL_law_2294 ?_
  refine g_arg K hs (j := 4) rfl (by omega) dL_law_2295 dL_law_2296 dL_law_2297 dL_law_2298 dL_law_2299 ?_
  refine g_arg K hs (j := 5) rfl (by omega) dL_law_2300 dL_law_2301 dL_law_2302 dL_law_2303 dL_law_2304 ?_
  refine h_callV K (st := [.int v]) [.int (xs (i + 1)), .int (xs (i + 2)), .int (xs (i + 3)), .int (xs (i + 4)), .int (xs (i + 5))] (c2 w (gl g)) q_clX12 lyp_96 rfl ok_X12_paste ml_L_299 ⟨Nat.le_of_ble_eq_true rfl, Nat.le_of_ble_eq_true rfl⟩ (Nat.le_of_ble_eq_true rfl) dL_law_2305 ?_
  exact g_icmp_eq K 2313 dL_law_2308 (by decide) (fun _ => k I2 L2 Z1 (RelC_lo f2 r1) r2) (fun z => absurd rfl z)
theorem and127 (x : Int32) : ∃ n, n < 128 ∧ x &&& 127 = nI n := by
  have e : x = nI x.toBitVec.toNat := by
    apply Int32.toBitVec_inj.mp
    show x.toBitVec = BitVec.ofNat 32 x.toBitVec.toNat
    rw [BitVec.ofNat_toNat, BitVec.setWidth_eq]
  refine ⟨x.toBitVec.toNat % 128, Nat.mod_lt _ (by decide), ?_⟩
  rw [show x &&& 127 = nI x.toBitVec.toNat &&& nI 127 from congrArg (· &&& (127 : Int32)) e, u_and]
  exact congrArg nI (Nat.and_two_pow_sub_one_eq_mod x.toBitVec.toNat 7)
/-- one turn of the loop -/
theorem l_sw (K : q_Ok w g (kL nm) q_NT) (hs : q_Sc w g b N xs) (hi : i + 6 ≤ N) (hc : RelC Z I L) (hm : RelM Z I L) (k : ∀ I' L' Z', RelC Z' I' L' → RelM Z' I' L' → q_Gs w g 2313 (lvL i) [] (q_mm I' L')) {n : Nat} (hn : n < 128) : q_Gs w g 33 (lvL i) [.int (nI n)] (q_mm I L) := by
  have hx : (nI n).toInt = (n : Int) := nI_toInt (by omega)
  by_cases h68 : n ≤ 68
  · match n, h68 with
    | 0, _ => exact g_tabIn K 324 dL_law_33 (by decide) (by decide) rfl rfl (lc_0 K hs hi hc hm k)
    | 1, _ => exact g_tabIn K 387 dL_law_33 (by decide) (by decide) rfl rfl (lc_1 K hs hi hc hm k)
    | 2, _ => exact g_tabIn K 410 dL_law_33 (by decide) (by decide) rfl rfl (lc_2 K hs hi hc hm k)
    | 3, _ => exact g_tabIn K 423 dL_law_33 (by decide) (by decide) rfl rfl (lc_3 K hs hi hc hm k)
    | 4, _ => exact g_tabIn K 446 dL_law_33 (by decide) (by decide) rfl rfl (lc_4 K hs hi hc hm k)
    | 5, _ => exact g_tabIn K 479 dL_law_33 (by decide) (by decide) rfl rfl (lc_5 K hs hi hc hm k)
    | 6, _ => exact g_tabIn K 502 dL_law_33 (by decide) (by decide) rfl rfl (lc_6 K hs hi hc hm k)
    | 7, _ => exact g_tabIn K 535 dL_law_33 (by decide) (by decide) rfl rfl (lc_7 K hs hi hc hm k)
    | 8, _ => exact g_tabIn K 568 dL_law_33 (by decide) (by decide) rfl rfl (lc_8 K hs hi hc hm k)
    | 9, _ => exact g_tabIn K 591 dL_law_33 (by decide) (by decide) rfl rfl (lc_9 K hs hi hc hm k)
    | 10, _ => exact g_tabIn K 624 dL_law_33 (by decide) (by decide) rfl rfl (lc_10 K hs hi hc hm k)
    | 11, _ => exact g_tabIn K 667 dL_law_33 (by decide) (by decide) rfl rfl (lc_11 K hs hi hc hm k)
    | 12, _ => exact g_tabIn K 700 dL_law_33 (by decide) (by decide) rfl rfl (lc_12 K hs hi hc hm k)
    | 13, _ => exact g_tabIn K 733 dL_law_33 (by decide) (by decide) rfl rfl (lc_13 K hs hi hc hm k)
    | 14, _ => exact g_tabIn K 756 dL_law_33 (by decide) (by decide) rfl rfl (lc_14 K hs hi hc hm k)
    | 15, _ => exact g_tabIn K 779 dL_law_33 (by decide) (by decide) rfl rfl (lc_15 K hs hi hc hm k)
    | 16, _ => exact g_tabIn K 792 dL_law_33 (by decide) (by decide) rfl rfl (lc_16 K hs hi hc hm k)
    | 17, _ => exact g_tabIn K 805 dL_law_33 (by decide) (by decide) rfl rfl (lc_17 K hs hi hc hm k)
    | 18, _ => exact g_tabIn K 818 dL_law_33 (by decide) (by decide) rfl rfl (lc_18 K hs hi hc hm k)
    | 19, _ => exact g_tabIn K 841 dL_law_33 (by decide) (by decide) rfl rfl (lc_19 K hs hi hc hm k)
    | 20, _ => exact g_tabIn K 874 dL_law_33 (by decide) (by decide) rfl rfl (lc_20 K hs hi hc hm k)
    | 21, _ => exact g_tabIn K 907 dL_law_33 (by decide) (by decide) rfl rfl (lc_21 K hs hi hc hm k)
    | 22, _ => exact g_tabIn K 930 dL_law_33 (by decide) (by decide) rfl rfl (lc_22 K hs hi hc hm k)
    | 23, _ => exact g_tabIn K 953 dL_law_33 (by decide) (by decide) rfl rfl (lc_23 K hs hi hc hm k)
    | 24, _ => exact g_tabIn K 976 dL_law_33 (by decide) (by decide) rfl rfl (lc_24 K hs hi hc hm k)
    | 25, _ => exact g_tabIn K 999 dL_law_33 (by decide) (by decide) rfl rfl (lc_25 K hs hi hc hm k)
    | 26, _ => exact g_tabIn K 1032 dL_law_33 (by decide) (by decide) rfl rfl (lc_26 K hs hi hc hm k)
    | 27, _ => exact g_tabIn K 1055 dL_law_33 (by decide) (by decide) rfl rfl (lc_27 K hs hi hc hm k)
    | 28, _ => exact g_tabIn K 1068 dL_law_33 (by decide) (by decide) rfl rfl (lc_28 K hs hi hc hm k)
    | 29, _ => exact g_tabIn K 1091 dL_law_33 (by decide) (by decide) rfl rfl (lc_29 K hs hi hc hm k)
    | 30, _ => exact g_tabIn K 1114 dL_law_33 (by decide) (by decide) rfl rfl (lc_30 K hs hi hc hm k)
    | 31, _ => exact g_tabIn K 1157 dL_law_33 (by decide) (by decide) rfl rfl (lc_31 K hs hi hc hm k)
    | 32, _ => exact g_tabIn K 1210 dL_law_33 (by decide) (by decide) rfl rfl (lc_32 K hs hi hc hm k)
    | 33, _ => exact g_tabIn K 1253 dL_law_33 (by decide) (by decide) rfl rfl (lc_33 K hs hi hc hm k)
    | 34, _ => exact g_tabIn K 1296 dL_law_33 (by decide) (by decide) rfl rfl (lc_34 K hs hi hc hm k)
    | 35, _ => exact g_tabIn K 1349 dL_law_33 (by decide) (by decide) rfl rfl (lc_35 K hs hi hc hm k)
    | 36, _ => exact g_tabIn K 1392 dL_law_33 (by decide) (by decide) rfl rfl (lc_36 K hs hi hc hm k)
    | 37, _ => exact g_tabIn K 1405 dL_law_33 (by decide) (by decide) rfl rfl (lc_37 K hs hi hc hm k)
    | 38, _ => exact g_tabIn K 1428 dL_law_33 (by decide) (by decide) rfl rfl (lc_38 K hs hi hc hm k)
    | 39, _ => exact g_tabIn K 1461 dL_law_33 (by decide) (by decide) rfl rfl (lc_39 K hs hi hc hm k)
    | 40, _ => exact g_tabIn K 1474 dL_law_33 (by decide) (by decide) rfl rfl (lc_40 K hs hi hc hm k)
    | 41, _ => exact g_tabIn K 1487 dL_law_33 (by decide) (by decide) rfl rfl (lc_41 K hs hi hc hm k)
    | 42, _ => exact g_tabIn K 1510 dL_law_33 (by decide) (by decide) rfl rfl (lc_42 K hs hi hc hm k)
    | 43, _ => exact g_tabIn K 1523 dL_law_33 (by decide) (by decide) rfl rfl (lc_43 K hs hi hc hm k)
    | 44, _ => exact g_tabIn K 1546 dL_law_33 (by decide) (by decide) rfl rfl (lc_44 K hs hi hc hm k)
    | 45, _ => exact g_tabIn K 1569 dL_law_33 (by decide) (by decide) rfl rfl (lc_45 K hs hi hc hm k)
    | 46, _ => exact g_tabIn K 1592 dL_law_33 (by decide) (by decide) rfl rfl (lc_46 K hs hi hc hm k)
    | 47, _ => exact g_tabIn K 1615 dL_law_33 (by decide) (by decide) rfl rfl (lc_47 K hs hi hc hm k)
    | 48, _ => exact g_tabIn K 1638 dL_law_33 (by decide) (by decide) rfl rfl (lc_48 K hs hi hc hm k)
    | 49, _ => exact g_tabIn K 1651 dL_law_33 (by decide) (by decide) rfl rfl (lc_49 K hs hi hc hm k)
    | 50, _ => exact g_tabIn K 1664 dL_law_33 (by decide) (by decide) rfl rfl (lc_50 K hs hi hc hm k)
    | 51, _ => exact g_tabIn K 1677 dL_law_33 (by decide) (by decide) rfl rfl (lc_51 K hs hi hc hm k)
    | 52, _ => exact g_tabIn K 1700 dL_law_33 (by decide) (by decide) rfl rfl (lc_52 K hs hi hc hm k)
    | 53, _ => exact g_tabIn K 1733 dL_law_33 (by decide) (by decide) rfl rfl (lc_53 K hs hi hc hm k)
    | 54, _ => exact g_tabIn K 1786 dL_law_33 (by decide) (by decide) rfl rfl (lc_54 K hs hi hc hm k)
    | 55, _ => exact g_tabIn K 1830 dL_law_33 (by decide) (by decide) rfl rfl (lc_55 K hs hi hc hm k)
    | 56, _ => exact g_tabIn K 1864 dL_law_33 (by decide) (by decide) rfl rfl (lc_56 K hs hi hc hm k)
    | 57, _ => exact g_tabIn K 1907 dL_law_33 (by decide) (by decide) rfl rfl (lc_57 K hs hi hc hm k)
    | 58, _ => exact g_tabIn K 1940 dL_law_33 (by decide) (by decide) rfl rfl (lc_58 K hs hi hc hm k)
    | 59, _ => exact g_tabIn K 1953 dL_law_33 (by decide) (by decide) rfl rfl (lc_59 K hs hi hc hm k)
    | 60, _ => exact g_tabIn K 1966 dL_law_33 (by decide) (by decide) rfl rfl (lc_60 K hs hi hc hm k)
    | 61, _ => exact g_tabIn K 1999 dL_law_33 (by decide) (by decide) rfl rfl (lc_61 K hs hi hc hm k)
    | 62, _ => exact g_tabIn K 2042 dL_law_33 (by decide) (by decide) rfl rfl (lc_62 K hs hi hc hm k)
    | 63, _ => exact g_tabIn K 2065 dL_law_33 (by decide) (by decide) rfl rfl (lc_63 K hs hi hc hm k)
    | 64, _ => exact g_tabIn K 2088 dL_law_33 (by decide) (by decide) rfl rfl (lc_64 K hs hi hc hm k)
    | 65, _ => exact g_tabIn K 2111 dL_law_33 (by decide) (by decide) rfl rfl (lc_65 K hs hi hc hm k)
    | 66, _ => exact g_tabIn K 2134 dL_law_33 (by decide) (by decide) rfl rfl (lc_66 K hs hi hc hm k)
    | 67, _ => exact g_tabIn K 2177 dL_law_33 (by decide) (by decide) rfl rfl (lc_67 K hs hi hc hm k)
    | 68, _ => exact g_tabIn K 2250 dL_law_33 (by decide) (by decide) rfl rfl (lc_68 K hs hi hc hm k)
    | n + 69, h => exact absurd h (by omega)
  · exact g_tabOut K 2313 dL_law_33 (Or.inr (by rw [hx]; omega)) rfl (k I L Z hc hm)
theorem l_loop (K : q_Ok w g (kL nm) q_NT) (hs : q_Sc w g b N xs) (hE : ∀ I' L' i', q_Gs w g 2319 (lvL i') [] (q_mm I' L')) : ∀ (m i : Nat), N ≤ i + m → ∀ (Z : St) (I : Nat → Nat → Int32) (L : Nat → Nat → Int64), i ≤ N → RelC Z I L → RelM Z I L → q_Gs w g 18 (lvL i) [] (q_mm I L) := by
  have hN := hs.2.2.2.2
  intro m
  induction m using Nat.strongRecOn with
  | _ m ih =>
    intro i hm Z I L hi hc hr
    refine g_iload_n K 3 dL_law_18 rfl ?_
    refine g_aload_n K 0 dL_law_19 rfl ?_
    refine g_slen K hs dL_law_20 ?_
    refine g_bipush K 6 dL_law_21 rfl ?_
    refine g_isub K dL_law_23 ?_
    have e6 : nI N - 6 = iI ((N : Int) - 6) := by rw [nI_iI, show (6 : Int32) = iI 6 from rfl, iI_sub]
    rw [e6]
    refine g_icmp_gt K 2319 dL_law_24 (by decide) (fun _ => hE I L i) (fun z => ?_)
    rw [nI_iI, iI_lt (by omega) (by omega)] at z
    refine g_aload_n K 0 dL_law_27 rfl ?_
    refine g_iload_n K 3 dL_law_28 rfl ?_
    refine g_sld K hs (by omega) dL_law_29 ?_
    refine g_bipush K 127 dL_law_30 rfl ?_
    refine g_iand K dL_law_32 ?_
    obtain ⟨n, hn, en⟩ := and127 (xs i)
    rw [en]
    refine l_sw K hs (by omega) hc hr (fun I' L' Z' hc' hr' => ?_) hn
    refine g_iinc K (lv' := [(3, .int (nI (i + 6))), (0, .ref 10200), (1, .ref 0), (2, .ref 96)]) (nI (i + 6)) 3 dL_law_2313 rfl (by rw [show Int32.ofInt 6 = nI 6 from rfl, u_add]) (by show 3 < 4; decide) rfl ?_
    refine g_goto K 18 dL_law_2316 (by decide) ?_
    refine g_perm (lv' := lvL (i + 6)) [1, 2, 3, 0] rfl ?_
    by_cases h6 : m < 6
    · exact ih 0 (by omega) (i + 6) (by omega) Z' I' L' (by omega) hc' hr'
    · exact ih (m - 6) (by omega) (i + 6) (by omega) Z' I' L' (by omega) hc' hr'
end LW
