section LWC
variable {p : Program} {l : Launch} {e : Env} {s : State} {m : MethodId} {below : List Frame} {meth : Method} {c : Code} {Q : State → Prop} {b L : Nat} {xs : Nat → Int32} {k : KK} {am ar : Nat → Nat}
set_option maxHeartbeats 4000000 in
set_option maxRecDepth 100000 in
theorem lw_c360 (C : lwC p s m meth c b L xs k am ar) {S : SM} {g : SR} {H : Heap} {locs : List Loc} (hI : lwI k am ar s S g H locs) (hR : Rel S g) {x3 : Int32} (h1 : vp_in (x3 + 1) L) (h2 : vp_in (x3 + 2) L) (h3 : vp_in (x3 + 3) L) {ls : Array Slot} (hl : lv_has ls 4 [(0, .ref b), (1, .ref (am 0)), (2, .ref (ar 0)), (3, .int x3)])
    (kk : ∀ (S1 : SM) (g1 : SR) (H1 : Heap) (locs1 : List Loc), Rel S1 g1 → lwI k am ar s S1 g1 H1 locs1 → W p l e room_1 s m #[Value.ref b] below meth c H1 locs1 53 2014 Q (F0 m 593 ls [])) : W p l e room_1 s m #[Value.ref b] below meth c H locs 53 2014 Q (F0 m 360 ls []) := by
  obtain ⟨cx, hE, hX, hbl, hbA, hAp⟩ := C
  obtain ⟨hx, hb, hr, hml, hown, hts, hlocks⟩ := id cx
  obtain ⟨v, e1, e2⟩ := k_within (a1 := (xs (x3 + 1).toNatClampNeg)) (a2 := (xs (x3 + 2).toNatClampNeg)) hR
  refine lv_aload_n hx hb d_law_360 rfl (lv_at hl 1 rfl) ?_
  refine lv_aload_n hx hb d_law_361 rfl (lv_at hl 0 rfl) ?_
  refine lv_iload_n hx hb d_law_362 rfl (lv_at hl 3 rfl) ?_
  refine lv_iconst (v := 1) hx hb d_law_363 (by decide) ?_
  refine lv_iadd hx hb d_law_364 ?_
  refine va_sld hx hb hX hbl hbA hI.2.2.2.2 h1 d_law_365 ?_
  refine lv_aload_n hx hb d_law_366 rfl (lv_at hl 0 rfl) ?_
  refine lv_iload_n hx hb d_law_367 rfl (lv_at hl 3 rfl) ?_
  refine lv_iconst (v := 2) hx hb d_law_368 (by decide) ?_
  refine lv_iadd hx hb d_law_369 ?_
  refine va_sld hx hb hX hbl hbA hI.2.2.2.2 h2 d_law_370 ?_
  refine mp_si (mp_runV (As := [.int (xs (x3 + 1).toNatClampNeg), .int (xs (x3 + 2).toNatClampNeg)]) (rest := []) cx kV_L_42 (cM_within l k am S (xs (x3 + 1).toNatClampNeg) (xs (x3 + 2).toNatClampNeg) v e1) ⟨rfl, rfl, Nat.le_of_ble_eq_true rfl, Nat.le_of_ble_eq_true rfl⟩ ⟨Nat.le_of_ble_eq_true rfl, Nat.le_of_ble_eq_true rfl⟩ hE hI.1 hI.2.1 hI.2.2.2.2 0 rfl rfl rfl hl.1 rfl (Nat.le_of_ble_eq_true rfl) d_law_371) ?_
  refine lv_aload_n hx hb d_law_374 rfl (lv_at hl 2 rfl) ?_
  refine lv_aload_n hx hb d_law_375 rfl (lv_at hl 0 rfl) ?_
  refine lv_iload_n hx hb d_law_376 rfl (lv_at hl 3 rfl) ?_
  refine lv_iconst (v := 1) hx hb d_law_377 (by decide) ?_
  refine lv_iadd hx hb d_law_378 ?_
  refine va_sld hx hb hX hbl hbA hI.2.2.2.2 h1 d_law_379 ?_
  refine lv_aload_n hx hb d_law_380 rfl (lv_at hl 0 rfl) ?_
  refine lv_iload_n hx hb d_law_381 rfl (lv_at hl 3 rfl) ?_
  refine lv_iconst (v := 2) hx hb d_law_382 (by decide) ?_
  refine lv_iadd hx hb d_law_383 ?_
  refine va_sld hx hb hX hbl hbA hI.2.2.2.2 h2 d_law_384 ?_
  refine mp_si (mp_runV (As := [.int (xs (x3 + 1).toNatClampNeg), .int (xs (x3 + 2).toNatClampNeg)]) (rest := [.int v]) cx kV_L_45 (cR_within l k ar g (xs (x3 + 1).toNatClampNeg) (xs (x3 + 2).toNatClampNeg) v e2) ⟨rfl, rfl, Nat.le_of_ble_eq_true rfl, Nat.le_of_ble_eq_true rfl⟩ ⟨Nat.le_of_ble_eq_true rfl, Nat.le_of_ble_eq_true rfl⟩ hE hI.2.2.1 hI.2.2.2.1 hI.2.2.2.2 0 rfl rfl rfl hl.1 rfl (Nat.le_of_ble_eq_true rfl) d_law_385) ?_
  exact lv_icmp_eq (tgt := 593) hx hb d_law_388 (by decide) (fun _ => kk S g _ _ hR hI) (fun h9 => (h9 rfl).elim)
set_option maxHeartbeats 4000000 in
set_option maxRecDepth 100000 in
theorem lw_c393 (C : lwC p s m meth c b L xs k am ar) {S : SM} {g : SR} {H : Heap} {locs : List Loc} (hI : lwI k am ar s S g H locs) (hR : Rel S g) {x3 : Int32} (h1 : vp_in (x3 + 1) L) (h2 : vp_in (x3 + 2) L) (h3 : vp_in (x3 + 3) L) {ls : Array Slot} (hl : lv_has ls 4 [(0, .ref b), (1, .ref (am 0)), (2, .ref (ar 0)), (3, .int x3)])
    (kk : ∀ (S1 : SM) (g1 : SR) (H1 : Heap) (locs1 : List Loc), Rel S1 g1 → lwI k am ar s S1 g1 H1 locs1 → W p l e room_1 s m #[Value.ref b] below meth c H1 locs1 53 2014 Q (F0 m 593 ls [])) : W p l e room_1 s m #[Value.ref b] below meth c H locs 53 2014 Q (F0 m 393 ls []) := by
  obtain ⟨cx, hE, hX, hbl, hbA, hAp⟩ := C
  obtain ⟨hx, hb, hr, hml, hown, hts, hlocks⟩ := id cx
  obtain ⟨v, e1, e2⟩ := k_can hR
  refine lv_aload_n hx hb d_law_393 rfl (lv_at hl 1 rfl) ?_
  refine mp_si (mp_runV (As := []) (rest := []) cx kV_L_46 (cM_can l k am S v e1) ⟨rfl, rfl, Nat.le_of_ble_eq_true rfl, Nat.le_of_ble_eq_true rfl⟩ ⟨Nat.le_of_ble_eq_true rfl, Nat.le_of_ble_eq_true rfl⟩ hE hI.1 hI.2.1 hI.2.2.2.2 0 rfl rfl rfl hl.1 rfl (Nat.le_of_ble_eq_true rfl) d_law_394) ?_
  refine lv_aload_n hx hb d_law_397 rfl (lv_at hl 2 rfl) ?_
  refine mp_si (mp_runV (As := []) (rest := [.int v]) cx kV_L_50 (cR_can l k ar g v e2) ⟨rfl, rfl, Nat.le_of_ble_eq_true rfl, Nat.le_of_ble_eq_true rfl⟩ ⟨Nat.le_of_ble_eq_true rfl, Nat.le_of_ble_eq_true rfl⟩ hE hI.2.2.1 hI.2.2.2.1 hI.2.2.2.2 0 rfl rfl rfl hl.1 rfl (Nat.le_of_ble_eq_true rfl) d_law_398) ?_
  exact lv_icmp_eq (tgt := 593) hx hb d_law_401 (by decide) (fun _ => kk S g _ _ hR hI) (fun h9 => (h9 rfl).elim)
set_option maxHeartbeats 4000000 in
set_option maxRecDepth 100000 in
theorem lw_c406 (C : lwC p s m meth c b L xs k am ar) {S : SM} {g : SR} {H : Heap} {locs : List Loc} (hI : lwI k am ar s S g H locs) (hR : Rel S g) {x3 : Int32} (h1 : vp_in (x3 + 1) L) (h2 : vp_in (x3 + 2) L) (h3 : vp_in (x3 + 3) L) {ls : Array Slot} (hl : lv_has ls 4 [(0, .ref b), (1, .ref (am 0)), (2, .ref (ar 0)), (3, .int x3)])
    (kk : ∀ (S1 : SM) (g1 : SR) (H1 : Heap) (locs1 : List Loc), Rel S1 g1 → lwI k am ar s S1 g1 H1 locs1 → W p l e room_1 s m #[Value.ref b] below meth c H1 locs1 53 2014 Q (F0 m 593 ls [])) : W p l e room_1 s m #[Value.ref b] below meth c H locs 53 2014 Q (F0 m 406 ls []) := by
  obtain ⟨cx, hE, hX, hbl, hbA, hAp⟩ := C
  obtain ⟨hx, hb, hr, hml, hown, hts, hlocks⟩ := id cx
  obtain ⟨v, S1, g1, e1, e2, hR1⟩ := k_act (a1 := (xs (x3 + 1).toNatClampNeg)) hR
  refine lv_aload_n hx hb d_law_406 rfl (lv_at hl 1 rfl) ?_
  refine lv_aload_n hx hb d_law_407 rfl (lv_at hl 0 rfl) ?_
  refine lv_iload_n hx hb d_law_408 rfl (lv_at hl 3 rfl) ?_
  refine lv_iconst (v := 1) hx hb d_law_409 (by decide) ?_
  refine lv_iadd hx hb d_law_410 ?_
  refine va_sld hx hb hX hbl hbA hI.2.2.2.2 h1 d_law_411 ?_
  refine mp_mi (mp_runV (As := [.int (xs (x3 + 1).toNatClampNeg)]) (rest := []) cx kV_L_51 (cM_act l k am S (xs (x3 + 1).toNatClampNeg) (v, S1) e1) ⟨rfl, rfl, Nat.le_of_ble_eq_true rfl, Nat.le_of_ble_eq_true rfl⟩ ⟨Nat.le_of_ble_eq_true rfl, Nat.le_of_ble_eq_true rfl⟩ hE hI.1 hI.2.1 hI.2.2.2.2 0 rfl rfl rfl hl.1 rfl (Nat.le_of_ble_eq_true rfl) d_law_412) hI.2.2.2.2 (fun q h9 => mp_new hI.2.1 rfl q h9) (fun H1 locs1 hP1 hk1 hS1 => ?_)
  have hI : lwI k am ar s S1 g H1 locs1 := hI.m hAp hP1 hk1 hS1
  refine lv_aload_n hx hb d_law_415 rfl (lv_at hl 2 rfl) ?_
  refine lv_aload_n hx hb d_law_416 rfl (lv_at hl 0 rfl) ?_
  refine lv_iload_n hx hb d_law_417 rfl (lv_at hl 3 rfl) ?_
  refine lv_iconst (v := 1) hx hb d_law_418 (by decide) ?_
  refine lv_iadd hx hb d_law_419 ?_
  refine va_sld hx hb hX hbl hbA hI.2.2.2.2 h1 d_law_420 ?_
  refine mp_mi (mp_runV (As := [.int (xs (x3 + 1).toNatClampNeg)]) (rest := [.int v]) cx kV_L_55 (cR_act l k ar g (xs (x3 + 1).toNatClampNeg) (v, g1) e2) ⟨rfl, rfl, Nat.le_of_ble_eq_true rfl, Nat.le_of_ble_eq_true rfl⟩ ⟨Nat.le_of_ble_eq_true rfl, Nat.le_of_ble_eq_true rfl⟩ hE hI.2.2.1 hI.2.2.2.1 hI.2.2.2.2 0 rfl rfl rfl hl.1 rfl (Nat.le_of_ble_eq_true rfl) d_law_421) hI.2.2.2.2 (fun q h9 => mp_new hI.2.2.2.1 rfl q h9) (fun H1 locs1 hP1 hk1 hS1 => ?_)
  have hI : lwI k am ar s S1 g1 H1 locs1 := hI.r hAp hP1 hk1 hS1
  exact lv_icmp_eq (tgt := 593) hx hb d_law_424 (by decide) (fun _ => kk S1 g1 _ _ hR1 hI) (fun h9 => (h9 rfl).elim)
set_option maxHeartbeats 4000000 in
set_option maxRecDepth 100000 in
theorem lw_c429 (C : lwC p s m meth c b L xs k am ar) {S : SM} {g : SR} {H : Heap} {locs : List Loc} (hI : lwI k am ar s S g H locs) (hR : Rel S g) {x3 : Int32} (h1 : vp_in (x3 + 1) L) (h2 : vp_in (x3 + 2) L) (h3 : vp_in (x3 + 3) L) {ls : Array Slot} (hl : lv_has ls 4 [(0, .ref b), (1, .ref (am 0)), (2, .ref (ar 0)), (3, .int x3)])
    (kk : ∀ (S1 : SM) (g1 : SR) (H1 : Heap) (locs1 : List Loc), Rel S1 g1 → lwI k am ar s S1 g1 H1 locs1 → W p l e room_1 s m #[Value.ref b] below meth c H1 locs1 53 2014 Q (F0 m 593 ls [])) : W p l e room_1 s m #[Value.ref b] below meth c H locs 53 2014 Q (F0 m 429 ls []) := by
  obtain ⟨cx, hE, hX, hbl, hbA, hAp⟩ := C
  obtain ⟨hx, hb, hr, hml, hown, hts, hlocks⟩ := id cx
  obtain ⟨v, S1, g1, e1, e2, hR1⟩ := k_rounds (a1 := (xs (x3 + 1).toNatClampNeg)) hR
  refine lv_aload_n hx hb d_law_429 rfl (lv_at hl 1 rfl) ?_
  refine lv_aload_n hx hb d_law_430 rfl (lv_at hl 0 rfl) ?_
  refine lv_iload_n hx hb d_law_431 rfl (lv_at hl 3 rfl) ?_
  refine lv_iconst (v := 1) hx hb d_law_432 (by decide) ?_
  refine lv_iadd hx hb d_law_433 ?_
  refine va_sld hx hb hX hbl hbA hI.2.2.2.2 h1 d_law_434 ?_
  refine mp_mi (mp_runV (As := [.int (xs (x3 + 1).toNatClampNeg)]) (rest := []) cx kV_L_56 (cM_rounds l k am S (xs (x3 + 1).toNatClampNeg) (v, S1) e1) ⟨rfl, rfl, Nat.le_of_ble_eq_true rfl, Nat.le_of_ble_eq_true rfl⟩ ⟨Nat.le_of_ble_eq_true rfl, Nat.le_of_ble_eq_true rfl⟩ hE hI.1 hI.2.1 hI.2.2.2.2 0 rfl rfl rfl hl.1 rfl (Nat.le_of_ble_eq_true rfl) d_law_435) hI.2.2.2.2 (fun q h9 => mp_new hI.2.1 rfl q h9) (fun H1 locs1 hP1 hk1 hS1 => ?_)
  have hI : lwI k am ar s S1 g H1 locs1 := hI.m hAp hP1 hk1 hS1
  refine lv_aload_n hx hb d_law_438 rfl (lv_at hl 2 rfl) ?_
  refine lv_aload_n hx hb d_law_439 rfl (lv_at hl 0 rfl) ?_
  refine lv_iload_n hx hb d_law_440 rfl (lv_at hl 3 rfl) ?_
  refine lv_iconst (v := 1) hx hb d_law_441 (by decide) ?_
  refine lv_iadd hx hb d_law_442 ?_
  refine va_sld hx hb hX hbl hbA hI.2.2.2.2 h1 d_law_443 ?_
  refine mp_mi (mp_runV (As := [.int (xs (x3 + 1).toNatClampNeg)]) (rest := [.int v]) cx kV_L_59 (cR_rounds l k ar g (xs (x3 + 1).toNatClampNeg) (v, g1) e2) ⟨rfl, rfl, Nat.le_of_ble_eq_true rfl, Nat.le_of_ble_eq_true rfl⟩ ⟨Nat.le_of_ble_eq_true rfl, Nat.le_of_ble_eq_true rfl⟩ hE hI.2.2.1 hI.2.2.2.1 hI.2.2.2.2 0 rfl rfl rfl hl.1 rfl (Nat.le_of_ble_eq_true rfl) d_law_444) hI.2.2.2.2 (fun q h9 => mp_new hI.2.2.2.1 rfl q h9) (fun H1 locs1 hP1 hk1 hS1 => ?_)
  have hI : lwI k am ar s S1 g1 H1 locs1 := hI.r hAp hP1 hk1 hS1
  exact lv_icmp_eq (tgt := 593) hx hb d_law_447 (by decide) (fun _ => kk S1 g1 _ _ hR1 hI) (fun h9 => (h9 rfl).elim)
set_option maxHeartbeats 4000000 in
set_option maxRecDepth 100000 in
theorem lw_c452 (C : lwC p s m meth c b L xs k am ar) {S : SM} {g : SR} {H : Heap} {locs : List Loc} (hI : lwI k am ar s S g H locs) (hR : Rel S g) {x3 : Int32} (h1 : vp_in (x3 + 1) L) (h2 : vp_in (x3 + 2) L) (h3 : vp_in (x3 + 3) L) {ls : Array Slot} (hl : lv_has ls 4 [(0, .ref b), (1, .ref (am 0)), (2, .ref (ar 0)), (3, .int x3)])
    (kk : ∀ (S1 : SM) (g1 : SR) (H1 : Heap) (locs1 : List Loc), Rel S1 g1 → lwI k am ar s S1 g1 H1 locs1 → W p l e room_1 s m #[Value.ref b] below meth c H1 locs1 53 2014 Q (F0 m 593 ls [])) : W p l e room_1 s m #[Value.ref b] below meth c H locs 53 2014 Q (F0 m 452 ls []) := by
  obtain ⟨cx, hE, hX, hbl, hbA, hAp⟩ := C
  obtain ⟨hx, hb, hr, hml, hown, hts, hlocks⟩ := id cx
  obtain ⟨v, S1, g1, e1, e2, hR1⟩ := k_rows (a1 := (xs (x3 + 1).toNatClampNeg)) hR
  refine lv_aload_n hx hb d_law_452 rfl (lv_at hl 1 rfl) ?_
  refine lv_aload_n hx hb d_law_453 rfl (lv_at hl 0 rfl) ?_
  refine lv_iload_n hx hb d_law_454 rfl (lv_at hl 3 rfl) ?_
  refine lv_iconst (v := 1) hx hb d_law_455 (by decide) ?_
  refine lv_iadd hx hb d_law_456 ?_
  refine va_sld hx hb hX hbl hbA hI.2.2.2.2 h1 d_law_457 ?_
  refine mp_mi (mp_runV (As := [.int (xs (x3 + 1).toNatClampNeg)]) (rest := []) cx kV_L_60 (cM_rows l k am S (xs (x3 + 1).toNatClampNeg) (v, S1) e1) ⟨rfl, rfl, Nat.le_of_ble_eq_true rfl, Nat.le_of_ble_eq_true rfl⟩ ⟨Nat.le_of_ble_eq_true rfl, Nat.le_of_ble_eq_true rfl⟩ hE hI.1 hI.2.1 hI.2.2.2.2 0 rfl rfl rfl hl.1 rfl (Nat.le_of_ble_eq_true rfl) d_law_458) hI.2.2.2.2 (fun q h9 => mp_new hI.2.1 rfl q h9) (fun H1 locs1 hP1 hk1 hS1 => ?_)
  have hI : lwI k am ar s S1 g H1 locs1 := hI.m hAp hP1 hk1 hS1
  refine lv_aload_n hx hb d_law_461 rfl (lv_at hl 2 rfl) ?_
  refine lv_aload_n hx hb d_law_462 rfl (lv_at hl 0 rfl) ?_
  refine lv_iload_n hx hb d_law_463 rfl (lv_at hl 3 rfl) ?_
  refine lv_iconst (v := 1) hx hb d_law_464 (by decide) ?_
  refine lv_iadd hx hb d_law_465 ?_
  refine va_sld hx hb hX hbl hbA hI.2.2.2.2 h1 d_law_466 ?_
  refine mp_mi (mp_runV (As := [.int (xs (x3 + 1).toNatClampNeg)]) (rest := [.int v]) cx kV_L_63 (cR_rows l k ar g (xs (x3 + 1).toNatClampNeg) (v, g1) e2) ⟨rfl, rfl, Nat.le_of_ble_eq_true rfl, Nat.le_of_ble_eq_true rfl⟩ ⟨Nat.le_of_ble_eq_true rfl, Nat.le_of_ble_eq_true rfl⟩ hE hI.2.2.1 hI.2.2.2.1 hI.2.2.2.2 0 rfl rfl rfl hl.1 rfl (Nat.le_of_ble_eq_true rfl) d_law_467) hI.2.2.2.2 (fun q h9 => mp_new hI.2.2.2.1 rfl q h9) (fun H1 locs1 hP1 hk1 hS1 => ?_)
  have hI : lwI k am ar s S1 g1 H1 locs1 := hI.r hAp hP1 hk1 hS1
  exact lv_icmp_eq (tgt := 593) hx hb d_law_470 (by decide) (fun _ => kk S1 g1 _ _ hR1 hI) (fun h9 => (h9 rfl).elim)
set_option maxHeartbeats 4000000 in
set_option maxRecDepth 100000 in
theorem lw_c475 (C : lwC p s m meth c b L xs k am ar) {S : SM} {g : SR} {H : Heap} {locs : List Loc} (hI : lwI k am ar s S g H locs) (hR : Rel S g) {x3 : Int32} (h1 : vp_in (x3 + 1) L) (h2 : vp_in (x3 + 2) L) (h3 : vp_in (x3 + 3) L) {ls : Array Slot} (hl : lv_has ls 4 [(0, .ref b), (1, .ref (am 0)), (2, .ref (ar 0)), (3, .int x3)])
    (kk : ∀ (S1 : SM) (g1 : SR) (H1 : Heap) (locs1 : List Loc), Rel S1 g1 → lwI k am ar s S1 g1 H1 locs1 → W p l e room_1 s m #[Value.ref b] below meth c H1 locs1 53 2014 Q (F0 m 593 ls [])) : W p l e room_1 s m #[Value.ref b] below meth c H locs 53 2014 Q (F0 m 475 ls []) := by
  obtain ⟨cx, hE, hX, hbl, hbA, hAp⟩ := C
  obtain ⟨hx, hb, hr, hml, hown, hts, hlocks⟩ := id cx
  obtain ⟨v, S1, g1, e1, e2, hR1⟩ := k_soonest (a1 := (xs (x3 + 1).toNatClampNeg)) (a2 := (xs (x3 + 2).toNatClampNeg)) (a3 := (xs (x3 + 3).toNatClampNeg)) hR
  refine lv_aload_n hx hb d_law_475 rfl (lv_at hl 1 rfl) ?_
  refine lv_aload_n hx hb d_law_476 rfl (lv_at hl 0 rfl) ?_
  refine lv_iload_n hx hb d_law_477 rfl (lv_at hl 3 rfl) ?_
  refine lv_iconst (v := 1) hx hb d_law_478 (by decide) ?_
  refine lv_iadd hx hb d_law_479 ?_
  refine va_sld hx hb hX hbl hbA hI.2.2.2.2 h1 d_law_480 ?_
  refine lv_aload_n hx hb d_law_481 rfl (lv_at hl 0 rfl) ?_
  refine lv_iload_n hx hb d_law_482 rfl (lv_at hl 3 rfl) ?_
  refine lv_iconst (v := 2) hx hb d_law_483 (by decide) ?_
  refine lv_iadd hx hb d_law_484 ?_
  refine va_sld hx hb hX hbl hbA hI.2.2.2.2 h2 d_law_485 ?_
  refine lv_aload_n hx hb d_law_486 rfl (lv_at hl 0 rfl) ?_
  refine lv_iload_n hx hb d_law_487 rfl (lv_at hl 3 rfl) ?_
  refine lv_iconst (v := 3) hx hb d_law_488 (by decide) ?_
  refine lv_iadd hx hb d_law_489 ?_
  refine va_sld hx hb hX hbl hbA hI.2.2.2.2 h3 d_law_490 ?_
  refine mp_mi (mp_runV (As := [.int (xs (x3 + 1).toNatClampNeg), .int (xs (x3 + 2).toNatClampNeg), .int (xs (x3 + 3).toNatClampNeg)]) (rest := []) cx kV_L_64 (cM_soonest l k am S (xs (x3 + 1).toNatClampNeg) (xs (x3 + 2).toNatClampNeg) (xs (x3 + 3).toNatClampNeg) (v, S1) e1) ⟨rfl, rfl, Nat.le_of_ble_eq_true rfl, Nat.le_of_ble_eq_true rfl⟩ ⟨Nat.le_of_ble_eq_true rfl, Nat.le_of_ble_eq_true rfl⟩ hE hI.1 hI.2.1 hI.2.2.2.2 0 rfl rfl rfl hl.1 rfl (Nat.le_of_ble_eq_true rfl) d_law_491) hI.2.2.2.2 (fun q h9 => mp_new hI.2.1 rfl q h9) (fun H1 locs1 hP1 hk1 hS1 => ?_)
  have hI : lwI k am ar s S1 g H1 locs1 := hI.m hAp hP1 hk1 hS1
  refine lv_aload_n hx hb d_law_494 rfl (lv_at hl 2 rfl) ?_
  refine lv_aload_n hx hb d_law_495 rfl (lv_at hl 0 rfl) ?_
  refine lv_iload_n hx hb d_law_496 rfl (lv_at hl 3 rfl) ?_
  refine lv_iconst (v := 1) hx hb d_law_497 (by decide) ?_
  refine lv_iadd hx hb d_law_498 ?_
  refine va_sld hx hb hX hbl hbA hI.2.2.2.2 h1 d_law_499 ?_
  refine lv_aload_n hx hb d_law_500 rfl (lv_at hl 0 rfl) ?_
  refine lv_iload_n hx hb d_law_501 rfl (lv_at hl 3 rfl) ?_
  refine lv_iconst (v := 2) hx hb d_law_502 (by decide) ?_
  refine lv_iadd hx hb d_law_503 ?_
  refine va_sld hx hb hX hbl hbA hI.2.2.2.2 h2 d_law_504 ?_
  refine lv_aload_n hx hb d_law_505 rfl (lv_at hl 0 rfl) ?_
  refine lv_iload_n hx hb d_law_506 rfl (lv_at hl 3 rfl) ?_
  refine lv_iconst (v := 3) hx hb d_law_507 (by decide) ?_
  refine lv_iadd hx hb d_law_508 ?_
  refine va_sld hx hb hX hbl hbA hI.2.2.2.2 h3 d_law_509 ?_
  refine mp_mi (mp_runV (As := [.int (xs (x3 + 1).toNatClampNeg), .int (xs (x3 + 2).toNatClampNeg), .int (xs (x3 + 3).toNatClampNeg)]) (rest := [.int v]) cx kV_L_68 (cR_soonest l k ar g (xs (x3 + 1).toNatClampNeg) (xs (x3 + 2).toNatClampNeg) (xs (x3 + 3).toNatClampNeg) (v, g1) e2) ⟨rfl, rfl, Nat.le_of_ble_eq_true rfl, Nat.le_of_ble_eq_true rfl⟩ ⟨Nat.le_of_ble_eq_true rfl, Nat.le_of_ble_eq_true rfl⟩ hE hI.2.2.1 hI.2.2.2.1 hI.2.2.2.2 0 rfl rfl rfl hl.1 rfl (Nat.le_of_ble_eq_true rfl) d_law_510) hI.2.2.2.2 (fun q h9 => mp_new hI.2.2.2.1 rfl q h9) (fun H1 locs1 hP1 hk1 hS1 => ?_)
  have hI : lwI k am ar s S1 g1 H1 locs1 := hI.r hAp hP1 hk1 hS1
  exact lv_icmp_eq (tgt := 593) hx hb d_law_513 (by decide) (fun _ => kk S1 g1 _ _ hR1 hI) (fun h9 => (h9 rfl).elim)
set_option maxHeartbeats 4000000 in
set_option maxRecDepth 100000 in
theorem lw_c518 (C : lwC p s m meth c b L xs k am ar) {S : SM} {g : SR} {H : Heap} {locs : List Loc} (hI : lwI k am ar s S g H locs) (hR : Rel S g) {x3 : Int32} (h1 : vp_in (x3 + 1) L) (h2 : vp_in (x3 + 2) L) (h3 : vp_in (x3 + 3) L) {ls : Array Slot} (hl : lv_has ls 4 [(0, .ref b), (1, .ref (am 0)), (2, .ref (ar 0)), (3, .int x3)])
    (kk : ∀ (S1 : SM) (g1 : SR) (H1 : Heap) (locs1 : List Loc), Rel S1 g1 → lwI k am ar s S1 g1 H1 locs1 → W p l e room_1 s m #[Value.ref b] below meth c H1 locs1 53 2014 Q (F0 m 593 ls [])) : W p l e room_1 s m #[Value.ref b] below meth c H locs 53 2014 Q (F0 m 518 ls []) := by
  obtain ⟨cx, hE, hX, hbl, hbA, hAp⟩ := C
  obtain ⟨hx, hb, hr, hml, hown, hts, hlocks⟩ := id cx
  obtain ⟨v, e1, e2⟩ := k_said hR
  refine lv_aload_n hx hb d_law_518 rfl (lv_at hl 1 rfl) ?_
  refine mp_si (mp_runV (As := []) (rest := []) cx kV_L_69 (cM_said l k am S v e1) ⟨rfl, rfl, Nat.le_of_ble_eq_true rfl, Nat.le_of_ble_eq_true rfl⟩ ⟨Nat.le_of_ble_eq_true rfl, Nat.le_of_ble_eq_true rfl⟩ hE hI.1 hI.2.1 hI.2.2.2.2 0 rfl rfl rfl hl.1 rfl (Nat.le_of_ble_eq_true rfl) d_law_519) ?_
  refine lv_aload_n hx hb d_law_522 rfl (lv_at hl 2 rfl) ?_
  refine mp_si (mp_runV (As := []) (rest := [.int v]) cx kV_L_72 (cR_said l k ar g v e2) ⟨rfl, rfl, Nat.le_of_ble_eq_true rfl, Nat.le_of_ble_eq_true rfl⟩ ⟨Nat.le_of_ble_eq_true rfl, Nat.le_of_ble_eq_true rfl⟩ hE hI.2.2.1 hI.2.2.2.1 hI.2.2.2.2 0 rfl rfl rfl hl.1 rfl (Nat.le_of_ble_eq_true rfl) d_law_523) ?_
  exact lv_icmp_eq (tgt := 593) hx hb d_law_526 (by decide) (fun _ => kk S g _ _ hR hI) (fun h9 => (h9 rfl).elim)
set_option maxHeartbeats 4000000 in
set_option maxRecDepth 100000 in
theorem lw_c531 (C : lwC p s m meth c b L xs k am ar) {S : SM} {g : SR} {H : Heap} {locs : List Loc} (hI : lwI k am ar s S g H locs) (hR : Rel S g) {x3 : Int32} (h1 : vp_in (x3 + 1) L) (h2 : vp_in (x3 + 2) L) (h3 : vp_in (x3 + 3) L) {ls : Array Slot} (hl : lv_has ls 4 [(0, .ref b), (1, .ref (am 0)), (2, .ref (ar 0)), (3, .int x3)])
    (kk : ∀ (S1 : SM) (g1 : SR) (H1 : Heap) (locs1 : List Loc), Rel S1 g1 → lwI k am ar s S1 g1 H1 locs1 → W p l e room_1 s m #[Value.ref b] below meth c H1 locs1 53 2014 Q (F0 m 593 ls [])) : W p l e room_1 s m #[Value.ref b] below meth c H locs 53 2014 Q (F0 m 531 ls []) := by
  obtain ⟨cx, hE, hX, hbl, hbA, hAp⟩ := C
  obtain ⟨hx, hb, hr, hml, hown, hts, hlocks⟩ := id cx
  obtain ⟨v, e1, e2⟩ := k_moves hR
  refine lv_aload_n hx hb d_law_531 rfl (lv_at hl 1 rfl) ?_
  refine mp_si (mp_runV (As := []) (rest := []) cx kV_L_73 (cM_moves l k am S v e1) ⟨rfl, rfl, Nat.le_of_ble_eq_true rfl, Nat.le_of_ble_eq_true rfl⟩ ⟨Nat.le_of_ble_eq_true rfl, Nat.le_of_ble_eq_true rfl⟩ hE hI.1 hI.2.1 hI.2.2.2.2 0 rfl rfl rfl hl.1 rfl (Nat.le_of_ble_eq_true rfl) d_law_532) ?_
  refine lv_aload_n hx hb d_law_535 rfl (lv_at hl 2 rfl) ?_
  refine mp_si (mp_runV (As := []) (rest := [.int v]) cx kV_L_76 (cR_moves l k ar g v e2) ⟨rfl, rfl, Nat.le_of_ble_eq_true rfl, Nat.le_of_ble_eq_true rfl⟩ ⟨Nat.le_of_ble_eq_true rfl, Nat.le_of_ble_eq_true rfl⟩ hE hI.2.2.1 hI.2.2.2.1 hI.2.2.2.2 0 rfl rfl rfl hl.1 rfl (Nat.le_of_ble_eq_true rfl) d_law_536) ?_
  exact lv_icmp_eq (tgt := 593) hx hb d_law_539 (by decide) (fun _ => kk S g _ _ hR hI) (fun h9 => (h9 rfl).elim)
set_option maxHeartbeats 4000000 in
set_option maxRecDepth 100000 in
theorem lw_c544 (C : lwC p s m meth c b L xs k am ar) {S : SM} {g : SR} {H : Heap} {locs : List Loc} (hI : lwI k am ar s S g H locs) (hR : Rel S g) {x3 : Int32} (h1 : vp_in (x3 + 1) L) (h2 : vp_in (x3 + 2) L) (h3 : vp_in (x3 + 3) L) {ls : Array Slot} (hl : lv_has ls 4 [(0, .ref b), (1, .ref (am 0)), (2, .ref (ar 0)), (3, .int x3)])
    (kk : ∀ (S1 : SM) (g1 : SR) (H1 : Heap) (locs1 : List Loc), Rel S1 g1 → lwI k am ar s S1 g1 H1 locs1 → W p l e room_1 s m #[Value.ref b] below meth c H1 locs1 53 2014 Q (F0 m 593 ls [])) : W p l e room_1 s m #[Value.ref b] below meth c H locs 53 2014 Q (F0 m 544 ls []) := by
  obtain ⟨cx, hE, hX, hbl, hbA, hAp⟩ := C
  obtain ⟨hx, hb, hr, hml, hown, hts, hlocks⟩ := id cx
  obtain ⟨v, S1, g1, e1, e2, hR1⟩ := k_keep hR
  refine lv_aload_n hx hb d_law_544 rfl (lv_at hl 1 rfl) ?_
  refine mp_mi (mp_runV (As := []) (rest := []) cx kV_L_77 (cM_keep l k am S (v, S1) e1) ⟨rfl, rfl, Nat.le_of_ble_eq_true rfl, Nat.le_of_ble_eq_true rfl⟩ ⟨Nat.le_of_ble_eq_true rfl, Nat.le_of_ble_eq_true rfl⟩ hE hI.1 hI.2.1 hI.2.2.2.2 0 rfl rfl rfl hl.1 rfl (Nat.le_of_ble_eq_true rfl) d_law_545) hI.2.2.2.2 (fun q h9 => mp_new hI.2.1 rfl q h9) (fun H1 locs1 hP1 hk1 hS1 => ?_)
  have hI : lwI k am ar s S1 g H1 locs1 := hI.m hAp hP1 hk1 hS1
  refine lv_aload_n hx hb d_law_548 rfl (lv_at hl 2 rfl) ?_
  refine mp_mi (mp_runV (As := []) (rest := [.int v]) cx kV_L_80 (cR_keep l k ar g (v, g1) e2) ⟨rfl, rfl, Nat.le_of_ble_eq_true rfl, Nat.le_of_ble_eq_true rfl⟩ ⟨Nat.le_of_ble_eq_true rfl, Nat.le_of_ble_eq_true rfl⟩ hE hI.2.2.1 hI.2.2.2.1 hI.2.2.2.2 0 rfl rfl rfl hl.1 rfl (Nat.le_of_ble_eq_true rfl) d_law_549) hI.2.2.2.2 (fun q h9 => mp_new hI.2.2.2.1 rfl q h9) (fun H1 locs1 hP1 hk1 hS1 => ?_)
  have hI : lwI k am ar s S1 g1 H1 locs1 := hI.r hAp hP1 hk1 hS1
  exact lv_icmp_eq (tgt := 593) hx hb d_law_552 (by decide) (fun _ => kk S1 g1 _ _ hR1 hI) (fun h9 => (h9 rfl).elim)
set_option maxHeartbeats 4000000 in
set_option maxRecDepth 100000 in
theorem lw_c557 (C : lwC p s m meth c b L xs k am ar) {S : SM} {g : SR} {H : Heap} {locs : List Loc} (hI : lwI k am ar s S g H locs) (hR : Rel S g) {x3 : Int32} (h1 : vp_in (x3 + 1) L) (h2 : vp_in (x3 + 2) L) (h3 : vp_in (x3 + 3) L) {ls : Array Slot} (hl : lv_has ls 4 [(0, .ref b), (1, .ref (am 0)), (2, .ref (ar 0)), (3, .int x3)])
    (kk : ∀ (S1 : SM) (g1 : SR) (H1 : Heap) (locs1 : List Loc), Rel S1 g1 → lwI k am ar s S1 g1 H1 locs1 → W p l e room_1 s m #[Value.ref b] below meth c H1 locs1 53 2014 Q (F0 m 593 ls [])) : W p l e room_1 s m #[Value.ref b] below meth c H locs 53 2014 Q (F0 m 557 ls []) := by
  obtain ⟨cx, hE, hX, hbl, hbA, hAp⟩ := C
  obtain ⟨hx, hb, hr, hml, hown, hts, hlocks⟩ := id cx
  obtain ⟨v, S1, g1, e1, e2, hR1⟩ := k_restore hR
  refine lv_aload_n hx hb d_law_557 rfl (lv_at hl 1 rfl) ?_
  refine mp_mi (mp_runV (As := []) (rest := []) cx kV_L_81 (cM_restore l k am S (v, S1) e1) ⟨rfl, rfl, Nat.le_of_ble_eq_true rfl, Nat.le_of_ble_eq_true rfl⟩ ⟨Nat.le_of_ble_eq_true rfl, Nat.le_of_ble_eq_true rfl⟩ hE hI.1 hI.2.1 hI.2.2.2.2 0 rfl rfl rfl hl.1 rfl (Nat.le_of_ble_eq_true rfl) d_law_558) hI.2.2.2.2 (fun q h9 => mp_new hI.2.1 rfl q h9) (fun H1 locs1 hP1 hk1 hS1 => ?_)
  have hI : lwI k am ar s S1 g H1 locs1 := hI.m hAp hP1 hk1 hS1
  refine lv_aload_n hx hb d_law_561 rfl (lv_at hl 2 rfl) ?_
  refine mp_mi (mp_runV (As := []) (rest := [.int v]) cx kV_L_84 (cR_restore l k ar g (v, g1) e2) ⟨rfl, rfl, Nat.le_of_ble_eq_true rfl, Nat.le_of_ble_eq_true rfl⟩ ⟨Nat.le_of_ble_eq_true rfl, Nat.le_of_ble_eq_true rfl⟩ hE hI.2.2.1 hI.2.2.2.1 hI.2.2.2.2 0 rfl rfl rfl hl.1 rfl (Nat.le_of_ble_eq_true rfl) d_law_562) hI.2.2.2.2 (fun q h9 => mp_new hI.2.2.2.1 rfl q h9) (fun H1 locs1 hP1 hk1 hS1 => ?_)
  have hI : lwI k am ar s S1 g1 H1 locs1 := hI.r hAp hP1 hk1 hS1
  exact lv_icmp_eq (tgt := 593) hx hb d_law_565 (by decide) (fun _ => kk S1 g1 _ _ hR1 hI) (fun h9 => (h9 rfl).elim)
set_option maxHeartbeats 4000000 in
set_option maxRecDepth 100000 in
theorem lw_c570 (C : lwC p s m meth c b L xs k am ar) {S : SM} {g : SR} {H : Heap} {locs : List Loc} (hI : lwI k am ar s S g H locs) (hR : Rel S g) {x3 : Int32} (h1 : vp_in (x3 + 1) L) (h2 : vp_in (x3 + 2) L) (h3 : vp_in (x3 + 3) L) {ls : Array Slot} (hl : lv_has ls 4 [(0, .ref b), (1, .ref (am 0)), (2, .ref (ar 0)), (3, .int x3)])
    (kk : ∀ (S1 : SM) (g1 : SR) (H1 : Heap) (locs1 : List Loc), Rel S1 g1 → lwI k am ar s S1 g1 H1 locs1 → W p l e room_1 s m #[Value.ref b] below meth c H1 locs1 53 2014 Q (F0 m 593 ls [])) : W p l e room_1 s m #[Value.ref b] below meth c H locs 53 2014 Q (F0 m 570 ls []) := by
  obtain ⟨cx, hE, hX, hbl, hbA, hAp⟩ := C
  obtain ⟨hx, hb, hr, hml, hown, hts, hlocks⟩ := id cx
  obtain ⟨v, e1, e2⟩ := k_many (a1 := (xs (x3 + 1).toNatClampNeg)) hR
  refine lv_aload_n hx hb d_law_570 rfl (lv_at hl 1 rfl) ?_
  refine lv_aload_n hx hb d_law_571 rfl (lv_at hl 0 rfl) ?_
  refine lv_iload_n hx hb d_law_572 rfl (lv_at hl 3 rfl) ?_
  refine lv_iconst (v := 1) hx hb d_law_573 (by decide) ?_
  refine lv_iadd hx hb d_law_574 ?_
  refine va_sld hx hb hX hbl hbA hI.2.2.2.2 h1 d_law_575 ?_
  refine mp_si (mp_runV (As := [.int (xs (x3 + 1).toNatClampNeg)]) (rest := []) cx kV_L_85 (cM_many l k am S (xs (x3 + 1).toNatClampNeg) v e1) ⟨rfl, rfl, Nat.le_of_ble_eq_true rfl, Nat.le_of_ble_eq_true rfl⟩ ⟨Nat.le_of_ble_eq_true rfl, Nat.le_of_ble_eq_true rfl⟩ hE hI.1 hI.2.1 hI.2.2.2.2 0 rfl rfl rfl hl.1 rfl (Nat.le_of_ble_eq_true rfl) d_law_576) ?_
  refine lv_aload_n hx hb d_law_579 rfl (lv_at hl 2 rfl) ?_
  refine lv_aload_n hx hb d_law_580 rfl (lv_at hl 0 rfl) ?_
  refine lv_iload_n hx hb d_law_581 rfl (lv_at hl 3 rfl) ?_
  refine lv_iconst (v := 1) hx hb d_law_582 (by decide) ?_
  refine lv_iadd hx hb d_law_583 ?_
  refine va_sld hx hb hX hbl hbA hI.2.2.2.2 h1 d_law_584 ?_
  refine mp_si (mp_runV (As := [.int (xs (x3 + 1).toNatClampNeg)]) (rest := [.int v]) cx kV_L_88 (cR_many l k ar g (xs (x3 + 1).toNatClampNeg) v e2) ⟨rfl, rfl, Nat.le_of_ble_eq_true rfl, Nat.le_of_ble_eq_true rfl⟩ ⟨Nat.le_of_ble_eq_true rfl, Nat.le_of_ble_eq_true rfl⟩ hE hI.2.2.1 hI.2.2.2.1 hI.2.2.2.2 0 rfl rfl rfl hl.1 rfl (Nat.le_of_ble_eq_true rfl) d_law_585) ?_
  exact lv_icmp_eq (tgt := 593) hx hb d_law_588 (by decide) (fun _ => kk S g _ _ hR hI) (fun h9 => (h9 rfl).elim)
end LWC
