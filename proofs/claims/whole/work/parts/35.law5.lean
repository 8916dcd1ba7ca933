/-! ===== the law's loop ===== -/
theorem lw_end {i L : Nat} (hi : i ≤ L) (hL : L ≤ 2048) (h : ¬ (Int32.ofNat L - 4) < nI i) : i + 4 ≤ L := by
  rcases Nat.lt_or_ge L (i + 4) with q | q
  · refine absurd ?_ h
    rcases Nat.lt_or_ge L 4 with z | z
    · have h0 : (0 : Int32) ≤ nI i := fa_of_nlt (nI_nn (by omega))
      have h1 : Int32.ofNat L - 4 < 0 := by
        have : L = 0 ∨ L = 1 ∨ L = 2 ∨ L = 3 := by omega
        rcases this with rfl | rfl | rfl | rfl <;> decide
      rw [fa_lt] at h1 ⊢
      rw [fa_le] at h0
      omega
    · rw [show Int32.ofNat L - 4 = nI (L - 4) from pk_sub (a := L) (b := 4) z]
      exact nI_lt (by omega) (by omega)
  · exact q
section LWL
variable {p : Program} {l : Launch} {e : Env} {s : State} {m : MethodId} {below : List Frame} {meth : Method} {c : Code} {b L : Nat} {xs : Nat → Int32} {k : KK} {am ar : Nat → Nat}
set_option maxHeartbeats 4000000 in
set_option maxRecDepth 100000 in
theorem lw_loop (hL : L ≤ 2048) (hz : k.1 = s.heap.size) (C : lwC p s m meth c b L xs k am ar) : ∀ (n i : Nat), i ≤ L → L < i + n → ∀ (S : SM) (g : SR) (H : Heap) (locs : List Loc) (ls : Array Slot), Rel S g → lwI k am ar s S g H locs → lv_has ls 4 [(0, .ref b), (1, .ref (am 0)), (2, .ref (ar 0)), (3, .int (nI i))] → W p l e room_1 s m #[Value.ref b] below meth c H locs 53 2014 (lw_Z below #[Value.ref b] s) (F0 m 18 ls []) := by
  obtain ⟨cx, hE, hX, hbl, hbA, hAp⟩ := id C
  obtain ⟨hx, hb, hr, hml, hown, hts, hlocks⟩ := id cx
  intro n
  induction n with
  | zero => intro i h1 h2; omega
  | succ n ih =>
    intro i hi hin S g H locs ls hR hI hl
    refine lv_iload_n hx hb d_law_18 rfl (lv_at hl 3 rfl) ?_
    refine lv_aload_n hx hb d_law_19 rfl (lv_at hl 0 rfl) ?_
    refine va_slen hx hb hX hbl hbA hI.2.2.2.2 d_law_20 ?_
    refine lv_iconst (v := 4) hx hb d_law_21 (by decide) ?_
    refine lv_isub hx hb d_law_22 ?_
    refine lv_icmp_gt (tgt := 599) hx hb d_law_23 (by decide) (fun c1 => ?_) (fun c1 => ?_)
    · refine lv_iconst (v := 1) hx hb d_law_599 (by decide) ?_
      refine va_forget (fun q hq => hz ▸ hI.2.2.2.2.2.2 q hq) ?_
      refine W.widen (k := 600000) (n := 7302250) (Nat.le_of_ble_eq_true rfl) (Nat.le_of_ble_eq_true rfl) ?_
      exact lw_ret hx hb hr hlocks d_law_600
    · have h4 := lw_end hi hL c1
      have hin0 : vp_in (nI i) L := vp_in_nI (by omega) (by omega)
      have a1 : nI i + 1 = nI (i + 1) := nI_add i 1
      have a2 : nI i + 2 = nI (i + 2) := nI_add i 2
      have a3 : nI i + 3 = nI (i + 3) := nI_add i 3
      have h1 : vp_in (nI i + 1) L := by rw [a1]; exact vp_in_nI (by omega) (by omega)
      have h2 : vp_in (nI i + 2) L := by rw [a2]; exact vp_in_nI (by omega) (by omega)
      have h3 : vp_in (nI i + 3) L := by rw [a3]; exact vp_in_nI (by omega) (by omega)
      have kk : ∀ (S1 : SM) (g1 : SR) (H1 : Heap) (locs1 : List Loc), Rel S1 g1 → lwI k am ar s S1 g1 H1 locs1 → W p l e room_1 s m #[Value.ref b] below meth c H1 locs1 53 2014 (lw_Z below #[Value.ref b] s) (F0 m 593 ls []) := by
        intro S1 g1 H1 locs1 hR1 hI1
        refine lv_iinc (v := nI (i + 4)) (lv' := [(3, .int (nI (i + 4))), (0, .ref b), (1, .ref (am 0)), (2, .ref (ar 0))]) hx hb d_law_593 hl (k := 3) rfl (nI_add i 4) (by decide) rfl (fun ls hl => ?_)
        refine lv_goto (tgt := 18) hx hb d_law_596 (by decide) ?_
        exact ih (i + 4) h4 (by omega) S1 g1 H1 locs1 ls hR1 hI1 (lv_sub hl [1, 2, 3, 0] rfl)
      refine lv_aload_n hx hb d_law_26 rfl (lv_at hl 0 rfl) ?_
      refine lv_iload_n hx hb d_law_27 rfl (lv_at hl 3 rfl) ?_
      refine va_sld hx hb hX hbl hbA hI.2.2.2.2 hin0 d_law_28 ?_
      refine lv_bipush (v := 31) hx hb d_law_29 (by decide) ?_
      refine lv_iand hx hb d_law_31 ?_
      generalize (xs (nI i).toNatClampNeg &&& 31) = y
      by_cases ho : y.toInt < 0 ∨ 16 < y.toInt
      · exact lv_tableOut (tgt := 593) hx hb d_law_32 ho (by decide) (kk S g H locs hR hI)
      · have hy : y.toInt = 0 ∨ y.toInt = 1 ∨ y.toInt = 2 ∨ y.toInt = 3 ∨ y.toInt = 4 ∨ y.toInt = 5 ∨ y.toInt = 6 ∨ y.toInt = 7 ∨ y.toInt = 8 ∨ y.toInt = 9 ∨ y.toInt = 10 ∨ y.toInt = 11 ∨ y.toInt = 12 ∨ y.toInt = 13 ∨ y.toInt = 14 ∨ y.toInt = 15 ∨ y.toInt = 16 := by omega
        have n1 : ¬ y.toInt < 0 := fun q => ho (Or.inl q)
        have n2 : ¬ 16 < y.toInt := fun q => ho (Or.inr q)
        rcases hy with q | q | q | q | q | q | q | q | q | q | q | q | q | q | q | q | q
        · exact lv_tableIn (off := 84) (tgt := 116) hx hb d_law_32 n1 n2 (by rw [q]; rfl) (by decide) (lw_c116 C hI hR h1 h2 h3 hl kk)
        · exact lv_tableIn (off := 117) (tgt := 149) hx hb d_law_32 n1 n2 (by rw [q]; rfl) (by decide) (lw_c149 C hI hR h1 h2 h3 hl kk)
        · exact lv_tableIn (off := 180) (tgt := 212) hx hb d_law_32 n1 n2 (by rw [q]; rfl) (by decide) (lw_c212 C hI hR h1 h2 h3 hl kk)
        · exact lv_tableIn (off := 229) (tgt := 261) hx hb d_law_32 n1 n2 (by rw [q]; rfl) (by decide) (lw_c261 C hI hR h1 h2 h3 hl kk)
        · exact lv_tableIn (off := 262) (tgt := 294) hx hb d_law_32 n1 n2 (by rw [q]; rfl) (by decide) (lw_c294 C hI hR h1 h2 h3 hl kk)
        · exact lv_tableIn (off := 295) (tgt := 327) hx hb d_law_32 n1 n2 (by rw [q]; rfl) (by decide) (lw_c327 C hI hR h1 h2 h3 hl kk)
        · exact lv_tableIn (off := 328) (tgt := 360) hx hb d_law_32 n1 n2 (by rw [q]; rfl) (by decide) (lw_c360 C hI hR h1 h2 h3 hl kk)
        · exact lv_tableIn (off := 361) (tgt := 393) hx hb d_law_32 n1 n2 (by rw [q]; rfl) (by decide) (lw_c393 C hI hR h1 h2 h3 hl kk)
        · exact lv_tableIn (off := 374) (tgt := 406) hx hb d_law_32 n1 n2 (by rw [q]; rfl) (by decide) (lw_c406 C hI hR h1 h2 h3 hl kk)
        · exact lv_tableIn (off := 397) (tgt := 429) hx hb d_law_32 n1 n2 (by rw [q]; rfl) (by decide) (lw_c429 C hI hR h1 h2 h3 hl kk)
        · exact lv_tableIn (off := 420) (tgt := 452) hx hb d_law_32 n1 n2 (by rw [q]; rfl) (by decide) (lw_c452 C hI hR h1 h2 h3 hl kk)
        · exact lv_tableIn (off := 443) (tgt := 475) hx hb d_law_32 n1 n2 (by rw [q]; rfl) (by decide) (lw_c475 C hI hR h1 h2 h3 hl kk)
        · exact lv_tableIn (off := 486) (tgt := 518) hx hb d_law_32 n1 n2 (by rw [q]; rfl) (by decide) (lw_c518 C hI hR h1 h2 h3 hl kk)
        · exact lv_tableIn (off := 499) (tgt := 531) hx hb d_law_32 n1 n2 (by rw [q]; rfl) (by decide) (lw_c531 C hI hR h1 h2 h3 hl kk)
        · exact lv_tableIn (off := 512) (tgt := 544) hx hb d_law_32 n1 n2 (by rw [q]; rfl) (by decide) (lw_c544 C hI hR h1 h2 h3 hl kk)
        · exact lv_tableIn (off := 525) (tgt := 557) hx hb d_law_32 n1 n2 (by rw [q]; rfl) (by decide) (lw_c557 C hI hR h1 h2 h3 hl kk)
        · exact lv_tableIn (off := 538) (tgt := 570) hx hb d_law_32 n1 n2 (by rw [q]; rfl) (by decide) (lw_c570 C hI hR h1 h2 h3 hl kk)
end LWL
/-! ===== what the law stands on ===== -/
theorem lw_K {p : Program} {s : State} {m : MethodId} {meth : Method} {c : Code} {b L : Nat} {xs : Nat → Int32} (C0 : lw_At p s m meth c b L xs) : ∃ k : KK, k.1 = s.heap.size ∧ mp_E k s ∧ va_AO rW s := by
  obtain ⟨hx, hb, hr, hml, hown, hts, hX, hbl, hlocks, hgv⟩ := C0
  have htw : ∀ w ∈ wT, w.before #[Value.ref b] s = true := fun w hw => hts w (List.mem_filter.mp hw).1
  obtain ⟨c0, i0, k0⟩ := u_known (C := rW) (T := tW) (N := 12) (n := 12) htw iW (htw _ wq_51)
  obtain ⟨c1, i1, k1⟩ := u_known (C := rM) (T := tM) (N := 5) (n := 5) htw iM (htw _ wq_43)
  obtain ⟨c2, i2, k2⟩ := u_known (C := rR) (T := tR) (N := 5) (n := 5) htw iR (htw _ wq_396)
  have hO : va_AO rW s := va_AO.of (hts (.arrayOver (.object rW)) (List.mem_of_getElem? (i := 95) rfl))
  obtain ⟨aI, kaI, compI, f1, f2, f3⟩ := Cond.arrayClass_spec (htw (.arrayClass .int) wq_93)
  obtain ⟨aL, kaL, compL, g1, g2, g3⟩ := Cond.arrayClass_spec (htw (.arrayClass .long) wq_94)
  obtain ⟨compO, aO, kaO, o1, o2, o3, o4, o5⟩ := Cond.arrayOver_spec hO
  have hs := flat_of_before _ hgv
  obtain ⟨t, ht, hT⟩ := va_Tof (tm := Term.static "MovingPlaces" "WEIGHTS" "[J") (ty := .long) (N := 6) (f := fun j => .long (mp_wt j)) (A := fun q => s.heap.size ≤ q) (by omega) (hs _ (by decide +kernel)) (va_eqt (z := 6) (hs _ (by decide +kernel))) (fun j hj => by
    rcases (show j = 0 ∨ j = 1 ∨ j = 2 ∨ j = 3 ∨ j = 4 ∨ j = 5 by omega) with rfl | rfl | rfl | rfl | rfl | rfl
    · exact va_eqtl (z := 1) (hs _ (by decide +kernel))
    · exact va_eqtl (z := 100) (hs _ (by decide +kernel))
    · exact va_eqtl (z := 10000) (hs _ (by decide +kernel))
    · exact va_eqtl (z := 1000000) (hs _ (by decide +kernel))
    · exact va_eqtl (z := 100000000) (hs _ (by decide +kernel))
    · exact va_eqtl (z := 10000000000) (hs _ (by decide +kernel))) (fun a h => Nat.not_le.mpr h)
  have hZ : va_Z "MovingPlaces" "WEIGHTS" "[J" (.ref t) (fun q => s.heap.size ≤ q) s s.heap := va_Zof (hts (.laysStatic "MovingPlaces" "WEIGHTS" "[J") (List.mem_of_getElem? (i := 229) rfl)) (htw _ wq_37) ht (fun a h => Nat.not_le.mpr h)
  refine ⟨(s.heap.size, fun j => if j = 0 then c0 else if j = 1 then c1 else c2, fun j => if j = 0 then i0 else if j = 1 then i1 else i2, aI, aL, aO), rfl, ⟨⟨?_, ?_⟩, va_Nw.of rfl (hts mp_nm (List.mem_of_getElem? (i := 163) rfl)), va_Nw.of rfl (hts mp_nf (List.mem_of_getElem? (i := 228) rfl)), t, hZ, hT⟩, hO⟩
  · intro j q hq
    match j, hq with
    | 0, hq => cases hq; exact k0
    | 1, hq => cases hq; exact k1
    | 2, hq => cases hq; exact k2
    | j + 3, hq => simp [mp_cls] at hq
  · intro j q hq
    match j, hq with
    | 0, hq => cases hq; exact ⟨fun n z => ⟨fun k h => (by cases h), kaI, f2, compI, f3⟩, f1⟩
    | 1, hq => cases hq; exact ⟨fun n z => ⟨fun k h => (by cases h), kaL, g2, compL, g3⟩, g1⟩
    | 2, hq => cases hq; exact ⟨fun n z => ⟨fun k h => (by cases h), kaO, o3, compO, o4⟩, kaO, compO, o3, o4, o1, o5⟩
    | j + 3, hq => simp at hq
theorem va_Pl {D : va_G} {cl : List vw_C} {w1 w2 : va_W} {H : Heap} (h : va_P D cl (w1 ++ w2) H) : va_P D cl w1 H := fun k q hk => h k q (by rw [List.getElem?_append_left (List.getElem?_eq_some_iff.mp hk).1]; exact hk)
theorem va_Pr {D : va_G} {cl : List vw_C} {w1 w2 : va_W} {H : Heap} (h : va_P D cl (w1 ++ w2) H) : va_P D cl w2 H := fun k q hk => h (w1.length + k) q (by rw [List.getElem?_append_right (Nat.le_add_right _ _), Nat.add_sub_cancel_left]; exact hk)
theorem va_Dl {A : Nat → Prop} {w1 w2 : va_W} (h : va_D A (w1 ++ w2)) : va_D A w1 := ⟨fun i j p q hi hj e => h.1 i j p q (by rw [List.getElem?_append_left (List.getElem?_eq_some_iff.mp hi).1]; exact hi) (by rw [List.getElem?_append_left (List.getElem?_eq_some_iff.mp hj).1]; exact hj) e, fun k q hk => h.2 k q (by rw [List.getElem?_append_left (List.getElem?_eq_some_iff.mp hk).1]; exact hk)⟩
theorem va_Dr {A : Nat → Prop} {w1 w2 : va_W} (h : va_D A (w1 ++ w2)) : va_D A w2 := ⟨fun i j p q hi hj e => by
    have := h.1 (w1.length + i) (w1.length + j) p q (by rw [List.getElem?_append_right (Nat.le_add_right _ _), Nat.add_sub_cancel_left]; exact hi) (by rw [List.getElem?_append_right (Nat.le_add_right _ _), Nat.add_sub_cancel_left]; exact hj) e
    omega, fun k q hk => h.2 (w1.length + k) q (by rw [List.getElem?_append_right (Nat.le_add_right _ _), Nat.add_sub_cancel_left]; exact hk)⟩
theorem va_Dx {A : Nat → Prop} {w1 w2 : va_W} {a1 a2 : List Nat} (h : va_D A (w1 ++ w2)) (e1 : w1.map (fun q => q.1) = a1) (e2 : w2.map (fun q => q.1) = a2) : ∀ q, mp_A a1 q → ¬ mp_A a2 q := by
  intro q h1 h2
  have h1 : q ∈ a1 := h1
  have h2 : q ∈ a2 := h2
  rw [← e1] at h1
  rw [← e2] at h2
  obtain ⟨x, hx, rfl⟩ := List.mem_map.mp h1
  obtain ⟨y, hy, exy⟩ := List.mem_map.mp h2
  obtain ⟨i, hi⟩ := List.getElem?_of_mem hx
  obtain ⟨j, hj⟩ := List.getElem?_of_mem hy
  have hl := (List.getElem?_eq_some_iff.mp hi).1
  have := h.1 i (w1.length + j) x y (by rw [List.getElem?_append_left hl]; exact hi) (by rw [List.getElem?_append_right (Nat.le_add_right _ _), Nat.add_sub_cancel_left]; exact hj) exy.symm
  omega
set_option maxHeartbeats 4000000 in
set_option maxRecDepth 100000 in
/-- from the entry, for every script of at most 2048 ints, the law comes to its end with true -/
theorem whole_start {p : Program} {e : Env} {s : State} {m : MethodId} {below : List Frame} {meth : Method} {c : Code} (l : Launch) (hflags : l.flags = flags0) {b L : Nat} {xs : Nat → Int32} (hL : L ≤ 2048) (C0 : lw_At p s m meth c b L xs) : W p l e room_1 s m #[Value.ref b] below meth c s.heap [] 0 0 (lw_Z below #[Value.ref b] s) (entryFrame m ([Value.ref b] : List Value).toArray 4) := by
  obtain ⟨k, hz, hE, hO⟩ := lw_K C0
  obtain ⟨hx, hb, hr, hml, hown, hts0, hX, hbl, hlocks, hgv⟩ := id C0
  have hts : ∀ w ∈ wT, w.before #[Value.ref b] s = true := fun w hw => hts0 w (List.mem_filter.mp hw).1
  have cx : mp_C p s m #[Value.ref b] meth c code 4 ret R_law := ⟨hx, hb, hr, hml, hown, hts, hlocks⟩
  have hA : ∀ q : Nat, s.heap.size ≤ q → mp_N k q := fun q h => by show k.1 ≤ q; rw [hz]; exact h
  have hbA : ¬ mp_N k b := fun h => by have h : k.1 ≤ b := h; omega
  have hS : va_S (mp_N k) s.heap s.heap [] := va_S.rf
  have hP : va_P (kD k) mp_cls [] s.heap := mp_P0
  have hD : va_D (mp_N k) [] := mp_D0
  have hl := lv_entry ([.ref b]) (n := 4) (Nat.le_of_ble_eq_true rfl)
  rw [lg_entry_eq]
  generalize (lg_sl ([.ref b]) ++ List.replicate (4 - (lg_sl ([.ref b])).length) Slot.unset).toArray = ls at hl ⊢
  have hl : lv_has ls 4 [(0, .ref b)] := hl
  refine va_new (ci := 1) (fs := [.null, .null, .int 0, .null, .null]) (C := rM) (T := tM) (N := 5) hx hb hts iM gM gM_ok hown (hts _ wq_42) (hts _ wq_43) (hts _ wq_37) hE.1 hP hD hS hA rfl (fun j hj => by rcases (show j = 0 ∨ j = 1 ∨ j = 2 ∨ j = 3 ∨ j = 4 by omega) with rfl | rfl | rfl | rfl | rfl <;> rfl) (Nat.le_of_ble_eq_true rfl) (Nat.le_of_ble_eq_true rfl) d_law_0 (fun q1 H hP hD hS => ?_)
  have hP : va_P (kD k) mp_cls [(q1, .inr (1, [.null, .null, .int 0, .null, .null]))] H := hP
  have hD : va_D (mp_N k) [(q1, .inr (1, [.null, .null, .int 0, .null, .null]))] := hD
  refine W.widen (k := 1) (n := 5) (Nat.le_of_ble_eq_true rfl) (Nat.le_of_ble_eq_true rfl) ?_
  refine lv_dup hx hb d_law_3 rfl ?_
  have hFc := va_free (wc := [(q1, .inr (1, [.null, .null, .int 0, .null, .null]))]) hD hS hA [0] rfl
  refine va_callv (va_runI (As := []) (rest := [.ref q1]) ⟨hx, hb, hml, hown, hts⟩ (cM_init l k q1 H.size) (cwI 0 hts (wT_gd wq_46) rfl rfl rfl (hts _ wq_37) (hts _ wq_44) (hts _ wq_45) rfl ⟨by decide, by decide, by decide +kernel⟩ ⟨Nat.le_of_ble_eq_true rfl, Nat.le_of_ble_eq_true rfl⟩) ⟨mp_blindN, fun U hU hW => ⟨rfl, by rw [hU], by rw [hz]; exact hS.1, hO.moved hW.alike, by rw [hU]; exact hP, hD, hE.at hS hU hW⟩⟩ rfl rfl hl.1 rfl (lv_room (Nat.le_of_ble_eq_true rfl)) d_law_4 ⟨Nat.le_of_ble_eq_true rfl, Nat.le_of_ble_eq_true rfl⟩) hS (fun q _ h => hFc q h) hFc (fun am t H1 locs ht hvm hw hB hz1 hk1 hS => ?_)
  obtain ⟨hP1, hD1⟩ := hB
  rw [ht] at hP1
  try dsimp only at hw
  subst hw
  obtain ⟨hP, hD⟩ := va_join (wr := []) (w1 := cM k am mp_S0) hP hD [0] [] rfl rfl (by decide) (by decide) hk1 hFc hP1 hD1
  generalize H1 = H at hP hS ⊢
  have hP : va_P (kD k) mp_cls (cM k am mp_S0) H := hP
  have hD : va_D (mp_N k) (cM k am mp_S0) := hD
  refine W.widen (k := 48) (n := 851) (Nat.le_of_ble_eq_true rfl) (Nat.le_of_ble_eq_true rfl) ?_
  refine lv_astore_n (lv' := [(1, .ref (am 0)), (0, .ref b)]) hx hb d_law_7 rfl hl (by decide) rfl (fun ls hl => ?_)
  refine va_new (ci := 2) (fs := [.null, .null, .null, .int 0, .null]) (C := rR) (T := tR) (N := 5) hx hb hts iR gR gR_ok hown (hts _ wq_395) (hts _ wq_396) (hts _ wq_39) hE.1 hP hD hS hA rfl (fun j hj => by rcases (show j = 0 ∨ j = 1 ∨ j = 2 ∨ j = 3 ∨ j = 4 by omega) with rfl | rfl | rfl | rfl | rfl <;> rfl) (Nat.le_of_ble_eq_true rfl) (Nat.le_of_ble_eq_true rfl) d_law_8 (fun q2 H hP hD hS => ?_)
  refine W.widen (k := 49) (n := 856) (Nat.le_of_ble_eq_true rfl) (Nat.le_of_ble_eq_true rfl) ?_
  refine lv_dup hx hb d_law_11 rfl ?_
  have hPc := hP.sub (ws' := [(q2, .inr (2, [.null, .null, .null, .int 0, .null]))]) [48] rfl
  have hDc := hD.sub (ws' := [(q2, .inr (2, [.null, .null, .null, .int 0, .null]))]) [48] (by decide) rfl
  have hFc := va_free (wc := [(q2, .inr (2, [.null, .null, .null, .int 0, .null]))]) hD hS hA [48] rfl
  refine va_callv (va_runI (As := []) (rest := [.ref q2]) ⟨hx, hb, hml, hown, hts⟩ (cR_init l k q2 H.size) (cwI 0 hts (wT_gd wq_399) rfl rfl rfl (hts _ wq_39) (hts _ wq_397) (hts _ wq_398) rfl ⟨by decide, by decide, by decide +kernel⟩ ⟨Nat.le_of_ble_eq_true rfl, Nat.le_of_ble_eq_true rfl⟩) ⟨mp_blindN, fun U hU hW => ⟨rfl, by rw [hU], by rw [hz]; exact hS.1, hO.moved hW.alike, by rw [hU]; exact hPc, hDc, hE.at hS hU hW⟩⟩ rfl rfl hl.1 rfl (lv_room (Nat.le_of_ble_eq_true rfl)) d_law_12 ⟨Nat.le_of_ble_eq_true rfl, Nat.le_of_ble_eq_true rfl⟩) hS (fun q _ h => hFc q h) hFc (fun ar t H1 locs ht hvm hw hB hz1 hk1 hS => ?_)
  obtain ⟨hP1, hD1⟩ := hB
  rw [ht] at hP1
  try dsimp only at hw
  subst hw
  obtain ⟨hP, hD⟩ := va_join (wr := cM k am mp_S0) (w1 := cR k ar mp_g0) hP hD [48] [0, 1, 2, 3, 4, 5, 6, 7, 8, 9, 10, 11, 12, 13, 14, 15, 16, 17, 18, 19, 20, 21, 22, 23, 24, 25, 26, 27, 28, 29, 30, 31, 32, 33, 34, 35, 36, 37, 38, 39, 40, 41, 42, 43, 44, 45, 46, 47] rfl rfl (by decide) (by decide) hk1 hFc hP1 hD1
  generalize H1 = H at hP hS ⊢
  refine W.widen (k := 53) (n := 2014) (Nat.le_of_ble_eq_true rfl) (Nat.le_of_ble_eq_true rfl) ?_
  refine lv_astore_n (lv' := [(2, .ref (ar 0)), (1, .ref (am 0)), (0, .ref b)]) hx hb d_law_15 rfl hl (by decide) rfl (fun ls hl => ?_)
  refine lv_iconst (v := 0) hx hb d_law_16 (by decide) ?_
  refine lv_istore_n (lv' := [(3, .int 0), (2, .ref (ar 0)), (1, .ref (am 0)), (0, .ref b)]) hx hb d_law_17 rfl hl (by decide) rfl (fun ls hl => ?_)
  exact lw_loop hL hz ⟨cx, hE, hX, hbl, hbA, va_Dx (w1 := cM k am mp_S0) (w2 := cR k ar mp_g0) hD rfl rfl⟩ (L + 1) 0 (Nat.zero_le _) (by omega) mp_S0 mp_g0 H locs ls Rel_0 ⟨va_Pl hP, va_Dl hD, va_Pr hP, va_Dr hD, hS⟩ (lv_sub hl [3, 2, 1, 0] rfl)
