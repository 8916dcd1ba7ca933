/-! ===== an act is done ===== -/
theorem upn_0 {f : Nat → Int32} {c t : Nat} (hW : Wf f c t) : ∀ i, upn f i 0 = 0 := by
  intro i
  induction i with
  | zero => rfl
  | succ i ih => rw [upn, show f (15 + 0) = -9 from hW.in0, show (-9 : Int32).toNatClampNeg = 0 by decide, ih]
theorem upn_rk {f : Nat → Int32} {c t : Nat} (hW : Wf f c t) {rk : Nat → Nat} (hr : ∀ p q, 1 ≤ p → lvp f c p → lvp f c q → f (15 + p) = nI q → rk q < rk p) : ∀ i x, lvp f c x → 1 ≤ upn f i x → rk (upn f i x) ≤ rk x := by
  have hc := hW.c12
  intro i
  induction i with
  | zero => intro x _ _; exact Nat.le_refl _
  | succ i ih =>
    intro x hx h1
    rcases Nat.eq_zero_or_pos x with rfl | h0
    · rw [upn_0 hW] at h1; omega
    · obtain ⟨y, hy, e⟩ := hW.inn h0 hx
      have := hy.1
      rw [upn, e, nI_clamp (by omega)] at h1 ⊢
      have := ih y hy h1
      have := hr x y h0 hx hy e
      omega
theorem rk_in {f : Nat → Int32} {c t p q y0 : Nat} (hW : Wf f c t) (h1 : 1 ≤ p) (hp : lvp f c p) (hq : lvp f c q) (hq1 : 1 ≤ q) (hpq : q ≠ p) (hy : lvp f c y0) (e1 : f (15 + p) = nI y0) (e2 : f (15 + q) = nI y0) : ∃ rk : Nat → Nat, rk q < rk p ∧ ∀ x y, 1 ≤ x → x ≠ p → lvp f c x → lvp f c y → f (15 + x) = nI y → rk y < rk x := by
  have hc := hW.c12; have := hy.1
  obtain ⟨rk, hr⟩ := hW.rk
  classical
  refine ⟨fun x => rk x + (if (∃ i, upn f i x = p) then rk q + 1 else 0), ?_, fun x y hx hxp lx ly e => ?_⟩
  · have a1 : ∃ i, upn f i p = p := ⟨0, rfl⟩
    have a2 : ¬ ∃ i, upn f i q = p := by
      rintro ⟨i, hi⟩
      cases i with
      | zero => exact hpq hi
      | succ i =>
        rw [upn, e2, nI_clamp (by omega)] at hi
        have := upn_rk hW hr i y0 hy (by omega)
        have := hr p y0 h1 hp hy e1
        rw [hi] at *
        omega
    show rk q + _ < rk p + _
    rw [if_pos a1, if_neg a2]; omega
  · have := ly.1
    have a : (∃ i, upn f i x = p) ↔ ∃ i, upn f i y = p := by
      constructor
      · rintro ⟨i, hi⟩
        cases i with
        | zero => exact absurd hi hxp
        | succ i => rw [upn, e, nI_clamp (by omega)] at hi; exact ⟨i, hi⟩
      · rintro ⟨i, hi⟩
        exact ⟨i + 1, by rw [upn, e, nI_clamp (by omega)]; exact hi⟩
    show rk y + _ < rk x + _
    have := hr x y hx lx ly e
    by_cases h : ∃ i, upn f i y = p
    · rw [if_pos h, if_pos (a.mpr h)]; omega
    · rw [if_neg h, if_neg (fun q => h (a.mp q))]; omega
abbrev Hh : Type := (Nat → Int32) × (Nat → Int32) × Int32 × (Nat → Int32)
def actOK (f : Nat → Int32) (w : SW) (c t j : Nat) : Prop :=
  ∃ (f' : Nat → Int32) (w' : SW) (a : Nat), okA a ∧ (∀ h : Hh, fR_nextOf (f, h) (nI j) = some (nI a)) ∧ (∀ h : Hh, fR_does (f, h) (nI j) = some (1, (f', h))) ∧ fW_doNextAct w (nI j) = some (nI (a / 10), w') ∧ Wf f' c t ∧ Sm w' f' c t ∧ ∀ i, 231 ≤ i → f' i = f i
section DO
variable {f : Nat → Int32} {w : SW} {c t : Nat}
theorem R_does_o {h : Hh} {j : Nat} (hr : fR_doneWith (f, h) (nI j) = some (-9)) : fR_does (f, h) (nI j) = some (0, (f, h)) := by
  rw [fR_does, hr, Option.bind_some, if_pos rfl]
theorem W_does_o (hW : Wf f c t) (hS : Sm w f c t) {j : Nat} (hj : j < t) (hr : fW_aimOf w (nI j) = some (-9)) : fW_doNextAct w (nI j) = some (-9, w) := by
  rw [fW_doNextAct, hr, Option.bind_some, W_isThread_n hW hS hj, Option.bind_some, if_neg n10, if_pos rfl]
theorem Pl_spec {inn but nm : Int32} {q : Nat} (h : Pl f inn but nm q = true) : bt (f 2) q = false ∧ nI q ≠ but ∧ f (15 + q) = inn ∧ f (3 + q) = nm ∧ f (27 + q) = 0 := by
  unfold Pl at h
  simp only [Bool.and_eq_true, Bool.not_eq_true', decide_eq_true_eq, decide_eq_false_iff_not] at h
  exact ⟨h.1, h.2.1, h.2.2.1, h.2.2.2.1, h.2.2.2.2⟩
set_option maxHeartbeats 2000000 in
theorem RW_do (hW : Wf f c t) (hS : Sm w f c t) {j p m d a : Nat} (hj : j < t) (hp : lvp f c p) (hs : f (111 + j) = nI p) (hm : f (123 + j) = nI m) (hd : f (135 + j) = nI d) (h6 : m ≤ 6) (hdm : d < m) (ha : f (159 + 6 * j + d) = nI a) (hok : okA a) (hT : Th f c j) (hne : aimS f c p a (nmS f j a) ≠ -9) : actOK f w c t j := by
  have hc := hW.c12; have ht := hW.t12; have hpc := hp.1; have h50 := okA_lt hok; have hc1 := hW.c1
  have hr : ∀ h : Hh, fR_doneWith (f, h) (nI j) = some (aimS f c p a (nmS f j a)) := fun h => R_doneWith_n (g := (f, h)) hW hj hp hs hm hd h6 hdm ha hok
  have hw := W_aimOf_n hW hS hj hp hs hm hd h6 hdm ha hok
  have hnx : ∀ h : Hh, fR_nextOf (f, h) (nI j) = some (nI a) := fun h => by rw [R_nextOf_n (g := (f, h)) (by omega) hm hd h6 hdm]; exact congrArg some ha
  have hnm := nmS_c hT hok
  obtain ⟨t1, t2, t3, t4⟩ := hS.th hj
  have W1 := Wf_done hW hj hm h6 (show d + 1 ≤ m by omega)
  have S1 := Sm_done (v := nI (d + 1)) hW hS hj
  have hu : ∀ i, i ≠ 135 + j → upd f (135 + j) (nI (d + 1)) i = f i := fun i h => pk_un h
  have hl := lvp_of (hu 2 (by omega)) c
  have hp1 : lvp (upd f (135 + j) (nI (d + 1))) c p := (hl p).mpr hp
  have L : ∀ k, k < 10 → ((nI (a / 10) = nI k) ↔ a / 10 = k) := fun k hk => nI_eq (by omega) (by omega)
  have L1 : (nI (a / 10) = 1) ↔ a / 10 = 1 := L 1 (by omega)
  have L2 : (nI (a / 10) = 2) ↔ a / 10 = 2 := L 2 (by omega)
  have L3 : (nI (a / 10) = 3) ↔ a / 10 = 3 := L 3 (by omega)
  have L4 : (nI (a / 10) = 4) ↔ a / 10 = 4 := L 4 (by omega)
  have n9 : nmS f j a ≠ -9 := fun e => hne (by rw [aimS, if_pos e])
  generalize hr0 : aimS f c p a (nmS f j a) = r at hr hw hne
  have RD : ∀ h : Hh, fR_does (f, h) (nI j) = ((if (nI (a / 10)) = 1 then mp_st 231 (15 + nI p) (some (1, ((upd (upd f (135 + j) (nI (d + 1))) (Int32.toNatClampNeg (15 + nI p)) r), h))) else (if (nI (a / 10)) = 2 then mp_ld (upd f (135 + j) (nI (d + 1))) 231 (15 + r) fun x13 => mp_st 231 (15 + nI p) (some (1, ((upd (upd f (135 + j) (nI (d + 1))) (Int32.toNatClampNeg (15 + nI p)) x13), h))) else (if (nI (a / 10)) = 3 then (fR_opens ((upd f (135 + j) (nI (d + 1))), h) (nI p) r).bind fun x12 => some (1, x12) else (if (nI (a / 10)) = 4 then mp_ld (upd f (135 + j) (nI (d + 1))) 231 ((39 + (6 * nI p)) + r) fun x11 => mp_st 231 ((39 + (6 * nI p)) + r) (some (1, ((upd (upd f (135 + j) (nI (d + 1))) (Int32.toNatClampNeg ((39 + (6 * nI p)) + r)) (x11 + 1)), h))) else mp_ld (upd f (135 + j) (nI (d + 1))) 231 ((39 + (6 * nI p)) + r) fun x10 => mp_st 231 ((39 + (6 * nI p)) + r) (mp_st 231 (147 + nI j) (some (1, ((upd (upd (upd f (135 + j) (nI (d + 1))) (Int32.toNatClampNeg ((39 + (6 * nI p)) + r)) (x10 - 1)) (Int32.toNatClampNeg (147 + nI j)) r), h))))))))) := by
    intro h
    rw [fR_does, hr h, Option.bind_some, if_neg hne, e_111, ld_n (by omega) (by omega), hnx h, Option.bind_some, e_135, ld_n (by omega) (by omega), st_n (by omega) (by omega), nI_clamp (by omega), e_d10 (by omega)]
    show (if _ then _ else _) = _
    simp only [hs, hd, nI_1]
  have WD : fW_doNextAct w (nI j) = (if (nI (a / 10)) = 1 then (fW_putInto w (nI p) r).bind fun x9 => mp_ld x9.2.2.2.2.2.2.2.2.2.2.1 12 (nI j) fun x10 => mp_st 12 (nI j) (some ((nI (a / 10)), wD x9 (upd x9.2.2.2.2.2.2.2.2.2.2.1 (Int32.toNatClampNeg (nI j)) (x10 + 1)))) else if (nI (a / 10)) = 2 then (fW_placeAround w r).bind fun x12 => (fW_putInto w (nI p) x12).bind fun x13 => mp_ld x13.2.2.2.2.2.2.2.2.2.2.1 12 (nI j) fun x14 => mp_st 12 (nI j) (some ((nI (a / 10)), wD x13 (upd x13.2.2.2.2.2.2.2.2.2.2.1 (Int32.toNatClampNeg (nI j)) (x14 + 1)))) else if (nI (a / 10)) = 3 then (fW_dissolve w r (nI p)).bind fun x16 => mp_ld x16.2.2.2.2.2.2.2.2.2.2.1 12 (nI j) fun x17 => mp_st 12 (nI j) (some ((nI (a / 10)), wD x16 (upd x16.2.2.2.2.2.2.2.2.2.2.1 (Int32.toNatClampNeg (nI j)) (x17 + 1)))) else if (nI (a / 10)) = 4 then (fW_addMessages w (nI p) r 1).bind fun x19 => mp_ld x19.2.2.2.2.2.2.2.2.2.2.1 12 (nI j) fun x20 => mp_st 12 (nI j) (some ((nI (a / 10)), wD x19 (upd x19.2.2.2.2.2.2.2.2.2.2.1 (Int32.toNatClampNeg (nI j)) (x20 + 1)))) else (fW_addMessages w (nI p) r (-1)).bind fun x21 => mp_st 12 (nI j) (mp_ld x21.2.2.2.2.2.2.2.2.2.2.1 12 (nI j) fun x22 => mp_st 12 (nI j) (some ((nI (a / 10)), wH (wD x21 (upd x21.2.2.2.2.2.2.2.2.2.2.1 (Int32.toNatClampNeg (nI j)) (x22 + 1))) (upd x21.2.2.2.2.2.2.2.2.2.2.2 (Int32.toNatClampNeg (nI j)) r))))) := by
    rw [fW_doNextAct, hw, Option.bind_some, W_isThread_n hW hS hj, Option.bind_some, if_neg n10, if_neg hne, ld_n (by omega) (by omega), t3, hd, W_actOf hW hS hj hm h6 hdm, Option.bind_some, ha, ld_n (by omega) (by omega), t1, hs, e_d10 (by omega)]
  have isq : ∀ q, lvp f c q → fW_isPlace w (nI q) = some 1 := fun q hq => W_isPlace_l hW hS hq
  have hput : ∀ q, lvp f c q → fW_putInto w (nI p) (nI q) = some (wA w (upd w.2.2.2.2.1 p (nI q))) := fun q hq => by
    rw [fW_putInto, isq p hp, Option.bind_some, if_neg n10, isq q hq, Option.bind_some, if_neg n10, st_n (by omega) (by omega), nI_clamp (by omega)]
  have e231 : ∀ (k : Nat) (v : Int32), k < 231 → ∀ i, 231 ≤ i → upd (upd f (135 + j) (nI (d + 1))) k v i = f i := fun k v hk i hi => by rw [pk_un (by omega), hu _ (by omega)]
  rcases okA_k hok with hk | hk | hk | hk | hk
  · -- into
    have hx : p ≠ 0 := fun e => hne (by rw [← hr0, aimS, if_neg n9, if_pos hk, if_pos e])
    rw [aimS, if_neg n9, if_pos hk, if_neg hx] at hr0
    rcases fdF_cases (P := Pl f (f (15 + p)) (nI p) (nmS f j a)) (c - 1) 1 with ⟨h1, -⟩ | ⟨q, q1, q2, q3, q4⟩
    · exact absurd (hr0.symm.trans h1) hne
    · rw [hr0] at q4
      subst q4
      obtain ⟨b1, b2, b3, b4, b5⟩ := Pl_spec q3
      have hq : lvp f c q := ⟨by omega, b1⟩
      obtain ⟨y0, hy, ey⟩ := hW.inn (show 1 ≤ p by omega) hp
      have hqp : q ≠ p := fun e => b2 (by rw [e])
      have hy1 := hy.1
      refine ⟨upd (upd f (135 + j) (nI (d + 1))) (15 + p) (nI q), wA (wD w (upd w.2.2.2.2.2.2.2.2.2.2.1 j (nI (d + 1)))) (upd w.2.2.2.2.1 p (nI q)), a, hok, hnx, fun h => ?_, ?_, Wf_move W1 (by omega) hp1 ((hl q).mpr hq) (rk_in W1 (by omega) hp1 ((hl q).mpr hq) q1 hqp ((hl y0).mpr hy) (by rw [hu _ (by omega)]; exact ey) (by rw [hu _ (by omega), b3]; exact ey)), Sm_move (p := p) (v := nI q) W1 S1 hp1, fun i hi => e231 (15 + p) (nI q) (by omega) i hi⟩
      · rw [RD h, if_pos (L1.mpr hk), e_15, st_n (by omega) (by omega), nI_clamp (by omega)]
      · rw [WD, if_pos (L1.mpr hk), hput q hq, Option.bind_some, ld_n (by omega) (by omega), st_n (by omega) (by omega), nI_clamp (by omega), t3, hd, nI_1]
  · -- out of
    have hx : p ≠ 0 := fun e => hne (by rw [← hr0, aimS, if_neg n9, if_neg (show ¬ a / 10 = 1 by omega), if_pos hk, if_pos e])
    obtain ⟨q, hq, eq⟩ := hW.inn (show 1 ≤ p by omega) hp
    have hqc := hq.1
    have hx2 : q ≠ 0 := fun e => hne (by rw [← hr0, aimS, if_neg n9, if_neg (show ¬ a / 10 = 1 by omega), if_pos hk, if_neg hx, if_pos (by rw [eq, e]; rfl)])
    have er : r = nI q := by
      rw [aimS, if_neg n9, if_neg (show ¬ a / 10 = 1 by omega), if_pos hk, if_neg hx, if_neg (by rw [eq]; exact nI_ne0 (by omega) (by omega))] at hr0
      by_cases e1 : f (3 + (f (15 + p)).toNatClampNeg) = nmS f j a
      · rw [if_pos e1] at hr0
        by_cases e2 : f (27 + (f (15 + p)).toNatClampNeg) = 1
        · rw [if_pos e2] at hr0; exact absurd hr0.symm hne
        · rw [if_neg e2] at hr0; rw [← hr0]; exact eq
      · rw [if_neg e1] at hr0; exact absurd hr0.symm hne
    subst er
    obtain ⟨q2, hq2, eq2⟩ := hW.inn (show 1 ≤ q by omega) hq
    have hq2c := hq2.1
    obtain ⟨rk, hrk⟩ := hW.rk
    refine ⟨upd (upd f (135 + j) (nI (d + 1))) (15 + p) (nI q2), wA (wD w (upd w.2.2.2.2.2.2.2.2.2.2.1 j (nI (d + 1)))) (upd w.2.2.2.2.1 p (nI q2)), a, hok, hnx, fun h => ?_, ?_, Wf_move W1 (by omega) hp1 ((hl q2).mpr hq2) ⟨rk, ?_, fun x y h1 h2 h3 h4 h5 => ?_⟩, Sm_move (p := p) (v := nI q2) W1 S1 hp1, fun i hi => e231 (15 + p) (nI q2) (by omega) i hi⟩
    · rw [RD h, if_neg (show ¬ nI (a / 10) = 1 from fun h => by have := L1.mp h; omega), if_pos (L2.mpr hk), e_15, e_15, ld_n (by omega) (by omega), hu _ (by omega), eq2, st_n (by omega) (by omega), nI_clamp (by omega)]
    · rw [WD, if_neg (show ¬ nI (a / 10) = 1 from fun h => by have := L1.mp h; omega), if_pos (L2.mpr hk), W_placeAround_l hW hS hq, Option.bind_some, eq2, hput q2 hq2, Option.bind_some, ld_n (by omega) (by omega), st_n (by omega) (by omega), nI_clamp (by omega), t3, hd, nI_1]
    · have r1 := hrk p q (by omega) hp hq eq
      have r2 := hrk q q2 (by omega) hq hq2 eq2
      omega
    · rw [hu _ (by have := h3.1; omega)] at h5
      exact hrk x y h1 ((hl x).mp h3) ((hl y).mp h4) h5
  · -- opens
    rw [aimS, if_neg n9, if_neg (show ¬ a / 10 = 1 by omega), if_neg (show ¬ a / 10 = 2 by omega), if_pos hk] at hr0
    rcases fdF_cases (P := Pl f (nI p) (-9) (nmS f j a)) (c - 1) 1 with ⟨h1, -⟩ | ⟨q, q1, q2, q3, q4⟩
    · exact absurd (hr0.symm.trans h1) hne
    · rw [hr0] at q4
      subst q4
      obtain ⟨b1, b2, b3, b4, b5⟩ := Pl_spec q3
      have hq : lvp f c q := ⟨by omega, b1⟩
      obtain ⟨rk, hrk⟩ := hW.rk
      have hpq : p ≠ q := fun e => by subst e; have := hrk p p q1 hp hp b3; omega
      refine ⟨opS (upd f (135 + j) (nI (d + 1))) c t p q, dsW (wD w (upd w.2.2.2.2.2.2.2.2.2.2.1 j (nI (d + 1)))) c t p q, a, hok, hnx, fun h => ?_, ?_, Wf_open W1 hp1 ((hl q).mpr hq) q1 hpq (by rw [hu _ (by omega)]; exact b3), Sm_open W1 S1 hp1 ((hl q).mpr hq) q1 hpq, fun i hi => ?_⟩
      · rw [RD h, if_neg (show ¬ nI (a / 10) = 1 from fun h => by have := L1.mp h; omega), if_neg (show ¬ nI (a / 10) = 2 from fun h => by have := L2.mp h; omega), if_pos (L3.mpr hk), R_opens (by omega) (by omega) hpq hc ht h W1.c0 W1.t0, Option.bind_some]
      · rw [WD, if_neg (show ¬ nI (a / 10) = 1 from fun h => by have := L1.mp h; omega), if_neg (show ¬ nI (a / 10) = 2 from fun h => by have := L2.mp h; omega), if_pos (L3.mpr hk), W_dissolve hpc (by omega) hpq hc ht hS.pc hS.tc (by rw [hS.gs]; exact hp.2) (by rw [hS.gs]; exact b1), Option.bind_some, ld_n (by omega) (by omega), st_n (by omega) (by omega), nI_clamp (by omega)]
        show some (nI (a / 10), wD (dsW w c t p q) (upd w.2.2.2.2.2.2.2.2.2.2.1 j (w.2.2.2.2.2.2.2.2.2.2.1 j + 1))) = _
        rw [t3, hd, nI_1]; rfl
      · rw [opS_o (by omega) (by omega) (by omega) hc ht, hu _ (by omega)]
  · -- says
    rw [aimS, if_neg n9, if_neg (show ¬ a / 10 = 1 by omega), if_neg (show ¬ a / 10 = 2 by omega), if_neg (show ¬ a / 10 = 3 by omega), if_pos hk] at hr0
    obtain ⟨n, hn, en⟩ : ∃ n, n < 6 ∧ r = nI n := by
      rcases hnm with h1 | ⟨n, h1, h2⟩
      · exact absurd h1 n9
      · exact ⟨n, h1, by rw [← hr0]; exact h2⟩
    subst en
    refine ⟨upd (upd f (135 + j) (nI (d + 1))) (39 + 6 * p + n) (f (39 + 6 * p + n) + 1), wM (wD w (upd w.2.2.2.2.2.2.2.2.2.2.1 j (nI (d + 1)))) (upd w.2.2.2.2.2.1 (p * 6 + n) (f (39 + 6 * p + n) + 1)), a, hok, hnx, fun h => ?_, ?_, Wf_msg W1 hp1 hn, Sm_msg (p := p) (n := n) W1 S1 hp1 hn, fun i hi => e231 (39 + 6 * p + n) _ (by omega) i hi⟩
    · rw [RD h, if_neg (show ¬ nI (a / 10) = 1 from fun h => by have := L1.mp h; omega), if_neg (show ¬ nI (a / 10) = 2 from fun h => by have := L2.mp h; omega), if_neg (show ¬ nI (a / 10) = 3 from fun h => by have := L3.mp h; omega), if_pos (L4.mpr hk), e_39n, ld_n (by omega) (by omega), st_n (by omega) (by omega), nI_clamp (by omega), hu _ (by omega)]
    · rw [WD, if_neg (show ¬ nI (a / 10) = 1 from fun h => by have := L1.mp h; omega), if_neg (show ¬ nI (a / 10) = 2 from fun h => by have := L2.mp h; omega), if_neg (show ¬ nI (a / 10) = 3 from fun h => by have := L3.mp h; omega), if_pos (L4.mpr hk), W_addMsg hS.pc hc hpc (by rw [hS.gs]; exact hp.2) hn, Option.bind_some, ld_n (by omega) (by omega), st_n (by omega) (by omega), nI_clamp (by omega)]
      show some (nI (a / 10), wD (wM w (upd w.2.2.2.2.2.1 (p * 6 + n) (w.2.2.2.2.2.1 (p * 6 + n) + 1))) (upd w.2.2.2.2.2.2.2.2.2.2.1 j (w.2.2.2.2.2.2.2.2.2.2.1 j + 1))) = _
      rw [t3, hd, nI_1, hS.ms hp hn]
  · -- hears
    rw [aimS, if_neg n9, if_neg (show ¬ a / 10 = 1 by omega), if_neg (show ¬ a / 10 = 2 by omega), if_neg (show ¬ a / 10 = 3 by omega), if_neg (show ¬ a / 10 = 4 by omega)] at hr0
    rcases fdF_cases (P := Pm f p) 6 0 with ⟨h1, -⟩ | ⟨n, q1, q2, q3, q4⟩
    · exact absurd (hr0.symm.trans h1) hne
    · rw [hr0] at q4
      subst q4
      have hn : n < 6 := by omega
      have W2 : Wf (upd (upd f (135 + j) (nI (d + 1))) (39 + 6 * p + n) (f (39 + 6 * p + n) - 1)) c t := Wf_msg W1 hp1 hn
      have S2 := Sm_msg (p := p) (n := n) (v := f (39 + 6 * p + n) - 1) W1 S1 hp1 hn
      refine ⟨upd (upd (upd f (135 + j) (nI (d + 1))) (39 + 6 * p + n) (f (39 + 6 * p + n) - 1)) (147 + j) (nI n), wH (wM (wD w (upd w.2.2.2.2.2.2.2.2.2.2.1 j (nI (d + 1)))) (upd w.2.2.2.2.2.1 (p * 6 + n) (f (39 + 6 * p + n) - 1))) (upd w.2.2.2.2.2.2.2.2.2.2.2 j (nI n)), a, hok, hnx, fun h => ?_, ?_, Wf_heard W2 hj hn, Sm_heard (j := j) (v := nI n) W2 S2 hj, fun i hi => by rw [pk_un (by omega)]; exact e231 (39 + 6 * p + n) _ (by omega) i hi⟩
      · rw [RD h, if_neg (show ¬ nI (a / 10) = 1 from fun h => by have := L1.mp h; omega), if_neg (show ¬ nI (a / 10) = 2 from fun h => by have := L2.mp h; omega), if_neg (show ¬ nI (a / 10) = 3 from fun h => by have := L3.mp h; omega), if_neg (show ¬ nI (a / 10) = 4 from fun h => by have := L4.mp h; omega), e_39n, e_147, ld_n (by omega) (by omega), st_n (by omega) (by omega), st_n (by omega) (by omega), nI_clamp (by omega), nI_clamp (by omega), hu _ (by omega)]
      · rw [WD, if_neg (show ¬ nI (a / 10) = 1 from fun h => by have := L1.mp h; omega), if_neg (show ¬ nI (a / 10) = 2 from fun h => by have := L2.mp h; omega), if_neg (show ¬ nI (a / 10) = 3 from fun h => by have := L3.mp h; omega), if_neg (show ¬ nI (a / 10) = 4 from fun h => by have := L4.mp h; omega), W_addMsg hS.pc hc hpc (by rw [hS.gs]; exact hp.2) hn, Option.bind_some, st_n (by omega) (by omega), ld_n (by omega) (by omega), st_n (by omega) (by omega), nI_clamp (by omega)]
        show some (nI (a / 10), wH (wD (wM w (upd w.2.2.2.2.2.1 (p * 6 + n) (w.2.2.2.2.2.1 (p * 6 + n) + (-1)))) (upd w.2.2.2.2.2.2.2.2.2.2.1 j (w.2.2.2.2.2.2.2.2.2.2.1 j + 1))) (upd w.2.2.2.2.2.2.2.2.2.2.2 j (nI n))) = _
        rw [t3, hd, nI_1, hS.ms hp hn, show f (39 + 6 * p + n) + (-1) = f (39 + 6 * p + n) - 1 from (Int32.sub_eq_add_neg _ _).symm]
/-- both do the same act, or none -/
theorem RW_does (hW : Wf f c t) (hS : Sm w f c t) {j : Nat} (hj : j < t) : ((∀ h : Hh, fR_does (f, h) (nI j) = some (0, (f, h))) ∧ fW_aimOf w (nI j) = some (-9) ∧ fW_doNextAct w (nI j) = some (-9, w)) ∨ ((∃ r, r ≠ -9 ∧ fW_aimOf w (nI j) = some r) ∧ actOK f w c t j) := by
  have hT := hW.th hj
  obtain ⟨p, m, d, h1, h2, h3, h4, h5, h6, h7, h8⟩ := id hT
  rcases Nat.lt_or_ge d m with h | h
  · obtain ⟨a, ha, he⟩ := h8 d h
    have hw := W_aimOf_n hW hS hj h1 h2 h4 h6 h3.2 h he ha
    by_cases e : aimS f c p a (nmS f j a) = -9
    · rw [e] at hw
      exact Or.inl ⟨fun hh => R_does_o (by rw [R_doneWith_n (g := (f, hh)) hW hj h1 h2 h4 h6 h3.2 h he ha]; exact congrArg some e), hw, W_does_o hW hS hj hw⟩
    · exact Or.inr ⟨⟨_, e, hw⟩, RW_do hW hS hj h1 h2 h4 h6 h3.2 h he ha hT e⟩
  · have e : f (135 + j) = f (123 + j) := by rw [h4, h6, show d = m by omega]
    have hw := W_aimOf_o hW hS hj h4 h6 h3.2 h5 e
    exact Or.inl ⟨fun hh => R_does_o (R_doneWith_o (g := (f, hh)) hW hj h2 e), hw, W_does_o hW hS hj hw⟩
end DO
