/-! ===== small changes of a state keep it whole ===== -/
abbrev wD (w : SW) (d : Nat → Int32) : SW := (w.1, w.2.1, w.2.2.1, w.2.2.2.1, w.2.2.2.2.1, w.2.2.2.2.2.1, w.2.2.2.2.2.2.1, w.2.2.2.2.2.2.2.1, w.2.2.2.2.2.2.2.2.1, w.2.2.2.2.2.2.2.2.2.1, d, w.2.2.2.2.2.2.2.2.2.2.2)
abbrev wH (w : SW) (d : Nat → Int32) : SW := (w.1, w.2.1, w.2.2.1, w.2.2.2.1, w.2.2.2.2.1, w.2.2.2.2.2.1, w.2.2.2.2.2.2.1, w.2.2.2.2.2.2.2.1, w.2.2.2.2.2.2.2.2.1, w.2.2.2.2.2.2.2.2.2.1, w.2.2.2.2.2.2.2.2.2.2.1, d)
theorem lvp_of {f f' : Nat → Int32} (h2 : f' 2 = f 2) (c p : Nat) : lvp f' c p ↔ lvp f c p := by unfold lvp; rw [h2]
theorem Th_of {f f' : Nat → Int32} {c j : Nat} (hj : j < 12) (h2 : f' 2 = f 2) (h : ∀ i, 111 ≤ i → i < 231 → f' i = f i) (hT : Th f c j) : Th f' c j := by
  obtain ⟨p, m, d, h1, h3, h4, h5, h6, h7, h8, h9⟩ := hT
  refine ⟨p, m, d, (lvp_of h2 c p).mpr h1, by rw [h _ (by omega) (by omega)]; exact h3, h4, by rw [h _ (by omega) (by omega)]; exact h5, h6, by rw [h _ (by omega) (by omega)]; exact h7, by rw [h _ (by omega) (by omega)]; exact h8, fun k hk => ?_⟩
  obtain ⟨a, ha, e⟩ := h9 k hk
  exact ⟨a, ha, by rw [h _ (by omega) (by omega)]; exact e⟩
theorem Wf_base {f f' : Nat → Int32} {c t : Nat} (hW : Wf f c t) (hb : ∀ i, i < 39 → f' i = f i) (hm : ∀ p n, p < 12 → n < 6 → ¬ lvp f c p → f' (39 + 6 * p + n) = 0) (hT : ∀ j, j < t → Th f' c j) : Wf f' c t := by
  have h2 : f' 2 = f 2 := hb 2 (by omega)
  have hl := lvp_of h2 c
  have hc := hW.c12
  obtain ⟨rk, hr⟩ := hW.rk
  refine ⟨⟨by rw [hb 0 (by omega)]; exact hW.c0, by rw [hb 1 (by omega)]; exact hW.t0, hW.c1, hc, hW.t12⟩, ⟨by rw [h2]; exact hW.live0.2, by rw [hb 3 (by omega)]; exact hW.name0, by rw [hb 15 (by omega)]; exact hW.in0, by rw [hb 27 (by omega)]; exact hW.2.1.2.2.2⟩, fun p h1 h3 => ?_, fun p h1 h3 => ?_, ⟨rk, fun p q h1 h3 h4 h5 => ?_⟩, fun p h1 => ?_, fun p h1 h3 => ?_, fun p n h1 h3 h4 => ?_, fun p h1 => ?_, hT⟩
  · rw [hb _ (by omega)]; exact hW.name h1 h3
  · obtain ⟨q, hq, he⟩ := hW.inn h1 ((hl p).mp h3)
    exact ⟨q, (hl q).mpr hq, by rw [hb _ (by have := h3.1; omega)]; exact he⟩
  · rw [hb _ (by have := h3.1; omega)] at h5
    exact hr p q h1 ((hl p).mp h3) ((hl q).mp h4) h5
  · rw [hb _ (by omega)]; exact hW.seal h1
  · rw [hb _ (by omega)]; exact hW.seal0 h1 h3
  · exact hm p n h1 h3 (fun h => h4 ((hl p).mpr h))
  · rw [h2]; exact hW.gone h1
theorem Wf_done {f : Nat → Int32} {c t j m d : Nat} (hW : Wf f c t) (hj : j < t) (hm : f (123 + j) = nI m) (h6 : m ≤ 6) (hd : d + 1 ≤ m) : Wf (upd f (135 + j) (nI (d + 1))) c t := by
  have ht := hW.t12
  have hu : ∀ i, i ≠ 135 + j → upd f (135 + j) (nI (d + 1)) i = f i := fun i h => pk_un h
  refine Wf_base hW (fun i h => hu i (by omega)) (fun p n h1 h2 h3 => by rw [hu _ (by omega)]; exact hW.msg0 h1 h2 h3) (fun x hx => ?_)
  obtain ⟨p, m', d', h1, h3, h4, h5, h7, h8, h9, h10⟩ := hW.th hx
  have hl := lvp_of (hu 2 (by omega)) c
  by_cases e : x = j
  · subst e
    have : m = m' := nI_inj (by omega) (by omega) (hm.symm.trans h5)
    subst this
    refine ⟨p, m, d + 1, (hl p).mpr h1, by rw [hu _ (by omega)]; exact h3, h4, by rw [hu _ (by omega)]; exact h5, hd, pk_us, by rw [hu _ (by omega)]; exact h9, fun k hk => ?_⟩
    rw [hu _ (by omega)]; exact h10 k hk
  · refine ⟨p, m', d', (hl p).mpr h1, by rw [hu _ (by omega)]; exact h3, h4, by rw [hu _ (by omega)]; exact h5, h7, by rw [hu _ (by omega)]; exact h8, by rw [hu _ (by omega)]; exact h9, fun k hk => ?_⟩
    rw [hu _ (by omega)]; exact h10 k hk
theorem Wf_heard {f : Nat → Int32} {c t j n : Nat} (hW : Wf f c t) (hj : j < t) (hn : n < 6) : Wf (upd f (147 + j) (nI n)) c t := by
  have ht := hW.t12
  have hu : ∀ i, i ≠ 147 + j → upd f (147 + j) (nI n) i = f i := fun i h => pk_un h
  refine Wf_base hW (fun i h => hu i (by omega)) (fun p n h1 h2 h3 => by rw [hu _ (by omega)]; exact hW.msg0 h1 h2 h3) (fun x hx => ?_)
  obtain ⟨p, m', d', h1, h3, h4, h5, h7, h8, h9, h10⟩ := hW.th hx
  have hl := lvp_of (hu 2 (by omega)) c
  refine ⟨p, m', d', (hl p).mpr h1, by rw [hu _ (by omega)]; exact h3, h4, by rw [hu _ (by omega)]; exact h5, h7, by rw [hu _ (by omega)]; exact h8, ?_, fun k hk => ?_⟩
  · by_cases e : x = j
    · subst e; exact Or.inr ⟨n, hn, pk_us⟩
    · rw [hu _ (by omega)]; exact h9
  · rw [hu _ (by omega)]; exact h10 k hk
theorem Wf_msg {f : Nat → Int32} {c t p n : Nat} {v : Int32} (hW : Wf f c t) (hp : lvp f c p) (hn : n < 6) : Wf (upd f (39 + 6 * p + n) v) c t := by
  have ht := hW.t12; have hc := hW.c12; have := hp.1
  have hu : ∀ i, i ≠ 39 + 6 * p + n → upd f (39 + 6 * p + n) v i = f i := fun i h => pk_un h
  refine Wf_base hW (fun i h => hu i (by omega)) (fun x k h1 h2 h3 => ?_) (fun x hx => Th_of (by omega) (hu 2 (by omega)) (fun i h1 h2 => hu i (by omega)) (hW.th hx))
  have : x ≠ p := fun e => h3 (by rw [e]; exact hp)
  rw [hu _ (by omega)]; exact hW.msg0 h1 h2 h3
/-- a place goes into another one: the ranks -/
theorem Wf_move {f : Nat → Int32} {c t p q : Nat} (hW : Wf f c t) (h1 : 1 ≤ p) (hp : lvp f c p) (hq : lvp f c q) (hr : ∃ rk : Nat → Nat, rk q < rk p ∧ ∀ x y, 1 ≤ x → x ≠ p → lvp f c x → lvp f c y → f (15 + x) = nI y → rk y < rk x) : Wf (upd f (15 + p) (nI q)) c t := by
  have ht := hW.t12; have hc := hW.c12; have hpc := hp.1; have hqc := hq.1
  have hu : ∀ i, i ≠ 15 + p → upd f (15 + p) (nI q) i = f i := fun i h => pk_un h
  have hl := lvp_of (hu 2 (by omega)) c
  obtain ⟨rk, r1, r2⟩ := hr
  refine ⟨⟨by rw [hu _ (by omega)]; exact hW.c0, by rw [hu _ (by omega)]; exact hW.t0, hW.c1, hc, ht⟩, ⟨by rw [hu _ (by omega)]; exact hW.live0.2, by rw [hu _ (by omega)]; exact hW.name0, by rw [hu _ (by omega)]; exact hW.in0, by rw [hu _ (by omega)]; exact hW.2.1.2.2.2⟩, fun x h2 h3 => ?_, fun x h2 h3 => ?_, ⟨rk, fun x y h2 h3 h4 h5 => ?_⟩, fun x h2 => ?_, fun x h2 h3 => ?_, fun x n h2 h3 h4 => ?_, fun x h2 => ?_, fun x hx => Th_of (by omega) (hu 2 (by omega)) (fun i h1 h2 => hu i (by omega)) (hW.th hx)⟩
  · rw [hu _ (by omega)]; exact hW.name h2 h3
  · by_cases e : x = p
    · subst e; exact ⟨q, (hl q).mpr hq, pk_us⟩
    · obtain ⟨y, hy, he⟩ := hW.inn h2 ((hl x).mp h3)
      exact ⟨y, (hl y).mpr hy, by rw [hu _ (by omega)]; exact he⟩
  · by_cases e : x = p
    · subst e
      rw [pk_us] at h5
      have := h4.1
      have : q = y := nI_inj (by omega) (by omega) h5
      subst this
      exact r1
    · rw [hu _ (by omega)] at h5
      exact r2 x y h2 e ((hl x).mp h3) ((hl y).mp h4) h5
  · rw [hu _ (by omega)]; exact hW.seal h2
  · rw [hu _ (by omega)]; exact hW.seal0 h2 h3
  · rw [hu _ (by omega)]; exact hW.msg0 h2 h3 (fun h => h4 ((hl x).mpr h))
  · rw [hu _ (by omega)]; exact hW.gone h2
theorem Sm_done {w : SW} {f : Nat → Int32} {c t j : Nat} {v : Int32} (hW : Wf f c t) (hS : Sm w f c t) (hj : j < t) : Sm (wD w (upd w.2.2.2.2.2.2.2.2.2.2.1 j v)) (upd f (135 + j) v) c t := by
  have ht := hW.t12; have hc := hW.c12
  have hu : ∀ i, i ≠ 135 + j → upd f (135 + j) v i = f i := fun i h => pk_un h
  have hl := lvp_of (hu 2 (by omega)) c
  refine ⟨⟨hS.pc, by rw [hu _ (by omega)]; exact hS.gs, hS.tc⟩, fun p hp => by rw [hu _ (by omega)]; exact hS.nm hp, fun p hp => by rw [hu _ (by have := hp.1; omega)]; exact hS.ar ((hl p).mp hp), fun p h1 hp => hS.ag h1 (fun h => hp ((hl p).mpr h)), fun p hp => by rw [hu _ (by omega)]; exact hS.sl hp, fun p n hp hn => by rw [hu _ (by have := hp.1; omega)]; exact hS.ms ((hl p).mp hp) hn, fun x hx => ?_, fun x hx => ?_⟩
  · obtain ⟨a1, a2, a3, a4⟩ := hS.th hx
    refine ⟨by rw [hu _ (by omega)]; exact a1, by rw [hu _ (by omega)]; exact a2, ?_, by rw [hu _ (by omega)]; exact a4⟩
    show upd w.2.2.2.2.2.2.2.2.2.2.1 j v x = upd f (135 + j) v (135 + x)
    by_cases e : x = j
    · subst e; rw [pk_us, pk_us]
    · rw [pk_un e, hu _ (by omega)]; exact a3
  · obtain ⟨A, h1, h2, h3⟩ := hS.ac hx
    exact ⟨A, h1, h2, fun m k hm hk h6 => by rw [hu _ (by omega)] at hm ⊢; exact h3 m k hm hk h6⟩
theorem Sm_heard {w : SW} {f : Nat → Int32} {c t j : Nat} {v : Int32} (hW : Wf f c t) (hS : Sm w f c t) (hj : j < t) : Sm (wH w (upd w.2.2.2.2.2.2.2.2.2.2.2 j v)) (upd f (147 + j) v) c t := by
  have ht := hW.t12; have hc := hW.c12
  have hu : ∀ i, i ≠ 147 + j → upd f (147 + j) v i = f i := fun i h => pk_un h
  have hl := lvp_of (hu 2 (by omega)) c
  refine ⟨⟨hS.pc, by rw [hu _ (by omega)]; exact hS.gs, hS.tc⟩, fun p hp => by rw [hu _ (by omega)]; exact hS.nm hp, fun p hp => by rw [hu _ (by have := hp.1; omega)]; exact hS.ar ((hl p).mp hp), fun p h1 hp => hS.ag h1 (fun h => hp ((hl p).mpr h)), fun p hp => by rw [hu _ (by omega)]; exact hS.sl hp, fun p n hp hn => by rw [hu _ (by have := hp.1; omega)]; exact hS.ms ((hl p).mp hp) hn, fun x hx => ?_, fun x hx => ?_⟩
  · obtain ⟨a1, a2, a3, a4⟩ := hS.th hx
    refine ⟨by rw [hu _ (by omega)]; exact a1, by rw [hu _ (by omega)]; exact a2, by rw [hu _ (by omega)]; exact a3, ?_⟩
    show upd w.2.2.2.2.2.2.2.2.2.2.2 j v x = upd f (147 + j) v (147 + x)
    by_cases e : x = j
    · subst e; rw [pk_us, pk_us]
    · rw [pk_un e, hu _ (by omega)]; exact a4
  · obtain ⟨A, h1, h2, h3⟩ := hS.ac hx
    exact ⟨A, h1, h2, fun m k hm hk h6 => by rw [hu _ (by omega)] at hm ⊢; exact h3 m k hm hk h6⟩
theorem Sm_msg {w : SW} {f : Nat → Int32} {c t p n : Nat} {v : Int32} (hW : Wf f c t) (hS : Sm w f c t) (hp : lvp f c p) (hn : n < 6) : Sm (wM w (upd w.2.2.2.2.2.1 (p * 6 + n) v)) (upd f (39 + 6 * p + n) v) c t := by
  have ht := hW.t12; have hc := hW.c12; have hpc := hp.1
  have hu : ∀ i, i ≠ 39 + 6 * p + n → upd f (39 + 6 * p + n) v i = f i := fun i h => pk_un h
  have hl := lvp_of (hu 2 (by omega)) c
  refine ⟨⟨hS.pc, by rw [hu _ (by omega)]; exact hS.gs, hS.tc⟩, fun p hp => by rw [hu _ (by omega)]; exact hS.nm hp, fun p hp => by rw [hu _ (by have := hp.1; omega)]; exact hS.ar ((hl p).mp hp), fun p h1 hp => hS.ag h1 (fun h => hp ((hl p).mpr h)), fun p hp => by rw [hu _ (by omega)]; exact hS.sl hp, fun x k hx hk => ?_, fun x hx => ?_, fun x hx => ?_⟩
  · show upd w.2.2.2.2.2.1 (p * 6 + n) v (x * 6 + k) = upd f (39 + 6 * p + n) v (39 + 6 * x + k)
    by_cases e : x * 6 + k = p * 6 + n
    · rw [e, pk_us, show 39 + 6 * x + k = 39 + 6 * p + n by omega, pk_us]
    · rw [pk_un e, hu _ (by omega)]; exact hS.ms ((hl x).mp hx) hk
  · obtain ⟨a1, a2, a3, a4⟩ := hS.th hx
    exact ⟨by rw [hu _ (by omega)]; exact a1, by rw [hu _ (by omega)]; exact a2, by rw [hu _ (by omega)]; exact a3, by rw [hu _ (by omega)]; exact a4⟩
  · obtain ⟨A, h1, h2, h3⟩ := hS.ac hx
    exact ⟨A, h1, h2, fun m k hm hk h6 => by rw [hu _ (by omega)] at hm ⊢; exact h3 m k hm hk h6⟩
theorem Sm_move {w : SW} {f : Nat → Int32} {c t p : Nat} {v : Int32} (hW : Wf f c t) (hS : Sm w f c t) (hp : lvp f c p) : Sm (wA w (upd w.2.2.2.2.1 p v)) (upd f (15 + p) v) c t := by
  have ht := hW.t12; have hc := hW.c12; have hpc := hp.1
  have hu : ∀ i, i ≠ 15 + p → upd f (15 + p) v i = f i := fun i h => pk_un h
  have hl := lvp_of (hu 2 (by omega)) c
  refine ⟨⟨hS.pc, by rw [hu _ (by omega)]; exact hS.gs, hS.tc⟩, fun p hp => by rw [hu _ (by omega)]; exact hS.nm hp, fun x hx => ?_, fun x h1 hx => ?_, fun p hp => by rw [hu _ (by omega)]; exact hS.sl hp, fun x k hx hk => by rw [hu _ (by have := hx.1; omega)]; exact hS.ms ((hl x).mp hx) hk, fun x hx => ?_, fun x hx => ?_⟩
  · show upd w.2.2.2.2.1 p v x = upd f (15 + p) v (15 + x)
    by_cases e : x = p
    · subst e; rw [pk_us, pk_us]
    · rw [pk_un e, hu _ (by omega)]; exact hS.ar ((hl x).mp hx)
  · show upd w.2.2.2.2.1 p v x = -9
    by_cases e : x = p
    · subst e; exact absurd ((hl x).mpr hp) hx
    · rw [pk_un e]; exact hS.ag h1 (fun h => hx ((hl x).mpr h))
  · obtain ⟨a1, a2, a3, a4⟩ := hS.th hx
    exact ⟨by rw [hu _ (by omega)]; exact a1, by rw [hu _ (by omega)]; exact a2, by rw [hu _ (by omega)]; exact a3, by rw [hu _ (by omega)]; exact a4⟩
  · obtain ⟨A, h1, h2, h3⟩ := hS.ac hx
    exact ⟨A, h1, h2, fun m k hm hk h6 => by rw [hu _ (by omega)] at hm ⊢; exact h3 m k hm hk h6⟩
/-! ===== opening ===== -/
theorem lvp_op {f : Nat → Int32} {c t p q x : Nat} (hc : c ≤ 12) (hq : q < c) : lvp (opS f c t p q) c x ↔ lvp f c x ∧ x ≠ q := by
  unfold lvp
  rw [opS_2]
  constructor
  · rintro ⟨h1, h2⟩
    rw [b_set (by omega) (by omega), Bool.or_eq_false_iff, decide_eq_false_iff_not] at h2
    exact ⟨⟨h1, h2.1⟩, h2.2⟩
  · rintro ⟨⟨h1, h2⟩, h3⟩
    refine ⟨h1, ?_⟩
    rw [b_set (by omega) (by omega), h2, decide_eq_false h3]; rfl
theorem hqp_ne {p q : Nat} {v : Int32} (h : v ≠ nI q) : hqp p q v = v := if_neg h
theorem Wf_open {f : Nat → Int32} {c t p q : Nat} (hW : Wf f c t) (hp : lvp f c p) (hq : lvp f c q) (h1 : 1 ≤ q) (hpq : p ≠ q) (he : f (15 + q) = nI p) : Wf (opS f c t p q) c t := by
  have ht := hW.t12; have hc := hW.c12; have hpc := hp.1; have hqc := hq.1
  have ho : ∀ i, (i = 0 ∨ i = 1 ∨ (3 ≤ i ∧ i < 15) ∨ (27 ≤ i ∧ i < 39) ∨ 123 ≤ i) → opS f c t p q i = f i := fun i h => opS_o h (by omega) (by omega) hc ht
  obtain ⟨rk, hr⟩ := hW.rk
  have h0 : lvp (opS f c t p q) c 0 := (lvp_op hc hqc).mpr ⟨hW.live0, by omega⟩
  have hpl : lvp (opS f c t p q) c p := (lvp_op hc hqc).mpr ⟨hp, hpq⟩
  refine ⟨⟨by rw [ho 0 (by omega)]; exact hW.c0, by rw [ho 1 (by omega)]; exact hW.t0, hW.c1, hc, ht⟩, ⟨h0.2, by rw [ho 3 (by omega)]; exact hW.name0, ?_, by rw [ho 27 (by omega)]; exact hW.2.1.2.2.2⟩, fun x h2 h3 => ?_, fun x h2 h3 => ?_, ⟨rk, fun x y h2 h3 h4 h5 => ?_⟩, fun x h2 => ?_, fun x h2 h3 => ?_, fun x n h2 h3 h4 => ?_, fun x h2 => ?_, fun x hx => ?_⟩
  · rw [show (15 : Nat) = 15 + 0 from rfl, opS_in hW.c1 hc, show f (15 + 0) = -9 from hW.in0]
    exact hqp_ne (fun h => nI_m9 (by omega) h.symm)
  · rw [ho _ (by omega)]; exact hW.name h2 h3
  · obtain ⟨h3, h4⟩ := (lvp_op hc hqc).mp h3
    obtain ⟨y, hy, e⟩ := hW.inn h2 h3
    have := hy.1
    rw [opS_in h3.1 hc, e]
    by_cases ey : y = q
    · subst ey; exact ⟨p, hpl, if_pos rfl⟩
    · exact ⟨y, (lvp_op hc hqc).mpr ⟨hy, ey⟩, if_neg (fun h => ey (nI_inj (by omega) (by omega) h))⟩
  · obtain ⟨h3, h6⟩ := (lvp_op hc hqc).mp h3
    obtain ⟨h4, h7⟩ := (lvp_op hc hqc).mp h4
    obtain ⟨z, hz, e⟩ := hW.inn h2 h3
    have := hz.1; have := h4.1
    rw [opS_in h3.1 hc, e] at h5
    have r1 := hr x z h2 h3 hz e
    by_cases ez : z = q
    · subst ez
      rw [show hqp p z (nI z) = nI p from if_pos rfl] at h5
      have e2 : p = y := nI_inj (by omega) (by omega) h5
      subst e2
      have r2 := hr z p h1 hq hp he
      omega
    · rw [hqp_ne (fun h => ez (nI_inj (by omega) (by omega) h))] at h5
      have e2 : z = y := nI_inj (by omega) (by omega) h5
      subst e2
      exact r1
  · rw [ho _ (by omega)]; exact hW.seal h2
  · rw [ho _ (by omega)]; exact hW.seal0 h2 h3
  · by_cases e1 : x = q
    · subst e1; exact opS_mq h3 hpq
    · have e2 : x ≠ p := fun e => h4 (by rw [e]; exact hpl)
      rw [opS_mo h3 h2 e2 e1 hc]
      exact hW.msg0 h2 h3 (fun h => h4 ((lvp_op hc hqc).mpr ⟨h, e1⟩))
  · rw [opS_2]
    rcases Nat.lt_or_ge x 32 with h3 | h3
    · rw [b_set (by omega) h3, hW.gone h2, decide_eq_false (by omega)]; rfl
    · exact b_big h3
  · obtain ⟨y, m, d, a1, a2, a3, a4, a5, a6, a7, a8⟩ := hW.th hx
    have := a1.1
    have hA : ∃ y', lvp (opS f c t p q) c y' ∧ opS f c t p q (111 + x) = nI y' := by
      rw [opS_at hx (by omega) (by omega) hc, a2]
      by_cases ey : y = q
      · subst ey; exact ⟨p, hpl, if_pos rfl⟩
      · exact ⟨y, (lvp_op hc hqc).mpr ⟨a1, ey⟩, if_neg (fun h => ey (nI_inj (by omega) (by omega) h))⟩
    obtain ⟨y', b1, b2⟩ := hA
    refine ⟨y', m, d, b1, b2, a3, by rw [ho _ (by omega)]; exact a4, a5, by rw [ho _ (by omega)]; exact a6, by rw [ho _ (by omega)]; exact a7, fun k hk => ?_⟩
    rw [ho _ (by omega)]; exact a8 k hk
theorem Sm_open {w : SW} {f : Nat → Int32} {c t p q : Nat} (hW : Wf f c t) (hS : Sm w f c t) (hp : lvp f c p) (hq : lvp f c q) (h1 : 1 ≤ q) (hpq : p ≠ q) : Sm (dsW w c t p q) (opS f c t p q) c t := by
  have ht := hW.t12; have hc := hW.c12; have hpc := hp.1; have hqc := hq.1
  have ho : ∀ i, (i = 0 ∨ i = 1 ∨ (3 ≤ i ∧ i < 15) ∨ (27 ≤ i ∧ i < 39) ∨ 123 ≤ i) → opS f c t p q i = f i := fun i h => opS_o h (by omega) (by omega) hc ht
  refine ⟨⟨hS.pc, ?_, hS.tc⟩, fun x hx => by rw [ho _ (by omega)]; exact hS.nm hx, fun x hx => ?_, fun x h2 hx => ?_, fun x hx => by rw [ho _ (by omega)]; exact hS.sl hx, fun x n hx hn => ?_, fun x hx => ?_, fun x hx => ?_⟩
  · show w.2.1 ||| _ = _
    rw [opS_2, hS.gs]
  · obtain ⟨h3, h4⟩ := (lvp_op hc hqc).mp hx
    have := h3.1
    show upd (mapF 0 c (hqp p q) w.2.2.2.2.1) q (-9) x = _
    rw [pk_un h4, mapF_in (by omega) (by omega), hS.ar h3, opS_in h3.1 hc]
  · show upd (mapF 0 c (hqp p q) w.2.2.2.2.1) q (-9) x = -9
    by_cases e : x = q
    · subst e; exact pk_us
    · rw [pk_un e, mapF_in (by omega) (by omega), hS.ag h2 (fun h => hx ((lvp_op hc hqc).mpr ⟨h, e⟩))]
      exact hqp_ne (fun h => nI_m9 (by omega) h.symm)
  · obtain ⟨h3, h4⟩ := (lvp_op hc hqc).mp hx
    have := h3.1
    show adM w.2.2.2.2.2.1 p q 0 (x * 6 + n) = _
    unfold adM
    by_cases e : x = p
    · subst e
      rw [if_pos (by omega), show q * 6 + (x * 6 + n - x * 6) = q * 6 + n by omega, hS.ms h3 hn, hS.ms hq hn, opS_mp hn (by omega) (by omega) hc]
    · rw [if_neg (by omega), hS.ms h3 hn, opS_mo hn (by omega) e h4 hc]
  · obtain ⟨a1, a2, a3, a4⟩ := hS.th hx
    refine ⟨?_, by rw [ho _ (by omega)]; exact a2, by rw [ho _ (by omega)]; exact a3, by rw [ho _ (by omega)]; exact a4⟩
    show mapF 0 t (hqp p q) w.2.2.2.2.2.2.2.1 x = _
    rw [mapF_in (by omega) (by omega), a1, opS_at hx (by omega) (by omega) hc]
  · obtain ⟨A, h3, h4, h5⟩ := hS.ac hx
    exact ⟨A, h3, h4, fun m k hm hk h6 => by rw [ho _ (by omega)] at hm ⊢; exact h5 m k hm hk h6⟩
