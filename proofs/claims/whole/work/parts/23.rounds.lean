/-! ===== rounds ===== -/
theorem RW_round {f : Nat → Int32} {w : SW} {c t : Nat} : ∀ (n q k : Nat) (f : Nat → Int32) (w : SW), Wf f c t → Sm w f c t → q ≤ t → t - q < n → k ≤ q →
    ∃ f' w' k', Wf f' c t ∧ Sm w' f' c t ∧ k' ≤ t ∧ fW_doRound_4 n w (nI k) (nI q) = some (nI k', w') ∧ ∀ (h : Hh) (a1 a2 a4 : Int32) (kk : SR → Int32 → Option (Int32 × SR)), fR_rounds_35 a1 a2 a4 kk n (f, h) (nI k) (nI q) = kk (f', h) (nI k') := by
  intro n
  induction n with
  | zero => intro q k f w _ _ h1 h2; omega
  | succ n ih =>
    intro q k f w hW hS h1 h2 hk
    have ht := hW.t12
    rcases Nat.lt_or_ge q t with h | h
    · rcases RW_does hW hS h with ⟨d1, d2, d3⟩ | ⟨-, f1, w1, a, d0, d1, d2, d3, d4, d5, d6⟩
      · obtain ⟨f', w', k', e1, e2, e3, e4, e5⟩ := ih (q + 1) k f w hW hS (by omega) (by omega) (by omega)
        refine ⟨f', w', k', e1, e2, e3, ?_, fun h a1 a2 a4 kk => ?_⟩
        · rw [fW_doRound_4_s, hS.tc, if_neg (nI_ge ‹q < t› (by omega)), d3, Option.bind_some, if_pos rfl, nI_1]; exact e4
        · rw [fR_rounds_35_s, ld_1]
          show (if f 1 ≤ nI q then _ else _) = _
          rw [hW.t0, if_neg (nI_ge ‹q < t› (by omega)), d1 h, Option.bind_some, if_pos rfl, Int32.add_zero, nI_1]; exact e5 h a1 a2 a4 kk
      · have h50 := okA_lt d0
        obtain ⟨f', w', k', e1, e2, e3, e4, e5⟩ := ih (q + 1) (k + 1) f1 w1 d4 d5 (by omega) (by omega) (by omega)
        refine ⟨f', w', k', e1, e2, e3, ?_, fun h a1 a2 a4 kk => ?_⟩
        · rw [fW_doRound_4_s, hS.tc, if_neg (nI_ge ‹q < t› (by omega)), d3, Option.bind_some, if_neg (nI_m9 (by omega)), nI_1, nI_1]; exact e4
        · rw [fR_rounds_35_s, ld_1]
          show (if f 1 ≤ nI q then _ else _) = _
          rw [hW.t0, if_neg (nI_ge ‹q < t› (by omega)), d2 h, Option.bind_some, if_neg n10, nI_1, nI_1]; exact e5 h a1 a2 a4 kk
    · have : q = t := by omega
      subst this
      refine ⟨f, w, k, hW, hS, hk, ?_, fun h a1 a2 a4 kk => ?_⟩
      · rw [fW_doRound_4_s, hS.tc, if_pos (nI_le (Nat.le_refl _) (by omega))]
      · rw [fR_rounds_35_s, ld_1]
        show (if f 1 ≤ nI q then _ else _) = _
        rw [hW.t0, if_pos (nI_le (Nat.le_refl _) (by omega))]
theorem RW_rounds {b : Nat} (hb : b ≤ 50) : ∀ (n q k : Nat) (all : Int32) (S : SM) (g : SR), Rel S g → q ≤ b → b - q + 1 < n → 0 < k → k ≤ 12 → moOK (fM_rounds_18 (nI b) n S all (nI q)) (fR_rounds_20 (nI b) n g all (nI k) (nI q)) := by
  intro n
  induction n with
  | zero => intro q k all S g _ h1 h2; omega
  | succ n ih =>
    intro q k all S g h h1 h2 hk hk2
    have hR := h
    obtain ⟨⟨c, t, hW, hS⟩, hI⟩ := h
    have ht := hW.t12
    rw [fM_rounds_18_s, fR_rounds_20_s]
    rcases Nat.lt_or_ge q b with hq | hq
    · obtain ⟨f', w', k', e1, e2, e3, e4, e5⟩ := RW_round (f := g.1) (w := S.1) 2000 0 0 g.1 S.1 hW hS (Nat.zero_le _) (by omega) (Nat.le_refl _)
      rw [if_neg (nI_ge hq (by omega)), if_neg (nI_ge hq (by omega)), if_neg (show ¬ nI k ≤ 0 from nI_nle hk (by omega)), show fW_doRound S.1 = some (nI k', w') from e4, Option.bind_some, show ∀ kk, fR_rounds_35 (nI b) all (nI q) kk 2000 g 0 0 = kk (f', g.2) (nI k') from fun kk => e5 g.2 _ _ _ kk, nI_1]
      rcases Nat.eq_zero_or_pos k' with rfl | h0
      · rw [if_pos nI_0]
        refine mo_i (v := all) rfl ?_ (Rel_now hI e1 e2)
        cases n with
        | zero => omega
        | succ n =>
          rw [nI_0, Int32.add_zero, fR_rounds_20_s, if_pos (show (0 : Int32) ≤ 0 by decide), ite_self]
      · rw [if_neg (nI_ne0 h0 (by omega))]
        exact ih (q + 1) k' (all + nI k') (w', S.2) (f', g.2) (Rel_now hI e1 e2) (by omega) (by omega) h0 (by omega)
    · rw [if_pos (nI_le hq (by omega)), if_pos (nI_le hq (by omega))]
      exact mo_i rfl rfl hR
theorem k_rounds {S : SM} {g : SR} {a1 : Int32} (h : Rel S g) : moOK (fM_rounds S a1) (fR_rounds g a1) := by
  rw [fM_rounds, fR_rounds, fR_between]
  by_cases e1 : a1 < 1
  · rw [if_pos e1, if_pos e1, Option.bind_some, if_pos rfl]; exact mo_i rfl rfl h
  rw [if_neg e1, if_neg e1]
  by_cases e2 : a1 ≤ 50
  · have e3 : ¬ (50 : Int32) < a1 := by rw [fa_lt]; rw [fa_le] at e2; omega
    have h0 : ¬ a1 < 0 := fun q => e1 (by rw [fa_lt] at q ⊢; have : (0 : Int32).toInt = 0 := by decide
                                          have : (1 : Int32).toInt = 1 := by decide
                                          omega)
    obtain ⟨b, hb, rfl⟩ := nI_of h0
    have hb50 : b ≤ 50 := (nI_leI (b := 50) hb (by omega)).mp e2
    rw [if_pos e2, if_neg e3, Option.bind_some, if_neg n10]
    exact RW_rounds hb50 2000 0 1 0 S g h (Nat.zero_le _) (by omega) (by omega) (by omega)
  · have e3 : (50 : Int32) < a1 := by rw [fa_lt]; rw [fa_le] at e2; omega
    rw [if_neg e2, if_pos e3, Option.bind_some, if_pos rfl]; exact mo_i rfl rfl h
/-! ===== the image ===== -/
theorem W_become (w v : SW) : fW_become w v = some (v.1, v.2.1, v.2.2.1, va_cpy v.2.2.2.1 w.2.2.2.1 0 0 12, va_cpy v.2.2.2.2.1 w.2.2.2.2.1 0 0 12, va_cpy v.2.2.2.2.2.1 w.2.2.2.2.2.1 0 0 72, v.2.2.2.2.2.2.1, va_cpy v.2.2.2.2.2.2.2.1 w.2.2.2.2.2.2.2.1 0 0 12, va_cpy v.2.2.2.2.2.2.2.2.1 w.2.2.2.2.2.2.2.2.1 0 0 12, va_cpy v.2.2.2.2.2.2.2.2.2.1 w.2.2.2.2.2.2.2.2.2.1 0 0 12, va_cpy v.2.2.2.2.2.2.2.2.2.2.1 w.2.2.2.2.2.2.2.2.2.2.1 0 0 12, va_cpy v.2.2.2.2.2.2.2.2.2.2.2 w.2.2.2.2.2.2.2.2.2.2.2 0 0 12) := rfl
theorem cpy_in {α : Type} {f g : Nat → α} {n i : Nat} (h : i < n) : va_cpy f g 0 0 n i = f i := by rw [pk_cpy_in (by omega) (by omega)]; simp
theorem Sm_become {w v u : SW} {f : Nat → Int32} {c t : Nat} (hW : Wf f c t) (hS : Sm v f c t) (h : fW_become w v = some u) : Sm u f c t := by
  have hc := hW.c12; have ht := hW.t12
  rw [W_become] at h
  have h := Option.some.inj h
  subst h
  refine ⟨⟨hS.pc, hS.gs, hS.tc⟩, fun x hx => ?_, fun x hx => ?_, fun x h1 hx => ?_, fun x hx => hS.sl hx, fun x k hx hk => ?_, fun x hx => ?_, fun x hx => ?_⟩
  · exact (cpy_in (by omega)).trans (hS.nm hx)
  · exact (cpy_in (by have := hx.1; omega)).trans (hS.ar hx)
  · exact (cpy_in (by omega)).trans (hS.ag h1 hx)
  · exact (cpy_in (by have := hx.1; omega)).trans (hS.ms hx hk)
  · obtain ⟨a1, a2, a3, a4⟩ := hS.th hx
    exact ⟨(cpy_in (by omega)).trans a1, (cpy_in (by omega)).trans a2, (cpy_in (by omega)).trans a3, (cpy_in (by omega)).trans a4⟩
  · obtain ⟨A, h1, h2, h3⟩ := hS.ac hx
    exact ⟨A, h1, (cpy_in (by omega)).trans h2, h3⟩
def cpF (f g : Nat → Int32) (k : Nat) : Nat → Int32 := fun i => if k ≤ i ∧ i < 231 then f i else g i
theorem cpF_s {f g : Nat → Int32} {k : Nat} (hk : k < 231) : cpF f (upd g k (f k)) (k + 1) = cpF f g k := by
  funext i
  unfold cpF upd
  by_cases e : i = k
  · rw [if_neg (by omega), if_pos e, if_pos (by omega), e]
  · rw [if_neg e]
    by_cases e2 : k + 1 ≤ i ∧ i < 231
    · rw [if_pos e2, if_pos (by omega)]
    · rw [if_neg e2, if_neg (by omega)]
theorem cpF_e {f g : Nat → Int32} : cpF f g 231 = g := funext fun i => if_neg (by omega)
theorem R_keep_L : ∀ (n k : Nat) (g : SR), k ≤ 231 → 231 - k < n → fR_keep_2 n g (nI k) = some (1, (g.1, cpF g.1 g.2.1 k, g.2.2.1, 1, g.2.2.2.2)) := by
  intro n
  induction n with
  | zero => intro k g h1 h2; omega
  | succ n ih =>
    intro k g h1 h2
    rw [fR_keep_2_s]
    rcases Nat.lt_or_ge k 231 with h | h
    · rw [if_neg (show ¬ (231 : Int32) ≤ nI k from nI_ge (b := 231) h (by omega)), ld_n h (by omega), st_n h (by omega), nI_clamp (by omega), nI_1]
      refine (ih (k + 1) (g.1, upd g.2.1 k (g.1 k), g.2.2) (by omega) (by omega)).trans ?_
      show some (1, (g.1, cpF g.1 (upd g.2.1 k (g.1 k)) (k + 1), g.2.2.1, 1, g.2.2.2.2)) = _
      rw [cpF_s h]
    · have : k = 231 := by omega
      subst this
      rw [if_pos (show (231 : Int32) ≤ nI 231 by decide), cpF_e]
theorem R_restore_L : ∀ (n k : Nat) (g : SR), k ≤ 231 → 231 - k < n → fR_restore_12 n g (nI k) = some (1, (cpF g.2.1 g.1 k, g.2)) := by
  intro n
  induction n with
  | zero => intro k g h1 h2; omega
  | succ n ih =>
    intro k g h1 h2
    rw [fR_restore_12_s]
    rcases Nat.lt_or_ge k 231 with h | h
    · rw [if_neg (show ¬ (231 : Int32) ≤ nI k from nI_ge (b := 231) h (by omega)), ld_n h (by omega), st_n h (by omega), nI_clamp (by omega), nI_1]
      refine (ih (k + 1) (upd g.1 k (g.2.1 k), g.2) (by omega) (by omega)).trans ?_
      show some (1, (cpF g.2.1 (upd g.1 k (g.2.1 k)) (k + 1), g.2)) = _
      rw [cpF_s h]
    · have : k = 231 := by omega
      subst this
      rw [if_pos (show (231 : Int32) ≤ nI 231 by decide), cpF_e]
theorem Wf_ext {f f' : Nat → Int32} {c t : Nat} (hW : Wf f c t) (h : ∀ i, i < 231 → f' i = f i) : Wf f' c t := by
  have ht := hW.t12; have hc := hW.c12
  exact Wf_base hW (fun i hi => h i (by omega)) (fun p n h1 h2 h3 => by rw [h _ (by omega)]; exact hW.msg0 h1 h2 h3) (fun j hj => Th_of (by omega) (h 2 (by omega)) (fun i _ h2 => h i h2) (hW.th hj))
theorem Sm_ext {w : SW} {f f' : Nat → Int32} {c t : Nat} (hW : Wf f c t) (hS : Sm w f c t) (h : ∀ i, i < 231 → f' i = f i) : Sm w f' c t := by
  have ht := hW.t12; have hc := hW.c12
  have hl := lvp_of (h 2 (by omega)) c
  refine ⟨⟨hS.pc, by rw [h 2 (by omega)]; exact hS.gs, hS.tc⟩, fun x hx => by rw [h _ (by omega)]; exact hS.nm hx, fun x hx => by rw [h _ (by have := hx.1; omega)]; exact hS.ar ((hl x).mp hx), fun x h1 hx => hS.ag h1 (fun q => hx ((hl x).mpr q)), fun x hx => by rw [h _ (by omega)]; exact hS.sl hx, fun x k hx hk => by rw [h _ (by have := hx.1; omega)]; exact hS.ms ((hl x).mp hx) hk, fun x hx => ?_, fun x hx => ?_⟩
  · obtain ⟨a1, a2, a3, a4⟩ := hS.th hx
    exact ⟨by rw [h _ (by omega)]; exact a1, by rw [h _ (by omega)]; exact a2, by rw [h _ (by omega)]; exact a3, by rw [h _ (by omega)]; exact a4⟩
  · obtain ⟨A, h1, h2, h3⟩ := hS.ac hx
    exact ⟨A, h1, h2, fun m k hm hk h6 => by rw [h _ (by omega)] at hm ⊢; exact h3 m k hm hk h6⟩
theorem cpF_at {f g : Nat → Int32} {i : Nat} (h : i < 231) : cpF f g 0 i = f i := if_pos ⟨Nat.zero_le _, h⟩
theorem k_keep {S : SM} {g : SR} (h : Rel S g) : moOK (fM_keep S) (fR_keep g) := by
  obtain ⟨⟨c, t, hW, hS⟩, hI⟩ := h
  obtain ⟨u, hu⟩ : ∃ u, fW_become S.2.1 S.1 = some u := ⟨_, W_become _ _⟩
  exact mo_i (v := 1) (S := (S.1, u, 1, S.2.2.2)) (g := (g.1, cpF g.1 g.2.1 0, g.2.2.1, 1, g.2.2.2.2)) (by rw [fM_keep, hu, Option.bind_some]) (R_keep_L 2000 0 g (by omega) (by omega)) ⟨⟨c, t, hW, hS⟩, rfl, Or.inr ⟨rfl, c, t, Wf_ext hW (fun i hi => cpF_at hi), Sm_ext hW (Sm_become hW hS hu) (fun i hi => cpF_at hi)⟩⟩
theorem k_restore {S : SM} {g : SR} (h : Rel S g) : moOK (fM_restore S) (fR_restore g) := by
  have hR := h
  obtain ⟨⟨c, t, hW, hS⟩, hI, h1⟩ := h
  rcases h1 with h0 | ⟨h0, c', t', hW', hS'⟩
  · exact mo_i (v := -3) (S := S) (g := g) (by rw [fM_restore, if_pos h0]) (by rw [fR_restore, if_pos (by rw [← hI]; exact h0)]) hR
  · obtain ⟨u, hu⟩ : ∃ u, fW_become S.1 S.2.1 = some u := ⟨_, W_become _ _⟩
    exact mo_i (v := 1) (S := (u, S.2)) (g := (cpF g.2.1 g.1 0, g.2)) (by rw [fM_restore, if_neg (by rw [h0]; decide), hu, Option.bind_some]) (by rw [fR_restore, if_neg (by rw [← hI, h0]; decide)]; exact R_restore_L 2000 0 g (by omega) (by omega)) ⟨⟨c', t', Wf_ext hW' (fun i hi => cpF_at hi), Sm_ext hW' (Sm_become hW' hS' hu) (fun i hi => cpF_at hi)⟩, hI, Or.inr ⟨h0, c', t', hW', hS'⟩⟩
