/-! ===== a thread comes ===== -/
def okAb (a : Nat) : Bool := decide (a = 50) || (decide (10 ≤ a) && (decide (a < 50) && (decide (a % 10 < 6) || decide (a % 10 = 9))))
theorem okAb_iff {a : Nat} : okAb a = true ↔ okA a := by
  unfold okAb okA
  simp only [Bool.or_eq_true, Bool.and_eq_true, decide_eq_true_eq]
theorem isAct_all : ∀ a, a < 100 → fR_isAct (nI a) = some (b2i (okAb a)) ∧ fM_isAct (nI a) = some (b2i (okAb a)) := by decide +kernel
def dA : Nat → Nat → Option Nat
  | 0, _ => none
  | n + 1, A => if A = 0 then some 0 else if okAb (A % 100) = true then (dA n (A / 100)).map (fun m => m + 1) else none
theorem cmp_n {A : Nat} (hA : A < 2 ^ 63) : lg_cmp (lN A) 0 = if A = 0 then 0 else 1 := by
  unfold lg_cmp
  by_cases e : A = 0
  · subst e; rfl
  · rw [if_pos (show lN A > 0 from (pk_lLT (a := 0) (b := A) (by omega) hA).mpr (by omega)), if_neg e]
theorem e_dL {A : Nat} (hA : A < 2 ^ 63) : lN A / 100 = lN (A / 100) := pk_lDiv (b := 100) hA (by omega) (by omega)
theorem e_mL {A : Nat} (hA : A < 2 ^ 63) : Int64.toInt32 (lN A - lN A / 100 * 100) = nI (A % 100) := by
  rw [show lN A - lN A / 100 * 100 = lN (A % 100) from pk_lRem (b := 100) hA (by omega) (by omega), lN_i]
theorem b2i_t {b : Bool} (h : b = true) : b2i b = 1 := by rw [h]; rfl
theorem b2i_f {b : Bool} (h : ¬ b = true) : b2i b = 0 := by rw [Bool.eq_false_iff.mpr h]; rfl
def oI (k : Nat) : Option Nat → Int32
  | some m => nI (k + m)
  | none => -9
theorem R_actsIn_L : ∀ (n k A : Nat), A < 2 ^ 63 → A < 100 ^ n → fR_actsIn_4 (n + 1) (nI k) (lN A) = some (oI k (dA (n + 1) A)) := by
  intro n
  induction n with
  | zero =>
    intro k A hA h
    have : A = 0 := by omega
    subst this
    rw [fR_actsIn_4_s, cmp_n hA, if_pos rfl, if_pos (by decide), dA, if_pos rfl]; rfl
  | succ n ih =>
    intro k A hA h
    rw [fR_actsIn_4_s, cmp_n hA, dA]
    by_cases e : A = 0
    · rw [if_pos e, if_pos (by decide), if_pos e]; rfl
    · rw [if_neg e, if_neg (show ¬ (1 : Int32) ≤ 0 by decide), if_neg e, e_mL hA, (isAct_all (A % 100) (by omega)).1, Option.bind_some, e_dL hA, nI_1]
      by_cases ho : okAb (A % 100) = true
      · have hA2 : A / 100 < 100 ^ n := by rw [Nat.pow_succ] at h; omega
        rw [b2i_t ho, if_neg n10, if_pos ho, ih (k + 1) (A / 100) (by omega) hA2]
        cases dA (n + 1) (A / 100) with
        | none => rfl
        | some m => show some (nI (k + 1 + m)) = some (nI (k + (m + 1))); rw [show k + 1 + m = k + (m + 1) by omega]
      · rw [b2i_f ho, if_pos rfl, if_neg ho]; rfl
def oM (k : Nat) : Option Nat → Int32
  | some m => if k + m ≤ 7 then nI (k + m - 1) else 0
  | none => 0
theorem dA_pos : ∀ (n A m : Nat), 0 < A → dA n A = some m → 1 ≤ m := by
  intro n A m hA h
  cases n with
  | zero => cases h
  | succ n =>
    rw [dA, if_neg (by omega)] at h
    by_cases ho : okAb (A % 100) = true
    · rw [if_pos ho] at h
      cases hd : dA n (A / 100) with
      | none => rw [hd] at h; cases h
      | some m' => rw [hd] at h; have := Option.some.inj h; have h2 : m' + 1 = m := this; omega
    · rw [if_neg ho] at h; cases h
theorem M_count_L : ∀ (n k A : Nat), 0 < A → A < 2 ^ 63 → A < 100 ^ n → 1 ≤ k → k ≤ 7 → fM_countActs_13 (n + 1) (lN A) (nI k) = some (oM k (dA (n + 1) A)) := by
  intro n
  induction n with
  | zero => intro k A h0 hA h; omega
  | succ n ih =>
    intro k A h0 hA h h1 h7
    rw [fM_countActs_13_s]
    by_cases hk : k = 7
    · subst hk
      rw [if_pos (show (6 : Int32) < nI 7 by decide)]
      cases hd : dA (n + 1 + 1) A with
      | none => rfl
      | some m => have := dA_pos _ _ _ h0 hd; show _ = some (if 7 + m ≤ 7 then _ else _); rw [if_neg (by omega)]
    · rw [if_neg (show ¬ (6 : Int32) < nI k from nI_nlt (a := 6) (by omega) (by omega)), e_mL hA, (isAct_all (A % 100) (by omega)).2, Option.bind_some, e_dL hA, nI_1, cmp_n (by omega), dA, if_neg (show ¬ A = 0 by omega)]
      by_cases ho : okAb (A % 100) = true
      · rw [b2i_t ho, if_neg n10, if_pos ho]
        by_cases e : A / 100 = 0
        · rw [if_pos e, if_pos rfl, dA, if_pos e]
          show _ = some (if k + 1 ≤ 7 then nI (k + 1 - 1) else 0)
          rw [if_pos (by omega), Nat.add_sub_cancel]
        · have hA2 : A / 100 < 100 ^ n := by rw [Nat.pow_succ] at h; omega
          rw [if_neg e, if_neg n10, ih (k + 1) (A / 100) (by omega) (by omega) hA2 (by omega) (by omega)]
          cases dA (n + 1) (A / 100) with
          | none => rfl
          | some m =>
            show some (if k + 1 + m ≤ 7 then nI (k + 1 + m - 1) else 0) = some (if k + (m + 1) ≤ 7 then nI (k + (m + 1) - 1) else 0)
            rw [show k + 1 + m = k + (m + 1) by omega]
      · rw [b2i_f ho, if_pos rfl, if_neg ho]; rfl
theorem dA_dig : ∀ (n A m : Nat), dA n A = some m → ∀ i, i < m → okA (A / 100 ^ i % 100) := by
  intro n
  induction n with
  | zero => intro A m h; cases h
  | succ n ih =>
    intro A m h i hi
    rw [dA] at h
    by_cases e : A = 0
    · rw [if_pos e] at h; have := Option.some.inj h; omega
    · rw [if_neg e] at h
      by_cases ho : okAb (A % 100) = true
      · rw [if_pos ho] at h
        cases hd : dA n (A / 100) with
        | none => rw [hd] at h; cases h
        | some m' =>
          rw [hd] at h
          have h2 : m' + 1 = m := Option.some.inj h
          cases i with
          | zero => rw [Nat.pow_zero, Nat.div_one]; exact okAb_iff.mp ho
          | succ i =>
            have := ih (A / 100) m' hd i (by omega)
            rw [Nat.div_div_eq_div_mul, Nat.mul_comm, ← Nat.pow_succ] at this
            exact this
      · rw [if_neg ho] at h; cases h
def dgF (f : Nat → Int32) (t K B : Nat) : Nat → Int32 := fun i => if 159 + 6 * t ≤ i ∧ i < 159 + 6 * t + K then nI (B / 100 ^ (159 + 6 * t + K - 1 - i) % 100) else f i
theorem dgF_s {f : Nat → Int32} {t K B : Nat} : dgF (upd f (159 + 6 * t + K) (nI (B % 100))) t K (B / 100) = dgF f t (K + 1) B := by
  funext i
  unfold dgF upd
  by_cases e : i = 159 + 6 * t + K
  · rw [if_neg (by omega), if_pos e, if_pos (by omega), e, show 159 + 6 * t + (K + 1) - 1 - (159 + 6 * t + K) = 0 by omega, Nat.pow_zero, Nat.div_one]
  · rw [if_neg e]
    by_cases h : 159 + 6 * t ≤ i ∧ i < 159 + 6 * t + K
    · rw [if_pos h, if_pos (by omega), Nat.div_div_eq_div_mul, Nat.mul_comm, ← Nat.pow_succ, show (159 + 6 * t + K - 1 - i).succ = 159 + 6 * t + (K + 1) - 1 - i by omega]
    · rw [if_neg h, if_neg (by omega)]
theorem R_thread_L {t : Nat} (ht : t < 12) (h : Hh) : ∀ (n K B : Nat) (f : Nat → Int32), f 1 = nI t → B < 2 ^ 63 → K ≤ 6 → K < n → fR_thread_115 (nI t) n (f, h) (lN B) (nI K - 1) = some (nI t, (upd (dgF f t K B) 1 (nI (t + 1)), h)) := by
  intro n
  induction n with
  | zero => intro K B f _ _ _ h2; omega
  | succ n ih =>
    intro K B f h1 hB hK hn
    rw [fR_thread_115_s]
    cases K with
    | zero =>
      rw [if_pos (show nI 0 - 1 < 0 by decide), ld_1, st_1, cl_1]
      show some (nI t, (upd f 1 (f 1 + 1), h)) = _
      rw [h1, nI_1, show dgF f t 0 B = f from funext fun i => if_neg (by omega)]
    | succ K =>
      rw [show nI (K + 1) - 1 = nI K from e_s1 (by omega), if_neg (nI_nn (by omega)), e_159, st_n (by omega) (by omega), nI_clamp (by omega), e_mL hB, e_dL hB, show nI K + (-1) = nI K - 1 from (Int32.sub_eq_add_neg _ _).symm]
      refine (ih K (B / 100) (upd f (159 + 6 * t + K) (nI (B % 100))) (by rw [pk_un (by omega)]; exact h1) (by omega) (by omega) (by omega)).trans ?_
      rw [dgF_s]
def thS (f : Nat → Int32) (t p m A : Nat) : Nat → Int32 := upd (dgF (upd (upd (upd (upd f (111 + t) (nI p)) (123 + t) (nI m)) (135 + t) 0) (147 + t) (-9)) t m A) 1 (nI (t + 1))
def thW (w : SW) (t p m A : Nat) : SW := (w.1, w.2.1, w.2.2.1, w.2.2.2.1, w.2.2.2.2.1, w.2.2.2.2.2.1, nI (t + 1), upd w.2.2.2.2.2.2.2.1 t (nI p), vp_updL w.2.2.2.2.2.2.2.2.1 t (lN A), upd w.2.2.2.2.2.2.2.2.2.1 t (nI m), upd w.2.2.2.2.2.2.2.2.2.2.1 t 0, upd w.2.2.2.2.2.2.2.2.2.2.2 t (-9))
theorem W_addThread {w : SW} {t p m A : Nat} (ht : t < 12) (hw : w.2.2.2.2.2.2.1 = nI t) : fW_addThread w (nI p) (lN A) (nI m) = some (nI t, thW w t p m A) := by
  rw [fW_addThread, hw, if_pos (show nI t < (12 : Int32) from nI_lt (b := 12) ht (by omega)), st_n (by omega) (by omega), st_n (by omega) (by omega), st_n (by omega) (by omega), st_n (by omega) (by omega), st_n (by omega) (by omega), nI_clamp (by omega), nI_1]; rfl
theorem th_rel {w : SW} {f : Nat → Int32} {c t p m A : Nat} (hW : Wf f c t) (hS : Sm w f c t) (ht : t < 12) (hp : lvp f c p) (h1 : 1 ≤ m) (h6 : m ≤ 6) (hA : A < 2 ^ 63) (hd : ∀ i, i < m → okA (A / 100 ^ i % 100)) : Wf (thS f t p m A) c (t + 1) ∧ Sm (thW w t p m A) (thS f t p m A) c (t + 1) := by
  have hc := hW.c12; have hpc := hp.1
  have hu : ∀ i, i ≠ 1 → i ≠ 111 + t → i ≠ 123 + t → i ≠ 135 + t → i ≠ 147 + t → (i < 159 + 6 * t ∨ 159 + 6 * t + 6 ≤ i) → thS f t p m A i = f i := fun i a1 a2 a3 a4 a5 a6 => by
    unfold thS dgF
    rw [pk_un a1, if_neg (by omega), pk_un a5, pk_un a4, pk_un a3, pk_un a2]
  have u1 : thS f t p m A 1 = nI (t + 1) := by unfold thS; rw [pk_us]
  have u111 : thS f t p m A (111 + t) = nI p := by unfold thS dgF; rw [pk_un (by omega), if_neg (by omega), pk_un (by omega), pk_un (by omega), pk_un (by omega), pk_us]
  have u123 : thS f t p m A (123 + t) = nI m := by unfold thS dgF; rw [pk_un (by omega), if_neg (by omega), pk_un (by omega), pk_un (by omega), pk_us]
  have u135 : thS f t p m A (135 + t) = 0 := by unfold thS dgF; rw [pk_un (by omega), if_neg (by omega), pk_un (by omega), pk_us]
  have u147 : thS f t p m A (147 + t) = -9 := by unfold thS dgF; rw [pk_un (by omega), if_neg (by omega), pk_us]
  have ud : ∀ k, k < m → thS f t p m A (159 + 6 * t + k) = nI (A / 100 ^ (m - 1 - k) % 100) := fun k hk => by
    unfold thS dgF
    rw [pk_un (by omega), if_pos (by omega), show 159 + 6 * t + m - 1 - (159 + 6 * t + k) = m - 1 - k by omega]
  have hl := lvp_of (hu 2 (by omega) (by omega) (by omega) (by omega) (by omega) (by omega)) c
  have hb : ∀ i, i < 111 → i ≠ 1 → thS f t p m A i = f i := fun i h1 h2 => hu i h2 (by omega) (by omega) (by omega) (by omega) (by omega)
  obtain ⟨rk, hr⟩ := hW.rk
  constructor
  · refine ⟨⟨by rw [hb _ (by omega) (by omega)]; exact hW.c0, u1, hW.c1, hc, by omega⟩, ⟨by rw [hb _ (by omega) (by omega)]; exact hW.live0.2, by rw [hb _ (by omega) (by omega)]; exact hW.name0, by rw [hb _ (by omega) (by omega)]; exact hW.in0, by rw [hb _ (by omega) (by omega)]; exact hW.2.1.2.2.2⟩, fun x h1 h2 => ?_, fun x h1 h2 => ?_, ⟨rk, fun x y h1 h2 h4 h5 => ?_⟩, fun x h1 => ?_, fun x h1 h2 => ?_, fun x k h1 h2 h4 => ?_, fun x h1 => ?_, fun x hx => ?_⟩
    · rw [hb _ (by omega) (by omega)]; exact hW.name h1 h2
    · obtain ⟨y, hy, e⟩ := hW.inn h1 ((hl x).mp h2)
      exact ⟨y, (hl y).mpr hy, by rw [hb _ (by have := h2.1; omega) (by omega)]; exact e⟩
    · rw [hb _ (by have := h2.1; omega) (by omega)] at h5
      exact hr x y h1 ((hl x).mp h2) ((hl y).mp h4) h5
    · rw [hb _ (by omega) (by omega)]; exact hW.seal h1
    · rw [hb _ (by omega) (by omega)]; exact hW.seal0 h1 h2
    · rw [hb _ (by omega) (by omega)]; exact hW.msg0 h1 h2 (fun h => h4 ((hl x).mpr h))
    · rw [hb _ (by omega) (by omega)]; exact hW.gone h1
    · by_cases e : x = t
      · subst e
        exact ⟨p, m, 0, (hl p).mpr hp, u111, ⟨h1, h6⟩, u123, by omega, u135, Or.inl u147, fun k hk => ⟨_, hd (m - 1 - k) (by omega), ud k hk⟩⟩
      · obtain ⟨y, m', d', k1, k2, k3, k4, k5, k6, k7, k8⟩ := hW.th (show x < t by omega)
        refine ⟨y, m', d', (hl y).mpr k1, by rw [hu _ (by omega) (by omega) (by omega) (by omega) (by omega) (by omega)]; exact k2, k3, by rw [hu _ (by omega) (by omega) (by omega) (by omega) (by omega) (by omega)]; exact k4, k5, by rw [hu _ (by omega) (by omega) (by omega) (by omega) (by omega) (by omega)]; exact k6, by rw [hu _ (by omega) (by omega) (by omega) (by omega) (by omega) (by omega)]; exact k7, fun k hk => ?_⟩
        rw [hu _ (by omega) (by omega) (by omega) (by omega) (by omega) (by omega)]; exact k8 k hk
  · refine ⟨⟨hS.pc, by rw [hb _ (by omega) (by omega)]; exact hS.gs, rfl⟩, fun x hx => by rw [hb _ (by omega) (by omega)]; exact hS.nm hx, fun x hx => by rw [hb _ (by have := hx.1; omega) (by omega)]; exact hS.ar ((hl x).mp hx), fun x h1 hx => hS.ag h1 (fun h => hx ((hl x).mpr h)), fun x hx => by rw [hb _ (by omega) (by omega)]; exact hS.sl hx, fun x k hx hk => by rw [hb _ (by have := hx.1; omega) (by omega)]; exact hS.ms ((hl x).mp hx) hk, fun x hx => ?_, fun x hx => ?_⟩
    · show upd w.2.2.2.2.2.2.2.1 t (nI p) x = _ ∧ upd w.2.2.2.2.2.2.2.2.2.1 t (nI m) x = _ ∧ upd w.2.2.2.2.2.2.2.2.2.2.1 t 0 x = _ ∧ upd w.2.2.2.2.2.2.2.2.2.2.2 t (-9) x = _
      by_cases e : x = t
      · subst e
        rw [pk_us, pk_us, pk_us, pk_us]
        exact ⟨u111.symm, u123.symm, u135.symm, u147.symm⟩
      · obtain ⟨a1, a2, a3, a4⟩ := hS.th (show x < t by omega)
        rw [pk_un e, pk_un e, pk_un e, pk_un e]
        exact ⟨by rw [hu _ (by omega) (by omega) (by omega) (by omega) (by omega) (by omega)]; exact a1, by rw [hu _ (by omega) (by omega) (by omega) (by omega) (by omega) (by omega)]; exact a2, by rw [hu _ (by omega) (by omega) (by omega) (by omega) (by omega) (by omega)]; exact a3, by rw [hu _ (by omega) (by omega) (by omega) (by omega) (by omega) (by omega)]; exact a4⟩
    · by_cases e : x = t
      · subst e
        refine ⟨A, hA, pk_uLs, fun m' k hm hk h6' => ?_⟩
        rw [u123] at hm
        have : m = m' := nI_inj (by omega) (by omega) hm
        subst this
        exact ud k hk
      · obtain ⟨B, h1, h2, h4⟩ := hS.ac (show x < t by omega)
        refine ⟨B, h1, (pk_uLn e).trans h2, fun m' k hm hk h6' => ?_⟩
        rw [hu _ (by omega) (by omega) (by omega) (by omega) (by omega) (by omega)] at hm ⊢
        exact h4 m' k hm hk h6'
theorem R_betw16 {m : Nat} (h1 : 1 ≤ m) (h6 : m ≤ 6) : fR_between (nI m) 1 6 = some 1 := by
  rw [fR_between, if_neg (show ¬ nI m < 1 from nI_nlt (b := 1) h1 (by omega)), if_neg (show ¬ (6 : Int32) < nI m from nI_nlt (a := 6) h6 (by omega))]
theorem R_betw7 {m : Nat} (h6 : 7 ≤ m) (hm : m < 1000) : fR_between (nI m) 1 6 = some 0 := by
  rw [fR_between, if_neg (show ¬ nI m < 1 from nI_nlt (b := 1) (by omega) (by omega)), if_pos (show (6 : Int32) < nI m from nI_lt (a := 6) h6 (by omega))]
theorem dA_le : ∀ (n A m : Nat), dA n A = some m → m < n := by
  intro n
  induction n with
  | zero => intro A m h; cases h
  | succ n ih =>
    intro A m h
    rw [dA] at h
    by_cases e : A = 0
    · rw [if_pos e] at h; have := Option.some.inj h; omega
    · rw [if_neg e] at h
      by_cases ho : okAb (A % 100) = true
      · rw [if_pos ho] at h
        cases hd : dA n (A / 100) with
        | none => rw [hd] at h; cases h
        | some m' => rw [hd] at h; have h2 : m' + 1 = m := Option.some.inj h; have := ih _ _ hd; omega
      · rw [if_neg ho] at h; cases h
theorem fuelR {k : Nat} {A : Nat} : ∀ (n d : Nat) (v : Int32), fR_actsIn_4 n (nI k) (lN A) = some v → fR_actsIn_4 (n + d) (nI k) (lN A) = some v := by
  have key : ∀ (n : Nat) (x : Int32) (y : Int64) (v : Int32), fR_actsIn_4 n x y = some v → fR_actsIn_4 (n + 1) x y = some v := by
    intro n
    induction n with
    | zero => intro x y v h; cases h
    | succ n ih =>
      intro x y v h
      rw [fR_actsIn_4_s] at h ⊢
      by_cases h1 : lg_cmp y 0 ≤ 0
      · rw [if_pos h1] at h ⊢; exact h
      · rw [if_neg h1] at h ⊢
        obtain ⟨z, hz, h⟩ := mp_bs h
        rw [hz, Option.bind_some]
        by_cases h2 : z = 0
        · rw [if_pos h2] at h ⊢; exact h
        · rw [if_neg h2] at h ⊢; exact ih _ _ _ h
  intro n d v h
  induction d with
  | zero => exact h
  | succ d ih => exact key _ _ _ _ ih
theorem fuelM {k : Nat} {A : Nat} : ∀ (n d : Nat) (v : Int32), fM_countActs_13 n (lN A) (nI k) = some v → fM_countActs_13 (n + d) (lN A) (nI k) = some v := by
  have key : ∀ (n : Nat) (x : Int64) (y : Int32) (v : Int32), fM_countActs_13 n x y = some v → fM_countActs_13 (n + 1) x y = some v := by
    intro n
    induction n with
    | zero => intro x y v h; cases h
    | succ n ih =>
      intro x y v h
      rw [fM_countActs_13_s] at h ⊢
      by_cases h1 : 6 < y
      · rw [if_pos h1] at h ⊢; exact h
      · rw [if_neg h1] at h ⊢
        obtain ⟨z, hz, h⟩ := mp_bs h
        rw [hz, Option.bind_some]
        by_cases h2 : z = 0
        · rw [if_pos h2] at h ⊢; exact h
        · rw [if_neg h2] at h ⊢
          by_cases h3 : lg_cmp (x / 100) 0 = 0
          · rw [if_pos h3] at h ⊢; exact h
          · rw [if_neg h3] at h ⊢; exact ih _ _ _ h
  intro n d v h
  induction d with
  | zero => exact h
  | succ d ih => exact key _ _ _ _ ih
theorem k_thread {S : SM} {g : SR} {a1 : Int32} {a2 : Int64} (h : Rel S g) : moOK (fM_thread S a1 a2) (fR_thread g a1 a2) := by
  have hR := h
  obtain ⟨⟨c, t, hW, hS⟩, hI⟩ := h
  have hc := hW.c12; have ht := hW.t12
  by_cases ha : ∃ j, lvp g.1 c j ∧ a1 = nI j
  · obtain ⟨j, hj, rfl⟩ := ha
    have hjc := hj.1
    by_cases hpos : a2 > 0
    · obtain ⟨A, hA, rfl⟩ := pk_lOf (x := a2) (fun h => by
        rw [fa_lt64] at h
        have h2 : (0 : Int64) < a2 := hpos
        rw [fa_lt64] at h2
        omega)
      have hA0 : 0 < A := (pk_lLT (a := 0) (b := A) (by omega) hA).mp hpos
      have hA20 : A < 100 ^ 20 := Nat.lt_trans hA (by decide)
      have r1 : fR_actsIn (lN A) = some (oI 0 (dA 21 A)) := fuelR (k := 0) 21 1979 _ (R_actsIn_L 20 0 A hA hA20)
      have r2 : fM_countActs (lN A) = some (oM 1 (dA 21 A)) := by
        rw [fM_countActs, cmp_n hA, if_neg (show ¬ A = 0 by omega), if_pos (by decide)]
        exact fuelM (k := 1) 21 1979 _ (M_count_L 20 1 A hA0 hA hA20 (by omega) (by omega))
      have r3 : ¬ lg_cmp (lN A) 0 ≤ 0 := by rw [cmp_n hA, if_neg (show ¬ A = 0 by omega)]; decide
      cases hd : dA 21 A with
      | none =>
        rw [hd] at r1 r2
        have r2 : fM_countActs (lN A) = some 0 := r2
        refine mo_i (v := -2) (S := S) (g := g) ?_ ?_ hR
        · rw [fM_thread, W_isPlace_l hW hS hj, Option.bind_some, if_neg n10, r2, Option.bind_some, if_pos rfl]
        · rw [fR_thread, R_isPlace_l hW hj, Option.bind_some, if_neg n10, r1, Option.bind_some, if_neg r3]; rfl
      | some m =>
        rw [hd] at r1 r2
        have hm1 := dA_pos _ _ _ hA0 hd
        have hm2 := dA_le _ _ _ hd
        have r1 : fR_actsIn (lN A) = some (nI m) := by rw [r1]; show some (nI (0 + m)) = _; rw [Nat.zero_add]
        rcases Nat.lt_or_ge m 7 with h7 | h7
        · have r2 : fM_countActs (lN A) = some (nI m) := by rw [r2]; show some (if 1 + m ≤ 7 then nI (1 + m - 1) else 0) = _; rw [if_pos (by omega), show 1 + m - 1 = m by omega]
          rcases Nat.lt_or_ge t 12 with h12 | h12
          · obtain ⟨p1, p2⟩ := th_rel hW hS h12 hj hm1 (by omega) hA (dA_dig _ _ _ hd)
            refine mo_i (v := nI t) ?_ ?_ (Rel_now hI p1 p2)
            · rw [fM_thread, W_isPlace_l hW hS hj, Option.bind_some, if_neg n10, r2, Option.bind_some, if_neg (nI_ne0 hm1 (by omega)), W_addThread h12 hS.tc, Option.bind_some]
            · rw [fR_thread, R_isPlace_l hW hj, Option.bind_some, if_neg n10, r1, Option.bind_some, if_neg r3, R_betw16 hm1 (by omega), Option.bind_some, if_neg n10, ld_1, hW.t0, if_neg (fun e => by have := nI_inj (b := 12) (by omega) (by omega) e; omega), ld_1, hW.t0, e_111, e_123, e_135, e_147, st_n (by omega) (by omega), st_n (by omega) (by omega), st_n (by omega) (by omega), st_n (by omega) (by omega), nI_clamp (by omega), nI_clamp (by omega), nI_clamp (by omega), nI_clamp (by omega)]
              exact R_thread_L h12 g.2 2000 m A (upd (upd (upd (upd g.1 (111 + t) (nI j)) (123 + t) (nI m)) (135 + t) 0) (147 + t) (-9)) (by rw [pk_un (by omega), pk_un (by omega), pk_un (by omega), pk_un (by omega)]; exact hW.t0) hA (by omega) (by omega)
          · have : t = 12 := by omega
            subst this
            refine mo_i (v := -4) (S := S) (g := g) ?_ ?_ hR
            · rw [fM_thread, W_isPlace_l hW hS hj, Option.bind_some, if_neg n10, r2, Option.bind_some, if_neg (nI_ne0 hm1 (by omega)), fW_addThread, hS.tc, if_neg (show ¬ nI 12 < 12 by decide), Option.bind_some]
            · rw [fR_thread, R_isPlace_l hW hj, Option.bind_some, if_neg n10, r1, Option.bind_some, if_neg r3, R_betw16 hm1 (by omega), Option.bind_some, if_neg n10, ld_1, hW.t0, if_pos (show nI 12 = 12 from rfl)]
        · have r2 : fM_countActs (lN A) = some 0 := by rw [r2]; show some (if 1 + m ≤ 7 then nI (1 + m - 1) else 0) = _; rw [if_neg (by omega)]
          refine mo_i (v := -2) (S := S) (g := g) ?_ ?_ hR
          · rw [fM_thread, W_isPlace_l hW hS hj, Option.bind_some, if_neg n10, r2, Option.bind_some, if_pos rfl]
          · rw [fR_thread, R_isPlace_l hW hj, Option.bind_some, if_neg n10, r1, Option.bind_some, if_neg r3, R_betw7 h7 (by omega), Option.bind_some, if_pos rfl]
    · have r3 : lg_cmp a2 0 ≤ 0 := by
        unfold lg_cmp
        rw [if_neg hpos]; split <;> decide
      have r4 : ¬ 0 < lg_cmp a2 0 := by
        unfold lg_cmp
        rw [if_neg hpos]; split <;> decide
      refine mo_i (v := -2) (S := S) (g := g) ?_ ?_ hR
      · rw [fM_thread, W_isPlace_l hW hS hj, Option.bind_some, if_neg n10, fM_countActs, if_neg r4, Option.bind_some, if_pos rfl]
      · rw [fR_thread, R_isPlace_l hW hj, Option.bind_some, if_neg n10, fR_actsIn, fR_actsIn_4_s, if_pos r3, Option.bind_some, if_pos r3]
  · have ha' : ∀ j, lvp g.1 c j → a1 ≠ nI j := fun j h e => ha ⟨j, h, e⟩
    exact mo_i (by rw [fM_thread, W_isPlace_o hW hS ha', Option.bind_some, if_pos rfl]) (by rw [fR_thread, R_isPlace_o hW ha', Option.bind_some, if_pos rfl]) hR
