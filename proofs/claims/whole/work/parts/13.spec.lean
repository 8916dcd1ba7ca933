/-! ===== folds ===== -/
def orF (P : Nat → Bool) : Nat → Nat → Int32 → Int32
  | 0, _, a => a
  | n + 1, lo, a => orF P n (lo + 1) (if P lo = true then a ||| (1 <<< (nI lo &&& 31)) else a)
def fdF (P : Nat → Bool) : Nat → Nat → Int32
  | 0, _ => -9
  | n + 1, lo => if P lo = true then nI lo else fdF P n (lo + 1)
def smF (v : Nat → Int32) : Nat → Nat → Int32 → Int32
  | 0, _, a => a
  | n + 1, lo, a => smF v n (lo + 1) (a + v lo)
theorem orF_congr {P Q : Nat → Bool} : ∀ (n lo : Nat) (a : Int32), (∀ i, lo ≤ i → i < lo + n → P i = Q i) → orF P n lo a = orF Q n lo a := by
  intro n
  induction n with
  | zero => intro lo a _; rfl
  | succ n ih =>
    intro lo a h
    rw [orF, orF, h lo (Nat.le_refl _) (by omega)]
    exact ih _ _ (fun i h1 h2 => h i (by omega) (by omega))
theorem fdF_congr {P Q : Nat → Bool} : ∀ (n lo : Nat), (∀ i, lo ≤ i → i < lo + n → P i = Q i) → fdF P n lo = fdF Q n lo := by
  intro n
  induction n with
  | zero => intro lo _; rfl
  | succ n ih =>
    intro lo h
    rw [fdF, fdF, h lo (Nat.le_refl _) (by omega), ih _ (fun i h1 h2 => h i (by omega) (by omega))]
theorem smF_congr {P Q : Nat → Int32} : ∀ (n lo : Nat) (a : Int32), (∀ i, lo ≤ i → i < lo + n → P i = Q i) → smF P n lo a = smF Q n lo a := by
  intro n
  induction n with
  | zero => intro lo a _; rfl
  | succ n ih =>
    intro lo a h
    rw [smF, smF, h lo (Nat.le_refl _) (by omega)]
    exact ih _ _ (fun i h1 h2 => h i (by omega) (by omega))
theorem orF_bit {P : Nat → Bool} : ∀ (n lo : Nat) (a : Int32) (i : Nat), lo + n ≤ 32 → i < 32 → bt (orF P n lo a) i = (bt a i || (decide (lo ≤ i) && decide (i < lo + n) && P i)) := by
  intro n
  induction n with
  | zero =>
    intro lo a i _ _
    have : (decide (lo ≤ i) && decide (i < lo + 0)) = false := by
      rw [Bool.and_eq_false_iff, decide_eq_false_iff_not, decide_eq_false_iff_not]; omega
    rw [orF, this, Bool.false_and, Bool.or_false]
  | succ n ih =>
    intro lo a i h1 h2
    rw [orF, ih (lo + 1) _ i (by omega) h2]
    by_cases e : i = lo
    · subst e
      have e1 : decide (i + 1 ≤ i) = false := decide_eq_false (by omega)
      have e2 : decide (i < i + (n + 1)) = true := decide_eq_true (by omega)
      rw [e1, e2]
      simp only [Bool.false_and, Bool.or_false, Nat.le_refl, decide_true, Bool.true_and]
      by_cases hp : P i = true
      · rw [if_pos hp, b_set h2 h2, hp]; simp
      · rw [if_neg hp]; simp [Bool.eq_false_iff.mpr hp]
    · have e3 : decide (lo + 1 ≤ i) = decide (lo ≤ i) := by
        by_cases h : lo ≤ i
        · rw [decide_eq_true h, decide_eq_true (by omega)]
        · rw [decide_eq_false h, decide_eq_false (by omega)]
      have e4 : decide (i < lo + 1 + n) = decide (i < lo + (n + 1)) := by
        by_cases h : i < lo + (n + 1)
        · rw [decide_eq_true h, decide_eq_true (by omega)]
        · rw [decide_eq_false h, decide_eq_false (by omega)]
      rw [e3, e4]
      by_cases hp : P lo = true
      · rw [if_pos hp, b_set (by omega) h2, decide_eq_false e, Bool.or_false]
      · rw [if_neg hp]
theorem fdF_cases {P : Nat → Bool} : ∀ (n lo : Nat), (fdF P n lo = -9 ∧ ∀ i, lo ≤ i → i < lo + n → P i = false) ∨ ∃ i, lo ≤ i ∧ i < lo + n ∧ P i = true ∧ fdF P n lo = nI i := by
  intro n
  induction n with
  | zero => intro lo; exact Or.inl ⟨rfl, fun i h1 h2 => by omega⟩
  | succ n ih =>
    intro lo
    by_cases hp : P lo = true
    · exact Or.inr ⟨lo, Nat.le_refl _, by omega, hp, by rw [fdF, if_pos hp]⟩
    · rcases ih (lo + 1) with ⟨h1, h2⟩ | ⟨i, h1, h2, h3, h4⟩
      · refine Or.inl ⟨by rw [fdF, if_neg hp, h1], fun i q1 q2 => ?_⟩
        by_cases e : i = lo
        · rw [e]; exact Bool.eq_false_iff.mpr hp
        · exact h2 i (by omega) (by omega)
      · exact Or.inr ⟨i, by omega, by omega, h3, by rw [fdF, if_neg hp, h4]⟩
/-! ===== a state that holds together; two that are one ===== -/
def lvp (f : Nat → Int32) (c p : Nat) : Prop := p < c ∧ bt (f 2) p = false
def okA (a : Nat) : Prop := a = 50 ∨ (10 ≤ a ∧ a < 50 ∧ (a % 10 < 6 ∨ a % 10 = 9))
def Th (f : Nat → Int32) (c j : Nat) : Prop := ∃ p m d, lvp f c p ∧ f (111 + j) = nI p ∧ (1 ≤ m ∧ m ≤ 6) ∧ f (123 + j) = nI m ∧ d ≤ m ∧ f (135 + j) = nI d ∧ (f (147 + j) = -9 ∨ ∃ n, n < 6 ∧ f (147 + j) = nI n) ∧ ∀ k, k < m → ∃ a, okA a ∧ f (159 + 6 * j + k) = nI a
def Wf (f : Nat → Int32) (c t : Nat) : Prop :=
  (f 0 = nI c ∧ f 1 = nI t ∧ 1 ≤ c ∧ c ≤ 12 ∧ t ≤ 12) ∧ (bt (f 2) 0 = false ∧ f 3 = -9 ∧ f 15 = -9 ∧ f 27 = 0) ∧
  (∀ p, 1 ≤ p → p < c → ∃ n, n < 6 ∧ f (3 + p) = nI n) ∧ (∀ p, 1 ≤ p → lvp f c p → ∃ q, lvp f c q ∧ f (15 + p) = nI q) ∧
  (∃ rk : Nat → Nat, ∀ p q, 1 ≤ p → lvp f c p → lvp f c q → f (15 + p) = nI q → rk q < rk p) ∧
  (∀ p, p < 12 → f (27 + p) = 0 ∨ f (27 + p) = 1) ∧ (∀ p, c ≤ p → p < 12 → f (27 + p) = 0) ∧ (∀ p n, p < 12 → n < 6 → ¬ lvp f c p → f (39 + 6 * p + n) = 0) ∧
  (∀ p, c ≤ p → bt (f 2) p = false) ∧ (∀ j, j < t → Th f c j)
def Sm (w : SW) (f : Nat → Int32) (c t : Nat) : Prop :=
  (w.1 = nI c ∧ w.2.1 = f 2 ∧ w.2.2.2.2.2.2.1 = nI t) ∧ (∀ p, p < c → w.2.2.2.1 p = f (3 + p)) ∧ (∀ p, lvp f c p → w.2.2.2.2.1 p = f (15 + p)) ∧ (∀ p, p < c → ¬ lvp f c p → w.2.2.2.2.1 p = -9) ∧
  (∀ p, p < c → (bt w.2.2.1 p = true ↔ f (27 + p) = 1)) ∧ (∀ p n, lvp f c p → n < 6 → w.2.2.2.2.2.1 (p * 6 + n) = f (39 + 6 * p + n)) ∧
  (∀ j, j < t → w.2.2.2.2.2.2.2.1 j = f (111 + j) ∧ w.2.2.2.2.2.2.2.2.2.1 j = f (123 + j) ∧ w.2.2.2.2.2.2.2.2.2.2.1 j = f (135 + j) ∧ w.2.2.2.2.2.2.2.2.2.2.2 j = f (147 + j)) ∧
  (∀ j, j < t → ∃ A, A < 2 ^ 63 ∧ w.2.2.2.2.2.2.2.2.1 j = lN A ∧ ∀ m k, f (123 + j) = nI m → k < m → m ≤ 6 → f (159 + 6 * j + k) = nI (A / 100 ^ (m - 1 - k) % 100))
theorem nI_inj {a b : Nat} (ha : a < 2 ^ 31) (hb : b < 2 ^ 31) (h : nI a = nI b) : a = b := (nI_eq ha hb).mp h
section PW
variable {f : Nat → Int32} {c t : Nat}
theorem Wf.c0 (h : Wf f c t) : f 0 = nI c := h.1.1
theorem Wf.t0 (h : Wf f c t) : f 1 = nI t := h.1.2.1
theorem Wf.c1 (h : Wf f c t) : 1 ≤ c := h.1.2.2.1
theorem Wf.c12 (h : Wf f c t) : c ≤ 12 := h.1.2.2.2.1
theorem Wf.t12 (h : Wf f c t) : t ≤ 12 := h.1.2.2.2.2
theorem Wf.live0 (h : Wf f c t) : lvp f c 0 := ⟨h.c1, h.2.1.1⟩
theorem Wf.name0 (h : Wf f c t) : f 3 = -9 := h.2.1.2.1
theorem Wf.in0 (h : Wf f c t) : f 15 = -9 := h.2.1.2.2.1
theorem Wf.name (h : Wf f c t) {p : Nat} (h1 : 1 ≤ p) (h2 : p < c) : ∃ n, n < 6 ∧ f (3 + p) = nI n := h.2.2.1 p h1 h2
theorem Wf.inn (h : Wf f c t) {p : Nat} (h1 : 1 ≤ p) (h2 : lvp f c p) : ∃ q, lvp f c q ∧ f (15 + p) = nI q := h.2.2.2.1 p h1 h2
theorem Wf.rk (h : Wf f c t) : ∃ rk : Nat → Nat, ∀ p q, 1 ≤ p → lvp f c p → lvp f c q → f (15 + p) = nI q → rk q < rk p := h.2.2.2.2.1
theorem Wf.seal (h : Wf f c t) {p : Nat} (h1 : p < 12) : f (27 + p) = 0 ∨ f (27 + p) = 1 := h.2.2.2.2.2.1 p h1
theorem Wf.seal0 (h : Wf f c t) {p : Nat} (h1 : c ≤ p) (h2 : p < 12) : f (27 + p) = 0 := h.2.2.2.2.2.2.1 p h1 h2
theorem Wf.msg0 (h : Wf f c t) {p n : Nat} (h1 : p < 12) (h2 : n < 6) (h3 : ¬ lvp f c p) : f (39 + 6 * p + n) = 0 := h.2.2.2.2.2.2.2.1 p n h1 h2 h3
theorem Wf.gone (h : Wf f c t) {p : Nat} (h1 : c ≤ p) : bt (f 2) p = false := h.2.2.2.2.2.2.2.2.1 p h1
theorem Wf.th (h : Wf f c t) {j : Nat} (h1 : j < t) : Th f c j := h.2.2.2.2.2.2.2.2.2 j h1
end PW
/-! ===== the reference: places, threads ===== -/
section RR
variable {g : SR} {c t : Nat}
theorem R_bt0 {a : Int32} {b : Nat} (h1 : ¬ a < 0) (h : ¬ nI b < a) : fR_between a 0 (nI b) = some 1 := by rw [fR_between, if_neg h1, if_neg h]
theorem R_between_n {j c : Nat} (h1 : 1 ≤ c) (h2 : c ≤ 100) (h : j < c) : fR_between (nI j) 0 (nI c - 1) = some 1 := by
  rw [e_s1 h1]; exact R_bt0 (nI_nn (by omega)) (nI_nlt (by omega) (by omega))
theorem R_between_o {a : Int32} {c : Nat} (h2 : c ≤ 100) (h : ∀ j, j < c → a ≠ nI j) : fR_between a 0 (nI c - 1) = some 0 := by
  rw [fR_between]
  rcases pk_ix a (n := c) (by omega) with h3 | h3 | ⟨j, hj, rfl⟩
  · rw [if_pos h3]
  · have h4 : nI c - 1 < a := by
      rw [fa_le, nI_toInt (by omega)] at h3
      rcases Nat.eq_zero_or_pos c with rfl | hc
      · rw [fa_lt, show (nI 0 - 1 : Int32).toInt = -1 by decide]; omega
      · rw [e_s1 hc, fa_lt, nI_toInt (by omega)]; omega
    rw [if_pos h4]; split <;> rfl
  · exact absurd rfl (h j hj)
theorem R_isPlace_n (hW : Wf g.1 c t) {j : Nat} (h : j < c) : fR_isPlace g (nI j) = some (if bt (g.1 2) j = true then 0 else 1) := by
  have := hW.c12
  rw [fR_isPlace, ld_0, hW.c0, R_between_n hW.c1 (by omega) h, Option.bind_some, if_neg (by decide), ld_2, fR_has, sh_bit (by omega)]
  by_cases hb : bt (g.1 2) j = true
  · rw [if_pos hb, if_pos rfl, if_pos hb]; rfl
  · rw [if_neg hb, if_neg (by decide), if_neg hb]; rfl
theorem R_isPlace_l (hW : Wf g.1 c t) {j : Nat} (h : lvp g.1 c j) : fR_isPlace g (nI j) = some 1 := by rw [R_isPlace_n hW h.1, if_neg (by rw [h.2]; decide)]
theorem R_isPlace_g (hW : Wf g.1 c t) {j : Nat} (h1 : j < c) (h : ¬ lvp g.1 c j) : fR_isPlace g (nI j) = some 0 := by
  rw [R_isPlace_n hW h1, if_pos]
  cases hb : bt (g.1 2) j
  · exact absurd ⟨h1, hb⟩ h
  · rfl
theorem R_isPlace_o (hW : Wf g.1 c t) {a : Int32} (h : ∀ j, lvp g.1 c j → a ≠ nI j) : fR_isPlace g a = some 0 := by
  have := hW.c12
  by_cases hj : ∃ j, j < c ∧ a = nI j
  · obtain ⟨j, h1, rfl⟩ := hj
    exact R_isPlace_g hW h1 (fun q => h j q rfl)
  · rw [fR_isPlace, ld_0, hW.c0, R_between_o (by omega) (fun j h1 h2 => hj ⟨j, h1, h2⟩)]; rfl
theorem R_isThread_n (hW : Wf g.1 c t) {j : Nat} (h : j < t) : fR_isThread g (nI j) = some 1 := by
  have := hW.t12
  rw [fR_isThread, ld_1, hW.t0, R_between_n (by omega) (by omega) h]; rfl
theorem R_isThread_o (hW : Wf g.1 c t) {a : Int32} (h : ∀ j, j < t → a ≠ nI j) : fR_isThread g a = some 0 := by
  have := hW.t12
  rw [fR_isThread, ld_1, hW.t0, R_between_o (by omega) h]; rfl
end RR
/-! ===== a world: places, threads ===== -/
section WW
variable {w : SW} {f : Nat → Int32} {c t : Nat}
theorem Sm.pc (h : Sm w f c t) : w.1 = nI c := h.1.1
theorem Sm.gs (h : Sm w f c t) : w.2.1 = f 2 := h.1.2.1
theorem Sm.tc (h : Sm w f c t) : w.2.2.2.2.2.2.1 = nI t := h.1.2.2
theorem Sm.nm (h : Sm w f c t) {p : Nat} (h1 : p < c) : w.2.2.2.1 p = f (3 + p) := h.2.1 p h1
theorem Sm.ar (h : Sm w f c t) {p : Nat} (h1 : lvp f c p) : w.2.2.2.2.1 p = f (15 + p) := h.2.2.1 p h1
theorem Sm.ag (h : Sm w f c t) {p : Nat} (h1 : p < c) (h2 : ¬ lvp f c p) : w.2.2.2.2.1 p = -9 := h.2.2.2.1 p h1 h2
theorem Sm.sl (h : Sm w f c t) {p : Nat} (h1 : p < c) : bt w.2.2.1 p = true ↔ f (27 + p) = 1 := h.2.2.2.2.1 p h1
theorem Sm.ms (h : Sm w f c t) {p n : Nat} (h1 : lvp f c p) (h2 : n < 6) : w.2.2.2.2.2.1 (p * 6 + n) = f (39 + 6 * p + n) := h.2.2.2.2.2.1 p n h1 h2
theorem Sm.th (h : Sm w f c t) {j : Nat} (h1 : j < t) : w.2.2.2.2.2.2.2.1 j = f (111 + j) ∧ w.2.2.2.2.2.2.2.2.2.1 j = f (123 + j) ∧ w.2.2.2.2.2.2.2.2.2.2.1 j = f (135 + j) ∧ w.2.2.2.2.2.2.2.2.2.2.2 j = f (147 + j) := h.2.2.2.2.2.2.1 j h1
theorem Sm.ac (h : Sm w f c t) {j : Nat} (h1 : j < t) : ∃ A, A < 2 ^ 63 ∧ w.2.2.2.2.2.2.2.2.1 j = lN A ∧ ∀ m k, f (123 + j) = nI m → k < m → m ≤ 6 → f (159 + 6 * j + k) = nI (A / 100 ^ (m - 1 - k) % 100) := h.2.2.2.2.2.2.2 j h1
theorem W_isPlace_n (hW : Wf f c t) (hS : Sm w f c t) {j : Nat} (h : j < c) : fW_isPlace w (nI j) = some (if bt (f 2) j = true then 0 else 1) := by
  have := hW.c12
  rw [fW_isPlace, if_neg (nI_nn (by omega)), hS.pc, if_neg (nI_ge h (by omega)), hS.gs, sh_bit (by omega)]
  by_cases hb : bt (f 2) j = true
  · rw [if_pos hb, if_neg (by decide), if_pos hb]
  · rw [if_neg hb, if_pos rfl, if_neg hb]
theorem W_isPlace_l (hW : Wf f c t) (hS : Sm w f c t) {j : Nat} (h : lvp f c j) : fW_isPlace w (nI j) = some 1 := by rw [W_isPlace_n hW hS h.1, if_neg (by rw [h.2]; decide)]
theorem W_isPlace_g (hW : Wf f c t) (hS : Sm w f c t) {j : Nat} (h1 : j < c) (h : ¬ lvp f c j) : fW_isPlace w (nI j) = some 0 := by
  rw [W_isPlace_n hW hS h1, if_pos]
  cases hb : bt (f 2) j
  · exact absurd ⟨h1, hb⟩ h
  · rfl
theorem W_isPlace_o (hW : Wf f c t) (hS : Sm w f c t) {a : Int32} (h : ∀ j, lvp f c j → a ≠ nI j) : fW_isPlace w a = some 0 := by
  have := hW.c12
  rcases pk_ix a (n := c) (by omega) with h3 | h3 | ⟨j, hj, rfl⟩
  · rw [fW_isPlace, if_pos h3]
  · rw [fW_isPlace, hS.pc, if_pos h3]; split <;> rfl
  · exact W_isPlace_g hW hS hj (fun q => h j q rfl)
theorem W_isThread_n (hW : Wf f c t) (hS : Sm w f c t) {j : Nat} (h : j < t) : fW_isThread w (nI j) = some 1 := by
  have := hW.t12
  rw [fW_isThread, if_neg (nI_nn (by omega)), hS.tc, if_neg (nI_ge h (by omega))]
theorem W_isThread_o (hW : Wf f c t) (hS : Sm w f c t) {a : Int32} (h : ∀ j, j < t → a ≠ nI j) : fW_isThread w a = some 0 := by
  have := hW.t12
  rcases pk_ix a (n := t) (by omega) with h3 | h3 | ⟨j, hj, rfl⟩
  · rw [fW_isThread, if_pos h3]
  · rw [fW_isThread, hS.tc, if_pos h3]; split <;> rfl
  · exact absurd rfl (h j hj)
theorem m9_no {f : Nat → Int32} {c : Nat} (hc : c ≤ 12) : ∀ j, lvp f c j → (-9 : Int32) ≠ nI j := fun j h e => nI_m9 (show j < 2 ^ 31 by have := h.1; omega) e.symm
theorem W_nameOf_l (hW : Wf f c t) (hS : Sm w f c t) {j : Nat} (h : lvp f c j) : fW_nameOf w (nI j) = some (f (3 + j)) := by
  have := hW.c12; have := h.1
  rw [fW_nameOf, W_isPlace_l hW hS h, Option.bind_some, if_neg (by decide), ld_n (by omega) (by omega), hS.nm h.1]
theorem W_nameOf_o (hW : Wf f c t) (hS : Sm w f c t) {a : Int32} (h : ∀ j, lvp f c j → a ≠ nI j) : fW_nameOf w a = some (-9) := by rw [fW_nameOf, W_isPlace_o hW hS h]; rfl
theorem W_placeAround_l (hW : Wf f c t) (hS : Sm w f c t) {j : Nat} (h : lvp f c j) : fW_placeAround w (nI j) = some (f (15 + j)) := by
  have := hW.c12; have := h.1
  rw [fW_placeAround, W_isPlace_l hW hS h, Option.bind_some, if_neg (by decide), ld_n (by omega) (by omega), hS.ar h]
theorem W_placeAround_o (hW : Wf f c t) (hS : Sm w f c t) {a : Int32} (h : ∀ j, lvp f c j → a ≠ nI j) : fW_placeAround w a = some (-9) := by rw [fW_placeAround, W_isPlace_o hW hS h]; rfl
theorem W_isSealed_l (hW : Wf f c t) (hS : Sm w f c t) {j : Nat} (h : lvp f c j) : fW_isSealed w (nI j) = some (f (27 + j)) := by
  have := hW.c12; have hj := h.1
  rw [fW_isSealed, W_isPlace_l hW hS h, Option.bind_some, if_neg (by decide), sh_bit (by omega)]
  have := hS.sl hj
  rcases hW.seal (show j < 12 by omega) with h0 | h0
  · have hb : ¬ bt w.2.2.1 j = true := fun q => by have := this.mp q; rw [h0] at this; exact absurd this (by decide)
    rw [if_neg hb, if_neg (by decide), h0]
  · rw [if_pos (this.mpr h0), if_pos rfl, h0]
theorem W_messagesOf_l (hW : Wf f c t) (hS : Sm w f c t) {j n : Nat} (h : lvp f c j) (hn : n < 6) : fW_messagesOf w (nI j) (nI n) = some (f (39 + 6 * j + n)) := by
  have := hW.c12; have := h.1
  rw [fW_messagesOf, W_isPlace_l hW hS h, Option.bind_some, if_neg (by decide), M_isName_n hn, Option.bind_some, if_neg (by decide), e_6, ld_n (by omega) (by omega), hS.ms h hn]
theorem W_messagesOf_o (hW : Wf f c t) (hS : Sm w f c t) {a b : Int32} (h : ∀ j, lvp f c j → a ≠ nI j) : fW_messagesOf w a b = some 0 := by rw [fW_messagesOf, W_isPlace_o hW hS h]; rfl
theorem W_actsDone (hW : Wf f c t) (hS : Sm w f c t) {j : Nat} (h : j < t) : fW_actsDone w (nI j) = some (f (135 + j)) := by
  have := hW.t12
  rw [fW_actsDone, W_isThread_n hW hS h, Option.bind_some, if_neg (by decide), ld_n (by omega) (by omega), (hS.th h).2.2.1]
theorem W_actsInAll (hW : Wf f c t) (hS : Sm w f c t) {j : Nat} (h : j < t) : fW_actsInAll w (nI j) = some (f (123 + j)) := by
  have := hW.t12
  rw [fW_actsInAll, W_isThread_n hW hS h, Option.bind_some, if_neg (by decide), ld_n (by omega) (by omega), (hS.th h).2.1]
theorem W_heardBy (hW : Wf f c t) (hS : Sm w f c t) {j : Nat} (h : j < t) : fW_heardBy w (nI j) = some (f (147 + j)) := by
  have := hW.t12
  rw [fW_heardBy, W_isThread_n hW hS h, Option.bind_some, if_neg (by decide), ld_n (by omega) (by omega), (hS.th h).2.2.2]
theorem W_placeOfThread (hW : Wf f c t) (hS : Sm w f c t) {j : Nat} (h : j < t) : fW_placeOfThread w (nI j) = some (f (111 + j)) := by
  have := hW.t12
  rw [fW_placeOfThread, W_isThread_n hW hS h, Option.bind_some, if_neg (by decide), ld_n (by omega) (by omega), (hS.th h).1]
end WW
