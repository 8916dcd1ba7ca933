/-! ===== rows of acts ===== -/
def hh0 : Hh := (fun _ => 0, fun _ => 0, 0, fun _ => 0)
def stp (f : Nat → Int32) (j : Nat) : Option (Nat → Int32) :=
  match fR_does (f, hh0) (nI j) with
  | some x => if x.1 = 0 then none else some x.2.1
  | none => none
def Good (f : Nat → Int32) (c t : Nat) : Prop := Wf f c t ∧ ∃ w, Sm w f c t
theorem stp_c {f : Nat → Int32} {w : SW} {c t j : Nat} (hW : Wf f c t) (hS : Sm w f c t) (hj : j < t) :
    (stp f j = none ∧ (∀ h : Hh, fR_does (f, h) (nI j) = some (0, (f, h))) ∧ fW_aimOf w (nI j) = some (-9)) ∨
    (∃ f' w' v, stp f j = some f' ∧ (∀ h : Hh, fR_does (f, h) (nI j) = some (1, (f', h))) ∧ (∃ r, r ≠ -9 ∧ fW_aimOf w (nI j) = some r) ∧ fW_doNextAct w (nI j) = some (v, w') ∧ Wf f' c t ∧ Sm w' f' c t ∧ ∀ i, 231 ≤ i → f' i = f i) := by
  rcases RW_does hW hS hj with ⟨h1, h2, h3⟩ | ⟨hr, f', w', a, h0, h1, h2, h3, h4, h5, h6⟩
  · exact Or.inl ⟨by unfold stp; rw [h1 hh0]; rfl, h1, h2⟩
  · exact Or.inr ⟨f', w', _, by unfold stp; rw [h2 hh0]; rfl, h2, hr, h3, h4, h5, h6⟩
def sN (v : Nat → Nat) : Nat → Nat → Nat
  | 0, _ => 0
  | n + 1, lo => v lo + sN v n (lo + 1)
theorem sN_congr {v u : Nat → Nat} : ∀ (n lo : Nat), (∀ i, lo ≤ i → i < lo + n → v i = u i) → sN v n lo = sN u n lo := by
  intro n
  induction n with
  | zero => intro lo _; rfl
  | succ n ih => intro lo h; rw [sN, sN, h lo (Nat.le_refl _) (by omega), ih _ (fun i h1 h2 => h i (by omega) (by omega))]
theorem sN_app {v : Nat → Nat} : ∀ (m n lo : Nat), sN v (m + n) lo = sN v m lo + sN v n (lo + m) := by
  intro m
  induction m with
  | zero => intro n lo; rw [Nat.zero_add, sN, Nat.zero_add, Nat.add_zero]
  | succ m ih =>
    intro n lo
    rw [show m + 1 + n = (m + n) + 1 by omega, sN, sN, ih n (lo + 1), show lo + 1 + m = lo + (m + 1) by omega]; omega
theorem sN_sh {v : Nat → Nat} : ∀ (n lo d : Nat), sN v n (lo + d) = sN (fun i => v (i + d)) n lo := by
  intro n
  induction n with
  | zero => intro lo d; rfl
  | succ n ih => intro lo d; rw [sN, sN, show lo + d + 1 = lo + 1 + d by omega, ih]
theorem sN_0 {v : Nat → Nat} : ∀ (n lo : Nat), (∀ i, lo ≤ i → i < lo + n → v i = 0) → sN v n lo = 0 := by
  intro n
  induction n with
  | zero => intro lo _; rfl
  | succ n ih => intro lo h; rw [sN, h lo (Nat.le_refl _) (by omega), ih _ (fun i h1 h2 => h i (by omega) (by omega))]
/-- blocks -/
theorem sN_blk {F : Nat → Nat} (M : Nat) : ∀ (n lo : Nat), sN F (n * M) (lo * M) = sN (fun j => sN (fun r => F (j * M + r)) M 0) n lo := by
  intro n
  induction n with
  | zero => intro lo; rw [Nat.zero_mul]; rfl
  | succ n ih =>
    intro lo
    rw [Nat.succ_mul, Nat.add_comm (n * M) M, sN_app, sN, ← ih (lo + 1), Nat.succ_mul]
    congr 1
    have := sN_sh (v := F) M 0 (lo * M)
    rw [Nat.zero_add] at this
    rw [this]
    exact sN_congr _ _ (fun i _ _ => by rw [Nat.add_comm])
def cn (t : Nat) : Nat → (Nat → Int32) → Nat
  | 0, _ => 1
  | n + 1, f => sN (fun j => match stp f j with
    | none => 0
    | some f' => cn t n f') t 0
/-- a row by its digits: where it leads -/
def run (D : Nat → Nat) : Nat → Nat → (Nat → Int32) → Option (Nat → Int32)
  | 0, _, f => some f
  | r + 1, k, f => match stp f (D k) with
    | none => none
    | some f' => run D r (k + 1) f'
def dgt (t n N k : Nat) : Nat := N / t ^ (n - 1 - k) % t
theorem run_congr {D E : Nat → Nat} : ∀ (r k l : Nat) (f : Nat → Int32), (∀ i, i < r → D (k + i) = E (l + i)) → run D r k f = run E r l f := by
  intro r
  induction r with
  | zero => intro k l f _; rfl
  | succ r ih =>
    intro k l f h
    rw [run, run, show D k = E l from h 0 (by omega)]
    cases stp f (E l) with
    | none => rfl
    | some f' => exact ih (k + 1) (l + 1) f' (fun i hi => by have := h (i + 1) (by omega); rw [show k + 1 + i = k + (i + 1) by omega, show l + 1 + i = l + (i + 1) by omega]; exact this)
theorem dgt_0 {t n j r : Nat} (hj : j < t) (hr : r < t ^ n) : dgt t (n + 1) (j * t ^ n + r) 0 = j := by
  unfold dgt
  rw [show n + 1 - 1 - 0 = n by omega, Nat.add_comm, Nat.add_mul_div_right _ _ (by omega), Nat.div_eq_of_lt hr, Nat.zero_add, Nat.mod_eq_of_lt hj]
theorem dgt_s {t n j r k : Nat} (ht : 0 < t) (hk : k < n) : dgt t (n + 1) (j * t ^ n + r) (k + 1) = dgt t n r k := by
  unfold dgt
  have e : t ^ n = t ^ (k + 1) * t ^ (n - 1 - k) := by rw [← Nat.pow_add, show k + 1 + (n - 1 - k) = n by omega]
  have hp : 0 < t ^ (n - 1 - k) := Nat.pow_pos ht
  rw [show n + 1 - 1 - (k + 1) = n - 1 - k by omega, e, ← Nat.mul_assoc, Nat.add_comm, Nat.add_mul_div_right _ _ hp, Nat.pow_succ, ← Nat.mul_assoc, Nat.add_mul_mod_self_right]
theorem run_s {t n j r : Nat} (ht : 0 < t) (hj : j < t) (hr : r < t ^ n) (f : Nat → Int32) : run (dgt t (n + 1) (j * t ^ n + r)) (n + 1) 0 f = match stp f j with
    | none => none
    | some f' => run (dgt t n r) n 0 f' := by
  rw [run, dgt_0 hj hr]
  cases stp f j with
  | none => rfl
  | some f' => exact run_congr n 1 0 f' (fun i hi => by rw [Nat.add_comm 1 i, dgt_s ht hi, Nat.zero_add])
def oB {α : Type} : Option α → Nat
  | some _ => 1
  | none => 0
/-- all the numbers tell all the rows -/
theorem cn_num {t : Nat} (ht : 0 < t) : ∀ (n : Nat) (f : Nat → Int32), sN (fun N => oB (run (dgt t n N) n 0 f)) (t ^ n) 0 = cn t n f := by
  intro n
  induction n with
  | zero => intro f; rfl
  | succ n ih =>
    intro f
    have := sN_blk (F := fun N => oB (run (dgt t (n + 1) N) (n + 1) 0 f)) (t ^ n) t 0
    rw [Nat.zero_mul] at this
    rw [Nat.pow_succ, Nat.mul_comm, this, cn]
    refine sN_congr _ _ (fun j _ hj => ?_)
    have e : sN (fun r => oB (run (dgt t (n + 1) (j * t ^ n + r)) (n + 1) 0 f)) (t ^ n) 0 = sN (fun r => oB (match stp f j with
      | none => none
      | some f' => run (dgt t n r) n 0 f')) (t ^ n) 0 := sN_congr _ _ (fun r _ hr => by rw [run_s ht (by omega) (by omega)])
    show sN (fun r => oB (run (dgt t (n + 1) (j * t ^ n + r)) (n + 1) 0 f)) (t ^ n) 0 = _
    rw [e]
    cases hs : stp f j with
    | none => exact sN_0 _ _ (fun i _ _ => rfl)
    | some f' => exact ih f'
/-! ===== the reference: one row ===== -/
section RROW
variable {c t : Nat}
theorem R_threadAt_L {g : SR} (hW : Wf g.1 c t) (ht : 0 < t) {k : Nat} (hk : k < 3) : ∀ (n x L : Nat), k ≤ x → x < 3 → x - k < n → L < 2 ^ 31 → fR_threadAt_8 g (nI k) n (nI L) (nI x) = some (nI (L / t ^ (x - k) % t)) := by
  have ht12 := hW.t12
  intro n
  induction n with
  | zero => intro x L h1 h2 h3; omega
  | succ n ih =>
    intro x L h1 h2 h3 hL
    rw [fR_threadAt_8_s, ld_1, ld_1, hW.t0, mp_nz, mp_nz, if_neg (nI_ne0 ht (by omega)), if_neg (nI_ne0 ht (by omega))]
    rcases Nat.lt_or_ge k x with h | h
    · obtain ⟨y, rfl⟩ : ∃ y, x = y + 1 := ⟨x - 1, by omega⟩
      have hd : L / t ≤ L := Nat.div_le_self _ _
      rw [if_neg (nI_ge h (by omega)), pk_div hL ht (by omega), pk_m1, ih y (L / t) (by omega) (by omega) (by omega) (by omega), Nat.div_div_eq_div_mul, Nat.mul_comm, ← Nat.pow_succ, show (y - k).succ = y + 1 - k by omega]
    · rw [if_pos (nI_le h (by omega)), pk_rem hL ht (by omega), show x - k = 0 by omega, Nat.pow_zero, Nat.div_one]
theorem R_threadAt {g : SR} (hW : Wf g.1 c t) (ht : 0 < t) {N n k : Nat} (hn : n ≤ 3) (hk : k < n) (hN : N < 2 ^ 31) : fR_threadAt g (nI N) (nI n) (nI k) = some (nI (dgt t n N k)) := by
  rw [fR_threadAt, e_s1 (by omega)]
  exact R_threadAt_L hW ht (by omega) 2000 (n - 1) N (by omega) (by omega) (by omega) hN
def rwF (D : Nat → Nat) (n k : Nat) (rw0 : Nat → Int32) : Nat → Int32 := fun i => if k ≤ i ∧ i < n then nI (D i) else rw0 i
theorem R_actsRow_2 (ht : 0 < t) {N n : Nat} (hn : n ≤ 3) (hN : N < 2 ^ 31) : ∀ (m k : Nat) (g : SR), Wf g.1 c t → k ≤ n → n - k < m → fR_actsRow_2 (nI N) (nI n) m g (nI k) = fR_actsRow_28 (nI n) 2000 (g.1, g.2.1, g.2.2.1, g.2.2.2.1, rwF (dgt t n N) n k g.2.2.2.2) 0 := by
  intro m
  induction m with
  | zero => intro k g _ h1 h2; omega
  | succ m ih =>
    intro k g hW h1 h2
    rw [fR_actsRow_2_s]
    rcases Nat.lt_or_ge k n with h | h
    · rw [if_neg (nI_ge h (by omega)), R_threadAt hW ht hn h hN, Option.bind_some, st_n (by omega) (by omega), nI_clamp (by omega), nI_1]
      refine (ih (k + 1) (g.1, g.2.1, g.2.2.1, g.2.2.2.1, upd g.2.2.2.2 k (nI (dgt t n N k))) hW (by omega) (by omega)).trans ?_
      have e : rwF (dgt t n N) n (k + 1) (upd g.2.2.2.2 k (nI (dgt t n N k))) = rwF (dgt t n N) n k g.2.2.2.2 := by
        funext i
        unfold rwF upd
        by_cases e : i = k
        · rw [if_neg (by omega), if_pos e, if_pos (by omega), e]
        · rw [if_neg e]
          by_cases e2 : k + 1 ≤ i ∧ i < n
          · rw [if_pos e2, if_pos (by omega)]
          · rw [if_neg e2, if_neg (by omega)]
      show fR_actsRow_28 (nI n) 2000 (g.1, g.2.1, g.2.2.1, g.2.2.2.1, rwF (dgt t n N) n (k + 1) (upd g.2.2.2.2 k (nI (dgt t n N k)))) 0 = _
      rw [e]
    · have : k = n := by omega
      subst this
      rw [if_pos (nI_le (Nat.le_refl _) (by omega)), show rwF (dgt t k N) k k g.2.2.2.2 = g.2.2.2.2 from funext fun i => if_neg (by omega)]
theorem R_actsRow_28 {D : Nat → Nat} {n : Nat} (hn : n ≤ 3) (hD : ∀ i, i < n → D i < t) {im kp rw0 : Nat → Int32} {ii : Int32} (hr : ∀ i, i < n → rw0 i = nI (D i)) : ∀ (m k : Nat) (f : Nat → Int32) (w : SW), Wf f c t → Sm w f c t → k ≤ n → n - k < m →
    (run D (n - k) k f = none ∧ ∃ f', (∀ i, 231 ≤ i → f' i = f i) ∧ fR_actsRow_28 (nI n) m (f, im, kp, ii, rw0) (nI k) = some (0, (f', im, kp, ii, rw0))) ∨ (∃ f' w', run D (n - k) k f = some f' ∧ (∀ i, 231 ≤ i → f' i = f i) ∧ Wf f' c t ∧ Sm w' f' c t ∧ fR_actsRow_28 (nI n) m (f, im, kp, ii, rw0) (nI k) = some (1, (f', im, kp, ii, rw0))) := by
  intro m
  induction m with
  | zero => intro k f w _ _ h1 h2; omega
  | succ m ih =>
    intro k f w hW hS h1 h2
    rw [fR_actsRow_28_s]
    rcases Nat.lt_or_ge k n with h | h
    · have hd := hD k h
      have ht := hW.t12
      rw [if_neg (nI_ge h (by omega)), ld_n (by omega) (by omega)]
      show (_ ∧ ∃ f', _ ∧ (fR_does (f, im, kp, ii, rw0) (rw0 k)).bind _ = _) ∨ ∃ f' w', _ ∧ _ ∧ _ ∧ _ ∧ (fR_does (f, im, kp, ii, rw0) (rw0 k)).bind _ = _
      rw [hr k h, show n - k = (n - (k + 1)) + 1 by omega, run]
      rcases stp_c hW hS hd with ⟨s1, s2, -⟩ | ⟨f1, w1, v, s1, s2, -, -, s4, s5, s6⟩
      · rw [s1, s2 (im, kp, ii, rw0), Option.bind_some, if_pos rfl]
        exact Or.inl ⟨rfl, f, fun i _ => rfl, rfl⟩
      · rw [s1, s2 (im, kp, ii, rw0), Option.bind_some, if_neg n10, nI_1]
        rcases ih (k + 1) f1 w1 s4 s5 (by omega) (by omega) with ⟨a1, f', a2, a3⟩ | ⟨f', w', a1, a2, a3, a4, a5⟩
        · exact Or.inl ⟨a1, f', fun i hi => (a2 i hi).trans (s6 i hi), a3⟩
        · exact Or.inr ⟨f', w', a1, fun i hi => (a2 i hi).trans (s6 i hi), a3, a4, a5⟩
    · have : k = n := by omega
      subst this
      rw [if_pos (nI_le (Nat.le_refl _) (by omega)), Nat.sub_self]
      exact Or.inr ⟨f, w, rfl, fun i _ => rfl, hW, hS, rfl⟩
/-- a row by its number -/
theorem R_actsRow {g : SR} {w : SW} (hW : Wf g.1 c t) (hS : Sm w g.1 c t) {N n : Nat} (hn : n ≤ 3) (h0 : 0 < n → 0 < t) (hN : N < 2 ^ 31) : ∃ rw1 : Nat → Int32, (∀ i, i < n → rw1 i = nI (dgt t n N i)) ∧ ((run (dgt t n N) n 0 g.1 = none ∧ ∃ f', (∀ i, 231 ≤ i → f' i = g.1 i) ∧ fR_actsRow g (nI N) (nI n) = some (0, (f', g.2.1, g.2.2.1, g.2.2.2.1, rw1))) ∨ (∃ f' w', run (dgt t n N) n 0 g.1 = some f' ∧ (∀ i, 231 ≤ i → f' i = g.1 i) ∧ Wf f' c t ∧ Sm w' f' c t ∧ fR_actsRow g (nI N) (nI n) = some (1, (f', g.2.1, g.2.2.1, g.2.2.2.1, rw1)))) := by
  rcases Nat.eq_zero_or_pos n with rfl | hn0
  · refine ⟨g.2.2.2.2, fun i hi => by omega, Or.inr ⟨g.1, w, rfl, fun i _ => rfl, hW, hS, ?_⟩⟩
    rw [fR_actsRow, fR_actsRow_2_s, nI_0, if_pos (by decide), fR_actsRow_28_s, if_pos (by decide)]
  · have ht := h0 hn0
    refine ⟨rwF (dgt t n N) n 0 g.2.2.2.2, fun i hi => if_pos (by omega), ?_⟩
    have e : fR_actsRow g (nI N) (nI n) = fR_actsRow_28 (nI n) 2000 (g.1, g.2.1, g.2.2.1, g.2.2.2.1, rwF (dgt t n N) n 0 g.2.2.2.2) (nI 0) := R_actsRow_2 ht hn hN 2000 0 g hW (Nat.zero_le _) (by omega)
    rw [e]
    exact R_actsRow_28 (D := dgt t n N) hn (fun i _ => Nat.mod_lt _ ht) (fun i hi => if_pos (by omega)) 2000 0 g.1 w hW hS (Nat.zero_le _) (by omega)
end RROW
