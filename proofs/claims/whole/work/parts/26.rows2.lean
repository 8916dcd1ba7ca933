/-! ===== the reference: all rows ===== -/
theorem e_231 (x : Nat) : ((231 : Int32) * 0) + nI x = nI x := by
  rw [show (231 : Int32) * 0 = 0 by decide, Int32.zero_add]
theorem R_keepsAt_L : ∀ (n k : Nat) (g : SR), k ≤ 231 → 231 - k < n → fR_keepsAt_2 0 n g (nI k) = some (g.1, g.2.1, cpF g.1 g.2.2.1 k, g.2.2.2) := by
  intro n
  induction n with
  | zero => intro k g h1 h2; omega
  | succ n ih =>
    intro k g h1 h2
    rw [fR_keepsAt_2_s]
    rcases Nat.lt_or_ge k 231 with h | h
    · rw [if_neg (show ¬ (231 : Int32) ≤ nI k from nI_ge (b := 231) h (by omega)), ld_n h (by omega), e_231, st_n (by omega) (by omega), nI_clamp (by omega), nI_1]
      refine (ih (k + 1) (g.1, g.2.1, upd g.2.2.1 k (g.1 k), g.2.2.2) (by omega) (by omega)).trans ?_
      show some (g.1, g.2.1, cpF g.1 (upd g.2.2.1 k (g.1 k)) (k + 1), g.2.2.2) = _
      rw [cpF_s h]
    · have : k = 231 := by omega
      subst this
      rw [if_pos (show (231 : Int32) ≤ nI 231 by decide), cpF_e]
theorem R_putsFrom_L : ∀ (n k : Nat) (g : SR), k ≤ 231 → 231 - k < n → fR_putsFrom_2 0 n g (nI k) = some (cpF g.2.2.1 g.1 k, g.2) := by
  intro n
  induction n with
  | zero => intro k g h1 h2; omega
  | succ n ih =>
    intro k g h1 h2
    rw [fR_putsFrom_2_s]
    rcases Nat.lt_or_ge k 231 with h | h
    · rw [if_neg (show ¬ (231 : Int32) ≤ nI k from nI_ge (b := 231) h (by omega)), e_231, ld_n (by omega) (by omega), st_n h (by omega), nI_clamp (by omega), nI_1]
      refine (ih (k + 1) (upd g.1 k (g.2.2.1 k), g.2) (by omega) (by omega)).trans ?_
      show some (cpF g.2.2.1 (upd g.1 k (g.2.2.1 k)) (k + 1), g.2) = _
      rw [cpF_s h]
    · have : k = 231 := by omega
      subst this
      rw [if_pos (show (231 : Int32) ≤ nI 231 by decide), cpF_e]
theorem R_keepsAt (g : SR) : fR_keepsAt g 0 = some (g.1, g.2.1, cpF g.1 g.2.2.1 0, g.2.2.2) := R_keepsAt_L 2000 0 g (by omega) (by omega)
theorem R_putsFrom (g : SR) : fR_putsFrom g 0 = some (cpF g.2.2.1 g.1 0, g.2) := R_putsFrom_L 2000 0 g (by omega) (by omega)
theorem back_f {f f' kp : Nat → Int32} (h1 : ∀ i, i < 231 → kp i = f i) (h2 : ∀ i, 231 ≤ i → f' i = f i) : cpF kp f' 0 = f := by
  funext i
  unfold cpF
  rcases Nat.lt_or_ge i 231 with h | h
  · rw [if_pos (by omega)]; exact h1 i h
  · rw [if_neg (by omega)]; exact h2 i h
theorem R_allRows_L {g : SR} {c t : Nat} (hW : Wf g.1 c t) {b : Nat} (hb : b ≤ 3) : ∀ (n k A : Nat), k ≤ b → b - k < n → fR_allRows_4 g (nI b) n (nI A) (nI k) = some (nI (A * t ^ (b - k))) := by
  intro n
  induction n with
  | zero => intro k A h1 h2; omega
  | succ n ih =>
    intro k A h1 h2
    rw [fR_allRows_4_s, ld_1, hW.t0]
    rcases Nat.lt_or_ge k b with h | h
    · rw [if_neg (nI_ge h (by omega)), pk_mul, nI_1, ih (k + 1) (A * t) (by omega) (by omega), show b - k = (b - (k + 1)) + 1 by omega, Nat.pow_succ, Nat.mul_assoc, Nat.mul_comm t]
    · rw [if_pos (nI_le h (by omega)), show b - k = 0 by omega, Nat.pow_zero, Nat.mul_one]
theorem R_allRows {g : SR} {c t : Nat} (hW : Wf g.1 c t) {b : Nat} (hb : b ≤ 3) : fR_allRows g (nI b) = some (nI (t ^ b)) := by
  rw [fR_allRows, show fR_allRows_4 g (nI b) 2000 1 0 = _ from R_allRows_L hW hb 2000 0 1 (Nat.zero_le _) (by omega), Nat.one_mul, Nat.sub_zero]
theorem pow_12 {t b : Nat} (ht : t ≤ 12) (hb : b ≤ 3) : t ^ b ≤ 1728 := by
  rcases Nat.eq_zero_or_pos t with rfl | h
  · rcases Nat.eq_zero_or_pos b with rfl | h2
    · decide
    · rw [Nat.zero_pow h2]; omega
  · exact Nat.le_trans (Nat.pow_le_pow_left ht b) (Nat.pow_le_pow_right (n := 12) (by omega) hb)
section RALL
variable {c t : Nat} {f : Nat → Int32} {w : SW}
theorem R_rows_L (hW : Wf f c t) (hS : Sm w f c t) {b : Nat} (hb : b ≤ 3) {im kp : Nat → Int32} {ii : Int32} (hk : ∀ i, i < 231 → kp i = f i) : ∀ (n N a : Nat) (rw0 : Nat → Int32), N ≤ t ^ b → t ^ b - N < n → ∃ rw1, fR_rows_28 (nI b) (nI (t ^ b)) n (f, im, kp, ii, rw0) (nI a) (nI N) = some (nI (a + sN (fun N => oB (run (dgt t b N) b 0 f)) (t ^ b - N) N), (f, im, kp, ii, rw1)) := by
  have ht := hW.t12
  have hp := pow_12 ht hb
  intro n
  induction n with
  | zero => intro N a rw0 h1 h2; omega
  | succ n ih =>
    intro N a rw0 h1 h2
    rw [fR_rows_28_s]
    rcases Nat.lt_or_ge N (t ^ b) with h | h
    · rw [if_neg (nI_ge h (by omega)), show t ^ b - N = (t ^ b - (N + 1)) + 1 by omega, sN]
      have h0 : 0 < b → 0 < t := fun hb0 => by
        rcases Nat.eq_zero_or_pos t with rfl | h3
        · rw [Nat.zero_pow hb0] at h; omega
        · exact h3
      obtain ⟨rw1, -, hR⟩ := R_actsRow (g := (f, im, kp, ii, rw0)) hW hS hb h0 (show N < 2 ^ 31 by omega)
      rcases hR with ⟨a1, f', a2, a3⟩ | ⟨f', w', a1, a2, a3, a4, a5⟩
      · rw [a3, Option.bind_some, if_pos rfl, R_putsFrom, Option.bind_some]
        show ∃ rw2, fR_rows_28 (nI b) (nI (t ^ b)) n (cpF kp f' 0, im, kp, ii, rw1) (nI a + 0) (nI N + 1) = _
        rw [back_f hk a2, Int32.add_zero, nI_1]
        obtain ⟨rw2, e⟩ := ih (N + 1) a rw1 (by omega) (by omega)
        refine ⟨rw2, ?_⟩
        rw [e, show oB (run (dgt t b N) b 0 f) = 0 from congrArg oB a1, Nat.zero_add]
      · rw [a5, Option.bind_some, if_neg n10, R_putsFrom, Option.bind_some]
        show ∃ rw2, fR_rows_28 (nI b) (nI (t ^ b)) n (cpF kp f' 0, im, kp, ii, rw1) (nI a + 1) (nI N + 1) = _
        rw [back_f hk a2, nI_1, nI_1]
        obtain ⟨rw2, e⟩ := ih (N + 1) (a + 1) rw1 (by omega) (by omega)
        refine ⟨rw2, ?_⟩
        rw [e, show oB (run (dgt t b N) b 0 f) = 1 from congrArg oB a1, Nat.add_assoc]
    · rw [if_pos (nI_le h (by omega)), show t ^ b - N = 0 by omega]
      exact ⟨rw0, rfl⟩
theorem cn_num0 : ∀ (t n : Nat) (f : Nat → Int32), sN (fun N => oB (run (dgt t n N) n 0 f)) (t ^ n) 0 = cn t n f := by
  intro t n f
  rcases Nat.eq_zero_or_pos t with rfl | ht
  · cases n with
    | zero => rfl
    | succ n => rw [Nat.zero_pow (by omega)]; rfl
  · exact cn_num ht n f
theorem R_rows (hW : Wf f c t) (hS : Sm w f c t) {b : Nat} (hb : b ≤ 3) (h : Hh) : ∃ kp rw1, fR_rows (f, h) (nI b) = some (nI (cn t b f), (f, h.1, kp, h.2.2.1, rw1)) := by
  have ht := hW.t12
  have hp := pow_12 ht hb
  obtain ⟨rw1, e⟩ := R_rows_L (im := h.1) (ii := h.2.2.1) (kp := cpF f h.2.1 0) hW hS hb (fun i hi => cpF_at hi) 2000 0 0 h.2.2.2 (Nat.zero_le _) (by omega)
  refine ⟨cpF f h.2.1 0, rw1, ?_⟩
  have hbt : fR_between (nI b) 0 3 = some 1 := by
    rw [fR_between, if_neg (nI_nn (by omega)), if_neg (show ¬ (3 : Int32) < nI b from nI_nlt (a := 3) hb (by omega))]
  rw [fR_rows, hbt, Option.bind_some, if_neg n10, R_allRows (g := (f, h)) hW hb, Option.bind_some, R_keepsAt, Option.bind_some]
  refine e.trans ?_
  rw [Nat.zero_add, Nat.sub_zero, cn_num0]
end RALL
/-! ===== the class: rows ===== -/
def frm (S S' : SM) : Prop := S'.1 = S.1 ∧ S'.2.1 = S.2.1 ∧ S'.2.2.1 = S.2.2.1
section MROW
variable {c t : Nat} {f : Nat → Int32}
def vs (t n : Nat) (f : Nat → Int32) (j : Nat) : Nat := match stp f j with
  | none => 0
  | some f' => cn t n f'
theorem cn_s (t n : Nat) (f : Nat → Int32) : cn t (n + 1) f = sN (vs t n f) t 0 := rfl
theorem can_stp {w : SW} (hW : Wf f c t) (hS : Sm w f c t) {j : Nat} (hj : j < t) : (if canB w j = true then 1 else 0) = vs t 0 f j := by
  unfold canB vs
  rcases stp_c hW hS hj with ⟨s1, -, s3⟩ | ⟨f', w', v, s1, -, ⟨r, r1, r2⟩, -, -, -, -⟩
  · rw [s1, s3]; simp
  · rw [s1, r2]
    rw [if_pos (by simp [r1])]; rfl
theorem ct_sN {P : Nat → Bool} {v : Nat → Nat} : ∀ (n lo : Nat), (∀ i, lo ≤ i → i < lo + n → (if P i = true then 1 else 0) = v i) → ctF P n lo = sN v n lo := by
  intro n
  induction n with
  | zero => intro lo _; rfl
  | succ n ih => intro lo h; rw [ctF, sN, h lo (Nat.le_refl _) (by omega), ih _ (fun i h1 h2 => h i (by omega) (by omega))]
/-- how many can act at once -/
theorem W_bits {w : SW} (hW : Wf f c t) (hS : Sm w f c t) : ∃ x, fW_threadsThatCan w = some x ∧ fJ_bitCount x = some (nI (cn t 1 f)) := by
  have ht := hW.t12
  refine ⟨_, W_can hW hS, ?_⟩
  have hb : ∀ i, i < 32 → bt (orF (canB w) t 0 0) i = (decide (i < t) && canB w i) := fun i hi => by
    rw [orF_bit t 0 0 i (by omega) hi, b_0, Bool.false_or, Nat.zero_add, decide_eq_true (Nat.zero_le i), Bool.true_and]
  rw [bc_set (fun i h1 h2 => by rw [hb i h2, decide_eq_false (by omega), Bool.false_and]), cn_s]
  congr 2
  have e1 : ctF (fun i => bt (orF (canB w) t 0 0) i) 12 0 = ctF (fun i => decide (i < t) && canB w i) 12 0 := ctF_congr 12 0 (fun i _ h => hb i (by omega))
  have e2 := ctF_app (P := fun i => decide (i < t) && canB w i) t (12 - t) 0
  rw [show t + (12 - t) = 12 by omega] at e2
  rw [e1, e2, ctF_no (12 - t) (0 + t) (fun i h1 _ => by rw [decide_eq_false (by omega), Bool.false_and]), Nat.add_zero]
  refine ct_sN t 0 (fun i _ h => ?_)
  rw [decide_eq_true (show i < t by omega), Bool.true_and]
  exact can_stp hW hS (by omega)
theorem lit_n {a b : Nat} (ha : a < 2 ^ 31) (hb : b < 2 ^ 31) : nI a < nI b ↔ a < b := nI_ltI ha hb
theorem M_count_2 {S : SM} (hW : Wf f c t) (hS : Sm S.2.2.2.2.1 f c t) {b : Nat} (hb : b ≤ 3) : fM_countRows_2 S (nI b) = some (nI (cn t (b - 2) f), S) := by
  rw [fM_countRows_2]
  rcases Nat.lt_or_ge 2 b with h | h
  · have : b = 3 := by omega
    subst this
    obtain ⟨x, h1, h2⟩ := W_bits hW hS
    rw [if_pos (by decide), if_pos (show (3 : Int32) = nI 3 from rfl), h1, Option.bind_some, h2, Option.bind_some]
  · rw [if_neg (show ¬ (2 : Int32) < nI b from nI_nlt (a := 2) h (by omega)), show b - 2 = 0 by omega]; rfl
theorem M_count_1_45 (hW : Wf f c t) : ∀ (n q a : Nat) (S : SM), Sm S.2.2.2.1 f c t → q ≤ t → t - q < n → ∃ S', fM_countRows_1_45 (nI 3) n S (nI a) (nI q) = some (nI (a + sN (vs t 1 f) (t - q) q), S') ∧ frm S S' ∧ S'.2.2.2.1 = S.2.2.2.1 := by
  have ht := hW.t12
  intro n
  induction n with
  | zero => intro q a S _ h1 h2; omega
  | succ n ih =>
    intro q a S hS h1 h2
    rw [fM_countRows_1_45_s, fW_threadsInAll, Option.bind_some, hS.tc]
    rcases Nat.lt_or_ge q t with h | h
    · rw [if_neg (nI_ge h (by omega)), show t - q = (t - (q + 1)) + 1 by omega, sN]
      rcases stp_c hW hS h with ⟨s1, -, s3⟩ | ⟨f1, -, -, s1, -, ⟨r, r1, r2⟩, -, -, -, -⟩
      · rw [s3, Option.bind_some, if_pos rfl, nI_1]
        obtain ⟨S', e1, e2, e3⟩ := ih (q + 1) a S hS (by omega) (by omega)
        exact ⟨S', by rw [e1, show vs t 1 f q = 0 by unfold vs; rw [s1], Nat.zero_add], e2, e3⟩
      · rw [r2, Option.bind_some, if_neg r1]
        obtain ⟨u, hu⟩ : ∃ u, fW_become S.2.2.2.2.1 S.2.2.2.1 = some u := ⟨_, W_become _ _⟩
        have hSu := Sm_become hW hS hu
        rcases stp_c hW hSu h with ⟨z1, -, -⟩ | ⟨f2, w2, v2, z1, -, -, z4, z5, z6, -⟩
        · rw [s1] at z1; cases z1
        · have : f1 = f2 := Option.some.inj (s1.symm.trans z1)
          subst this
          rw [hu, Option.bind_some, z4, Option.bind_some, M_count_2 (S := (S.1, S.2.1, S.2.2.1, S.2.2.2.1, w2, S.2.2.2.2.2.1, S.2.2.2.2.2.2)) z5 z6 (by omega), Option.bind_some, nI_add, nI_1]
          obtain ⟨S', e1, e2, e3⟩ := ih (q + 1) (a + cn t 1 f1) (S.1, S.2.1, S.2.2.1, S.2.2.2.1, w2, S.2.2.2.2.2.1, S.2.2.2.2.2.2) hS (by omega) (by omega)
          exact ⟨S', by rw [e1, show vs t 1 f q = cn t 1 f1 by unfold vs; rw [s1], Nat.add_assoc], e2, e3⟩
    · rw [if_pos (nI_le h (by omega)), show t - q = 0 by omega]
      exact ⟨S, rfl, ⟨rfl, rfl, rfl⟩, rfl⟩
theorem M_count_1 {S : SM} (hW : Wf f c t) (hS : Sm S.2.2.2.1 f c t) {b : Nat} (hb : b ≤ 3) : ∃ S', fM_countRows_1 S (nI b) = some (nI (cn t (b - 1) f), S') ∧ frm S S' := by
  have ht := hW.t12
  rw [fM_countRows_1]
  rcases Nat.lt_or_ge 1 b with h | h
  · rw [if_pos (show (1 : Int32) < nI b from nI_lt (a := 1) h (by omega))]
    rcases (show b = 2 ∨ b = 3 by omega) with rfl | rfl
    · obtain ⟨x, h1, h2⟩ := W_bits hW hS
      rw [if_pos (show (2 : Int32) = nI 2 from rfl), h1, Option.bind_some, h2, Option.bind_some]
      exact ⟨S, rfl, rfl, rfl, rfl⟩
    · rw [if_neg (by decide)]
      obtain ⟨S', e1, e2, -⟩ := M_count_1_45 hW 2000 0 0 S hS (Nat.zero_le _) (by omega)
      exact ⟨S', by rw [show fM_countRows_1_45 (nI 3) 2000 S 0 0 = _ from e1, Nat.zero_add, Nat.sub_zero, ← cn_s], e2⟩
  · rw [if_neg (show ¬ (1 : Int32) < nI b from nI_nlt (a := 1) h (by omega)), show b - 1 = 0 by omega]
    exact ⟨S, rfl, rfl, rfl, rfl⟩
theorem M_count_0_45 (hW : Wf f c t) {b : Nat} (hb2 : 2 ≤ b) (hb : b ≤ 3) : ∀ (n q a : Nat) (S : SM), Sm S.1 f c t → q ≤ t → t - q < n → ∃ S', fM_countRows_0_45 (nI b) n S (nI a) (nI q) = some (nI (a + sN (vs t (b - 1) f) (t - q) q), S') ∧ frm S S' := by
  have ht := hW.t12
  intro n
  induction n with
  | zero => intro q a S _ h1 h2; omega
  | succ n ih =>
    intro q a S hS h1 h2
    rw [fM_countRows_0_45_s, fW_threadsInAll, Option.bind_some, hS.tc]
    rcases Nat.lt_or_ge q t with h | h
    · rw [if_neg (nI_ge h (by omega)), show t - q = (t - (q + 1)) + 1 by omega, sN]
      rcases stp_c hW hS h with ⟨s1, -, s3⟩ | ⟨f1, -, -, s1, -, ⟨r, r1, r2⟩, -, -, -, -⟩
      · rw [s3, Option.bind_some, if_pos rfl, nI_1]
        obtain ⟨S', e1, e2⟩ := ih (q + 1) a S hS (by omega) (by omega)
        exact ⟨S', by rw [e1, show vs t (b - 1) f q = 0 by unfold vs; rw [s1], Nat.zero_add], e2⟩
      · rw [r2, Option.bind_some, if_neg r1]
        obtain ⟨u, hu⟩ : ∃ u, fW_become S.2.2.2.1 S.1 = some u := ⟨_, W_become _ _⟩
        have hSu := Sm_become hW hS hu
        rcases stp_c hW hSu h with ⟨z1, -, -⟩ | ⟨f2, w2, v2, z1, -, -, z4, z5, z6, -⟩
        · rw [s1] at z1; cases z1
        · have : f1 = f2 := Option.some.inj (s1.symm.trans z1)
          subst this
          obtain ⟨S2, y1, y2⟩ := M_count_1 (S := (S.1, S.2.1, S.2.2.1, w2, S.2.2.2.2.1, S.2.2.2.2.2.1, S.2.2.2.2.2.2)) z5 z6 hb
          rw [hu, Option.bind_some, z4, Option.bind_some, y1, Option.bind_some, nI_add, nI_1]
          have y3 : S2.1 = S.1 := y2.1
          obtain ⟨S', e1, e2⟩ := ih (q + 1) (a + cn t (b - 1) f1) S2 (by rw [y3]; exact hS) (by omega) (by omega)
          exact ⟨S', by rw [e1, show vs t (b - 1) f q = cn t (b - 1) f1 by unfold vs; rw [s1], Nat.add_assoc], e2.1.trans y2.1, e2.2.1.trans y2.2.1, e2.2.2.trans y2.2.2⟩
    · rw [if_pos (nI_le h (by omega)), show t - q = 0 by omega]
      exact ⟨S, rfl, rfl, rfl, rfl⟩
theorem M_count_0 {S : SM} (hW : Wf f c t) (hS : Sm S.1 f c t) {b : Nat} (hb : b ≤ 3) : ∃ S', fM_countRows_0 S (nI b) = some (nI (cn t b f), S') ∧ frm S S' := by
  have ht := hW.t12
  rw [fM_countRows_0]
  rcases Nat.lt_or_ge 0 b with h | h
  · rw [if_pos (show (0 : Int32) < nI b from nI_lt (a := 0) h (by omega))]
    rcases (show b = 1 ∨ 2 ≤ b by omega) with rfl | h2
    · obtain ⟨x, h1, h2⟩ := W_bits hW hS
      rw [if_pos (show (1 : Int32) = nI 1 from rfl), h1, Option.bind_some, h2, Option.bind_some]
      exact ⟨S, rfl, rfl, rfl, rfl⟩
    · rw [if_neg (show ¬ (1 : Int32) = nI b from fun e => by have := nI_inj (a := 1) (by omega) (by omega) e; omega)]
      obtain ⟨S', e1, e2⟩ := M_count_0_45 hW h2 hb 2000 0 0 S hS (Nat.zero_le _) (by omega)
      refine ⟨S', ?_, e2⟩
      obtain ⟨b', rfl⟩ : ∃ b', b = b' + 1 := ⟨b - 1, by omega⟩
      rw [show fM_countRows_0_45 (nI (b' + 1)) 2000 S 0 0 = _ from e1, Nat.zero_add, Nat.sub_zero, Nat.add_sub_cancel, ← cn_s]
  · rw [if_neg (show ¬ (0 : Int32) < nI b from nI_nlt (a := 0) h (by omega)), show b = 0 by omega]
    exact ⟨S, rfl, rfl, rfl, rfl⟩
end MROW
theorem Rel_frm {S S' : SM} {g g' : SR} (h : Rel S g) (h1 : frm S S') (h2 : g'.1 = g.1) (h3 : g'.2.1 = g.2.1) (h4 : g'.2.2.2.1 = g.2.2.2.1) : Rel S' g' := by
  obtain ⟨⟨c, t, hW, hS⟩, i1, i2⟩ := h
  refine ⟨⟨c, t, by rw [h2]; exact hW, by rw [h2, h1.1]; exact hS⟩, by rw [h1.2.2, h4]; exact i1, ?_⟩
  rw [h1.2.2, h1.2.1, h3]; exact i2
theorem k_rows {S : SM} {g : SR} {a1 : Int32} (h : Rel S g) : moOK (fM_rows S a1) (fR_rows g a1) := by
  have hR := h
  obtain ⟨⟨c, t, hW, hS⟩, hI⟩ := h
  rcases pk_ix a1 (n := 4) (by omega) with h1 | h1 | ⟨b, hb, rfl⟩
  · refine mo_i (v := -2) (S := S) (g := g) (by rw [fM_rows, if_pos h1]) (by rw [fR_rows, fR_between, if_pos h1, Option.bind_some, if_pos rfl]) hR
  · have h1 : (4 : Int32) ≤ a1 := h1
    rw [fa_le] at h1
    have e4 : (4 : Int32).toInt = 4 := by decide
    have e3 : (3 : Int32).toInt = 3 := by decide
    have e0 : (0 : Int32).toInt = 0 := by decide
    have n0 : ¬ a1 < 0 := by rw [fa_lt]; omega
    have n3 : ¬ a1 ≤ 3 := by rw [fa_le]; omega
    have n4 : (3 : Int32) < a1 := by rw [fa_lt]; omega
    exact mo_i (v := -2) (S := S) (g := g) (by rw [fM_rows, if_neg n0, if_neg n3]) (by rw [fR_rows, fR_between, if_neg n0, if_pos n4, Option.bind_some, if_pos rfl]) hR
  · obtain ⟨kp, rw1, e1⟩ := R_rows hW hS (show b ≤ 3 by omega) g.2
    obtain ⟨S', e2, e3⟩ := M_count_0 hW hS (show b ≤ 3 by omega)
    exact mo_i (v := nI (cn t b g.1)) (S := S') (by rw [fM_rows, if_neg (nI_nn (by omega)), if_pos (show nI b ≤ (3 : Int32) from nI_le (b := 3) (by omega) (by omega)), e2, Option.bind_some]) e1 (Rel_frm hR e3 rfl rfl rfl)
