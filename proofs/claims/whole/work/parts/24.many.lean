/-! ===== how many ===== -/
def ctF (P : Nat → Bool) : Nat → Nat → Nat
  | 0, _ => 0
  | n + 1, lo => (if P lo = true then 1 else 0) + ctF P n (lo + 1)
theorem ctF_congr {P Q : Nat → Bool} : ∀ (n lo : Nat), (∀ i, lo ≤ i → i < lo + n → P i = Q i) → ctF P n lo = ctF Q n lo := by
  intro n
  induction n with
  | zero => intro lo _; rfl
  | succ n ih =>
    intro lo h
    rw [ctF, ctF, h lo (Nat.le_refl _) (by omega), ih _ (fun i h1 h2 => h i (by omega) (by omega))]
theorem ctF_le {P : Nat → Bool} : ∀ (n lo : Nat), ctF P n lo ≤ n := by
  intro n
  induction n with
  | zero => intro lo; exact Nat.le_refl _
  | succ n ih => intro lo; rw [ctF]; have := ih (lo + 1); split <;> omega
theorem ctF_not {P : Nat → Bool} : ∀ (n lo : Nat), ctF P n lo + ctF (fun i => !P i) n lo = n := by
  intro n
  induction n with
  | zero => intro lo; rfl
  | succ n ih =>
    intro lo
    have := ih (lo + 1)
    rw [ctF, ctF]
    cases h : P lo
    · simp; omega
    · simp; omega
theorem ctF_no {P : Nat → Bool} : ∀ (n lo : Nat), (∀ i, lo ≤ i → i < lo + n → P i = false) → ctF P n lo = 0 := by
  intro n
  induction n with
  | zero => intro lo _; rfl
  | succ n ih =>
    intro lo h
    rw [ctF, h lo (Nat.le_refl _) (by omega), ih (lo + 1) (fun i h1 h2 => h i (by omega) (by omega))]; rfl
theorem ctF_app {P : Nat → Bool} : ∀ (m n lo : Nat), ctF P (m + n) lo = ctF P m lo + ctF P n (lo + m) := by
  intro m
  induction m with
  | zero => intro n lo; rw [Nat.zero_add, ctF, Nat.zero_add, Nat.add_zero]
  | succ m ih =>
    intro n lo
    rw [show m + 1 + n = (m + n) + 1 by omega, ctF, ctF, ih n (lo + 1), show lo + 1 + m = lo + (m + 1) by omega]; omega
theorem smF_app {v : Nat → Int32} : ∀ (m n lo : Nat) (a : Int32), smF v (m + n) lo a = smF v n (lo + m) (smF v m lo a) := by
  intro m
  induction m with
  | zero => intro n lo a; rw [Nat.zero_add]; rfl
  | succ m ih =>
    intro n lo a
    rw [show m + 1 + n = (m + n) + 1 by omega, smF, smF, ih n (lo + 1), show lo + 1 + m = lo + (m + 1) by omega]
theorem smF_no {v : Nat → Int32} : ∀ (n lo : Nat) (a : Int32), (∀ i, lo ≤ i → i < lo + n → v i = 0) → smF v n lo a = a := by
  intro n
  induction n with
  | zero => intro lo a _; rfl
  | succ n ih =>
    intro lo a h
    rw [smF, h lo (Nat.le_refl _) (by omega), Int32.add_zero]
    exact ih _ _ (fun i h1 h2 => h i (by omega) (by omega))
theorem bc_all2 : ∀ a, a < 64 → ∀ b, b < 64 → fJ_bitCount (nI (64 * a + b)) = some (nI (ctF (fun i => (64 * a + b).testBit i) 12 0)) := by decide +kernel
theorem bc_all : ∀ G, G < 4096 → fJ_bitCount (nI G) = some (nI (ctF (fun i => G.testBit i) 12 0)) := by
  intro G hG
  have := bc_all2 (G / 64) (by omega) (G % 64) (by omega)
  rw [show 64 * (G / 64) + G % 64 = G by omega] at this
  exact this
theorem bt_nI (G i : Nat) (hi : i < 32) : bt (nI G) i = G.testBit i := by
  show (BitVec.ofNat 32 G).getLsbD i = _
  rw [BitVec.getLsbD_ofNat, decide_eq_true hi, Bool.true_and]
theorem small_set {x : Int32} (h : ∀ i, 12 ≤ i → i < 32 → bt x i = false) : ∃ G, G < 4096 ∧ x = nI G := by
  refine ⟨x.toBitVec.toNat, ?_, ?_⟩
  · apply Nat.lt_pow_two_of_testBit (n := 12)
    intro i hi
    rcases Nat.lt_or_ge i 32 with h2 | h2
    · exact h i hi h2
    · exact Nat.testBit_lt_two_pow (Nat.lt_of_lt_of_le x.toBitVec.isLt (Nat.pow_le_pow_right (by omega) h2))
  · apply b_ext
    intro i hi
    rw [bt_nI _ i hi]; rfl
theorem bc_set {x : Int32} (h : ∀ i, 12 ≤ i → i < 32 → bt x i = false) : fJ_bitCount x = some (nI (ctF (fun i => bt x i) 12 0)) := by
  obtain ⟨G, hG, rfl⟩ := small_set h
  rw [bc_all G hG, ctF_congr 12 0 (fun i _ h2 => (bt_nI G i (by omega)).symm)]
section MANY
variable {g : SR} {w : SW} {c t : Nat}
theorem R_manyPlaces_L (hW : Wf g.1 c t) : ∀ (n q k : Nat), q ≤ c → c - q < n → fR_manyPlaces_4 g n (nI k) (nI q) = some (nI (k + ctF (fun i => !bt (g.1 2) i) (c - q) q)) := by
  have hc := hW.c12
  intro n
  induction n with
  | zero => intro q k h1 h2; omega
  | succ n ih =>
    intro q k h1 h2
    rw [fR_manyPlaces_4_s, ld_0, hW.c0]
    rcases Nat.lt_or_ge q c with h | h
    · rw [if_neg (nI_ge h (by omega)), show c - q = (c - (q + 1)) + 1 by omega, ctF]
      by_cases hl : lvp g.1 c q
      · rw [R_isPlace_l hW hl, Option.bind_some, if_neg n10, nI_1, nI_1, ih (q + 1) (k + 1) (by omega) (by omega), if_pos (by simp [hl.2]), Nat.add_assoc]
      · have hb : bt (g.1 2) q = true := by
          cases hb : bt (g.1 2) q
          · exact absurd ⟨h, hb⟩ hl
          · rfl
        rw [R_isPlace_g hW h hl, Option.bind_some, if_pos rfl, Int32.add_zero, nI_1, ih (q + 1) k (by omega) (by omega), if_neg (by simp [hb]), Nat.zero_add]
    · rw [if_pos (nI_le h (by omega)), show c - q = 0 by omega]; rfl
theorem W_placesThatAre {f : Nat → Int32} (hW : Wf f c t) (hS : Sm w f c t) : fW_placesThatAre w = some (nI (ctF (fun i => !bt (f 2) i) c 0)) := by
  have hc := hW.c12
  have e := ctF_not (P := fun i => bt (f 2) i) c 0
  have e2 : ctF (fun i => bt (f 2) i) 12 0 = ctF (fun i => bt (f 2) i) c 0 := by
    have := ctF_app (P := fun i => bt (f 2) i) c (12 - c) 0
    rw [show c + (12 - c) = 12 by omega] at this
    rw [this, ctF_no (12 - c) (0 + c) (fun i h1 _ => hW.gone (by omega)), Nat.add_zero]
  rw [fW_placesThatAre, hS.gs, bc_set (fun i h1 _ => hW.gone (by omega)), Option.bind_some, hS.pc, e2, pk_sub (ctF_le _ _), show c - ctF (fun i => bt (f 2) i) c 0 = ctF (fun i => !bt (f 2) i) c 0 by omega]
theorem R_manyOver_L (hW : Wf g.1 c t) : ∀ (n q k : Nat), q ≤ t → t - q < n → fR_manyOver_4 g n (nI k) (nI q) = some (nI (k + ctF (fun i => decide (g.1 (135 + i) = g.1 (123 + i))) (t - q) q)) := by
  have ht := hW.t12
  intro n
  induction n with
  | zero => intro q k h1 h2; omega
  | succ n ih =>
    intro q k h1 h2
    rw [fR_manyOver_4_s, ld_1, hW.t0]
    rcases Nat.lt_or_ge q t with h | h
    · rw [if_neg (nI_ge h (by omega)), show t - q = (t - (q + 1)) + 1 by omega, ctF, R_isOver (by omega), Option.bind_some]
      by_cases e : g.1 (135 + q) = g.1 (123 + q)
      · rw [if_pos e, if_neg n10, nI_1, nI_1, ih (q + 1) (k + 1) (by omega) (by omega), if_pos (by simp [e]), Nat.add_assoc]
      · rw [if_neg e, if_pos rfl, Int32.add_zero, nI_1, ih (q + 1) k (by omega) (by omega), if_neg (by simp [e]), Nat.zero_add]
    · rw [if_pos (nI_le h (by omega)), show t - q = 0 by omega]; rfl
theorem W_threadsOver_L {f : Nat → Int32} (hW : Wf f c t) (hS : Sm w f c t) : ∀ (n q k : Nat), q ≤ t → t - q < n → fW_threadsOver_4 w n (nI k) (nI q) = some (nI (k + ctF (fun i => decide (f (135 + i) = f (123 + i))) (t - q) q)) := by
  have ht := hW.t12
  intro n
  induction n with
  | zero => intro q k h1 h2; omega
  | succ n ih =>
    intro q k h1 h2
    rw [fW_threadsOver_4_s, hS.tc]
    rcases Nat.lt_or_ge q t with h | h
    · obtain ⟨p, m, d, k1, k2, k3, k4, k5, k6, k7, k8⟩ := hW.th h
      rw [if_neg (nI_ge h (by omega)), show t - q = (t - (q + 1)) + 1 by omega, ctF, W_isOver hW hS h k4 k6 k3.2 k5, Option.bind_some]
      by_cases e : f (135 + q) = f (123 + q)
      · rw [if_pos e, if_neg n10, nI_1, nI_1, ih (q + 1) (k + 1) (by omega) (by omega), if_pos (by simp [e]), Nat.add_assoc]
      · rw [if_neg e, if_pos rfl, nI_1, ih (q + 1) k (by omega) (by omega), if_neg (by simp [e]), Nat.zero_add]
    · rw [if_pos (nI_le h (by omega)), show t - q = 0 by omega]; rfl
def msV (f : Nat → Int32) (c i : Nat) : Int32 := if (decide (i / 6 < c) && !bt (f 2) (i / 6)) = true then f (39 + i) else 0
theorem msV_l {f : Nat → Int32} {p n : Nat} (h : lvp f c p) (hn : n < 6) : msV f c (6 * p + n) = f (39 + 6 * p + n) := by
  unfold msV
  rw [show (6 * p + n) / 6 = p by omega, if_pos (by simp [h.1, h.2]), show 39 + (6 * p + n) = 39 + 6 * p + n by omega]
theorem msV_g {f : Nat → Int32} {p n : Nat} (h : ¬ lvp f c p) (hn : n < 6) : msV f c (6 * p + n) = 0 := by
  unfold msV
  rw [show (6 * p + n) / 6 = p by omega, if_neg]
  intro q
  simp only [Bool.and_eq_true, decide_eq_true_eq, Bool.not_eq_true'] at q
  exact h q
theorem R_manyMessages_L (hW : Wf g.1 c t) : ∀ (n x : Nat) (a : Int32), x ≤ 72 → 72 - x < n → fR_manyMessages_4 g n a (nI x) = some (smF (msV g.1 c) (72 - x) x a) := by
  have hc := hW.c12
  intro n
  induction n with
  | zero => intro q k h1 h2; omega
  | succ n ih =>
    intro x a h1 h2
    rw [fR_manyMessages_4_s]
    rcases Nat.lt_or_ge x 72 with h | h
    · rw [if_neg (show ¬ (72 : Int32) ≤ nI x from nI_ge (b := 72) h (by omega)), show 72 - x = (72 - (x + 1)) + 1 by omega, smF, show nI x / 6 = nI (x / 6) from pk_div (d := 6) (by omega) (by omega) (by omega)]
      have ex : x = 6 * (x / 6) + x % 6 := by omega
      by_cases hl : lvp g.1 c (x / 6)
      · have e := msV_l (n := x % 6) hl (by omega)
        rw [← ex, show 39 + 6 * (x / 6) + x % 6 = 39 + x by omega] at e
        rw [R_isPlace_l hW hl, Option.bind_some, if_neg n10, e_39, ld_n (by omega) (by omega), nI_1, ih (x + 1) _ (by omega) (by omega), e]
      · have e := msV_g (n := x % 6) hl (by omega)
        rw [← ex] at e
        rw [R_isPlace_o hW (fun j hj q => hl (by have := hj.1; rw [nI_inj (by omega) (by omega) q]; exact hj)), Option.bind_some, if_pos rfl, nI_1, ih (x + 1) _ (by omega) (by omega), e]
    · have : x = 72 := by omega
      subst this
      rw [if_pos (show (72 : Int32) ≤ nI 72 by decide)]; rfl
theorem W_msgAll_14 {f : Nat → Int32} (hW : Wf f c t) (hS : Sm w f c t) {p : Nat} (hp : p < c) (kk : Int32 → Option Int32) : ∀ (n k : Nat) (a : Int32), k ≤ 6 → 6 - k < n → fW_messagesInAll_14 w (nI p) kk n a (nI k) = kk (smF (msV f c) (6 - k) (6 * p + k) a) := by
  intro n
  induction n with
  | zero => intro q k h1 h2; omega
  | succ n ih =>
    intro k a h1 h2
    rw [fW_messagesInAll_14_s]
    rcases Nat.lt_or_ge k 6 with h | h
    · rw [if_neg (show ¬ (6 : Int32) ≤ nI k from nI_ge (b := 6) h (by omega)), show 6 - k = (6 - (k + 1)) + 1 by omega, smF]
      by_cases hl : lvp f c p
      · rw [W_messagesOf_l hW hS hl h, Option.bind_some, nI_1, ih (k + 1) _ (by omega) (by omega), msV_l hl h]; rfl
      · have hc := hW.c12
        rw [W_messagesOf_o hW hS (fun j hj q => hl (by have := hj.1; rw [nI_inj (by omega) (by omega) q]; exact hj)), Option.bind_some, nI_1, ih (k + 1) _ (by omega) (by omega), msV_g hl h]; rfl
    · have : k = 6 := by omega
      subst this
      rw [if_pos (show (6 : Int32) ≤ nI 6 by decide)]; rfl
theorem W_msgAll_4 {f : Nat → Int32} (hW : Wf f c t) (hS : Sm w f c t) : ∀ (n p : Nat) (a : Int32), p ≤ c → c - p < n → fW_messagesInAll_4 w n a (nI p) = some (smF (msV f c) (6 * (c - p)) (6 * p) a) := by
  have hc := hW.c12
  intro n
  induction n with
  | zero => intro q k h1 h2; omega
  | succ n ih =>
    intro p a h1 h2
    rw [fW_messagesInAll_4_s, hS.pc]
    rcases Nat.lt_or_ge p c with h | h
    · rw [if_neg (nI_ge h (by omega)), show ∀ kk a, fW_messagesInAll_14 w (nI p) kk 2000 a 0 = _ from fun kk a => W_msgAll_14 hW hS h kk 2000 0 a (by omega) (by omega), nI_1]
      show fW_messagesInAll_4 w n _ (nI (p + 1)) = _
      rw [ih (p + 1) _ (by omega) (by omega), show 6 * (c - p) = 6 + 6 * (c - (p + 1)) by omega, smF_app]; rfl
    · rw [if_pos (nI_le h (by omega)), show c - p = 0 by omega]; rfl
end MANY
theorem k_many {S : SM} {g : SR} {a1 : Int32} (h : Rel S g) : roOK (fM_many S a1) (fR_many g a1) := by
  obtain ⟨⟨c, t, hW, hS⟩, hI⟩ := h
  have hc := hW.c12; have ht := hW.t12
  rw [fM_many, fR_many]
  by_cases e0 : a1 = 0
  · rw [if_pos e0, if_pos e0, W_placesThatAre hW hS, fR_manyPlaces, show fR_manyPlaces_4 g 2000 0 0 = _ from R_manyPlaces_L hW 2000 0 0 (Nat.zero_le _) (by omega), Option.bind_some, Option.bind_some, Nat.zero_add]; exact ro_i rfl rfl
  rw [if_neg e0, if_neg e0]
  by_cases e1 : a1 = 1
  · rw [if_pos e1, if_pos e1, fW_threadsInAll, Option.bind_some, ld_1, hS.tc, hW.t0]; exact ro_i rfl rfl
  rw [if_neg e1, if_neg e1]
  by_cases e2 : a1 = 2
  · rw [if_pos e2, if_pos e2, fW_threadsOver, show fW_threadsOver_4 S.1 2000 0 0 = _ from W_threadsOver_L hW hS 2000 0 0 (Nat.zero_le _) (by omega), fR_manyOver, show fR_manyOver_4 g 2000 0 0 = _ from R_manyOver_L hW 2000 0 0 (Nat.zero_le _) (by omega), Option.bind_some]; exact ro_i rfl rfl
  rw [if_neg e2, if_neg e2]
  by_cases e3 : a1 = 3
  · rw [if_pos e3, if_pos e3, fW_placesInAll, Option.bind_some, ld_0, hS.pc, hW.c0]; exact ro_i rfl rfl
  rw [if_neg e3, if_neg e3]
  by_cases e4 : a1 = 4
  · have e : smF (msV g.1 c) 72 0 0 = smF (msV g.1 c) (6 * c) 0 0 := by
      have := smF_app (v := msV g.1 c) (6 * c) (72 - 6 * c) 0 0
      rw [show 6 * c + (72 - 6 * c) = 72 by omega] at this
      rw [this]
      refine smF_no _ _ _ (fun i h1 h2 => ?_)
      have := msV_g (f := g.1) (c := c) (p := i / 6) (n := i % 6) (fun q => by have := q.1; omega) (by omega)
      rw [show 6 * (i / 6) + i % 6 = i by omega] at this
      exact this
    rw [if_pos e4, if_pos e4, fW_messagesInAll, show fW_messagesInAll_4 S.1 2000 0 0 = _ from W_msgAll_4 hW hS 2000 0 0 (Nat.zero_le _) (by omega), fR_manyMessages, show fR_manyMessages_4 g 2000 0 0 = _ from R_manyMessages_L hW 2000 0 0 (Nat.zero_le _) (by omega), Option.bind_some, Option.bind_some]
    exact ro_i (v := smF (msV g.1 c) (6 * c) 0 0) rfl (congrArg some e)
  rw [if_neg e4, if_neg e4]
  by_cases e5 : a1 = 5
  · rw [if_pos e5, if_pos e5, hI.1]
    split
    · exact ro_i rfl rfl
    · exact ro_i rfl rfl
  rw [if_neg e5, if_neg e5]; exact ro_i rfl rfl
