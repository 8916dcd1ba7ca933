/-! ===== what moves ===== -/
def mvX (x s sd : Int32) : Bool := decide (x / 10 = 1) || (decide (x / 10 = 2) || (decide (x / 10 = 3) && (if x - x / 10 * 10 = 9 then !decide (s &&& sd = 0) else decide (((s >>> ((x - x / 10 * 10) &&& 31)) &&& 1) = 1))))
theorem R_isMove (x s sd : Int32) : fR_isMove x s sd = some (b2i (mvX x s sd)) := by
  unfold fR_isMove mvX fR_has
  generalize x - x / 10 * 10 = r
  generalize x / 10 = q
  by_cases h1 : q = 1
  · subst h1
    rw [if_neg (by decide), if_pos rfl]; rfl
  by_cases h2 : q = 2
  · subst h2
    rw [if_neg (by decide), if_neg (by decide), if_pos rfl]; rfl
  rw [decide_eq_false h1, decide_eq_false h2, Bool.false_or, Bool.false_or]
  by_cases h3 : q = 3
  · rw [if_pos h3, decide_eq_true h3, Bool.true_and]
    by_cases h9 : r = 9
    · rw [if_pos h9, if_pos h9]
      by_cases e : s &&& sd = 0
      · rw [if_pos e, if_neg h1, if_neg h2, decide_eq_true e]; rfl
      · rw [if_neg e, if_neg h1, if_neg h2, decide_eq_false e]; rfl
    · rw [if_neg h9, if_neg h9]
      by_cases e : ((s >>> (r &&& 31)) &&& 1) = 1
      · rw [if_pos e, Option.bind_some, if_neg n10, if_neg h1, if_neg h2, decide_eq_true e]; rfl
      · rw [if_neg e, Option.bind_some, if_pos rfl, if_neg h1, if_neg h2, decide_eq_false e]; rfl
  · rw [if_neg h3, if_neg h1, if_neg h2, decide_eq_false h3]; rfl
theorem and_cm (a b : Int32) : a &&& b = b &&& a := b_ext fun i hi => by rw [b_and, b_and, Bool.and_comm]
theorem sg_and {d : Nat} (hd : d < 31) (s : Int32) : ((1 <<< (nI d &&& 31)) &&& s = 0) ↔ ¬ ((s >>> (nI d &&& 31)) &&& 1) = 1 := by
  rw [sh_bit hd]
  constructor
  · intro h e
    have h1 : bt ((1 <<< (nI d &&& 31)) &&& s) d = false := by rw [h, b_0]
    rw [b_and, b_one (by omega) (by omega), decide_eq_true rfl, Bool.true_and] at h1
    rw [if_neg (by rw [h1]; decide)] at e
    exact absurd e (by decide)
  · intro h
    have hb : bt s d = false := by
      cases hx : bt s d with
      | false => rfl
      | true => rw [if_pos hx] at h; exact absurd rfl h
    apply b_ext
    intro i hi
    rw [b_and, b_one (by omega) hi, b_0]
    by_cases e : i = d
    · rw [e, hb, Bool.and_false]
    · rw [decide_eq_false e, Bool.false_and]
theorem W_mv {a : Nat} (ha : okA a) (s sd : Int32) {A B : Option Int32} : (if (nI a / 10) = 1 then A else (if (nI a / 10) = 2 then A else (if (nI a - nI a / 10 * 10) = 9 then (if (nI a / 10) = 3 then (if (sd &&& s) = 0 then B else A) else B) else mp_lt (1 <<< ((nI a - nI a / 10 * 10) &&& 31)) fun x7 => (if (nI a / 10) = 3 then (if (x7 &&& s) = 0 then B else A) else B)))) = if mvX (nI a) s sd = true then A else B := by
  have h5 : a ≤ 50 := by unfold okA at ha; omega
  unfold mvX
  rw [e_m10 (by omega), e_d10 (by omega)]
  by_cases h1 : nI (a / 10) = 1
  · rw [if_pos h1, decide_eq_true h1, Bool.true_or, if_pos rfl]
  by_cases h2 : nI (a / 10) = 2
  · rw [if_neg h1, if_pos h2, decide_eq_true h2, Bool.true_or, Bool.or_true, if_pos rfl]
  rw [if_neg h1, if_neg h2, decide_eq_false h1, decide_eq_false h2, Bool.false_or, Bool.false_or, mp_lt]
  by_cases h3 : nI (a / 10) = 3
  · have h3' : a / 10 = 3 := nI_inj (b := 3) (by omega) (by omega) h3
    rw [if_pos h3, if_pos h3, decide_eq_true h3, Bool.true_and]
    by_cases h9 : nI (a % 10) = 9
    · rw [if_pos h9, if_pos h9, and_cm sd s]
      by_cases e : s &&& sd = 0
      · rw [if_pos e, decide_eq_true e]; rfl
      · rw [if_neg e, decide_eq_false e]; rfl
    · rw [if_neg h9, if_neg h9]
      by_cases e : ((s >>> (nI (a % 10) &&& 31)) &&& 1) = 1
      · rw [if_neg (fun q => (sg_and (by omega) s).mp q e), decide_eq_true e, if_pos rfl]
      · rw [if_pos ((sg_and (by omega) s).mpr e), decide_eq_false e]; rfl
  · rw [if_neg h3, if_neg h3, ite_self, decide_eq_false h3]; rfl
def mvB (f : Nat → Int32) (s sd : Int32) (j k : Nat) : Bool := mvX (f (159 + 6 * j + k)) s sd
def MV (f : Nat → Int32) (s sd : Int32) (j : Nat) : Int32 := if f (111 + j) = 0 then 0 else kif (anB (mvB f s sd j) ((f (123 + j)).toNatClampNeg - (f (135 + j)).toNatClampNeg) (f (135 + j)).toNatClampNeg) (1 <<< (f (3 + (f (111 + j)).toNatClampNeg) &&& 31))
section RMOV
variable {g : SR} {c t : Nat} {s sd : Int32}
theorem R_mov55 {j m p : Nat} (hj : j < 12) (hp0 : p ≠ 0) (hp : p < 12) (hm : g.1 (123 + j) = nI m) (h6 : m ≤ 6) (kk : Int32 → Option Int32) : ∀ (n k : Nat) (a : Int32), k ≤ m → m - k < n → fR_moves_55 g sd s (nI j) (nI p) kk n a (nI k) = kk (a ||| orN (fun k => kif (mvB g.1 s sd j k) (1 <<< (g.1 (3 + p) &&& 31))) (m - k) k) := by
  intro n
  induction n with
  | zero => intro k a h1 h2; omega
  | succ n ih =>
    intro k a h1 h2
    rw [fR_moves_55_s, e_123, ld_n (by omega) (by omega), hm]
    rcases Nat.lt_or_ge k m with h | h
    · rw [if_neg (nI_ge h (by omega)), if_neg (show ¬ nI p = 0 from fun e => hp0 (nI_inj (b := 0) (by omega) (by omega) e)), e_159, ld_n (by omega) (by omega), R_isMove, Option.bind_some, show m - k = (m - (k + 1)) + 1 by omega, orN, ← or_as]
      by_cases e : mvX (g.1 (159 + 6 * j + k)) s sd = true
      · rw [b2i_t e, if_neg n10, e_3, ld_n (by omega) (by omega), mp_lt, nI_1, ih (k + 1) _ (by omega) (by omega), kif_t (show mvB g.1 s sd j k = true from e)]
      · rw [b2i_f e, if_pos rfl, nI_1, ih (k + 1) _ (by omega) (by omega), kif_f (show ¬ mvB g.1 s sd j k = true from e)]
    · rw [if_pos (nI_le h (by omega)), show m - k = 0 by omega, orN, or_0]
theorem R_mov55_0 {j m d : Nat} (hj : j < 12) (hm : g.1 (123 + j) = nI m) (kk : Int32 → Option Int32) (n : Nat) (a : Int32) : fR_moves_55 g sd s (nI j) 0 kk (n + 1) a (nI d) = kk a := by
  rw [fR_moves_55_s, e_123, ld_n (by omega) (by omega), if_pos rfl, ite_self]
theorem R_mov19 (hW : Wf g.1 c t) (kk : Int32 → Option Int32) : ∀ (n j : Nat) (a : Int32), j ≤ t → t - j < n → fR_moves_19 g sd s kk n a (nI j) = kk (a ||| orN (MV g.1 s sd) (t - j) j) := by
  have ht := hW.t12
  have hc := hW.c12
  intro n
  induction n with
  | zero => intro j a h1 h2; omega
  | succ n ih =>
    intro j a h1 h2
    rw [fR_moves_19_s, ld_1, hW.t0]
    rcases Nat.lt_or_ge j t with h | h
    · obtain ⟨p, m, d, k1, k2, k3, k4, k5, k6, k7, k8⟩ := hW.th h
      have hp := k1.1
      rw [if_neg (nI_ge h (by omega)), e_111, ld_n (by omega) (by omega), e_135, ld_n (by omega) (by omega), k2, k6, show t - j = (t - (j + 1)) + 1 by omega, orN, ← or_as]
      by_cases e : p = 0
      · subst e
        rw [show fR_moves_55 g sd s (nI j) (nI 0) (fun y5 => fR_moves_19 g sd s kk n y5 (nI j + 1)) 2000 a (nI d) = _ from R_mov55_0 (by omega) k4 _ 1999 a, nI_1, ih (j + 1) _ (by omega) (by omega), show MV g.1 s sd j = 0 by unfold MV; rw [k2]; rfl, or_0]
      · rw [R_mov55 (by omega) e (by omega) k4 k3.2 _ 2000 d a k5 (by omega), nI_1, ih (j + 1) _ (by omega) (by omega), orN_c, show MV g.1 s sd j = _ by unfold MV; rw [k2, k4, k6, nI_clamp (by omega), nI_clamp (by omega), nI_clamp (by omega), if_neg (show ¬ nI p = 0 from fun z => e (nI_inj (b := 0) (by omega) (by omega) z))]]
    · rw [if_pos (nI_le h (by omega)), show t - j = 0 by omega, orN, or_0]
end RMOV
section WMOV
variable {w : SW} {f : Nat → Int32} {c t : Nat} {s sd : Int32}
theorem W_brings (hW : Wf f c t) (hS : Sm w f c t) {j m : Nat} (hj : j < t) (hm : f (123 + j) = nI m) (h6 : m ≤ 6) (hk : ∀ k, k < m → ∃ a, okA a ∧ f (159 + 6 * j + k) = nI a) : ∀ (n k : Nat), k ≤ m → m - k < n → fW_bringsMotion_7 w (nI j) s sd n (nI k) = some (b2i (anB (mvB f s sd j) (m - k) k)) := by
  intro n
  induction n with
  | zero => intro k h1 h2; omega
  | succ n ih =>
    intro k h1 h2
    rw [fW_bringsMotion_7_s, W_actsInAll hW hS hj, Option.bind_some, hm]
    rcases Nat.lt_or_ge k m with h | h
    · obtain ⟨b, hb, eb⟩ := hk k h
      rw [if_neg (nI_ge h (by omega)), W_actOf hW hS hj hm h6 h, Option.bind_some, show m - k = (m - (k + 1)) + 1 by omega, anB, eb, W_mv hb]
      by_cases e : mvX (nI b) s sd = true
      · rw [if_pos e, show mvB f s sd j k = true by unfold mvB; rw [eb]; exact e]; rfl
      · rw [if_neg e, nI_1, ih (k + 1) (by omega) (by omega), show mvB f s sd j k = false by unfold mvB; rw [eb]; exact Bool.eq_false_iff.mpr e, Bool.false_or]
    · rw [if_pos (nI_le h (by omega)), show m - k = 0 by omega]; rfl
theorem W_mov5 (hW : Wf f c t) (hS : Sm w f c t) : ∀ (n j : Nat) (a : Int32), j ≤ t → t - j < n → fW_namesMovedFrom_5 w s sd n a (nI j) = some (a ||| orN (MV f s sd) (t - j) j) := by
  have ht := hW.t12
  have hc := hW.c12
  intro n
  induction n with
  | zero => intro j a h1 h2; omega
  | succ n ih =>
    intro j a h1 h2
    rw [fW_namesMovedFrom_5_s, hS.tc]
    rcases Nat.lt_or_ge j t with h | h
    · obtain ⟨p, m, d, k1, k2, k3, k4, k5, k6, k7, k8⟩ := hW.th h
      have hp := k1.1
      rw [if_neg (nI_ge h (by omega)), ld_n (by omega) (by omega), (hS.th h).1, k2, W_nameOf_l hW hS k1, Option.bind_some, show t - j = (t - (j + 1)) + 1 by omega, orN, ← or_as]
      by_cases e : p = 0
      · subst e
        rw [show f (3 + 0) = -9 from hW.name0, show fM_isName (-9) = some 0 by decide, Option.bind_some, if_pos rfl, nI_1, ih (j + 1) _ (by omega) (by omega), show MV f s sd j = 0 by unfold MV; rw [k2]; rfl, or_0]
      · obtain ⟨x, hx, ex⟩ := hW.name (show 1 ≤ p by omega) hp
        have eM : MV f s sd j = kif (anB (mvB f s sd j) (m - d) d) (1 <<< (nI x &&& 31)) := by
          unfold MV; rw [k2, k4, k6, nI_clamp (by omega), nI_clamp (by omega), nI_clamp (by omega), if_neg (show ¬ nI p = 0 from fun z => e (nI_inj (b := 0) (by omega) (by omega) z)), ex]
        rw [ex, M_isName_n hx, Option.bind_some, if_neg n10, fW_bringsMotion, W_actsDone hW hS h, Option.bind_some, k6, W_brings hW hS h k4 k3.2 k8 2000 d k5 (by omega), Option.bind_some, eM]
        by_cases q : anB (mvB f s sd j) (m - d) d = true
        · rw [b2i_t q, if_neg n10, mp_lt, nI_1, ih (j + 1) _ (by omega) (by omega), kif_t q]
        · rw [b2i_f q, if_pos rfl, nI_1, ih (j + 1) _ (by omega) (by omega), kif_f q, or_0]
    · rw [if_pos (nI_le h (by omega)), show t - j = 0 by omega, orN, or_0]
end WMOV
/-! ===== six rounds are enough ===== -/
def Gs (f : Nat → Int32) (t : Nat) (sd s : Int32) : Int32 := s ||| orN (MV f s sd) t 0
def itG (f : Nat → Int32) (t : Nat) (sd : Int32) : Nat → Int32 → Int32
  | 0, s => s
  | n + 1, s => itG f t sd n (Gs f t sd s)
def cn6 (s : Int32) : Nat := (bt s 0).toNat + (bt s 1).toNat + (bt s 2).toNat + (bt s 3).toNat + (bt s 4).toNat + (bt s 5).toNat
def sml (s : Int32) : Prop := ∀ i, 6 ≤ i → i < 32 → bt s i = false
section SIX
variable {f : Nat → Int32} {c t : Nat} {sd : Int32}
theorem MV_sml (hW : Wf f c t) (s : Int32) {j : Nat} (hj : j < t) : sml (MV f s sd j) := by
  intro i h1 h2
  obtain ⟨p, m, d, k1, k2, k3, k4, k5, k6, k7, k8⟩ := hW.th hj
  have hp := k1.1
  have hc := hW.c12
  unfold MV
  by_cases e : p = 0
  · subst e; rw [k2, if_pos (show nI 0 = 0 from rfl), b_0]
  · obtain ⟨x, hx, ex⟩ := hW.name (show 1 ≤ p by omega) hp
    rw [k2, nI_clamp (by omega), ex]
    cases hb : bt _ i with
    | false => rfl
    | true =>
      rw [if_neg (show ¬ nI p = 0 from fun z => e (nI_inj (b := 0) (by omega) (by omega) z)), kif_bit, b_one (by omega) h2, decide_eq_true_eq] at hb
      omega
theorem Gs_sml (hW : Wf f c t) {s : Int32} (h : sml s) : sml (Gs f t sd s) := by
  intro i h1 h2
  unfold Gs
  rw [b_or, h i h1 h2, Bool.false_or]
  cases hb : bt (orN (MV f s sd) t 0) i with
  | false => rfl
  | true =>
    obtain ⟨j, q1, q2, q3⟩ := (orN_bit i t 0).mp hb
    rw [MV_sml hW s (show j < t by omega) i h1 h2] at q3
    exact q3.symm
theorem Gs_up (s : Int32) (i : Nat) : (bt s i).toNat ≤ (bt (Gs f t sd s) i).toNat := by
  unfold Gs
  rw [b_or]
  cases bt s i with
  | false => exact Nat.zero_le _
  | true => rw [Bool.true_or]; exact Nat.le_refl _
theorem toNat_i {a b : Bool} (h : a.toNat = b.toNat) : a = b := by cases a <;> cases b <;> first | rfl | (exact absurd h (by decide))
theorem cn6_up (hW : Wf f c t) {s : Int32} (h : sml s) (hne : Gs f t sd s ≠ s) : cn6 s < cn6 (Gs f t sd s) := by
  have h0 := Gs_up (f := f) (t := t) (sd := sd) s 0
  have h1 := Gs_up (f := f) (t := t) (sd := sd) s 1
  have h2 := Gs_up (f := f) (t := t) (sd := sd) s 2
  have h3 := Gs_up (f := f) (t := t) (sd := sd) s 3
  have h4 := Gs_up (f := f) (t := t) (sd := sd) s 4
  have h5 := Gs_up (f := f) (t := t) (sd := sd) s 5
  rcases Nat.lt_or_ge (cn6 s) (cn6 (Gs f t sd s)) with q | q
  · exact q
  · unfold cn6 at q
    refine absurd (b_ext fun i hi => ?_) hne
    rcases Nat.lt_or_ge i 6 with z | z
    · apply toNat_i
      have : i = 0 ∨ i = 1 ∨ i = 2 ∨ i = 3 ∨ i = 4 ∨ i = 5 := by omega
      rcases this with rfl | rfl | rfl | rfl | rfl | rfl <;> omega
    · rw [h i z hi, Gs_sml hW h i z hi]
theorem cn6_le (s : Int32) : cn6 s ≤ 6 := by
  have q : ∀ b : Bool, b.toNat ≤ 1 := fun b => by cases b <;> decide
  have h0 := q (bt s 0)
  have h1 := q (bt s 1)
  have h2 := q (bt s 2)
  have h3 := q (bt s 3)
  have h4 := q (bt s 4)
  have h5 := q (bt s 5)
  unfold cn6; omega
theorem itG_add : ∀ (i n : Nat) (s : Int32), itG f t sd (i + n) s = itG f t sd n (itG f t sd i s) := by
  intro i
  induction i with
  | zero => intro n s; rw [Nat.zero_add]; rfl
  | succ i ih => intro n s; rw [show i + 1 + n = (i + n) + 1 by omega, itG, itG, ih]
theorem itG_st {r : Int32} (h : Gs f t sd r = r) : ∀ n, itG f t sd n r = r := by
  intro n
  induction n with
  | zero => rfl
  | succ n ih => rw [itG, h, ih]
theorem R_mov9 {g : SR} (hW : Wf g.1 c t) : ∀ (m : Nat) (s had : Int32), sml s → (had = s → Gs g.1 t sd s = s) → 8 - cn6 s ≤ m → ∃ i, fR_moves_9 g sd m s had = some (itG g.1 t sd i s) ∧ i ≤ 6 - cn6 s ∧ Gs g.1 t sd (itG g.1 t sd i s) = itG g.1 t sd i s := by
  have ht := hW.t12
  intro m
  induction m with
  | zero => intro s had h1 h2 h3; have := cn6_le s; omega
  | succ m ih =>
    intro s had h1 h2 h3
    have hle := cn6_le s
    rw [fR_moves_9_s]
    by_cases e : had = s
    · rw [if_pos e]
      exact ⟨0, rfl, Nat.zero_le _, h2 e⟩
    · rw [if_neg e, show fR_moves_19 g sd s (fun y2 => fR_moves_9 g sd m y2 s) 2000 s 0 = _ from R_mov19 hW _ 2000 0 s (by omega) (by omega), Nat.sub_zero, show s ||| orN (MV g.1 s sd) t 0 = Gs g.1 t sd s from rfl]
      by_cases q : Gs g.1 t sd s = s
      · refine ⟨0, ?_, Nat.zero_le _, q⟩
        rw [q]
        cases m with
        | zero => omega
        | succ m => rw [fR_moves_9_s, if_pos rfl]; rfl
      · have hu := cn6_up hW h1 q
        have hl := cn6_le (Gs g.1 t sd s)
        obtain ⟨i, a1, a2, a3⟩ := ih (Gs g.1 t sd s) s (Gs_sml hW h1) (fun z => absurd z.symm q) (by omega)
        exact ⟨i + 1, a1, by omega, a3⟩
theorem W_mov9 {w : SW} (hW : Wf f c t) (hS : Sm w f c t) : ∀ (n k : Nat) (s : Int32), k ≤ 6 → 6 - k < n → fW_namesThatMove_9 w sd n s (nI k) = some (itG f t sd (6 - k) s) := by
  have ht := hW.t12
  intro n
  induction n with
  | zero => intro k s h1 h2; omega
  | succ n ih =>
    intro k s h1 h2
    rw [fW_namesThatMove_9_s]
    rcases Nat.lt_or_ge k 6 with h | h
    · rw [if_neg (show ¬ (6 : Int32) ≤ nI k from nI_ge (b := 6) h (by omega)), fW_namesMovedFrom, show fW_namesMovedFrom_5 w s sd 2000 0 0 = _ from W_mov5 hW hS 2000 0 0 (by omega) (by omega), Option.bind_some, zr_or, nI_1, ih (k + 1) _ (by omega) (by omega), show 6 - k = (6 - (k + 1)) + 1 by omega, itG]
      rfl
    · rw [if_pos (show (6 : Int32) ≤ nI k from nI_le (a := 6) h (by omega)), show 6 - k = 0 by omega]; rfl
end SIX
theorem k_moves {S : SM} {g : SR} (h : Rel S g) : roOK (fM_moves S) (fR_moves g) := by
  obtain ⟨⟨c, t, hW, hS⟩, hI⟩ := h
  obtain ⟨i, a1, a2, a3⟩ := R_mov9 (sd := sdS g.1 c t) hW 2000 0 (-1) (fun i _ _ => b_0 i) (fun e => absurd e (by decide)) (by omega)
  have hi : i ≤ 6 := by omega
  refine ro_i (v := itG g.1 t (sdS g.1 c t) i 0) ?_ ?_
  · rw [fM_moves, fW_namesThatMove, W_said hW hS, Option.bind_some, show fW_namesThatMove_9 S.1 (sdS g.1 c t) 2000 0 0 = _ from W_mov9 hW hS 2000 0 0 (by omega) (by omega), Option.bind_some, show 6 - 0 = i + (6 - i) by omega, itG_add, itG_st a3]
  · rw [fR_moves, R_said hW, Option.bind_some, a1]
/-! ===== the beginning ===== -/
