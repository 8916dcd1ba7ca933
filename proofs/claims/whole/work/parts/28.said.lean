/-! ===== what may be said ===== -/
def sg (q : Nat) : Int32 := 1 <<< (nI q &&& 31)
def orN (D : Nat → Int32) : Nat → Nat → Int32
  | 0, _ => 0
  | n + 1, lo => D lo ||| orN D n (lo + 1)
theorem or_as (a b c : Int32) : (a ||| b) ||| c = a ||| (b ||| c) := b_ext fun i hi => by rw [b_or, b_or, b_or, b_or, Bool.or_assoc]
theorem zr_or (a : Int32) : 0 ||| a = a := b_ext fun i hi => by rw [b_or, b_0, Bool.false_or]
theorem or_me (a : Int32) : a ||| a = a := b_ext fun i hi => by rw [b_or, Bool.or_self]
theorem orN_bit {D : Nat → Int32} (i : Nat) : ∀ (n lo : Nat), bt (orN D n lo) i = true ↔ ∃ k, lo ≤ k ∧ k < lo + n ∧ bt (D k) i = true := by
  intro n
  induction n with
  | zero => intro lo; rw [orN, b_0]; exact ⟨fun h => (nomatch h), fun ⟨k, h1, h2, _⟩ => by omega⟩
  | succ n ih =>
    intro lo
    rw [orN, b_or, Bool.or_eq_true, ih]
    constructor
    · rintro (h | ⟨k, h1, h2, h3⟩)
      · exact ⟨lo, Nat.le_refl _, by omega, h⟩
      · exact ⟨k, by omega, by omega, h3⟩
    · rintro ⟨k, h1, h2, h3⟩
      rcases Nat.eq_or_lt_of_le h1 with e | e
      · exact Or.inl (e ▸ h3)
      · exact Or.inr ⟨k, by omega, by omega, h3⟩
def anB (P : Nat → Bool) : Nat → Nat → Bool
  | 0, _ => false
  | n + 1, lo => P lo || anB P n (lo + 1)
theorem anB_t {P : Nat → Bool} : ∀ (n lo : Nat), anB P n lo = true ↔ ∃ k, lo ≤ k ∧ k < lo + n ∧ P k = true := by
  intro n
  induction n with
  | zero => intro lo; rw [anB]; exact ⟨fun h => (nomatch h), fun ⟨k, h1, h2, _⟩ => by omega⟩
  | succ n ih =>
    intro lo
    rw [anB, Bool.or_eq_true, ih]
    constructor
    · rintro (h | ⟨k, h1, h2, h3⟩)
      · exact ⟨lo, Nat.le_refl _, by omega, h⟩
      · exact ⟨k, by omega, by omega, h3⟩
    · rintro ⟨k, h1, h2, h3⟩
      rcases Nat.eq_or_lt_of_le h1 with e | e
      · exact Or.inl (e ▸ h3)
      · exact Or.inr ⟨k, by omega, by omega, h3⟩
def kif (b : Bool) (x : Int32) : Int32 := if b = true then x else 0
theorem kif_t {b : Bool} {x : Int32} (h : b = true) : kif b x = x := if_pos h
theorem kif_f {b : Bool} {x : Int32} (h : ¬ b = true) : kif b x = 0 := if_neg h
theorem kif_bit {b : Bool} {x : Int32} {i : Nat} : bt (kif b x) i = true ↔ b = true ∧ bt x i = true := by
  by_cases h : b = true
  · rw [kif_t h]; exact ⟨fun q => ⟨h, q⟩, fun q => q.2⟩
  · rw [kif_f h, b_0]; exact ⟨fun q => (nomatch q), fun q => absurd q.1 h⟩
theorem orN_c {P : Nat → Bool} (x : Int32) : ∀ (n lo : Nat), orN (fun k => kif (P k) x) n lo = kif (anB P n lo) x := by
  intro n
  induction n with
  | zero => intro lo; rfl
  | succ n ih =>
    intro lo
    rw [orN, anB, ih]
    by_cases h : P lo = true
    · rw [kif_t h, kif_t (show (P lo || anB P n (lo + 1)) = true by rw [h]; rfl)]
      by_cases e : anB P n (lo + 1) = true
      · rw [kif_t e, or_me]
      · rw [kif_f e, or_0]
    · rw [kif_f h, Bool.eq_false_iff.mpr h, Bool.false_or, zr_or]
def mB (f : Nat → Int32) (p n : Nat) : Bool := !bt (f 2) p && decide (¬ f (39 + 6 * p + n) ≤ 0)
def syB (f : Nat → Int32) (j k : Nat) : Int32 := if f (159 + 6 * j + k) / 10 = 4 then (if f (159 + 6 * j + k) - f (159 + 6 * j + k) / 10 * 10 = 9 then 0 else 1 <<< ((f (159 + 6 * j + k) - f (159 + 6 * j + k) / 10 * 10) &&& 31)) else 0
def hB (f : Nat → Int32) (j : Nat) : Int32 := if f (147 + j) = -9 then 0 else 1 <<< (f (147 + j) &&& 31)
def TT (f : Nat → Int32) (j : Nat) : Int32 := hB f j ||| orN (syB f j) ((f (123 + j)).toNatClampNeg - (f (135 + j)).toNatClampNeg) (f (135 + j)).toNatClampNeg
def sdS (f : Nat → Int32) (c t : Nat) : Int32 := orN (fun p => orN (fun n => kif (mB f p n) (sg n)) 6 0) c 0 ||| orN (TT f) t 0
section RSAID
variable {g : SR} {c t : Nat}
theorem R_said16 (hW : Wf g.1 c t) {p : Nat} (hp : p < c) (kk : Int32 → Option Int32) : ∀ (m n : Nat) (a : Int32), n ≤ 6 → 6 - n < m → fR_saidNow_16 g (nI p) kk m a (nI n) = kk (a ||| orN (fun n => kif (mB g.1 p n) (sg n)) (6 - n) n) := by
  have hc := hW.c12
  intro m
  induction m with
  | zero => intro n a h1 h2; omega
  | succ m ih =>
    intro n a h1 h2
    rw [fR_saidNow_16_s]
    rcases Nat.lt_or_ge n 6 with h | h
    · rw [if_neg (show ¬ (6 : Int32) ≤ nI n from nI_ge (b := 6) h (by omega)), R_isPlace_n hW hp, Option.bind_some, show 6 - n = (6 - (n + 1)) + 1 by omega, orN]
      by_cases hb : bt (g.1 2) p = true
      · rw [if_pos hb, if_pos rfl, or_0, nI_1, ih (n + 1) a (by omega) (by omega), kif_f (by unfold mB; rw [hb]; exact fun q => by cases q), zr_or]
      · rw [if_neg hb, if_neg n10, e_39n, ld_n (by omega) (by omega)]
        by_cases e : g.1 (39 + 6 * p + n) ≤ 0
        · rw [if_pos e, or_0, nI_1, ih (n + 1) a (by omega) (by omega), kif_f (by unfold mB; rw [Bool.and_eq_true, decide_eq_true_eq]; exact fun q => q.2 e), zr_or]
        · rw [if_neg e, mp_lt, nI_1, ih (n + 1) _ (by omega) (by omega), kif_t (by unfold mB; rw [Bool.eq_false_iff.mpr hb, decide_eq_true e]; rfl), or_as]; rfl
    · rw [if_pos (show (6 : Int32) ≤ nI n from nI_le (a := 6) h (by omega)), show 6 - n = 0 by omega, orN, or_0]
theorem R_said4 (hW : Wf g.1 c t) : ∀ (m p : Nat) (a : Int32), p ≤ c → c - p < m → fR_saidNow_4 g m a (nI p) = fR_saidNow_71 g 2000 (a ||| orN (fun p => orN (fun n => kif (mB g.1 p n) (sg n)) 6 0) (c - p) p) 0 := by
  have hc := hW.c12
  intro m
  induction m with
  | zero => intro p a h1 h2; omega
  | succ m ih =>
    intro p a h1 h2
    rw [fR_saidNow_4_s, ld_0, hW.c0]
    rcases Nat.lt_or_ge p c with h | h
    · rw [if_neg (nI_ge h (by omega)), show fR_saidNow_16 g (nI p) (fun y3 => fR_saidNow_4 g m y3 (nI p + 1)) 2000 a 0 = _ from R_said16 hW h _ 2000 0 a (by omega) (by omega), nI_1, ih (p + 1) _ (by omega) (by omega), show c - p = (c - (p + 1)) + 1 by omega, or_as]; rfl
    · rw [if_pos (nI_le h (by omega)), show c - p = 0 by omega, orN, or_0]
theorem R_said126 {j m : Nat} (hj : j < 12) (hm : g.1 (123 + j) = nI m) (h6 : m ≤ 6) (kk : Int32 → Option Int32) : ∀ (n k : Nat) (a : Int32), k ≤ m → m - k < n → fR_saidNow_126 g (nI j) kk n a (nI k) = kk (a ||| orN (syB g.1 j) (m - k) k) := by
  intro n
  induction n with
  | zero => intro k a h1 h2; omega
  | succ n ih =>
    intro k a h1 h2
    rw [fR_saidNow_126_s, e_123, ld_n (by omega) (by omega), hm]
    rcases Nat.lt_or_ge k m with h | h
    · rw [if_neg (nI_ge h (by omega)), e_159, ld_n (by omega) (by omega), show m - k = (m - (k + 1)) + 1 by omega, orN, ← or_as]
      by_cases e : g.1 (159 + 6 * j + k) / 10 = 4
      · rw [if_pos e]
        by_cases e9 : g.1 (159 + 6 * j + k) - g.1 (159 + 6 * j + k) / 10 * 10 = 9
        · rw [if_pos e9, nI_1, ih (k + 1) _ (by omega) (by omega), show syB g.1 j k = 0 by unfold syB; rw [if_pos e, if_pos e9]]
        · rw [if_neg e9, mp_lt, nI_1, ih (k + 1) _ (by omega) (by omega), show syB g.1 j k = _ by unfold syB; rw [if_pos e, if_neg e9]]
      · rw [if_neg e, nI_1, ih (k + 1) _ (by omega) (by omega), show syB g.1 j k = 0 by unfold syB; rw [if_neg e]]
    · rw [if_pos (nI_le h (by omega)), show m - k = 0 by omega, orN, or_0]
theorem R_said71 (hW : Wf g.1 c t) : ∀ (n j : Nat) (a : Int32), j ≤ t → t - j < n → fR_saidNow_71 g n a (nI j) = some (a ||| orN (TT g.1) (t - j) j) := by
  have ht := hW.t12
  intro n
  induction n with
  | zero => intro j a h1 h2; omega
  | succ n ih =>
    intro j a h1 h2
    rw [fR_saidNow_71_s, ld_1, hW.t0]
    rcases Nat.lt_or_ge j t with h | h
    · obtain ⟨p, m, d, k1, k2, k3, k4, k5, k6, k7, k8⟩ := hW.th h
      have eT : TT g.1 j = hB g.1 j ||| orN (syB g.1 j) (m - d) d := by unfold TT; rw [k4, k6, nI_clamp (by omega), nI_clamp (by omega)]
      rw [if_neg (nI_ge h (by omega)), e_147, ld_n (by omega) (by omega), ld_n (by omega) (by omega), e_135, ld_n (by omega) (by omega), k6, show t - j = (t - (j + 1)) + 1 by omega, orN, eT, ← or_as, ← or_as]
      by_cases e : g.1 (147 + j) = -9
      · rw [if_pos e, R_said126 (by omega) k4 k3.2 _ 2000 d _ k5 (by omega), nI_1, ih (j + 1) _ (by omega) (by omega), show hB g.1 j = 0 by unfold hB; rw [if_pos e]]
      · rw [if_neg e, mp_lt, ld_n (by omega) (by omega), k6, R_said126 (by omega) k4 k3.2 _ 2000 d _ k5 (by omega), nI_1, ih (j + 1) _ (by omega) (by omega), show hB g.1 j = _ by unfold hB; rw [if_neg e]]
    · rw [if_pos (nI_le h (by omega)), show t - j = 0 by omega, orN, or_0]
theorem R_said (hW : Wf g.1 c t) : fR_saidNow g = some (sdS g.1 c t) := by
  have hc := hW.c12
  have ht := hW.t12
  rw [fR_saidNow, show fR_saidNow_4 g 2000 0 0 = _ from R_said4 hW 2000 0 0 (by omega) (by omega), zr_or, show fR_saidNow_71 g 2000 _ 0 = _ from R_said71 hW 2000 0 _ (by omega) (by omega)]
  rfl
end RSAID
section WSAID
variable {w : SW} {f : Nat → Int32} {c t : Nat}
theorem W_hasMsg (hW : Wf f c t) (hS : Sm w f c t) {n : Nat} (hn : n < 6) : ∀ (m p : Nat), p ≤ c → c - p < m → fW_hasMessageAnywhere_2 w (nI n) m (nI p) = some (b2i (anB (fun p => mB f p n) (c - p) p)) := by
  have hc := hW.c12
  intro m
  induction m with
  | zero => intro p h1 h2; omega
  | succ m ih =>
    intro p h1 h2
    rw [fW_hasMessageAnywhere_2_s, hS.pc]
    rcases Nat.lt_or_ge p c with h | h
    · rw [if_neg (nI_ge h (by omega)), show c - p = (c - (p + 1)) + 1 by omega, anB]
      by_cases hb : bt (f 2) p = true
      · rw [W_messagesOf_o hW hS (fun j hj e => by
            have : p = j := nI_inj (by omega) (by have := hj.1; omega) e
            rw [this, hj.2] at hb; cases hb), Option.bind_some, if_pos (by decide), nI_1, ih (p + 1) (by omega) (by omega), show mB f p n = false by unfold mB; rw [hb]; rfl, Bool.false_or]
      · have hl : lvp f c p := ⟨h, Bool.eq_false_iff.mpr hb⟩
        rw [W_messagesOf_l hW hS hl hn, Option.bind_some]
        by_cases e : f (39 + 6 * p + n) ≤ 0
        · rw [if_pos e, nI_1, ih (p + 1) (by omega) (by omega), show mB f p n = false by unfold mB; rw [decide_eq_false (fun q => q e), Bool.and_false], Bool.false_or]
        · rw [if_neg e, show mB f p n = true by unfold mB; rw [hl.2, decide_eq_true e]; rfl, Bool.true_or]; rfl
    · rw [if_pos (nI_le h (by omega)), show c - p = 0 by omega]; rfl
theorem W_said4 (hW : Wf f c t) (hS : Sm w f c t) : ∀ (m n : Nat) (a : Int32), n ≤ 6 → 6 - n < m → fW_namesThatMayBeSaid_4 w m a (nI n) = fW_namesThatMayBeSaid_32 w 2000 (a ||| orN (fun n => kif (anB (fun p => mB f p n) c 0) (sg n)) (6 - n) n) 0 := by
  have hc := hW.c12
  intro m
  induction m with
  | zero => intro n a h1 h2; omega
  | succ m ih =>
    intro n a h1 h2
    rw [fW_namesThatMayBeSaid_4_s]
    rcases Nat.lt_or_ge n 6 with h | h
    · rw [if_neg (show ¬ (6 : Int32) ≤ nI n from nI_ge (b := 6) h (by omega)), fW_hasMessageAnywhere, show fW_hasMessageAnywhere_2 w (nI n) 2000 0 = _ from W_hasMsg hW hS h 2000 0 (by omega) (by omega), Option.bind_some, show 6 - n = (6 - (n + 1)) + 1 by omega, orN]
      by_cases e : anB (fun p => mB f p n) (c - 0) 0 = true
      · rw [b2i_t e, if_neg n10, mp_lt, nI_1, ih (n + 1) _ (by omega) (by omega), kif_t (show anB (fun p => mB f p n) c 0 = true from e), or_as]; rfl
      · rw [b2i_f e, if_pos rfl, nI_1, ih (n + 1) _ (by omega) (by omega), kif_f (show ¬ anB (fun p => mB f p n) c 0 = true from e), zr_or]
    · rw [if_pos (show (6 : Int32) ≤ nI n from nI_le (a := 6) h (by omega)), show 6 - n = 0 by omega, orN, or_0]
theorem W_from29 (hW : Wf f c t) (hS : Sm w f c t) {j m : Nat} (hj : j < t) (hm : f (123 + j) = nI m) (h6 : m ≤ 6) (hk : ∀ k, k < m → ∃ a, okA a ∧ f (159 + 6 * j + k) = nI a) : ∀ (n k : Nat) (a : Int32), k ≤ m → m - k < n → fW_namesFromThread_29 w (nI j) n a (nI k) = some (a ||| orN (syB f j) (m - k) k) := by
  intro n
  induction n with
  | zero => intro k a h1 h2; omega
  | succ n ih =>
    intro k a h1 h2
    rw [fW_namesFromThread_29_s, W_actsInAll hW hS hj, Option.bind_some, hm]
    rcases Nat.lt_or_ge k m with h | h
    · rw [if_neg (nI_ge h (by omega)), W_actOf hW hS hj hm h6 h, Option.bind_some, show m - k = (m - (k + 1)) + 1 by omega, orN, ← or_as]
      obtain ⟨b, hb, eb⟩ := hk k h
      have hb5 : b ≤ 50 := by unfold okA at hb; omega
      rw [show syB f j k = (if f (159 + 6 * j + k) / 10 = 4 then (if f (159 + 6 * j + k) - f (159 + 6 * j + k) / 10 * 10 = 9 then (0 : Int32) else (1 : Int32) <<< ((f (159 + 6 * j + k) - f (159 + 6 * j + k) / 10 * 10) &&& 31)) else 0) from rfl, eb, e_m10 (by omega), e_d10 (by omega)]
      by_cases e : nI (b / 10) = 4
      · have e' : b / 10 = 4 := nI_inj (b := 4) (by omega) (by omega) e
        rw [if_pos e, if_pos e]
        rcases Nat.lt_or_ge (b % 10) 6 with q | q
        · rw [M_isName_n q, Option.bind_some, if_neg n10, mp_lt, nI_1, ih (k + 1) _ (by omega) (by omega), if_neg (show ¬ nI (b % 10) = 9 from fun z => by have := nI_inj (b := 9) (by omega) (by omega) z; omega)]
        · have : b % 10 = 9 := by unfold okA at hb; omega
          rw [this, M_isName_o (fun x hx z => by have := nI_inj (a := 9) (by omega) (by omega) z; omega), Option.bind_some, if_pos rfl, nI_1, ih (k + 1) _ (by omega) (by omega), if_pos (show nI 9 = 9 from rfl), or_0]
      · rw [if_neg e, if_neg e, nI_1, ih (k + 1) _ (by omega) (by omega), or_0]
    · rw [if_pos (nI_le h (by omega)), show m - k = 0 by omega, orN, or_0]
theorem W_from (hW : Wf f c t) (hS : Sm w f c t) {j : Nat} (hj : j < t) : fW_namesFromThread w (nI j) = some (TT f j) := by
  obtain ⟨p, m, d, k1, k2, k3, k4, k5, k6, k7, k8⟩ := hW.th hj
  have eT : TT f j = hB f j ||| orN (syB f j) (m - d) d := by unfold TT; rw [k4, k6, nI_clamp (by omega), nI_clamp (by omega)]
  rw [fW_namesFromThread, W_heardBy hW hS hj, Option.bind_some, Option.bind_some, W_actsDone hW hS hj, Option.bind_some, Option.bind_some, k6, eT]
  rcases k7 with e | ⟨n, hn, e⟩
  · rw [e, show fM_isName (-9) = some 0 by decide, Option.bind_some, if_pos rfl, W_from29 hW hS hj k4 k3.2 k8 2000 d 0 k5 (by omega), show hB f j = 0 by unfold hB; rw [if_pos e]]
  · rw [e, M_isName_n hn, Option.bind_some, if_neg n10, W_from29 hW hS hj k4 k3.2 k8 2000 d _ k5 (by omega), show hB f j = _ by unfold hB; rw [e, if_neg (nI_m9 (by omega))]]
theorem W_said32 (hW : Wf f c t) (hS : Sm w f c t) : ∀ (n j : Nat) (a : Int32), j ≤ t → t - j < n → fW_namesThatMayBeSaid_32 w n a (nI j) = some (a ||| orN (TT f) (t - j) j) := by
  have ht := hW.t12
  intro n
  induction n with
  | zero => intro j a h1 h2; omega
  | succ n ih =>
    intro j a h1 h2
    rw [fW_namesThatMayBeSaid_32_s, hS.tc]
    rcases Nat.lt_or_ge j t with h | h
    · rw [if_neg (nI_ge h (by omega)), W_from hW hS h, Option.bind_some, nI_1, ih (j + 1) _ (by omega) (by omega), show t - j = (t - (j + 1)) + 1 by omega, orN, or_as]
    · rw [if_pos (nI_le h (by omega)), show t - j = 0 by omega, orN, or_0]
theorem said_sw : orN (fun n => kif (anB (fun p => mB f p n) c 0) (sg n)) 6 0 = orN (fun p => orN (fun n => kif (mB f p n) (sg n)) 6 0) c 0 := by
  apply b_ext
  intro i hi
  rw [Bool.eq_iff_iff, orN_bit, orN_bit]
  constructor
  · rintro ⟨n, h1, h2, h3⟩
    rw [kif_bit, anB_t] at h3
    obtain ⟨⟨p, q1, q2, q3⟩, q4⟩ := h3
    exact ⟨p, q1, q2, (orN_bit i 6 0).mpr ⟨n, h1, h2, kif_bit.mpr ⟨q3, q4⟩⟩⟩
  · rintro ⟨p, h1, h2, h3⟩
    obtain ⟨n, q1, q2, q3⟩ := (orN_bit i 6 0).mp h3
    rw [kif_bit] at q3
    exact ⟨n, q1, q2, kif_bit.mpr ⟨(anB_t c 0).mpr ⟨p, h1, h2, q3.1⟩, q3.2⟩⟩
theorem W_said (hW : Wf f c t) (hS : Sm w f c t) : fW_namesThatMayBeSaid w = some (sdS f c t) := by
  have hc := hW.c12
  have ht := hW.t12
  rw [fW_namesThatMayBeSaid, show fW_namesThatMayBeSaid_4 w 2000 0 0 = _ from W_said4 hW hS 2000 0 0 (by omega) (by omega), zr_or, show fW_namesThatMayBeSaid_32 w 2000 _ 0 = _ from W_said32 hW hS 2000 0 _ (by omega) (by omega), Nat.sub_zero, Nat.sub_zero, said_sw]
  rfl
end WSAID
theorem k_said {S : SM} {g : SR} (h : Rel S g) : roOK (fM_said S) (fR_said g) := by
  obtain ⟨⟨c, t, hW, hS⟩, hI⟩ := h
  exact ro_i (v := sdS g.1 c t) (by rw [fM_said, W_said hW hS, Option.bind_some]) (by rw [fR_said, R_said hW, Option.bind_some])
