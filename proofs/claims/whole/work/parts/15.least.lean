/-! ===== the least place, the least message ===== -/
def Pl (f : Nat → Int32) (inn but nm : Int32) (q : Nat) : Bool := !bt (f 2) q && (!decide (nI q = but) && (decide (f (15 + q) = inn) && (decide (f (3 + q) = nm) && decide (f (27 + q) = 0))))
def Pm (f : Nat → Int32) (p n : Nat) : Bool := !decide (f (39 + 6 * p + n) ≤ 0)
theorem R_leastIn_L {g : SR} {c t : Nat} (hW : Wf g.1 c t) (inn but nm : Int32) : ∀ (n q : Nat), q ≤ c → c - q < n → fR_leastIn_3 g inn but nm n (nI q) = some (fdF (Pl g.1 inn but nm) (c - q) q) := by
  have hc := hW.c12
  intro n
  induction n with
  | zero => intro q h1 h2; omega
  | succ n ih =>
    intro q h1 h2
    rw [fR_leastIn_3_s, ld_0, hW.c0]
    rcases Nat.lt_or_ge q c with h | h
    · have ih' := ih (q + 1) (by omega) (by omega)
      rw [if_neg (nI_ge h (by omega)), show c - q = (c - (q + 1)) + 1 by omega, fdF, e_15, e_3, e_27, nI_1, ih']
      by_cases hl : lvp g.1 c q
      · rw [R_isPlace_l hW hl, Option.bind_some, if_neg n10]
        by_cases e1 : nI q = but
        · rw [if_pos e1, if_neg (by simp [Pl, e1])]
        · rw [if_neg e1, ld_n (by omega) (by omega)]
          by_cases e2 : g.1 (15 + q) = inn
          · rw [if_pos e2, ld_n (by omega) (by omega)]
            by_cases e3 : g.1 (3 + q) = nm
            · rw [if_pos e3, ld_n (by omega) (by omega)]
              by_cases e4 : g.1 (27 + q) = 0
              · rw [if_pos e4, if_pos (by simp [Pl, hl.2, e1, e2, e3, e4])]
              · rw [if_neg e4, if_neg (by simp [Pl, e4])]
            · rw [if_neg e3, if_neg (by simp [Pl, e3])]
          · rw [if_neg e2, if_neg (by simp [Pl, e2])]
      · rw [R_isPlace_g hW h hl, Option.bind_some, if_pos rfl, if_neg]
        intro hp
        refine hl ⟨h, ?_⟩
        unfold Pl at hp
        simp only [Bool.and_eq_true, Bool.not_eq_true'] at hp
        exact hp.1
    · rw [if_pos (nI_le h (by omega)), show c - q = 0 by omega]; rfl
theorem R_leastIn {g : SR} {c t : Nat} (hW : Wf g.1 c t) (inn but nm : Int32) : fR_leastIn g inn but nm = some (fdF (Pl g.1 inn but nm) (c - 1) 1) :=
  R_leastIn_L hW inn but nm 2000 1 hW.c1 (by have := hW.c12; omega)
theorem R_leastMessage_L {g : SR} {p : Nat} (hp : p < 12) : ∀ (n q : Nat), q ≤ 6 → 6 - q < n → fR_leastMessage_2 g (nI p) n (nI q) = some (fdF (Pm g.1 p) (6 - q) q) := by
  intro n
  induction n with
  | zero => intro q h1 h2; omega
  | succ n ih =>
    intro q h1 h2
    rw [fR_leastMessage_2_s]
    rcases Nat.lt_or_ge q 6 with h | h
    · rw [if_neg (show ¬ (6 : Int32) ≤ nI q from nI_ge (b := 6) h (by omega)), show 6 - q = (6 - (q + 1)) + 1 by omega, fdF, e_39n, ld_n (by omega) (by omega), nI_1, ih (q + 1) (by omega) (by omega)]
      by_cases e : g.1 (39 + 6 * p + q) ≤ 0
      · rw [if_pos e, if_neg (by simp [Pm, e])]
      · rw [if_neg e, if_pos (by simp [Pm, e])]
    · have : q = 6 := by omega
      subst this
      rw [if_pos (show (6 : Int32) ≤ nI 6 by decide)]; rfl
theorem R_leastMessage {g : SR} {p : Nat} (hp : p < 12) : fR_leastMessage g (nI p) = some (fdF (Pm g.1 p) 6 0) := R_leastMessage_L hp 2000 0 (by omega) (by omega)
section WL
variable {w : SW} {f : Nat → Int32} {c t : Nat}
theorem W_leastUnsealed_L (hW : Wf f c t) (hS : Sm w f c t) {p : Nat} (hp : p < 2 ^ 31) (but nm : Int32) : ∀ (n q : Nat), q ≤ c → c - q < n → fW_leastUnsealed_3 w (nI p) nm but n (nI q) = some (fdF (fun q => decide (1 ≤ q) && Pl f (nI p) but nm q) (c - q) q) := by
  have hc := hW.c12
  intro n
  induction n with
  | zero => intro q h1 h2; omega
  | succ n ih =>
    intro q h1 h2
    rw [fW_leastUnsealed_3_s, hS.pc]
    rcases Nat.lt_or_ge q c with h | h
    · have ih' := ih (q + 1) (by omega) (by omega)
      rw [if_neg (nI_ge h (by omega)), show c - q = (c - (q + 1)) + 1 by omega, fdF, nI_1, ih', sh_bit (by omega)]
      have hs := hS.sl h
      by_cases hb : bt w.2.2.1 q = true
      · have e4 := hs.mp hb
        have e5 : f (27 + q) ≠ 0 := by rw [e4]; decide
        rw [if_pos hb, if_pos rfl, ld_n (by omega) (by omega), ld_n (by omega) (by omega), ite_self, ite_self, ite_self, if_neg (by simp [Pl, e5])]
      · have e5 : f (27 + q) = 0 := by
          rcases hW.seal (show q < 12 by omega) with h0 | h0
          · exact h0
          · exact absurd (hs.mpr h0) hb
        rw [if_neg hb, if_neg (show ¬ (0 : Int32) = 1 by decide), ld_n (by omega) (by omega), ld_n (by omega) (by omega), hS.nm h]
        by_cases e1 : nI q = but
        · rw [if_pos e1, if_neg (by simp [Pl, e1])]
        · rw [if_neg e1]
          have ha := ar_eq hW hS h hp
          by_cases e2 : w.2.2.2.2.1 q = nI p
          · rw [decide_eq_true e2] at ha
            have ha := ha.symm
            simp only [Bool.and_eq_true, Bool.not_eq_true', decide_eq_true_eq] at ha
            have hq0 : 1 ≤ q := by
              rcases Nat.eq_zero_or_pos q with rfl | h0
              · exact absurd ha.2 (by rw [show f (15 + 0) = -9 from hW.in0]; exact fun h => nI_m9 hp h.symm)
              · exact h0
            rw [if_pos e2]
            by_cases e3 : f (3 + q) = nm
            · rw [if_pos e3, if_pos (by simp [Pl, ha.1, e1, ha.2, e3, e5, hq0])]
            · rw [if_neg e3, if_neg (by simp [Pl, e3])]
          · rw [decide_eq_false e2] at ha
            rw [if_neg e2, if_neg]
            intro hp2
            unfold Pl at hp2
            simp only [Bool.and_eq_true, Bool.not_eq_true', decide_eq_true_eq] at hp2
            rw [hp2.2.1, decide_eq_true hp2.2.2.2.1] at ha
            cases ha
    · rw [if_pos (nI_le h (by omega)), show c - q = 0 by omega]; rfl
theorem W_leastUnsealed (hW : Wf f c t) (hS : Sm w f c t) {p : Nat} (hp : p < 2 ^ 31) (but nm : Int32) : fW_leastUnsealed w (nI p) nm but = some (fdF (Pl f (nI p) but nm) (c - 1) 1) := by
  have hc := hW.c12; have h1 := hW.c1
  rw [fW_leastUnsealed, show fW_leastUnsealed_3 w (nI p) nm but 2000 0 = _ from W_leastUnsealed_L hW hS hp but nm 2000 0 (Nat.zero_le _) (by omega), show c - 0 = (c - 1) + 1 by omega, fdF, if_neg (by simp)]
  congr 1
  exact fdF_congr _ _ (fun i h2 h3 => by simp [show 1 ≤ i from h2])
theorem W_leastMessage_L (hW : Wf f c t) (hS : Sm w f c t) {p : Nat} (hp : lvp f c p) : ∀ (n q : Nat), q ≤ 6 → 6 - q < n → fW_leastMessage_2 w (nI p) n (nI q) = some (fdF (Pm f p) (6 - q) q) := by
  intro n
  induction n with
  | zero => intro q h1 h2; omega
  | succ n ih =>
    intro q h1 h2
    rw [fW_leastMessage_2_s]
    rcases Nat.lt_or_ge q 6 with h | h
    · rw [if_neg (show ¬ (6 : Int32) ≤ nI q from nI_ge (b := 6) h (by omega)), show 6 - q = (6 - (q + 1)) + 1 by omega, fdF, W_messagesOf_l hW hS hp h, Option.bind_some, nI_1, ih (q + 1) (by omega) (by omega)]
      by_cases e : f (39 + 6 * p + q) ≤ 0
      · rw [if_pos e, if_neg (by simp [Pm, e])]
      · rw [if_neg e, if_pos (by simp [Pm, e])]
    · have : q = 6 := by omega
      subst this
      rw [if_pos (show (6 : Int32) ≤ nI 6 by decide)]; rfl
theorem W_leastMessage (hW : Wf f c t) (hS : Sm w f c t) {p : Nat} (hp : lvp f c p) : fW_leastMessage w (nI p) = some (fdF (Pm f p) 6 0) := W_leastMessage_L hW hS hp 2000 0 (by omega) (by omega)
/-! ===== acts ===== -/
theorem wt_n : ∀ i, i < 6 → mp_wt i = lN (100 ^ i) := by decide
theorem W_actOf (hW : Wf f c t) (hS : Sm w f c t) {j m k : Nat} (hj : j < t) (hm : f (123 + j) = nI m) (h6 : m ≤ 6) (hk : k < m) : fW_actOf w (nI j) (nI k) = some (f (159 + 6 * j + k)) := by
  have ht := hW.t12
  obtain ⟨A, hA, h1, h2⟩ := hS.ac hj
  have e : (nI m - 1) - nI k = nI (m - 1 - k) := by rw [e_s1 (by omega), pk_sub (by omega)]
  have hp : 100 ^ (m - 1 - k) ≤ 10000000000 := by
    have := Nat.pow_le_pow_right (n := 100) (by omega) (show m - 1 - k ≤ 5 by omega)
    omega
  have hp0 : 0 < 100 ^ (m - 1 - k) := Nat.pos_of_ne_zero (by simp)
  rw [fW_actOf, W_actsInAll hW hS hj, Option.bind_some, W_isThread_n hW hS hj, Option.bind_some, if_neg n10, hm, e, if_neg (nI_nn (by omega)), if_pos (show nI (m - 1 - k) < (6 : Int32) from nI_lt (b := 6) (by omega) (by omega)), ld_n (by omega) (by omega), st_n (by omega) (by omega), nI_clamp (by omega), wt_n _ (by omega), h1, mp_nzl, if_neg]
  · have hd : A / 100 ^ (m - 1 - k) < 2 ^ 63 := Nat.lt_of_le_of_lt (Nat.div_le_self _ _) hA
    rw [pk_lDiv hA hp0 (by omega), show lN (A / 100 ^ (m - 1 - k)) - lN (A / 100 ^ (m - 1 - k)) / 100 * 100 = lN (A / 100 ^ (m - 1 - k) % 100) from pk_lRem (b := 100) hd (by omega) (by omega), h2 m k hm hk h6, lN_i]
  · intro h
    have := (pk_lEQ (a := 100 ^ (m - 1 - k)) (b := 0) (by omega) (by omega)).mp h
    omega
end WL
theorem R_isOver {g : SR} {j : Nat} (hj : j < 12) : fR_isOver g (nI j) = some (if g.1 (135 + j) = g.1 (123 + j) then 1 else 0) := by
  rw [fR_isOver, e_135, e_123, ld_n (by omega) (by omega), ld_n (by omega) (by omega)]
  split <;> rfl
theorem W_isOver {w : SW} {f : Nat → Int32} {c t j m d : Nat} (hW : Wf f c t) (hS : Sm w f c t) (hj : j < t) (hm : f (123 + j) = nI m) (hd : f (135 + j) = nI d) (h6 : m ≤ 6) (hdm : d ≤ m) : fW_isOver w (nI j) = some (if f (135 + j) = f (123 + j) then 1 else 0) := by
  rw [fW_isOver, W_actsDone hW hS hj, Option.bind_some, W_actsInAll hW hS hj, Option.bind_some, hm, hd]
  by_cases e : d = m
  · subst e
    rw [if_neg (nI_nlt (Nat.le_refl _) (by omega)), if_pos rfl]
  · rw [if_pos (nI_lt (by omega) (by omega)), if_neg (fun h => e (nI_inj (by omega) (by omega) h))]
theorem R_nextOf_o {g : SR} {j : Nat} (hj : j < 12) (h : g.1 (135 + j) = g.1 (123 + j)) : fR_nextOf g (nI j) = some (-9) := by
  rw [fR_nextOf, R_isOver hj, if_pos h]; rfl
theorem R_nextOf_n {g : SR} {j m d : Nat} (hj : j < 12) (hm : g.1 (123 + j) = nI m) (hd : g.1 (135 + j) = nI d) (h6 : m ≤ 6) (hdm : d < m) : fR_nextOf g (nI j) = some (g.1 (159 + 6 * j + d)) := by
  rw [fR_nextOf, R_isOver hj, if_neg (by rw [hm, hd]; exact fun h => by have := nI_inj (by omega) (by omega) h; omega), Option.bind_some, if_pos rfl, e_135, ld_n (by omega) (by omega), hd, e_159, ld_n (by omega) (by omega)]
