theorem n10 : ¬ (1 : Int32) = 0 := by decide
theorem n_ft : ¬ false = true := by decide
/-! ===== sets of places and threads ===== -/
section RP
variable {g : SR} {c t : Nat}
theorem R_placesIn_L (hW : Wf g.1 c t) (x : Int32) : ∀ (n q : Nat) (a : Int32), q ≤ c → c - q < n → fR_placesIn_4 g x n a (nI q) = some (orF (fun q => !bt (g.1 2) q && decide (g.1 (15 + q) = x)) (c - q) q a) := by
  have hc := hW.c12
  intro n
  induction n with
  | zero => intro q a h1 h2; omega
  | succ n ih =>
    intro q a h1 h2
    rw [fR_placesIn_4_s, ld_0, hW.c0]
    rcases Nat.lt_or_ge q c with h | h
    · rw [if_neg (nI_ge h (by omega)), R_isPlace_n hW h, Option.bind_some, show c - q = (c - (q + 1)) + 1 by omega, orF]
      cases hb : bt (g.1 2) q
      · rw [if_neg n_ft, if_neg n10, e_15, ld_n (by omega) (by omega)]
        by_cases e : g.1 (15 + q) = x
        · rw [if_pos e, mp_lt, nI_1, ih (q + 1) _ (by omega) (by omega), if_pos (show (!false && decide (g.1 (15 + q) = x)) = true by simp [e])]
        · rw [if_neg e, or_0, nI_1, ih (q + 1) _ (by omega) (by omega), if_neg (show ¬ (!false && decide (g.1 (15 + q) = x)) = true by simp [e])]
      · rw [if_pos rfl, if_pos rfl, or_0, nI_1, ih (q + 1) _ (by omega) (by omega), if_neg (show ¬ (!true && decide (g.1 (15 + q) = x)) = true by simp)]
    · rw [if_pos (nI_le h (by omega)), show c - q = 0 by omega]; rfl
theorem R_placesIn (hW : Wf g.1 c t) (x : Int32) : fR_placesIn g x = some (orF (fun q => !bt (g.1 2) q && decide (g.1 (15 + q) = x)) (c - 1) 1 0) :=
  R_placesIn_L hW x 2000 1 0 hW.c1 (by have := hW.c12; omega)
theorem R_threadsIn_L (hW : Wf g.1 c t) (x : Int32) : ∀ (n q : Nat) (a : Int32), q ≤ t → t - q < n → fR_threadsIn_4 g x n a (nI q) = some (orF (fun q => decide (g.1 (111 + q) = x)) (t - q) q a) := by
  have ht := hW.t12
  intro n
  induction n with
  | zero => intro q a h1 h2; omega
  | succ n ih =>
    intro q a h1 h2
    rw [fR_threadsIn_4_s, ld_1, hW.t0]
    rcases Nat.lt_or_ge q t with h | h
    · rw [if_neg (nI_ge h (by omega)), show t - q = (t - (q + 1)) + 1 by omega, orF, e_111, ld_n (by omega) (by omega)]
      by_cases e : g.1 (111 + q) = x
      · rw [if_pos e, mp_lt, nI_1, ih (q + 1) _ (by omega) (by omega), if_pos (by simp [e])]
      · rw [if_neg e, or_0, nI_1, ih (q + 1) _ (by omega) (by omega), if_neg (by simp [e])]
    · rw [if_pos (nI_le h (by omega)), show t - q = 0 by omega]; rfl
theorem R_threadsIn (hW : Wf g.1 c t) (x : Int32) : fR_threadsIn g x = some (orF (fun q => decide (g.1 (111 + q) = x)) t 0 0) :=
  R_threadsIn_L hW x 2000 0 0 (Nat.zero_le _) (by have := hW.t12; omega)
end RP
section WP
variable {w : SW} {f : Nat → Int32} {c t : Nat}
theorem W_placesIn_L (hW : Wf f c t) (hS : Sm w f c t) (x : Int32) : ∀ (n q : Nat) (a : Int32), q ≤ c → c - q < n → fW_placesIn_4 w x n a (nI q) = some (orF (fun q => decide (w.2.2.2.2.1 q = x)) (c - q) q a) := by
  have hc := hW.c12
  intro n
  induction n with
  | zero => intro q a h1 h2; omega
  | succ n ih =>
    intro q a h1 h2
    rw [fW_placesIn_4_s, hS.pc]
    rcases Nat.lt_or_ge q c with h | h
    · rw [if_neg (nI_ge h (by omega)), show c - q = (c - (q + 1)) + 1 by omega, orF, ld_n (by omega) (by omega)]
      by_cases e : w.2.2.2.2.1 q = x
      · rw [if_pos e, mp_lt, nI_1, ih (q + 1) _ (by omega) (by omega), if_pos (by simp [e])]
      · rw [if_neg e, nI_1, ih (q + 1) _ (by omega) (by omega), if_neg (by simp [e])]
    · rw [if_pos (nI_le h (by omega)), show c - q = 0 by omega]; rfl
theorem ar_eq (hW : Wf f c t) (hS : Sm w f c t) {q p : Nat} (hq : q < c) (hp : p < 2 ^ 31) : decide (w.2.2.2.2.1 q = nI p) = (!bt (f 2) q && decide (f (15 + q) = nI p)) := by
  cases hb : bt (f 2) q
  · rw [hS.ar ⟨hq, hb⟩]; simp
  · rw [hS.ag hq (fun h => by rw [h.2] at hb; cases hb), decide_eq_false (fun h => nI_m9 hp h.symm)]; rfl
theorem ar_eq0 (hW : Wf f c t) (hS : Sm w f c t) {p : Nat} (hp : p < 2 ^ 31) : decide (w.2.2.2.2.1 0 = nI p) = false := by
  rw [hS.ar hW.live0, show f (15 + 0) = -9 from hW.in0]; exact decide_eq_false (fun h => nI_m9 hp h.symm)
theorem W_placesIn (hW : Wf f c t) (hS : Sm w f c t) {p : Nat} (hp : p < 2 ^ 31) : fW_placesIn w (nI p) = some (orF (fun q => !bt (f 2) q && decide (f (15 + q) = nI p)) (c - 1) 1 0) := by
  have hc := hW.c12; have h1 := hW.c1
  rw [fW_placesIn, show (fW_placesIn_4 w (nI p) 2000 0 0) = _ from W_placesIn_L hW hS (nI p) 2000 0 0 (Nat.zero_le _) (by omega)]
  rw [show c - 0 = (c - 1) + 1 by omega, orF, if_neg (by rw [ar_eq0 hW hS hp]; decide)]
  congr 1
  exact orF_congr _ _ _ (fun i h2 h3 => ar_eq hW hS (by omega) hp)
theorem W_threadsIn_L (hW : Wf f c t) (hS : Sm w f c t) (x : Int32) : ∀ (n q : Nat) (a : Int32), q ≤ t → t - q < n → fW_threadsIn_4 w x n a (nI q) = some (orF (fun q => decide (f (111 + q) = x)) (t - q) q a) := by
  have ht := hW.t12
  intro n
  induction n with
  | zero => intro q a h1 h2; omega
  | succ n ih =>
    intro q a h1 h2
    rw [fW_threadsIn_4_s, hS.tc]
    rcases Nat.lt_or_ge q t with h | h
    · rw [if_neg (nI_ge h (by omega)), show t - q = (t - (q + 1)) + 1 by omega, orF, ld_n (by omega) (by omega), (hS.th h).1]
      by_cases e : f (111 + q) = x
      · rw [if_pos e, mp_lt, nI_1, ih (q + 1) _ (by omega) (by omega), if_pos (by simp [e])]
      · rw [if_neg e, nI_1, ih (q + 1) _ (by omega) (by omega), if_neg (by simp [e])]
    · rw [if_pos (nI_le h (by omega)), show t - q = 0 by omega]; rfl
theorem W_threadsIn (hW : Wf f c t) (hS : Sm w f c t) (x : Int32) : fW_threadsIn w x = some (orF (fun q => decide (f (111 + q) = x)) t 0 0) :=
  W_threadsIn_L hW hS x 2000 0 0 (Nat.zero_le _) (by have := hW.t12; omega)
end WP
/-! ===== one within another: the way up ===== -/
def chn (f : Nat → Int32) (c : Nat) : Nat → Nat → Prop
  | 0, p => p = 0
  | d + 1, p => 1 ≤ p ∧ lvp f c p ∧ ∃ q, lvp f c q ∧ f (15 + p) = nI q ∧ chn f c d q
theorem chn_ex {f : Nat → Int32} {c t : Nat} (hW : Wf f c t) : ∀ p, lvp f c p → ∃ d, chn f c d p := by
  obtain ⟨rk, hr⟩ := hW.rk
  have key : ∀ (n p : Nat), rk p < n → lvp f c p → ∃ d, chn f c d p := by
    intro n
    induction n with
    | zero => intro p h; omega
    | succ n ih =>
      intro p h hp
      rcases Nat.eq_zero_or_pos p with rfl | h0
      · exact ⟨0, rfl⟩
      · obtain ⟨q, hq, he⟩ := hW.inn h0 hp
        obtain ⟨d, hd⟩ := ih q (by have := hr p q h0 hp hq he; omega) hq
        exact ⟨d + 1, h0, hp, q, hq, he, hd⟩
  exact fun p hp => key (rk p + 1) p (by omega) hp
/-- the i-th place on the way up -/
def upn (f : Nat → Int32) : Nat → Nat → Nat
  | 0, p => p
  | i + 1, p => upn f i (f (15 + p)).toNatClampNeg
theorem upn_live {f : Nat → Int32} {c t : Nat} (hW : Wf f c t) : ∀ (d p : Nat), chn f c d p → ∀ i, i ≤ d → lvp f c (upn f i p) ∧ chn f c (d - i) (upn f i p) := by
  have hc := hW.c12
  intro d
  induction d with
  | zero => intro p h i hi; have : i = 0 := by omega
            subst this; rw [show p = 0 from h]; exact ⟨hW.live0, rfl⟩
  | succ d ih =>
    intro p h i hi
    cases i with
    | zero => exact ⟨h.2.1, h⟩
    | succ i =>
      obtain ⟨h1, h2, q, h3, h4, h5⟩ := h
      have := h3.1
      have e : upn f (i + 1) p = upn f i q := by rw [upn, h4, nI_clamp (by omega)]
      rw [e, show d + 1 - (i + 1) = d - i by omega]
      exact ih q h5 i (by omega)
theorem chn_one {f : Nat → Int32} {c : Nat} (hc : c ≤ 12) : ∀ (d e p : Nat), chn f c d p → chn f c e p → d = e := by
  intro d
  induction d with
  | zero =>
    intro e p h1 h2
    cases e with
    | zero => rfl
    | succ e => have := h2.1; rw [show p = 0 from h1] at this; omega
  | succ d ih =>
    intro e p h1 h2
    cases e with
    | zero => have := h1.1; rw [show p = 0 from h2] at this; omega
    | succ e =>
      obtain ⟨-, -, q, a1, a2, a3⟩ := h1
      obtain ⟨-, -, q2, b1, b2, b3⟩ := h2
      have e1 : q = q2 := nI_inj (by have := a1.1; omega) (by have := b1.1; omega) (a2.symm.trans b2)
      subst e1
      rw [ih e q a3 b3]
theorem chn_le {f : Nat → Int32} {c t : Nat} (hW : Wf f c t) {d p : Nat} (h : chn f c d p) : d < c := by
  have hc := hW.c12
  have h1 := upn_live hW d p h
  have h2 : d + 1 ≤ c := fb_holes c (d + 1) (fun i => upn f i p) (fun i hi => (h1 i (by omega)).1.1) (fun i j hij hj e => by
    have a := (h1 i (by omega)).2
    have b := (h1 j (by omega)).2
    rw [show upn f i p = upn f j p from e] at a
    have := chn_one hc _ _ _ a b
    omega)
  omega
theorem R_deepOf_L {g : SR} {c t : Nat} (hW : Wf g.1 c t) : ∀ (n d p k : Nat), chn g.1 c d p → d < n → fR_deepOf_4 g n (nI k) (nI p) = some (nI (k + d)) := by
  have hc := hW.c12
  intro n
  induction n with
  | zero => intro d p k _ h; omega
  | succ n ih =>
    intro d p k h hd
    rw [fR_deepOf_4_s]
    cases d with
    | zero => rw [show p = 0 from h, nI_0, if_pos rfl]; rfl
    | succ d =>
      obtain ⟨h1, h2, q, h3, h4, h5⟩ := h
      have := h2.1
      rw [if_neg (nI_ne0 h1 (by omega)), e_15, ld_n (by omega) (by omega), h4, nI_1, ih d q (k + 1) h5 (by omega), show k + 1 + d = k + (d + 1) by omega]
theorem R_deepOf {g : SR} {c t d p : Nat} (hW : Wf g.1 c t) (h : chn g.1 c d p) : fR_deepOf g (nI p) = some (nI d) := by
  have := chn_le hW h; have := hW.c12
  rw [fR_deepOf, show fR_deepOf_4 g 2000 0 (nI p) = _ from R_deepOf_L hW 2000 d p 0 h (by omega), Nat.zero_add]
theorem W_depthOf_L {w : SW} {f : Nat → Int32} {c t : Nat} (hW : Wf f c t) (hS : Sm w f c t) : ∀ (n d p k : Nat), chn f c d p → k + d < 12 → d + 1 < n → fW_depthOf_8 w n (nI k) (nI p) = some (nI (k + d + 1)) := by
  have hc := hW.c12
  intro n
  induction n with
  | zero => intro d p k _ _ h; omega
  | succ n ih =>
    intro d p k h hk hd
    rw [fW_depthOf_8_s]
    cases d with
    | zero =>
      rw [show p = 0 from h, if_neg (nI_m9 (by omega)), if_neg (show ¬ (12 : Int32) ≤ nI k from nI_ge (b := 12) (by omega) (by omega)), W_placeAround_l hW hS hW.live0, Option.bind_some, show f (15 + 0) = -9 from hW.in0, nI_1]
      cases n with
      | zero => omega
      | succ n => rw [fW_depthOf_8_s, if_pos rfl]
    | succ d =>
      obtain ⟨h1, h2, q, h3, h4, h5⟩ := h
      have := h2.1
      rw [if_neg (nI_m9 (by omega)), if_neg (show ¬ (12 : Int32) ≤ nI k from nI_ge (b := 12) (by omega) (by omega)), W_placeAround_l hW hS h2, Option.bind_some, h4, nI_1, ih d q (k + 1) h5 (by omega) (by omega), show k + 1 + d + 1 = k + (d + 1) + 1 by omega]
theorem W_depthOf {w : SW} {f : Nat → Int32} {c t d p : Nat} (hW : Wf f c t) (hS : Sm w f c t) (h : chn f c d p) : fW_depthOf w (nI p) = some (nI d) := by
  have h0 := chn_le hW h; have hc := hW.c12
  cases d with
  | zero =>
    rw [show p = 0 from h, fW_depthOf, W_placeAround_l hW hS hW.live0, Option.bind_some, show f (15 + 0) = -9 from hW.in0]; rfl
  | succ d =>
    obtain ⟨h1, h2, q, h3, h4, h5⟩ := h
    rw [fW_depthOf, W_placeAround_l hW hS h2, Option.bind_some, h4, show fW_depthOf_8 w 2000 0 (nI q) = _ from W_depthOf_L hW hS 2000 d q 0 h5 (by omega) (by omega), show 0 + d + 1 = d + 1 by omega]
def wtn (f : Nat → Int32) (x : Int32) : Nat → Nat → Bool
  | 0, _ => false
  | d + 1, p => decide (f (15 + p) = x) || wtn f x d (f (15 + p)).toNatClampNeg
def b2i (b : Bool) : Int32 := if b = true then 1 else 0
theorem R_isWithin_L {g : SR} {c t : Nat} (hW : Wf g.1 c t) (x : Int32) : ∀ (n d p : Nat), chn g.1 c d p → d < n → fR_isWithin_20 g x n (nI p) = some (b2i (wtn g.1 x d p)) := by
  have hc := hW.c12
  intro n
  induction n with
  | zero => intro d p _ h; omega
  | succ n ih =>
    intro d p h hd
    rw [fR_isWithin_20_s]
    cases d with
    | zero => rw [show p = 0 from h, nI_0, if_pos rfl]; rfl
    | succ d =>
      obtain ⟨h1, h2, q, h3, h4, h5⟩ := h
      have := h2.1; have := h3.1
      rw [if_neg (nI_ne0 h1 (by omega)), e_15, ld_n (by omega) (by omega), ld_n (by omega) (by omega), wtn, h4, nI_clamp (by omega)]
      by_cases e : nI q = x
      · rw [if_pos e, decide_eq_true e]; rfl
      · rw [if_neg e, decide_eq_false e, Bool.false_or, ih d q h5 (by omega)]
theorem W_isWithin_L {w : SW} {f : Nat → Int32} {c t : Nat} (hW : Wf f c t) (hS : Sm w f c t) (x : Int32) : ∀ (n d p k : Nat), chn f c d p → k + d < 12 → d + 1 < n → fW_isWithin_9 w x n (nI p) (nI k) = some (b2i (decide (nI p = x) || wtn f x d p)) := by
  have hc := hW.c12
  intro n
  induction n with
  | zero => intro d p k _ _ h; omega
  | succ n ih =>
    intro d p k h hk hd
    rw [fW_isWithin_9_s, if_neg (show ¬ (12 : Int32) ≤ nI k from nI_ge (b := 12) (by omega) (by omega))]
    cases d with
    | zero =>
      rw [show p = 0 from h, if_neg (nI_m9 (by omega))]
      by_cases e : nI 0 = x
      · rw [if_pos e, decide_eq_true e]; rfl
      · rw [if_neg e, decide_eq_false e, W_placeAround_l hW hS hW.live0, Option.bind_some, show f (15 + 0) = -9 from hW.in0]
        cases n with
        | zero => omega
        | succ n =>
          rw [fW_isWithin_9_s, if_pos rfl, ite_self]; rfl
    | succ d =>
      obtain ⟨h1, h2, q, h3, h4, h5⟩ := h
      have := h2.1; have := h3.1
      rw [if_neg (nI_m9 (by omega))]
      by_cases e : nI p = x
      · rw [if_pos e, decide_eq_true e]; rfl
      · rw [if_neg e, decide_eq_false e, W_placeAround_l hW hS h2, Option.bind_some, nI_1, wtn, h4, nI_clamp (by omega), ih d q (k + 1) h5 (by omega) (by omega), Bool.false_or]
theorem wtn_live {f : Nat → Int32} {c t : Nat} (hW : Wf f c t) {x : Int32} (hx : ∀ j, lvp f c j → x ≠ nI j) : ∀ (d p : Nat), chn f c d p → wtn f x d p = false := by
  have hc := hW.c12
  intro d
  induction d with
  | zero => intro p _; rfl
  | succ d ih =>
    intro p h
    obtain ⟨h1, h2, q, h3, h4, h5⟩ := h
    have := h3.1
    rw [wtn, h4, nI_clamp (by omega), ih q h5, decide_eq_false (fun e => hx q h3 e.symm)]; rfl
theorem W_isWithin_l {w : SW} {f : Nat → Int32} {c t d p : Nat} (hW : Wf f c t) (hS : Sm w f c t) (h : chn f c d p) (hp : lvp f c p) (x : Int32) : fW_isWithin w (nI p) x = some (b2i (wtn f x d p)) := by
  have h0 := chn_le hW h; have hc := hW.c12
  rw [fW_isWithin, W_placeAround_l hW hS hp, Option.bind_some]
  cases d with
  | zero =>
    rw [show p = 0 from h, show f (15 + 0) = -9 from hW.in0, fW_isWithin_9_s, if_neg (by decide), if_pos rfl]; rfl
  | succ d =>
    obtain ⟨h1, h2, q, h3, h4, h5⟩ := h
    have := h3.1
    rw [h4, show fW_isWithin_9 w x 2000 (nI q) 0 = _ from W_isWithin_L hW hS x 2000 d q 0 h5 (by omega) (by omega), wtn, h4, nI_clamp (by omega)]
theorem R_isWithin_l {g : SR} {c t d p q : Nat} (hW : Wf g.1 c t) (h : chn g.1 c d p) (hp : lvp g.1 c p) (hq : lvp g.1 c q) : fR_isWithin g (nI p) (nI q) = some (b2i (wtn g.1 (nI q) d p)) := by
  have h0 := chn_le hW h; have hc := hW.c12
  rw [fR_isWithin, R_isPlace_l hW hp, Option.bind_some, if_neg (by decide), R_isPlace_l hW hq, Option.bind_some, if_neg (by decide), R_isWithin_L hW (nI q) 2000 d p h (by omega)]
/-- of any two numbers, places or not -/
theorem RW_isWithin {g : SR} {w : SW} {c t : Nat} (hW : Wf g.1 c t) (hS : Sm w g.1 c t) (a b : Int32) : ∃ r : Bool, fR_isWithin g a b = some (b2i r) ∧ fW_isWithin w a b = some (b2i r) := by
  by_cases ha : ∃ p, lvp g.1 c p ∧ a = nI p
  · obtain ⟨p, hp, rfl⟩ := ha
    obtain ⟨d, hd⟩ := chn_ex hW p hp
    by_cases hb : ∃ q, lvp g.1 c q ∧ b = nI q
    · obtain ⟨q, hq, rfl⟩ := hb
      exact ⟨_, R_isWithin_l hW hd hp hq, W_isWithin_l hW hS hd hp _⟩
    · have hb' : ∀ j, lvp g.1 c j → b ≠ nI j := fun j h e => hb ⟨j, h, e⟩
      refine ⟨false, ?_, ?_⟩
      · rw [fR_isWithin, R_isPlace_l hW hp, Option.bind_some, if_neg (by decide), R_isPlace_o hW hb']; rfl
      · rw [W_isWithin_l hW hS hd hp, wtn_live hW hb' d p hd]
  · have ha' : ∀ j, lvp g.1 c j → a ≠ nI j := fun j h e => ha ⟨j, h, e⟩
    refine ⟨false, ?_, ?_⟩
    · rw [fR_isWithin, R_isPlace_o hW ha']; rfl
    · rw [fW_isWithin, W_placeAround_o hW hS ha', Option.bind_some, fW_isWithin_9_s, if_neg (by decide), if_pos rfl]; rfl
