/-! ===== a place is opened ===== -/
def mapF (lo n : Nat) (h : Int32 → Int32) (f : Nat → Int32) : Nat → Int32 := fun i => if lo ≤ i ∧ i < lo + n then h (f i) else f i
def msF (f : Nat → Int32) (p q k : Nat) : Nat → Int32 := fun i => if 39 + 6 * p + k ≤ i ∧ i < 39 + 6 * p + 6 then f i + f (39 + 6 * q + (i - (39 + 6 * p))) else if 39 + 6 * q + k ≤ i ∧ i < 39 + 6 * q + 6 then 0 else f i
def hqp (p q : Nat) (v : Int32) : Int32 := if v = nI q then nI p else v
theorem mapF_0 {lo : Nat} {h : Int32 → Int32} {f : Nat → Int32} : mapF lo 0 h f = f := funext fun i => if_neg (by omega)
theorem mapF_s {lo n : Nat} {h : Int32 → Int32} {f : Nat → Int32} : mapF (lo + 1) n h (upd f lo (h (f lo))) = mapF lo (n + 1) h f := by
  funext i
  unfold mapF upd
  by_cases e : i = lo
  · rw [if_neg (by omega), if_pos e, if_pos (by omega), e]
  · rw [if_neg e]
    by_cases h1 : lo + 1 ≤ i ∧ i < lo + 1 + n
    · rw [if_pos h1, if_pos (by omega)]
    · rw [if_neg h1, if_neg (by omega)]
theorem mapF_e {lo n : Nat} {h : Int32 → Int32} {f : Nat → Int32} (e : h (f lo) = f lo) : mapF (lo + 1) n h f = mapF lo (n + 1) h f := by
  rw [← mapF_s, e, fa_upd_same rfl]
theorem mapF_out {lo n i : Nat} {h : Int32 → Int32} {f : Nat → Int32} (e : i < lo ∨ lo + n ≤ i) : mapF lo n h f i = f i := if_neg (by omega)
theorem mapF_in {lo n i : Nat} {h : Int32 → Int32} {f : Nat → Int32} (e1 : lo ≤ i) (e2 : i < lo + n) : mapF lo n h f i = h (f i) := if_pos ⟨e1, e2⟩
theorem msF_s {f : Nat → Int32} {p q k : Nat} (hk : k < 6) (hpq : p ≠ q) : msF (upd (upd f (39 + 6 * p + k) (f (39 + 6 * p + k) + f (39 + 6 * q + k))) (39 + 6 * q + k) 0) p q (k + 1) = msF f p q k := by
  funext i
  unfold msF upd
  by_cases e1 : i = 39 + 6 * p + k
  · rw [if_neg (show ¬ (39 + 6 * p + (k + 1) ≤ i ∧ i < 39 + 6 * p + 6) by omega), if_neg (show ¬ (39 + 6 * q + (k + 1) ≤ i ∧ i < 39 + 6 * q + 6) by omega), if_neg (show ¬ i = 39 + 6 * q + k by omega), if_pos e1, if_pos (show 39 + 6 * p + k ≤ i ∧ i < 39 + 6 * p + 6 by omega), e1, show 39 + 6 * q + (39 + 6 * p + k - (39 + 6 * p)) = 39 + 6 * q + k by omega]
  · by_cases e2 : i = 39 + 6 * q + k
    · rw [if_neg (show ¬ (39 + 6 * p + (k + 1) ≤ i ∧ i < 39 + 6 * p + 6) by omega), if_neg (show ¬ (39 + 6 * q + (k + 1) ≤ i ∧ i < 39 + 6 * q + 6) by omega), if_pos e2, if_neg (show ¬ (39 + 6 * p + k ≤ i ∧ i < 39 + 6 * p + 6) by omega), if_pos (show 39 + 6 * q + k ≤ i ∧ i < 39 + 6 * q + 6 by omega)]
    · by_cases e3 : 39 + 6 * p + (k + 1) ≤ i ∧ i < 39 + 6 * p + 6
      · rw [if_pos e3, if_pos (show 39 + 6 * p + k ≤ i ∧ i < 39 + 6 * p + 6 by omega), if_neg e2, if_neg e1, if_neg (show ¬ 39 + 6 * q + (i - (39 + 6 * p)) = 39 + 6 * q + k by omega), if_neg (show ¬ 39 + 6 * q + (i - (39 + 6 * p)) = 39 + 6 * p + k by omega)]
      · rw [if_neg e3, if_neg (show ¬ (39 + 6 * p + k ≤ i ∧ i < 39 + 6 * p + 6) by omega)]
        by_cases e4 : 39 + 6 * q + (k + 1) ≤ i ∧ i < 39 + 6 * q + 6
        · rw [if_pos e4, if_pos (show 39 + 6 * q + k ≤ i ∧ i < 39 + 6 * q + 6 by omega)]
        · rw [if_neg e4, if_neg (show ¬ (39 + 6 * q + k ≤ i ∧ i < 39 + 6 * q + 6) by omega), if_neg e2, if_neg e1]
theorem R_opens_120 {p q : Nat} (hp : p < 12) (hq : q < 12) (hpq : p ≠ q) : ∀ (n k : Nat) (f : Nat → Int32) (h : (Nat → Int32) × (Nat → Int32) × Int32 × (Nat → Int32)), k ≤ 6 → 6 - k < n → fR_opens_120 (nI p) (nI q) n (f, h) (nI k) = some (msF f p q k, h) := by
  intro n
  induction n with
  | zero => intro k f h h1 h2; omega
  | succ n ih =>
    intro k f h h1 h2
    rw [fR_opens_120_s]
    rcases Nat.lt_or_ge k 6 with h3 | h3
    · rw [if_neg (show ¬ (6 : Int32) ≤ nI k from nI_ge (b := 6) h3 (by omega)), e_39n, e_39n, ld_n (by omega) (by omega), ld_n (by omega) (by omega), st_n (by omega) (by omega), st_n (by omega) (by omega), nI_clamp (by omega), nI_clamp (by omega), nI_1]
      show fR_opens_120 (nI p) (nI q) n (upd (upd f (39 + 6 * p + k) (f (39 + 6 * p + k) + f (39 + 6 * q + k))) (39 + 6 * q + k) 0, h) (nI (k + 1)) = _
      rw [ih (k + 1) _ h (by omega) (by omega), msF_s h3 hpq]
    · have : k = 6 := by omega
      subst this
      rw [if_pos (show (6 : Int32) ≤ nI 6 by decide)]
      congr 2
      funext i
      unfold msF
      rw [if_neg (by omega), if_neg (by omega)]
theorem R_opens_67 {p q t : Nat} (hp : p < 12) (hq : q < 12) (hpq : p ≠ q) (ht : t ≤ 12) : ∀ (n x : Nat) (f : Nat → Int32) (h : (Nat → Int32) × (Nat → Int32) × Int32 × (Nat → Int32)), f 1 = nI t → x ≤ t → t - x < n → fR_opens_67 (nI p) (nI q) n (f, h) (nI x) = some (msF (mapF (111 + x) (t - x) (hqp p q) f) p q 0, h) := by
  intro n
  induction n with
  | zero => intro k f h _ h1 h2; omega
  | succ n ih =>
    intro x f h h0 h1 h2
    rw [fR_opens_67_s, ld_1]
    show (if f 1 ≤ nI x then _ else _) = _
    rw [h0]
    rcases Nat.lt_or_ge x t with h3 | h3
    · rw [if_neg (nI_ge h3 (by omega)), e_111, ld_n (by omega) (by omega), ld_n (by omega) (by omega), st_n (by omega) (by omega), st_n (by omega) (by omega), nI_clamp (by omega), nI_1, show t - x = (t - (x + 1)) + 1 by omega, ← mapF_s]
      have e0 : ∀ v, upd f (111 + x) v 1 = nI t := fun v => by rw [← h0]; exact if_neg (by omega)
      by_cases e : f (111 + x) = nI q
      · rw [if_pos (show (f, h).1 (111 + x) = nI q from e), show hqp p q (f (111 + x)) = nI p from if_pos e]
        exact ih (x + 1) _ h (e0 _) (by omega) (by omega)
      · rw [if_neg (show ¬ (f, h).1 (111 + x) = nI q from e), show hqp p q (f (111 + x)) = f (111 + x) from if_neg e]
        exact ih (x + 1) _ h (e0 _) (by omega) (by omega)
    · have : x = t := by omega
      subst this
      rw [if_pos (nI_le (Nat.le_refl _) (by omega)), Nat.sub_self, mapF_0]
      exact R_opens_120 hp hq hpq 2000 0 f h (by omega) (by omega)
theorem R_opens_14 {p q c t : Nat} (hp : p < 12) (hq : q < 12) (hpq : p ≠ q) (hc : c ≤ 12) (ht : t ≤ 12) : ∀ (n x : Nat) (f : Nat → Int32) (h : (Nat → Int32) × (Nat → Int32) × Int32 × (Nat → Int32)), f 0 = nI c → f 1 = nI t → x ≤ c → c - x < n → fR_opens_14 (nI p) (nI q) n (f, h) (nI x) = some (msF (mapF 111 t (hqp p q) (mapF (15 + x) (c - x) (hqp p q) f)) p q 0, h) := by
  intro n
  induction n with
  | zero => intro k f h _ _ h1 h2; omega
  | succ n ih =>
    intro x f h hf0 h0 h1 h2
    rw [fR_opens_14_s, ld_0]
    show (if f 0 ≤ nI x then _ else _) = _
    rw [hf0]
    rcases Nat.lt_or_ge x c with h3 | h3
    · rw [if_neg (nI_ge h3 (by omega)), e_15, ld_n (by omega) (by omega), ld_n (by omega) (by omega), st_n (by omega) (by omega), st_n (by omega) (by omega), nI_clamp (by omega), nI_1, show c - x = (c - (x + 1)) + 1 by omega, ← mapF_s]
      have e0 : ∀ v, upd f (15 + x) v 1 = nI t := fun v => by rw [← h0]; exact if_neg (by omega)
      have e1 : ∀ v, upd f (15 + x) v 0 = nI c := fun v => by rw [← hf0]; exact if_neg (by omega)
      by_cases e : f (15 + x) = nI q
      · rw [if_pos (show (f, h).1 (15 + x) = nI q from e), show hqp p q (f (15 + x)) = nI p from if_pos e]
        exact ih (x + 1) _ h (e1 _) (e0 _) (by omega) (by omega)
      · rw [if_neg (show ¬ (f, h).1 (15 + x) = nI q from e), show hqp p q (f (15 + x)) = f (15 + x) from if_neg e]
        exact ih (x + 1) _ h (e1 _) (e0 _) (by omega) (by omega)
    · have : x = c := by omega
      subst this
      rw [if_pos (nI_le (Nat.le_refl _) (by omega)), Nat.sub_self, mapF_0]
      exact R_opens_67 hp hq hpq ht 2000 0 f h h0 (by omega) (by omega)
def opS (f : Nat → Int32) (c t p q : Nat) : Nat → Int32 := msF (mapF 111 t (hqp p q) (mapF 15 c (hqp p q) (upd f 2 (f 2 ||| (1 <<< (nI q &&& 31)))))) p q 0
theorem R_opens {f : Nat → Int32} {p q c t : Nat} (hp : p < 12) (hq : q < 12) (hpq : p ≠ q) (hc : c ≤ 12) (ht : t ≤ 12) (h : (Nat → Int32) × (Nat → Int32) × Int32 × (Nat → Int32)) (h0 : f 0 = nI c) (h1 : f 1 = nI t) : fR_opens (f, h) (nI p) (nI q) = some (opS f c t p q, h) := by
  rw [fR_opens, ld_2, st_2, cl_2]
  exact R_opens_14 hp hq hpq hc ht 2000 0 (upd f 2 (f 2 ||| (1 <<< (nI q &&& 31)))) h (by rw [← h0]; exact if_neg (by omega)) (by rw [← h1]; exact if_neg (by omega)) (by omega) (by omega)
section OPS
variable {f : Nat → Int32} {c t p q : Nat}
theorem opS_2 : opS f c t p q 2 = f 2 ||| (1 <<< (nI q &&& 31)) := by
  unfold opS msF
  rw [if_neg (by omega), if_neg (by omega), mapF_out (by omega), mapF_out (by omega)]; exact if_pos rfl
theorem opS_in {x : Nat} (h : x < c) (hc : c ≤ 12) : opS f c t p q (15 + x) = hqp p q (f (15 + x)) := by
  unfold opS msF
  rw [if_neg (by omega), if_neg (by omega), mapF_out (by omega), mapF_in (by omega) (by omega), show upd f 2 _ (15 + x) = f (15 + x) from if_neg (by omega)]
theorem opS_at {x : Nat} (h : x < t) (hp : p < 12) (hq : q < 12) (hc : c ≤ 12) : opS f c t p q (111 + x) = hqp p q (f (111 + x)) := by
  unfold opS msF
  rw [if_neg (by omega), if_neg (by omega), mapF_in (by omega) (by omega), mapF_out (by omega), show upd f 2 _ (111 + x) = f (111 + x) from if_neg (by omega)]
theorem opS_mp {n : Nat} (h : n < 6) (hp : p < 12) (hq : q < 12) (hc : c ≤ 12) : opS f c t p q (39 + 6 * p + n) = f (39 + 6 * p + n) + f (39 + 6 * q + n) := by
  unfold opS msF
  rw [if_pos (by omega), show 39 + 6 * q + (39 + 6 * p + n - (39 + 6 * p)) = 39 + 6 * q + n by omega, mapF_out (by omega), mapF_out (by omega), mapF_out (by omega), mapF_out (by omega), show upd f 2 _ (39 + 6 * p + n) = f (39 + 6 * p + n) from if_neg (by omega), show upd f 2 _ (39 + 6 * q + n) = f (39 + 6 * q + n) from if_neg (by omega)]
theorem opS_mq {n : Nat} (h : n < 6) (hpq : p ≠ q) : opS f c t p q (39 + 6 * q + n) = 0 := by
  unfold opS msF
  rw [if_neg (by omega), if_pos (by omega)]
theorem opS_mo {x n : Nat} (h : n < 6) (hx : x < 12) (hxp : x ≠ p) (hxq : x ≠ q) (hc : c ≤ 12) : opS f c t p q (39 + 6 * x + n) = f (39 + 6 * x + n) := by
  unfold opS msF
  rw [if_neg (by omega), if_neg (by omega), mapF_out (by omega), mapF_out (by omega)]; exact if_neg (by omega)
theorem opS_o {i : Nat} (h : i = 0 ∨ i = 1 ∨ (3 ≤ i ∧ i < 15) ∨ (27 ≤ i ∧ i < 39) ∨ 123 ≤ i) (hp : p < 12) (hq : q < 12) (hc : c ≤ 12) (ht : t ≤ 12) : opS f c t p q i = f i := by
  unfold opS msF
  rw [if_neg (by omega), if_neg (by omega), mapF_out (by omega), mapF_out (by omega)]; exact if_neg (by omega)
end OPS
/-! ===== the same in a world ===== -/
abbrev wA (w : SW) (a : Nat → Int32) : SW := (w.1, w.2.1, w.2.2.1, w.2.2.2.1, a, w.2.2.2.2.2)
abbrev wM (w : SW) (m : Nat → Int32) : SW := (w.1, w.2.1, w.2.2.1, w.2.2.2.1, w.2.2.2.2.1, m, w.2.2.2.2.2.2)
abbrev wP (w : SW) (s : Nat → Int32) : SW := (w.1, w.2.1, w.2.2.1, w.2.2.2.1, w.2.2.2.2.1, w.2.2.2.2.2.1, w.2.2.2.2.2.2.1, s, w.2.2.2.2.2.2.2.2)
theorem W_isP {w : SW} {c p : Nat} (h1 : w.1 = nI c) (hc : c ≤ 12) (hp : p < c) (hb : bt w.2.1 p = false) : fW_isPlace w (nI p) = some 1 := by
  rw [fW_isPlace, if_neg (nI_nn (by omega)), h1, if_neg (nI_ge hp (by omega)), sh_bit (by omega), if_neg (show ¬ bt w.2.1 p = true by rw [hb]; decide), if_pos rfl]
theorem W_msgOf {w : SW} {c p n : Nat} (h1 : w.1 = nI c) (hc : c ≤ 12) (hp : p < c) (hb : bt w.2.1 p = false) (hn : n < 6) : fW_messagesOf w (nI p) (nI n) = some (w.2.2.2.2.2.1 (p * 6 + n)) := by
  rw [fW_messagesOf, W_isP h1 hc hp hb, Option.bind_some, if_neg n10, M_isName_n hn, Option.bind_some, if_neg n10, e_6, ld_n (by omega) (by omega)]
theorem W_addMsg {w : SW} {c p n : Nat} {v : Int32} (h1 : w.1 = nI c) (hc : c ≤ 12) (hp : p < c) (hb : bt w.2.1 p = false) (hn : n < 6) : fW_addMessages w (nI p) (nI n) v = some (wM w (upd w.2.2.2.2.2.1 (p * 6 + n) (w.2.2.2.2.2.1 (p * 6 + n) + v))) := by
  rw [fW_addMessages, W_isP h1 hc hp hb, Option.bind_some, if_neg n10, M_isName_n hn, Option.bind_some, if_neg n10, e_6, ld_n (by omega) (by omega), st_n (by omega) (by omega), nI_clamp (by omega)]
def adM (m : Nat → Int32) (p q k : Nat) : Nat → Int32 := fun i => if p * 6 + k ≤ i ∧ i < p * 6 + 6 then m i + m (q * 6 + (i - p * 6)) else m i
theorem adM_s {m : Nat → Int32} {p q k : Nat} (hk : k < 6) (hpq : p ≠ q) : adM (upd m (p * 6 + k) (m (p * 6 + k) + m (q * 6 + k))) p q (k + 1) = adM m p q k := by
  funext i
  unfold adM upd
  by_cases e1 : i = p * 6 + k
  · rw [if_neg (by omega), if_pos e1, if_pos (by omega), e1, show q * 6 + (p * 6 + k - p * 6) = q * 6 + k by omega]
  · rw [if_neg e1]
    by_cases e3 : p * 6 + (k + 1) ≤ i ∧ i < p * 6 + 6
    · rw [if_pos e3, if_pos (show p * 6 + k ≤ i ∧ i < p * 6 + 6 by omega), if_neg (show ¬ q * 6 + (i - p * 6) = p * 6 + k by omega)]
    · rw [if_neg e3, if_neg (show ¬ (p * 6 + k ≤ i ∧ i < p * 6 + 6) by omega)]
def dsW (w : SW) (c t p q : Nat) : SW := (w.1, w.2.1 ||| (1 <<< (nI q &&& 31)), w.2.2.1, w.2.2.2.1, upd (mapF 0 c (hqp p q) w.2.2.2.2.1) q (-9), adM w.2.2.2.2.2.1 p q 0, w.2.2.2.2.2.2.1, mapF 0 t (hqp p q) w.2.2.2.2.2.2.2.1, w.2.2.2.2.2.2.2.2)
theorem W_dissolve_70 {p q t : Nat} (hq : q < 12) (ht : t ≤ 12) : ∀ (n x : Nat) (w : SW), w.2.2.2.2.2.2.1 = nI t → x ≤ t → t - x < n → fW_dissolve_70 (nI q) (nI p) n w (nI x) = some (w.1, w.2.1 ||| (1 <<< (nI q &&& 31)), w.2.2.1, w.2.2.2.1, upd w.2.2.2.2.1 q (-9), w.2.2.2.2.2.1, w.2.2.2.2.2.2.1, mapF x (t - x) (hqp p q) w.2.2.2.2.2.2.2.1, w.2.2.2.2.2.2.2.2) := by
  intro n
  induction n with
  | zero => intro x w _ h1 h2; omega
  | succ n ih =>
    intro x w h0 h1 h2
    rw [fW_dissolve_70_s]
    rcases Nat.lt_or_ge x t with h3 | h3
    · rw [if_neg (show ¬ w.2.2.2.2.2.2.1 ≤ nI x by rw [h0]; exact nI_ge h3 (by omega)), ld_n (by omega) (by omega), st_n (by omega) (by omega), nI_clamp (by omega), nI_1, show t - x = (t - (x + 1)) + 1 by omega]
      by_cases e : w.2.2.2.2.2.2.2.1 x = nI q
      · rw [if_pos e, ← mapF_s, show hqp p q (w.2.2.2.2.2.2.2.1 x) = nI p from if_pos e]
        exact ih (x + 1) (wP w (upd w.2.2.2.2.2.2.2.1 x (nI p))) h0 (by omega) (by omega)
      · rw [if_neg e, ← mapF_e (show hqp p q (w.2.2.2.2.2.2.2.1 x) = w.2.2.2.2.2.2.2.1 x from if_neg e)]
        exact ih (x + 1) w h0 (by omega) (by omega)
    · have : x = t := by omega
      subst this
      rw [if_pos (show w.2.2.2.2.2.2.1 ≤ nI x by rw [h0]; exact nI_le (Nat.le_refl _) (by omega)), Nat.sub_self, mapF_0, st_n (by omega) (by omega), nI_clamp (by omega)]
theorem W_dissolve_37 {p q c t : Nat} (hq : q < 12) (hc : c ≤ 12) (ht : t ≤ 12) : ∀ (n x : Nat) (w : SW), w.1 = nI c → w.2.2.2.2.2.2.1 = nI t → x ≤ c → c - x < n → fW_dissolve_37 (nI q) (nI p) n w (nI x) = some (w.1, w.2.1 ||| (1 <<< (nI q &&& 31)), w.2.2.1, w.2.2.2.1, upd (mapF x (c - x) (hqp p q) w.2.2.2.2.1) q (-9), w.2.2.2.2.2.1, w.2.2.2.2.2.2.1, mapF 0 t (hqp p q) w.2.2.2.2.2.2.2.1, w.2.2.2.2.2.2.2.2) := by
  intro n
  induction n with
  | zero => intro x w _ _ h1 h2; omega
  | succ n ih =>
    intro x w hw h0 h1 h2
    rw [fW_dissolve_37_s]
    rcases Nat.lt_or_ge x c with h3 | h3
    · rw [if_neg (show ¬ w.1 ≤ nI x by rw [hw]; exact nI_ge h3 (by omega)), ld_n (by omega) (by omega), st_n (by omega) (by omega), nI_clamp (by omega), nI_1, show c - x = (c - (x + 1)) + 1 by omega]
      by_cases e : w.2.2.2.2.1 x = nI q
      · rw [if_pos e, ← mapF_s, show hqp p q (w.2.2.2.2.1 x) = nI p from if_pos e]
        exact ih (x + 1) (wA w (upd w.2.2.2.2.1 x (nI p))) hw h0 (by omega) (by omega)
      · rw [if_neg e, ← mapF_e (show hqp p q (w.2.2.2.2.1 x) = w.2.2.2.2.1 x from if_neg e)]
        exact ih (x + 1) w hw h0 (by omega) (by omega)
    · have : x = c := by omega
      subst this
      rw [if_pos (show w.1 ≤ nI x by rw [hw]; exact nI_le (Nat.le_refl _) (by omega)), Nat.sub_self, mapF_0]
      exact W_dissolve_70 hq ht 2000 0 w h0 (by omega) (by omega)
theorem W_dissolve_11 {p q c t : Nat} (hp : p < c) (hq : q < c) (hpq : p ≠ q) (hc : c ≤ 12) (ht : t ≤ 12) : ∀ (n k : Nat) (w : SW), w.1 = nI c → w.2.2.2.2.2.2.1 = nI t → bt w.2.1 p = false → bt w.2.1 q = false → k ≤ 6 → 6 - k < n → fW_dissolve_11 (nI q) (nI p) n w (nI k) = some (w.1, w.2.1 ||| (1 <<< (nI q &&& 31)), w.2.2.1, w.2.2.2.1, upd (mapF 0 c (hqp p q) w.2.2.2.2.1) q (-9), adM w.2.2.2.2.2.1 p q k, w.2.2.2.2.2.2.1, mapF 0 t (hqp p q) w.2.2.2.2.2.2.2.1, w.2.2.2.2.2.2.2.2) := by
  intro n
  induction n with
  | zero => intro x w _ _ _ _ h1 h2; omega
  | succ n ih =>
    intro k w hw h0 hbp hbq h1 h2
    rw [fW_dissolve_11_s]
    rcases Nat.lt_or_ge k 6 with h3 | h3
    · rw [if_neg (show ¬ (6 : Int32) ≤ nI k from nI_ge (b := 6) h3 (by omega)), W_msgOf hw hc hq hbq h3, Option.bind_some, W_addMsg hw hc hp hbp h3, Option.bind_some, nI_1, ih (k + 1) (wM w (upd w.2.2.2.2.2.1 (p * 6 + k) (w.2.2.2.2.2.1 (p * 6 + k) + w.2.2.2.2.2.1 (q * 6 + k)))) hw h0 hbp hbq (by omega) (by omega), ← adM_s h3 hpq]
    · have : k = 6 := by omega
      subst this
      rw [if_pos (show (6 : Int32) ≤ nI 6 by decide), show adM w.2.2.2.2.2.1 p q 6 = w.2.2.2.2.2.1 from funext fun i => if_neg (by omega)]
      exact W_dissolve_37 (by omega) hc ht 2000 0 w hw h0 (by omega) (by omega)
theorem W_dissolve {w : SW} {p q c t : Nat} (hp : p < c) (hq : q < c) (hpq : p ≠ q) (hc : c ≤ 12) (ht : t ≤ 12) (hw : w.1 = nI c) (h0 : w.2.2.2.2.2.2.1 = nI t) (hbp : bt w.2.1 p = false) (hbq : bt w.2.1 q = false) : fW_dissolve w (nI q) (nI p) = some (dsW w c t p q) := by
  rw [fW_dissolve, W_isP hw hc hq hbq, Option.bind_some, if_neg n10]
  exact W_dissolve_11 hp hq hpq hc ht 2000 0 w hw h0 hbp hbq (by omega) (by omega)
