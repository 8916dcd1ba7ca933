/-! ===== reading calls ===== -/
section C2
variable {S : SM} {g : SR}
theorem k_ofPlace {a1 a2 : Int32} (h : Rel S g) : roOK (fM_ofPlace S a1 a2) (fR_ofPlace g a1 a2) := by
  obtain ⟨⟨c, t, hW, hS⟩, hI⟩ := h
  have hc := hW.c12
  by_cases ha : ∃ j, lvp g.1 c j ∧ a1 = nI j
  · obtain ⟨j, hj, rfl⟩ := ha
    have hjc := hj.1
    rw [fM_ofPlace, fR_ofPlace, W_isPlace_l hW hS hj, R_isPlace_l hW hj, Option.bind_some, Option.bind_some, if_neg n10, if_neg n10]
    by_cases e0 : a2 = 0
    · rw [if_pos e0, if_pos e0, W_nameOf_l hW hS hj, Option.bind_some, e_3, ld_n (by omega) (by omega)]; exact ro_i rfl rfl
    rw [if_neg e0, if_neg e0]
    by_cases e1 : a2 = 1
    · rw [if_pos e1, if_pos e1, W_placeAround_l hW hS hj, Option.bind_some, e_15, ld_n (by omega) (by omega)]; exact ro_i rfl rfl
    rw [if_neg e1, if_neg e1]
    by_cases e2 : a2 = 2
    · rw [if_pos e2, if_pos e2, W_isSealed_l hW hS hj, Option.bind_some, e_27, ld_n (by omega) (by omega)]
      rcases hW.seal (show j < 12 by omega) with h1 | h1
      · rw [h1, if_pos rfl]; exact ro_i rfl rfl
      · rw [h1, if_neg n10]; exact ro_i rfl rfl
    rw [if_neg e2, if_neg e2]
    by_cases e3 : a2 = 3
    · rw [if_pos e3, if_pos e3, W_placesIn hW hS (by omega), R_placesIn hW, Option.bind_some]; exact ro_i rfl rfl
    rw [if_neg e3, if_neg e3]
    by_cases e4 : a2 = 4
    · rw [if_pos e4, if_pos e4, W_threadsIn hW hS, R_threadsIn hW, Option.bind_some]; exact ro_i rfl rfl
    rw [if_neg e4, if_neg e4]
    by_cases e5 : a2 = 5
    · obtain ⟨d, hd⟩ := chn_ex hW j hj
      rw [if_pos e5, if_pos e5, W_depthOf hW hS hd, R_deepOf hW hd, Option.bind_some]; exact ro_i rfl rfl
    rw [if_neg e5, if_neg e5]
    by_cases e6 : a2 < 10
    · rw [if_pos e6, if_pos e6]; exact ro_i rfl rfl
    rw [if_neg e6, if_neg e6]
    have h0 : ¬ a2 < 0 := fun h => e6 (by
      rw [fa_lt] at h ⊢
      have : (10 : Int32).toInt = 10 := by decide
      have : (0 : Int32).toInt = 0 := by decide
      omega)
    obtain ⟨b, hb, rfl⟩ := nI_of h0
    have hb10 : 10 ≤ b := by
      rcases Nat.lt_or_ge b 10 with h | h
      · exact absurd (show nI b < 10 from nI_lt (b := 10) h (by omega)) e6
      · exact h
    have es : nI b - 10 = nI (b - 10) := pk_sub (b := 10) hb10
    rw [es]
    rcases Nat.lt_or_ge b 16 with h | h
    · have ex : (((39 : Int32) + (6 * nI j)) + nI b) - 10 = nI (39 + 6 * j + (b - 10)) := by
        rw [e_39n, show nI (39 + 6 * j + b) - 10 = nI (39 + 6 * j + b - 10) from pk_sub (b := 10) (by omega), show 39 + 6 * j + b - 10 = 39 + 6 * j + (b - 10) by omega]
      rw [if_neg (show ¬ (16 : Int32) ≤ nI b from nI_ge (b := 16) h (by omega)), W_messagesOf_l hW hS hj (by omega), Option.bind_some, R_isName_n (by omega), Option.bind_some, if_neg n10, ex, ld_n (by omega) (by omega)]; exact ro_i rfl rfl
    · rw [if_pos (show (16 : Int32) ≤ nI b from nI_le (a := 16) h hb), R_isName_o (fun n hn e => by have := nI_inj (by omega) (by omega) e; omega), Option.bind_some, if_pos rfl]; exact ro_i rfl rfl
  · have ha' : ∀ j, lvp g.1 c j → a1 ≠ nI j := fun j h e => ha ⟨j, h, e⟩
    exact ro_i (by rw [fM_ofPlace, W_isPlace_o hW hS ha', Option.bind_some, if_pos rfl]) (by rw [fR_ofPlace, R_isPlace_o hW ha', Option.bind_some, if_pos rfl])
theorem k_ofThread {a1 a2 : Int32} (h : Rel S g) : roOK (fM_ofThread S a1 a2) (fR_ofThread g a1 a2) := by
  obtain ⟨⟨c, t, hW, hS⟩, hI⟩ := h
  have ht := hW.t12
  by_cases ha : ∃ j, j < t ∧ a1 = nI j
  · obtain ⟨j, hj, rfl⟩ := ha
    obtain ⟨p, m, d, k1, k2, k3, k4, k5, k6, k7, k8⟩ := hW.th hj
    rw [fM_ofThread, fR_ofThread, W_isThread_n hW hS hj, R_isThread_n hW hj, Option.bind_some, Option.bind_some, if_neg n10, if_neg n10]
    by_cases e0 : a2 = 0
    · rw [if_pos e0, if_pos e0, W_placeOfThread hW hS hj, Option.bind_some, e_111, ld_n (by omega) (by omega)]; exact ro_i rfl rfl
    rw [if_neg e0, if_neg e0]
    by_cases e1 : a2 = 1
    · rw [if_pos e1, if_pos e1, W_actsDone hW hS hj, Option.bind_some, e_135, ld_n (by omega) (by omega)]; exact ro_i rfl rfl
    rw [if_neg e1, if_neg e1]
    by_cases e2 : a2 = 2
    · rw [if_pos e2, if_pos e2, W_actsInAll hW hS hj, Option.bind_some, e_123, ld_n (by omega) (by omega)]; exact ro_i rfl rfl
    rw [if_neg e2, if_neg e2]
    by_cases e3 : a2 = 3
    · rw [if_pos e3, if_pos e3, W_heardBy hW hS hj, Option.bind_some, e_147, ld_n (by omega) (by omega)]; exact ro_i rfl rfl
    rw [if_neg e3, if_neg e3]
    by_cases e4 : a2 = 4
    · rw [if_pos e4, if_pos e4, W_isOver hW hS hj k4 k6 k3.2 k5, Option.bind_some]
      rcases Nat.lt_or_ge d m with h | h
      · rw [if_neg (show ¬ g.1 (135 + j) = g.1 (123 + j) by rw [k4, k6]; exact fun e => by have := nI_inj (by omega) (by omega) e; omega), if_pos rfl, W_actsDone hW hS hj, Option.bind_some, k6, W_actOf hW hS hj k4 k3.2 h, Option.bind_some, R_nextOf_n (by omega) k4 k6 k3.2 h, Option.bind_some]; exact ro_i rfl rfl
      · have e : g.1 (135 + j) = g.1 (123 + j) := by rw [k4, k6, show d = m by omega]
        rw [if_pos e, if_neg n10, R_nextOf_o (by omega) e, Option.bind_some]; exact ro_i rfl rfl
    rw [if_neg e4, if_neg e4]; exact ro_i rfl rfl
  · have ha' : ∀ j, j < t → a1 ≠ nI j := fun j h e => ha ⟨j, h, e⟩
    exact ro_i (by rw [fM_ofThread, W_isThread_o hW hS ha', Option.bind_some, if_pos rfl]) (by rw [fR_ofThread, R_isThread_o hW ha', Option.bind_some, if_pos rfl])
/-- which threads can act, as both find it -/
def canB (w : SW) (j : Nat) : Bool := !decide (fW_aimOf w (nI j) = some (-9))
theorem W_can_L {w : SW} {f : Nat → Int32} {c t : Nat} (hW : Wf f c t) (hS : Sm w f c t) : ∀ (n q : Nat) (a : Int32), q ≤ t → t - q < n → fW_threadsThatCan_4 w n a (nI q) = some (orF (canB w) (t - q) q a) := by
  have ht := hW.t12
  intro n
  induction n with
  | zero => intro q a h1 h2; omega
  | succ n ih =>
    intro q a h1 h2
    rw [fW_threadsThatCan_4_s, hS.tc]
    rcases Nat.lt_or_ge q t with h | h
    · obtain ⟨r, -, hr⟩ := RW_aim (g := (f, fun _ => 0, fun _ => 0, 0, fun _ => 0)) hW hS h
      rw [if_neg (nI_ge h (by omega)), show t - q = (t - (q + 1)) + 1 by omega, orF, hr, Option.bind_some]
      by_cases e : r = -9
      · rw [if_pos e, nI_1, ih (q + 1) _ (by omega) (by omega), if_neg (by simp [canB, hr, e])]
      · rw [if_neg e, mp_lt, nI_1, ih (q + 1) _ (by omega) (by omega), if_pos (by simp [canB, hr, e])]
    · rw [if_pos (nI_le h (by omega)), show t - q = 0 by omega]; rfl
theorem W_can {w : SW} {f : Nat → Int32} {c t : Nat} (hW : Wf f c t) (hS : Sm w f c t) : fW_threadsThatCan w = some (orF (canB w) t 0 0) := W_can_L hW hS 2000 0 0 (Nat.zero_le _) (by have := hW.t12; omega)
theorem R_can_L {w : SW} {c t : Nat} (hW : Wf g.1 c t) (hS : Sm w g.1 c t) : ∀ (n q : Nat) (a : Int32), q ≤ t → t - q < n → fR_can_4 g n a (nI q) = some (orF (canB w) (t - q) q a) := by
  have ht := hW.t12
  intro n
  induction n with
  | zero => intro q a h1 h2; omega
  | succ n ih =>
    intro q a h1 h2
    rw [fR_can_4_s, ld_1, hW.t0]
    rcases Nat.lt_or_ge q t with h | h
    · obtain ⟨r, hr1, hr⟩ := RW_aim hW hS h
      rw [if_neg (nI_ge h (by omega)), show t - q = (t - (q + 1)) + 1 by omega, orF, hr1, Option.bind_some]
      by_cases e : r = -9
      · rw [if_pos e, or_0, nI_1, ih (q + 1) _ (by omega) (by omega), if_neg (by simp [canB, hr, e])]
      · rw [if_neg e, mp_lt, nI_1, ih (q + 1) _ (by omega) (by omega), if_pos (by simp [canB, hr, e])]
    · rw [if_pos (nI_le h (by omega)), show t - q = 0 by omega]; rfl
theorem k_can (h : Rel S g) : roOK (fM_can S) (fR_can g) := by
  obtain ⟨⟨c, t, hW, hS⟩, hI⟩ := h
  exact ro_i (v := orF (canB S.1) t 0 0) (by rw [fM_can, W_can hW hS, Option.bind_some]) (R_can_L hW hS 2000 0 0 (Nat.zero_le _) (by have := hW.t12; omega))
/-! ===== a place comes ===== -/
def clF (m : Nat → Int32) (c k : Nat) : Nat → Int32 := fun i => if c * 6 + k ≤ i ∧ i < c * 6 + 6 then 0 else m i
theorem W_addPlace_L {c : Nat} (hc : c < 12) : ∀ (n k : Nat) (w : SW), k ≤ 6 → 6 - k < n → fW_addPlace_55 (nI c) n w (nI k) = some (nI c, wM w (clF w.2.2.2.2.2.1 c k)) := by
  intro n
  induction n with
  | zero => intro k w h1 h2; omega
  | succ n ih =>
    intro k w h1 h2
    rw [fW_addPlace_55_s]
    rcases Nat.lt_or_ge k 6 with h | h
    · rw [if_neg (show ¬ (6 : Int32) ≤ nI k from nI_ge (b := 6) h (by omega)), e_6, st_n (by omega) (by omega), nI_clamp (by omega), nI_1]
      refine (ih (k + 1) (wM w (upd w.2.2.2.2.2.1 (c * 6 + k) 0)) (by omega) (by omega)).trans ?_
      have e : clF (upd w.2.2.2.2.2.1 (c * 6 + k) 0) c (k + 1) = clF w.2.2.2.2.2.1 c k := by
        funext i
        unfold clF upd
        by_cases e : i = c * 6 + k
        · rw [if_neg (by omega), if_pos e, if_pos (by omega)]
        · rw [if_neg e]
          by_cases e2 : c * 6 + (k + 1) ≤ i ∧ i < c * 6 + 6
          · rw [if_pos e2, if_pos (by omega)]
          · rw [if_neg e2, if_neg (by omega)]
      show some (nI c, wM w (clF (upd w.2.2.2.2.2.1 (c * 6 + k) 0) c (k + 1))) = _
      rw [e]
    · have : k = 6 := by omega
      subst this
      rw [if_pos (show (6 : Int32) ≤ nI 6 by decide), show clF w.2.2.2.2.2.1 c 6 = w.2.2.2.2.2.1 from funext fun i => if_neg (by omega)]
def plS (f : Nat → Int32) (c j n : Nat) : Nat → Int32 := upd (upd (upd f (3 + c) (nI n)) (15 + c) (nI j)) 0 (nI (c + 1))
def plW (w : SW) (c j n : Nat) : SW := (nI (c + 1), w.2.1, (w.2.2.1 &&& ((1 <<< (nI c &&& 31)) ^^^ (-1))), upd w.2.2.2.1 c (nI n), upd w.2.2.2.2.1 c (nI j), clF w.2.2.2.2.2.1 c 0, w.2.2.2.2.2.2)
theorem W_addPlace {w : SW} {c j n : Nat} (hc : c < 12) (hw : w.1 = nI c) : fW_addPlace w (nI j) (nI n) = some (nI c, plW w c j n) := by
  rw [fW_addPlace, hw, if_pos (show nI c < (12 : Int32) from nI_lt (b := 12) hc (by omega)), st_n (by omega) (by omega), st_n (by omega) (by omega), nI_clamp (by omega), nI_1]
  exact W_addPlace_L hc 2000 0 (nI (c + 1), w.2.1, (w.2.2.1 &&& ((1 <<< (nI c &&& 31)) ^^^ (-1))), upd w.2.2.2.1 c (nI n), upd w.2.2.2.2.1 c (nI j), w.2.2.2.2.2.1, w.2.2.2.2.2.2) (by omega) (by omega)
theorem lvp_pl {f : Nat → Int32} {c t j n x : Nat} (hW : Wf f c t) : lvp (plS f c j n) (c + 1) x ↔ lvp f c x ∨ x = c := by
  have e2 : plS f c j n 2 = f 2 := by unfold plS; rw [pk_un (by omega), pk_un (by omega), pk_un (by omega)]
  unfold lvp
  rw [e2]
  constructor
  · rintro ⟨h1, h2⟩
    by_cases e : x = c
    · exact Or.inr e
    · exact Or.inl ⟨by omega, h2⟩
  · rintro (⟨h1, h2⟩ | rfl)
    · exact ⟨by omega, h2⟩
    · exact ⟨by omega, hW.gone (Nat.le_refl _)⟩
theorem pl_rel {w : SW} {f : Nat → Int32} {c t j n : Nat} (hW : Wf f c t) (hS : Sm w f c t) (hc : c < 12) (hj : lvp f c j) (hn : n < 6) : Wf (plS f c j n) (c + 1) t ∧ Sm (plW w c j n) (plS f c j n) (c + 1) t := by
  have ht := hW.t12; have hc1 := hW.c1; have hjc := hj.1
  have hu : ∀ i, i ≠ 0 → i ≠ 3 + c → i ≠ 15 + c → plS f c j n i = f i := fun i h1 h2 h3 => by unfold plS; rw [pk_un h1, pk_un h3, pk_un h2]
  have h3 : plS f c j n (3 + c) = nI n := by unfold plS; rw [pk_un (by omega), pk_un (by omega), pk_us]
  have h15 : plS f c j n (15 + c) = nI j := by unfold plS; rw [pk_un (by omega), pk_us]
  have h0 : plS f c j n 0 = nI (c + 1) := by unfold plS; rw [pk_us]
  have hlc : ¬ lvp f c c := fun h => by have := h.1; omega
  have hT : ∀ x, x < t → Th (plS f c j n) (c + 1) x := fun x hx => by
    obtain ⟨p, m, d, k1, k2, k3, k4, k5, k6, k7, k8⟩ := hW.th hx
    refine ⟨p, m, d, (lvp_pl hW).mpr (Or.inl k1), by rw [hu _ (by omega) (by omega) (by omega)]; exact k2, k3, by rw [hu _ (by omega) (by omega) (by omega)]; exact k4, k5, by rw [hu _ (by omega) (by omega) (by omega)]; exact k6, by rw [hu _ (by omega) (by omega) (by omega)]; exact k7, fun k hk => ?_⟩
    rw [hu _ (by omega) (by omega) (by omega)]; exact k8 k hk
  obtain ⟨rk, hr⟩ := hW.rk
  constructor
  · refine ⟨⟨h0, by rw [hu _ (by omega) (by omega) (by omega)]; exact hW.t0, by omega, by omega, ht⟩, ⟨by rw [hu _ (by omega) (by omega) (by omega)]; exact hW.live0.2, by rw [hu _ (by omega) (by omega) (by omega)]; exact hW.name0, by rw [hu _ (by omega) (by omega) (by omega)]; exact hW.in0, by rw [hu _ (by omega) (by omega) (by omega)]; exact hW.2.1.2.2.2⟩, fun x h1 h2 => ?_, fun x h1 h2 => ?_, ⟨fun x => if x = c then rk j + 1 else rk x, fun x y h1 h2 h4 h5 => ?_⟩, fun x h1 => ?_, fun x h1 h2 => ?_, fun x k h1 h2 h4 => ?_, fun x h1 => ?_, hT⟩
    · by_cases e : x = c
      · subst e; exact ⟨n, hn, h3⟩
      · rw [hu _ (by omega) (by omega) (by omega)]; exact hW.name h1 (by omega)
    · rcases (lvp_pl hW).mp h2 with h | rfl
      · have := h.1
        obtain ⟨y, hy, e⟩ := hW.inn h1 h
        exact ⟨y, (lvp_pl hW).mpr (Or.inl hy), by rw [hu _ (by omega) (by omega) (by omega)]; exact e⟩
      · exact ⟨j, (lvp_pl hW).mpr (Or.inl hj), h15⟩
    · show (if y = c then rk j + 1 else rk y) < if x = c then rk j + 1 else rk x
      have hy1 := h4.1
      rcases (lvp_pl hW).mp h2 with h | rfl
      · have := h.1
        rw [hu _ (by omega) (by omega) (by omega)] at h5
        obtain ⟨z, hz, e⟩ := hW.inn h1 h
        have := hz.1
        have : z = y := nI_inj (by omega) (by omega) (e.symm.trans h5)
        subst this
        rw [if_neg (by omega), if_neg (by omega)]
        exact hr x z h1 h hz e
      · rw [h15] at h5
        have : j = y := nI_inj (by omega) (by omega) h5
        subst this
        rw [if_neg (by omega), if_pos rfl]; omega
    · rw [hu _ (by omega) (by omega) (by omega)]; exact hW.seal h1
    · rw [hu _ (by omega) (by omega) (by omega)]; exact hW.seal0 (by omega) h2
    · rw [hu _ (by omega) (by omega) (by omega)]; exact hW.msg0 h1 h2 (fun h => h4 ((lvp_pl hW).mpr (Or.inl h)))
    · rw [hu _ (by omega) (by omega) (by omega)]; exact hW.gone (by omega)
  · refine ⟨⟨rfl, by rw [hu _ (by omega) (by omega) (by omega)]; exact hS.gs, hS.tc⟩, fun x hx => ?_, fun x hx => ?_, fun x h1 hx => ?_, fun x hx => ?_, fun x k hx hk => ?_, fun x hx => ?_, fun x hx => ?_⟩
    · show upd w.2.2.2.1 c (nI n) x = _
      by_cases e : x = c
      · subst e; rw [pk_us, h3]
      · rw [pk_un e, hu _ (by omega) (by omega) (by omega)]; exact hS.nm (by omega)
    · show upd w.2.2.2.2.1 c (nI j) x = _
      rcases (lvp_pl hW).mp hx with h | rfl
      · have := h.1
        rw [pk_un (by omega), hu _ (by omega) (by omega) (by omega)]; exact hS.ar h
      · rw [pk_us, h15]
    · show upd w.2.2.2.2.1 c (nI j) x = -9
      have e : x ≠ c := fun e => hx ((lvp_pl hW).mpr (Or.inr e))
      rw [pk_un e]; exact hS.ag (by omega) (fun h => hx ((lvp_pl hW).mpr (Or.inl h)))
    · show bt (w.2.2.1 &&& _) x = true ↔ _
      rw [b_clr (by omega) (by omega), hu _ (by omega) (by omega) (by omega)]
      by_cases e : x = c
      · subst e
        rw [decide_eq_true rfl, hW.seal0 (Nat.le_refl _) hc]; simp
      · rw [decide_eq_false e]
        simp only [Bool.not_false, Bool.and_true]
        exact hS.sl (by omega)
    · show clF w.2.2.2.2.2.1 c 0 (x * 6 + k) = _
      unfold clF
      rcases (lvp_pl hW).mp hx with h | rfl
      · have := h.1
        rw [if_neg (by omega), hu _ (by omega) (by omega) (by omega)]; exact hS.ms h hk
      · rw [if_pos (by omega), hu _ (by omega) (by omega) (by omega), hW.msg0 hc hk hlc]
    · obtain ⟨a1, a2, a3, a4⟩ := hS.th hx
      exact ⟨by rw [hu _ (by omega) (by omega) (by omega)]; exact a1, by rw [hu _ (by omega) (by omega) (by omega)]; exact a2, by rw [hu _ (by omega) (by omega) (by omega)]; exact a3, by rw [hu _ (by omega) (by omega) (by omega)]; exact a4⟩
    · obtain ⟨A, h1, h2, h4⟩ := hS.ac hx
      exact ⟨A, h1, h2, fun m k hm hk h6 => by rw [hu _ (by omega) (by omega) (by omega)] at hm ⊢; exact h4 m k hm hk h6⟩
theorem k_place {a1 a2 : Int32} (h : Rel S g) : moOK (fM_place S a1 a2) (fR_place g a1 a2) := by
  have hR := h
  obtain ⟨⟨c, t, hW, hS⟩, hI⟩ := h
  have hc := hW.c12
  by_cases ha : ∃ j, lvp g.1 c j ∧ a1 = nI j
  · obtain ⟨j, hj, rfl⟩ := ha
    have hjc := hj.1
    by_cases hn : ∃ n, n < 6 ∧ a2 = nI n
    · obtain ⟨n, hn, rfl⟩ := hn
      rcases Nat.lt_or_ge c 12 with h12 | h12
      · obtain ⟨p1, p2⟩ := pl_rel hW hS h12 hj hn
        refine mo_i (v := nI c) ?_ ?_ (Rel_now hI p1 p2)
        · rw [fM_place, W_isPlace_l hW hS hj, Option.bind_some, if_neg n10, M_isName_n hn, Option.bind_some, if_neg n10, W_addPlace h12 hS.pc, Option.bind_some]
        · rw [fR_place, R_isPlace_l hW hj, Option.bind_some, if_neg n10, R_isName_n hn, Option.bind_some, if_neg n10, ld_0, hW.c0, if_neg (fun e => by have := nI_inj (b := 12) (by omega) (by omega) e; omega), ld_0, hW.c0, e_3, e_15, st_n (by omega) (by omega), st_n (by omega) (by omega), ld_0, st_0, nI_clamp (by omega), nI_clamp (by omega), pk_un (by omega), pk_un (by omega), hW.c0, nI_1, cl_0]; rfl
      · have : c = 12 := by omega
        subst this
        refine mo_i (v := -4) (S := S) (g := g) ?_ ?_ hR
        · rw [fM_place, W_isPlace_l hW hS hj, Option.bind_some, if_neg n10, M_isName_n hn, Option.bind_some, if_neg n10, fW_addPlace, hS.pc, if_neg (show ¬ nI 12 < 12 by decide), Option.bind_some]
        · rw [fR_place, R_isPlace_l hW hj, Option.bind_some, if_neg n10, R_isName_n hn, Option.bind_some, if_neg n10, ld_0, hW.c0, if_pos (show nI 12 = 12 from rfl)]
    · have hn' : ∀ n, n < 6 → a2 ≠ nI n := fun n h e => hn ⟨n, h, e⟩
      exact mo_i (by rw [fM_place, W_isPlace_l hW hS hj, Option.bind_some, if_neg n10, M_isName_o hn', Option.bind_some, if_pos rfl]) (by rw [fR_place, R_isPlace_l hW hj, Option.bind_some, if_neg n10, R_isName_o hn', Option.bind_some, if_pos rfl]) hR
  · have ha' : ∀ j, lvp g.1 c j → a1 ≠ nI j := fun j h e => ha ⟨j, h, e⟩
    exact mo_i (by rw [fM_place, W_isPlace_o hW hS ha', Option.bind_some, if_pos rfl]) (by rw [fR_place, R_isPlace_o hW ha', Option.bind_some, if_pos rfl]) hR
end C2
