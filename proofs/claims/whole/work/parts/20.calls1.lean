/-! ===== the class and the reference, call by call ===== -/
def Im (S : SM) (g : SR) : Prop := S.2.2.1 = g.2.2.2.1 ∧ (S.2.2.1 = 0 ∨ (S.2.2.1 = 1 ∧ ∃ c t, Wf g.2.1 c t ∧ Sm S.2.1 g.2.1 c t))
def Rel (S : SM) (g : SR) : Prop := (∃ c t, Wf g.1 c t ∧ Sm S.1 g.1 c t) ∧ Im S g
theorem Rel_now {S : SM} {g : SR} {w : SW} {f : Nat → Int32} {c t : Nat} (hI : Im S g) (hW : Wf f c t) (hS : Sm w f c t) : Rel (w, S.2) (f, g.2) := ⟨⟨c, t, hW, hS⟩, hI⟩
def roOK (m r : Option Int32) : Prop := ∃ v, m = some v ∧ r = some v
def moOK (m : Option (Int32 × SM)) (r : Option (Int32 × SR)) : Prop := ∃ v S g, m = some (v, S) ∧ r = some (v, g) ∧ Rel S g
theorem ro_i {m r : Option Int32} {v : Int32} (h1 : m = some v) (h2 : r = some v) : roOK m r := ⟨v, h1, h2⟩
theorem mo_i {m : Option (Int32 × SM)} {r : Option (Int32 × SR)} {v : Int32} {S : SM} {g : SR} (h1 : m = some (v, S)) (h2 : r = some (v, g)) (h : Rel S g) : moOK m r := ⟨v, S, g, h1, h2, h⟩
section C1
variable {S : SM} {g : SR}
theorem k_seal {a1 : Int32} (h : Rel S g) (b : Nat) (hb : b < 2) : moOK (fM_seal S a1 (nI b)) (fR_seal g a1 (nI b)) := by
  have hR := h
  obtain ⟨⟨c, t, hW, hS⟩, hI⟩ := h
  have hc := hW.c12
  by_cases ha : ∃ j, lvp g.1 c j ∧ a1 = nI j
  · obtain ⟨j, hj, rfl⟩ := ha
    have hjc := hj.1
    rcases Nat.eq_zero_or_pos j with rfl | h0
    · exact mo_i (by rw [fM_seal, W_isPlace_l hW hS hj, Option.bind_some, if_neg n10, if_pos nI_0]) (by rw [fR_seal, R_isPlace_l hW hj, Option.bind_some, if_neg n10, if_pos nI_0]) hR
    · have hne := nI_ne0 h0 (show j < 2 ^ 31 by omega)
      have hu : ∀ v i, i ≠ 27 + j → upd g.1 (27 + j) v i = g.1 i := fun v i h => pk_un h
      have key : ∀ v : Nat, v < 2 → ∀ x : Int32, Sm (S.1.1, S.1.2.1, x, S.1.2.2.2) (upd g.1 (27 + j) (nI v)) c t → Rel ((S.1.1, S.1.2.1, x, S.1.2.2.2), S.2) (upd g.1 (27 + j) (nI v), g.2) := by
        intro v hv x hx
        refine Rel_now hI (t := t) (c := c) ?_ hx
        have hl := lvp_of (hu (nI v) 2 (by omega)) c
        obtain ⟨rk, hr⟩ := hW.rk
        refine ⟨⟨by rw [hu _ _ (by omega)]; exact hW.c0, by rw [hu _ _ (by omega)]; exact hW.t0, hW.c1, hc, hW.t12⟩, ⟨by rw [hu _ _ (by omega)]; exact hW.live0.2, by rw [hu _ _ (by omega)]; exact hW.name0, by rw [hu _ _ (by omega)]; exact hW.in0, by rw [hu _ _ (by omega)]; exact hW.2.1.2.2.2⟩, fun x h2 h3 => ?_, fun x h2 h3 => ?_, ⟨rk, fun x y h2 h3 h4 h5 => ?_⟩, fun x h2 => ?_, fun x h2 h3 => ?_, fun x n h2 h3 h4 => ?_, fun x h2 => ?_, fun x hx => Th_of (by have := hW.t12; omega) (hu _ 2 (by omega)) (fun i h1 h2 => hu _ i (by omega)) (hW.th hx)⟩
        · rw [hu _ _ (by omega)]; exact hW.name h2 h3
        · obtain ⟨y, hy, he⟩ := hW.inn h2 ((hl x).mp h3)
          exact ⟨y, (hl y).mpr hy, by rw [hu _ _ (by have := h3.1; omega)]; exact he⟩
        · rw [hu _ _ (by have := h3.1; omega)] at h5
          exact hr x y h2 ((hl x).mp h3) ((hl y).mp h4) h5
        · by_cases e : x = j
          · subst e
            rw [pk_us]
            rcases (show v = 0 ∨ v = 1 by omega) with rfl | rfl
            · exact Or.inl rfl
            · exact Or.inr rfl
          · rw [hu _ _ (by omega)]; exact hW.seal h2
        · rw [hu _ _ (by omega)]; exact hW.seal0 h2 h3
        · rw [hu _ _ (by omega)]; exact hW.msg0 h2 h3 (fun h => h4 ((hl x).mpr h))
        · rw [hu _ _ (by omega)]; exact hW.gone h2
      have keyS : ∀ (v : Nat) (x : Int32), (∀ p, p < c → p ≠ j → bt x p = bt S.1.2.2.1 p) → (bt x j = true ↔ nI v = 1) → Sm (S.1.1, S.1.2.1, x, S.1.2.2.2) (upd g.1 (27 + j) (nI v)) c t := by
        intro v x hx1 hx2
        have ht := hW.t12
        have hl := lvp_of (hu (nI v) 2 (by omega)) c
        refine ⟨⟨hS.pc, by rw [hu _ _ (by omega)]; exact hS.gs, hS.tc⟩, fun p hp => by rw [hu _ _ (by omega)]; exact hS.nm hp, fun p hp => by rw [hu _ _ (by have := hp.1; omega)]; exact hS.ar ((hl p).mp hp), fun p h1 hp => hS.ag h1 (fun h => hp ((hl p).mpr h)), fun p hp => ?_, fun p n hp hn => by rw [hu _ _ (by have := hp.1; omega)]; exact hS.ms ((hl p).mp hp) hn, fun x hx => ?_, fun x hx => ?_⟩
        · show bt x p = true ↔ _
          by_cases e : p = j
          · subst e; rw [pk_us]; exact hx2
          · rw [hu _ _ (by omega), hx1 p hp e]; exact hS.sl hp
        · obtain ⟨a1, a2, a3, a4⟩ := hS.th hx
          exact ⟨by rw [hu _ _ (by omega)]; exact a1, by rw [hu _ _ (by omega)]; exact a2, by rw [hu _ _ (by omega)]; exact a3, by rw [hu _ _ (by omega)]; exact a4⟩
        · obtain ⟨A, h1, h2, h3⟩ := hS.ac hx
          exact ⟨A, h1, h2, fun m k hm hk h6 => by rw [hu _ _ (by omega)] at hm ⊢; exact h3 m k hm hk h6⟩
      have tS : fW_turnSeal S.1 (nI j) = some (S.1.1, S.1.2.1, (S.1.2.2.1 ^^^ (1 <<< (nI j &&& 31))), S.1.2.2.2) := by
        rw [fW_turnSeal, W_isPlace_l hW hS hj, Option.bind_some, if_neg n10]
      have flip : ∀ p, p < c → p ≠ j → bt (S.1.2.2.1 ^^^ (1 <<< (nI j &&& 31))) p = bt S.1.2.2.1 p := fun p hp e => by
        rw [b_flip (by omega) (by omega), decide_eq_false e, Bool.xor_false]
      have flipj : bt (S.1.2.2.1 ^^^ (1 <<< (nI j &&& 31))) j = !bt S.1.2.2.1 j := by
        rw [b_flip (by omega) (by omega), decide_eq_true rfl, Bool.xor_true]
      have sl := hS.sl hjc
      have same : ∀ v, g.1 (27 + j) = nI v → upd g.1 (27 + j) (nI v) = g.1 := fun v h => fa_upd_same h
      rcases (show b = 0 ∨ b = 1 by omega) with rfl | rfl
      · rcases hW.seal (show j < 12 by omega) with h1 | h1
        · refine mo_i (v := 0) (S := S) (g := g) ?_ ?_ hR
          · rw [fM_seal, W_isPlace_l hW hS hj, Option.bind_some, if_neg n10, if_neg hne, W_isSealed_l hW hS hj, Option.bind_some, if_pos (by rw [h1]; rfl)]
          · rw [fR_seal, R_isPlace_l hW hj, Option.bind_some, if_neg n10, if_neg hne, if_pos nI_0, e_27, ld_n (by omega) (by omega), if_pos h1, st_n (by omega) (by omega), nI_clamp (by omega), show upd g.1 (27 + j) 0 = g.1 from same 0 h1]
        · refine mo_i (v := 1) ?_ ?_ (key 0 (by omega) _ (keyS 0 _ flip ?_))
          · rw [fM_seal, W_isPlace_l hW hS hj, Option.bind_some, if_neg n10, if_neg hne, W_isSealed_l hW hS hj, Option.bind_some, if_neg (by rw [h1]; decide), tS, Option.bind_some]
          · rw [fR_seal, R_isPlace_l hW hj, Option.bind_some, if_neg n10, if_neg hne, if_pos nI_0, e_27, ld_n (by omega) (by omega), if_neg (by rw [h1]; decide), st_n (by omega) (by omega), nI_clamp (by omega)]; rfl
          · rw [flipj, sl.mpr h1]; decide
      · rcases hW.seal (show j < 12 by omega) with h1 | h1
        · refine mo_i (v := 1) ?_ ?_ (key 1 (by omega) _ (keyS 1 _ flip ?_))
          · rw [fM_seal, W_isPlace_l hW hS hj, Option.bind_some, if_neg n10, if_neg hne, W_isSealed_l hW hS hj, Option.bind_some, if_neg (by rw [h1]; decide), tS, Option.bind_some]
          · rw [fR_seal, R_isPlace_l hW hj, Option.bind_some, if_neg n10, if_neg hne, if_neg (show ¬ nI 1 = 0 by decide), e_27, ld_n (by omega) (by omega), if_neg (by rw [h1]; decide), st_n (by omega) (by omega), nI_clamp (by omega)]; rfl
          · have : bt S.1.2.2.1 j = false := by
              cases hb : bt S.1.2.2.1 j
              · rfl
              · have := sl.mp hb; rw [h1] at this; exact absurd this (by decide)
            rw [flipj, this]; decide
        · refine mo_i (v := 0) (S := S) (g := g) ?_ ?_ hR
          · rw [fM_seal, W_isPlace_l hW hS hj, Option.bind_some, if_neg n10, if_neg hne, W_isSealed_l hW hS hj, Option.bind_some, if_pos (by rw [h1]; rfl)]
          · rw [fR_seal, R_isPlace_l hW hj, Option.bind_some, if_neg n10, if_neg hne, if_neg (show ¬ nI 1 = 0 by decide), e_27, ld_n (by omega) (by omega), if_pos h1, st_n (by omega) (by omega), nI_clamp (by omega), show upd g.1 (27 + j) 1 = g.1 from same 1 h1]
  · have ha' : ∀ j, lvp g.1 c j → a1 ≠ nI j := fun j h e => ha ⟨j, h, e⟩
    exact mo_i (by rw [fM_seal, W_isPlace_o hW hS ha', Option.bind_some, if_pos rfl]) (by rw [fR_seal, R_isPlace_o hW ha', Option.bind_some, if_pos rfl]) hR
theorem k_message {a1 a2 : Int32} (h : Rel S g) : moOK (fM_message S a1 a2) (fR_message g a1 a2) := by
  have hR := h
  obtain ⟨⟨c, t, hW, hS⟩, hI⟩ := h
  have hc := hW.c12
  by_cases ha : ∃ j, lvp g.1 c j ∧ a1 = nI j
  · obtain ⟨j, hj, rfl⟩ := ha
    have hjc := hj.1
    by_cases hn : ∃ n, n < 6 ∧ a2 = nI n
    · obtain ⟨n, hn, rfl⟩ := hn
      by_cases e : g.1 (39 + 6 * j + n) < 90
      · refine mo_i (v := g.1 (39 + 6 * j + n) + 1) ?_ ?_ (Rel_now hI (Wf_msg (v := g.1 (39 + 6 * j + n) + 1) hW hj hn) (Sm_msg (v := g.1 (39 + 6 * j + n) + 1) hW hS hj hn))
        · rw [fM_message, W_isPlace_l hW hS hj, Option.bind_some, if_neg n10, M_isName_n hn, Option.bind_some, if_neg n10, W_messagesOf_l hW hS hj hn, Option.bind_some, if_pos e, W_addMsg hS.pc hc hjc (by rw [hS.gs]; exact hj.2) hn, Option.bind_some, W_msgOf (w := wM S.1 (upd S.1.2.2.2.2.2.1 (j * 6 + n) (S.1.2.2.2.2.2.1 (j * 6 + n) + 1))) hS.pc hc hjc (by show bt S.1.2.1 j = false; rw [hS.gs]; exact hj.2) hn, Option.bind_some, hS.ms hj hn]
          show some (upd _ _ _ (j * 6 + n), _) = _
          rw [pk_us]
        · rw [fR_message, R_isPlace_l hW hj, Option.bind_some, if_neg n10, R_isName_n hn, Option.bind_some, if_neg n10, e_39n, ld_n (by omega) (by omega), if_pos e, ld_n (by omega) (by omega), st_n (by omega) (by omega), nI_clamp (by omega), ld_n (by omega) (by omega), pk_us]
      · exact mo_i (by rw [fM_message, W_isPlace_l hW hS hj, Option.bind_some, if_neg n10, M_isName_n hn, Option.bind_some, if_neg n10, W_messagesOf_l hW hS hj hn, Option.bind_some, if_neg e]) (by rw [fR_message, R_isPlace_l hW hj, Option.bind_some, if_neg n10, R_isName_n hn, Option.bind_some, if_neg n10, e_39n, ld_n (by omega) (by omega), if_neg e]) hR
    · have hn' : ∀ n, n < 6 → a2 ≠ nI n := fun n h e => hn ⟨n, h, e⟩
      exact mo_i (by rw [fM_message, W_isPlace_l hW hS hj, Option.bind_some, if_neg n10, M_isName_o hn', Option.bind_some, if_pos rfl]) (by rw [fR_message, R_isPlace_l hW hj, Option.bind_some, if_neg n10, R_isName_o hn', Option.bind_some, if_pos rfl]) hR
  · have ha' : ∀ j, lvp g.1 c j → a1 ≠ nI j := fun j h e => ha ⟨j, h, e⟩
    exact mo_i (by rw [fM_message, W_isPlace_o hW hS ha', Option.bind_some, if_pos rfl]) (by rw [fR_message, R_isPlace_o hW ha', Option.bind_some, if_pos rfl]) hR
theorem k_within {a1 a2 : Int32} (h : Rel S g) : roOK (fM_within S a1 a2) (fR_within g a1 a2) := by
  obtain ⟨⟨c, t, hW, hS⟩, hI⟩ := h
  obtain ⟨r, h1, h2⟩ := RW_isWithin hW hS a1 a2
  by_cases ha : ∃ j, lvp g.1 c j ∧ a1 = nI j
  · obtain ⟨j, hj, rfl⟩ := ha
    by_cases hb : ∃ q, lvp g.1 c q ∧ a2 = nI q
    · obtain ⟨q, hq, rfl⟩ := hb
      refine ro_i (v := if b2i r = 0 then 0 else 1) ?_ ?_
      · rw [fM_within, W_isPlace_l hW hS hj, Option.bind_some, if_neg n10, W_isPlace_l hW hS hq, Option.bind_some, if_neg n10, h2, Option.bind_some]; split <;> rfl
      · rw [fR_within, R_isPlace_l hW hj, Option.bind_some, if_neg n10, R_isPlace_l hW hq, Option.bind_some, if_neg n10, h1, Option.bind_some]; split <;> rfl
    · have hb' : ∀ j, lvp g.1 c j → a2 ≠ nI j := fun j h e => hb ⟨j, h, e⟩
      exact ro_i (by rw [fM_within, W_isPlace_l hW hS hj, Option.bind_some, if_neg n10, W_isPlace_o hW hS hb', Option.bind_some, if_pos rfl]) (by rw [fR_within, R_isPlace_l hW hj, Option.bind_some, if_neg n10, R_isPlace_o hW hb', Option.bind_some, if_pos rfl])
  · have ha' : ∀ j, lvp g.1 c j → a1 ≠ nI j := fun j h e => ha ⟨j, h, e⟩
    exact ro_i (by rw [fM_within, W_isPlace_o hW hS ha', Option.bind_some, if_pos rfl]) (by rw [fR_within, R_isPlace_o hW ha', Option.bind_some, if_pos rfl])
theorem k_act {a1 : Int32} (h : Rel S g) : moOK (fM_act S a1) (fR_act g a1) := by
  have hR := h
  obtain ⟨⟨c, t, hW, hS⟩, hI⟩ := h
  have ht := hW.t12
  by_cases ha : ∃ j, j < t ∧ a1 = nI j
  · obtain ⟨j, hj, rfl⟩ := ha
    rcases RW_does hW hS hj with ⟨h1, h2, h3⟩ | ⟨-, f', w', a, h0, h1, h2, h3, h4, h5, h6⟩
    · have hn : ∃ v, fR_nextOf g (nI j) = some v := by
        obtain ⟨p, m, d, k1, k2, k3, k4, k5, k6, k7, k8⟩ := hW.th hj
        rcases Nat.lt_or_ge d m with h | h
        · exact ⟨_, R_nextOf_n (by omega) k4 k6 k3.2 h⟩
        · exact ⟨_, R_nextOf_o (by omega) (by rw [k4, k6, show d = m by omega])⟩
      obtain ⟨v, hv⟩ := hn
      exact mo_i (v := -3) (S := S) (g := g) (by rw [fM_act, W_isThread_n hW hS hj, Option.bind_some, if_neg n10, h3, Option.bind_some, if_pos rfl]) (by rw [fR_act, R_isThread_n hW hj, Option.bind_some, if_neg n10, hv, Option.bind_some, show fR_does g (nI j) = _ from h1 g.2, Option.bind_some, if_pos rfl]) hR
    · have h50 := okA_lt h0
      exact mo_i (v := nI (a / 10)) (by rw [fM_act, W_isThread_n hW hS hj, Option.bind_some, if_neg n10, h3, Option.bind_some, if_neg (nI_m9 (by omega))]) (by rw [fR_act, R_isThread_n hW hj, Option.bind_some, if_neg n10, show fR_nextOf g (nI j) = _ from h1 g.2, Option.bind_some, show fR_does g (nI j) = _ from h2 g.2, Option.bind_some, if_neg n10, e_d10 (by omega)]) (Rel_now hI h4 h5)
  · have ha' : ∀ j, j < t → a1 ≠ nI j := fun j h e => ha ⟨j, h, e⟩
    exact mo_i (by rw [fM_act, W_isThread_o hW hS ha', Option.bind_some, if_pos rfl]) (by rw [fR_act, R_isThread_o hW ha', Option.bind_some, if_pos rfl]) hR
end C1
