/-! ===== what an act is done with ===== -/
def nmS (f : Nat → Int32) (j a : Nat) : Int32 := if a % 10 = 9 then f (147 + j) else nI (a % 10)
def aimS (f : Nat → Int32) (c p a : Nat) (nm : Int32) : Int32 :=
  if nm = -9 then -9 else
  if a / 10 = 1 then (if p = 0 then -9 else fdF (Pl f (f (15 + p)) (nI p) nm) (c - 1) 1) else
  if a / 10 = 2 then (if p = 0 then -9 else if f (15 + p) = 0 then -9 else if f (3 + (f (15 + p)).toNatClampNeg) = nm then (if f (27 + (f (15 + p)).toNatClampNeg) = 1 then -9 else f (15 + p)) else -9) else
  if a / 10 = 3 then fdF (Pl f (nI p) (-9) nm) (c - 1) 1 else
  if a / 10 = 4 then nm else fdF (Pm f p) 6 0
theorem okA_lt {a : Nat} (h : okA a) : a < 51 := by rcases h with h | h <;> omega
theorem okA_k {a : Nat} (h : okA a) : a / 10 = 1 ∨ a / 10 = 2 ∨ a / 10 = 3 ∨ a / 10 = 4 ∨ a = 50 := by
  rcases h with h | ⟨h1, h2, -⟩
  · omega
  · omega
theorem nmS_c {f : Nat → Int32} {c j a : Nat} (hT : Th f c j) (h : okA a) : nmS f j a = -9 ∨ ∃ n, n < 6 ∧ nmS f j a = nI n := by
  obtain ⟨p, m, d, -, -, -, -, -, -, h1, -⟩ := hT
  unfold nmS
  by_cases e : a % 10 = 9
  · rw [if_pos e]; exact h1
  · rw [if_neg e]
    refine Or.inr ⟨a % 10, ?_, rfl⟩
    rcases h with h | h <;> omega
section AIM
variable {g : SR} {w : SW} {c t : Nat}
theorem R_nameOf {j m d a : Nat} (hj : j < 12) (hm : g.1 (123 + j) = nI m) (hd : g.1 (135 + j) = nI d) (h6 : m ≤ 6) (hdm : d < m) (ha : g.1 (159 + 6 * j + d) = nI a) (hok : okA a) : fR_nameOf g (nI j) = some (nmS g.1 j a) := by
  have h50 := okA_lt hok
  rw [fR_nameOf, R_nextOf_n hj hm hd h6 hdm, Option.bind_some, ha, e_m10 (by omega), nmS]
  by_cases e : a % 10 = 9
  · rw [if_pos (by rw [e]; rfl), if_pos e, e_147, ld_n (by omega) (by omega)]
  · rw [if_neg (show ¬ nI (a % 10) = 9 from fun h => e (nI_inj (b := 9) (by omega) (by omega) h)), if_neg e]
theorem lit_eq {a b : Nat} (ha : a < 2 ^ 31) (hb : b < 2 ^ 31) : (nI a = nI b) ↔ a = b := nI_eq ha hb
theorem R_aim2 (hW : Wf g.1 c t) {p : Nat} (hp : lvp g.1 c p) (nm : Int32) : (if nI p = 0 then some (-9) else mp_ld g.1 231 (15 + nI p) fun x13 => (if x13 = 0 then some (-9) else mp_ld g.1 231 (15 + nI p) fun x15 => mp_ld g.1 231 (3 + x15) fun x16 => (if x16 = nm then mp_ld g.1 231 (15 + nI p) fun x18 => mp_ld g.1 231 (27 + x18) fun x19 => (if x19 = 1 then some (-9) else mp_ld g.1 231 (15 + nI p) fun x21 => some x21) else some (-9))))
    = some (if p = 0 then -9 else if g.1 (15 + p) = 0 then -9 else if g.1 (3 + (g.1 (15 + p)).toNatClampNeg) = nm then (if g.1 (27 + (g.1 (15 + p)).toNatClampNeg) = 1 then -9 else g.1 (15 + p)) else -9) := by
  have hc := hW.c12; have hpc := hp.1
  rcases Nat.eq_zero_or_pos p with rfl | h0
  · rfl
  · obtain ⟨q, hq, he⟩ := hW.inn h0 hp
    have := hq.1
    rw [if_neg (nI_ne0 h0 (by omega)), if_neg (show ¬ p = 0 by omega), e_15, ld_n (by omega) (by omega), ld_n (by omega) (by omega), ld_n (by omega) (by omega), ld_n (by omega) (by omega), he, nI_clamp (by omega), e_3, e_27, ld_n (by omega) (by omega), ld_n (by omega) (by omega)]
    split
    · rfl
    · split
      · split <;> rfl
      · rfl
theorem R_doneWith_n (hW : Wf g.1 c t) {j p m d a : Nat} (hj : j < t) (hp : lvp g.1 c p) (hs : g.1 (111 + j) = nI p) (hm : g.1 (123 + j) = nI m) (hd : g.1 (135 + j) = nI d) (h6 : m ≤ 6) (hdm : d < m) (ha : g.1 (159 + 6 * j + d) = nI a) (hok : okA a) : fR_doneWith g (nI j) = some (aimS g.1 c p a (nmS g.1 j a)) := by
  have hc := hW.c12; have ht := hW.t12; have hpc := hp.1; have h50 := okA_lt hok
  have hno : ¬ g.1 (135 + j) = g.1 (123 + j) := by rw [hm, hd]; exact fun h => by have := nI_inj (by omega) (by omega) h; omega
  rw [fR_doneWith, e_111, ld_n (by omega) (by omega), hs, R_nextOf_n (by omega) hm hd h6 hdm, Option.bind_some, R_nameOf (by omega) hm hd h6 hdm ha hok, Option.bind_some, R_isOver (by omega), if_neg hno, Option.bind_some, if_pos rfl, ha, e_d10 (by omega), aimS]
  have L : ∀ k, k < 10 → ((nI (a / 10) = nI k) ↔ a / 10 = k) := fun k hk => nI_eq (by omega) (by omega)
  have L1 : (nI (a / 10) = 1) ↔ a / 10 = 1 := L 1 (by omega)
  have L2 : (nI (a / 10) = 2) ↔ a / 10 = 2 := L 2 (by omega)
  have L3 : (nI (a / 10) = 3) ↔ a / 10 = 3 := L 3 (by omega)
  have L4 : (nI (a / 10) = 4) ↔ a / 10 = 4 := L 4 (by omega)
  have L5 : (nI (a / 10) = 5) ↔ a / 10 = 5 := L 5 (by omega)
  generalize hnm : nmS g.1 j a = nm
  rcases okA_k hok with hk | hk | hk | hk | hk
  · rw [if_neg (show ¬ nI (a / 10) = 5 from fun h => by have := L5.mp h; omega), if_pos hk, if_pos (L1.mpr hk)]
    by_cases e : nm = -9
    · rw [if_pos e, if_pos e]
    · rw [if_neg e, if_neg e]
      rcases Nat.eq_zero_or_pos p with rfl | h0
      · rfl
      · rw [if_neg (nI_ne0 h0 (by omega)), if_neg (show ¬ p = 0 by omega), e_15, ld_n (by omega) (by omega), R_leastIn hW, Option.bind_some]
  · rw [if_neg (show ¬ nI (a / 10) = 5 from fun h => by have := L5.mp h; omega), if_neg (show ¬ a / 10 = 1 by omega), if_pos hk, if_neg (show ¬ nI (a / 10) = 1 from fun h => by have := L1.mp h; omega), if_pos (L2.mpr hk)]
    by_cases e : nm = -9
    · rw [if_pos e, if_pos e]
    · rw [if_neg e, if_neg e]; exact R_aim2 hW hp nm
  · rw [if_neg (show ¬ nI (a / 10) = 5 from fun h => by have := L5.mp h; omega), if_neg (show ¬ a / 10 = 1 by omega), if_neg (show ¬ a / 10 = 2 by omega), if_pos hk, if_neg (show ¬ nI (a / 10) = 1 from fun h => by have := L1.mp h; omega), if_neg (show ¬ nI (a / 10) = 2 from fun h => by have := L2.mp h; omega), if_pos (L3.mpr hk), R_leastIn hW, Option.bind_some]
    by_cases e : nm = -9
    · rw [if_pos e, if_pos e]
    · rw [if_neg e, if_neg e]
  · rw [if_neg (show ¬ nI (a / 10) = 5 from fun h => by have := L5.mp h; omega), if_neg (show ¬ a / 10 = 1 by omega), if_neg (show ¬ a / 10 = 2 by omega), if_neg (show ¬ a / 10 = 3 by omega), if_pos hk, if_neg (show ¬ nI (a / 10) = 1 from fun h => by have := L1.mp h; omega), if_neg (show ¬ nI (a / 10) = 2 from fun h => by have := L2.mp h; omega), if_neg (show ¬ nI (a / 10) = 3 from fun h => by have := L3.mp h; omega), if_pos (L4.mpr hk)]
    by_cases e : nm = -9
    · rw [if_pos e, if_pos e]
    · rw [if_neg e, if_neg e]
  · have e : ¬ nm = -9 := by rw [← hnm, hk]; show ¬ nI 0 = -9; exact nI_m9 (by omega)
    rw [if_pos (L5.mpr (by omega)), if_neg e, if_neg (show ¬ a / 10 = 1 by omega), if_neg (show ¬ a / 10 = 2 by omega), if_neg (show ¬ a / 10 = 3 by omega), if_neg (show ¬ a / 10 = 4 by omega), if_neg (show ¬ nI (a / 10) = 1 from fun h => by have := L1.mp h; omega), if_neg (show ¬ nI (a / 10) = 2 from fun h => by have := L2.mp h; omega), if_neg (show ¬ nI (a / 10) = 3 from fun h => by have := L3.mp h; omega), if_neg (show ¬ nI (a / 10) = 4 from fun h => by have := L4.mp h; omega), R_leastMessage (by omega), Option.bind_some]
theorem R_doneWith_o (hW : Wf g.1 c t) {j p : Nat} (hj : j < t) (hs : g.1 (111 + j) = nI p) (h : g.1 (135 + j) = g.1 (123 + j)) : fR_doneWith g (nI j) = some (-9) := by
  have ht := hW.t12
  rw [fR_doneWith, e_111, ld_n (by omega) (by omega), R_nextOf_o (by omega) h, Option.bind_some, fR_nameOf, R_nextOf_o (by omega) h, Option.bind_some, if_neg (by decide), Option.bind_some, R_isOver (by omega), if_pos h, Option.bind_some, if_neg n10]
variable {f : Nat → Int32}
theorem W_aim2 (hW : Wf f c t) (hS : Sm w f c t) {p : Nat} (hp : lvp f c p) {nm : Int32} (hn : nm ≠ -9) : fW_unsealedAround w (nI p) nm
    = some (if p = 0 then -9 else if f (15 + p) = 0 then -9 else if f (3 + (f (15 + p)).toNatClampNeg) = nm then (if f (27 + (f (15 + p)).toNatClampNeg) = 1 then -9 else f (15 + p)) else -9) := by
  have hc := hW.c12; have hpc := hp.1
  rw [fW_unsealedAround, W_placeAround_l hW hS hp, Option.bind_some]
  rcases Nat.eq_zero_or_pos p with rfl | h0
  · rw [show f (15 + 0) = -9 from hW.in0, W_nameOf_o hW hS (m9_no hc), Option.bind_some, if_neg (fun h => hn h.symm), if_pos rfl]
  · obtain ⟨q, hq, he⟩ := hW.inn h0 hp
    have := hq.1
    rw [if_neg (show ¬ p = 0 by omega), he, nI_clamp (by omega), W_nameOf_l hW hS hq, Option.bind_some, W_isSealed_l hW hS hq, Option.bind_some]
    rcases Nat.eq_zero_or_pos q with rfl | hq0
    · rw [show f (3 + 0) = -9 from hW.name0, if_neg (fun h => hn h.symm), if_pos nI_0]
    · rw [if_neg (nI_ne0 hq0 (by omega))]
      by_cases e : f (3 + q) = nm
      · rw [if_pos e, if_pos e]
        rcases hW.seal (show q < 12 by omega) with h1 | h1
        · rw [h1, if_pos rfl, if_neg (by decide)]
        · rw [h1, if_neg n10, if_pos rfl]
      · rw [if_neg e, if_neg e]
theorem W_aimOf_n (hW : Wf f c t) (hS : Sm w f c t) {j p m d a : Nat} (hj : j < t) (hp : lvp f c p) (hs : f (111 + j) = nI p) (hm : f (123 + j) = nI m) (hd : f (135 + j) = nI d) (h6 : m ≤ 6) (hdm : d < m) (ha : f (159 + 6 * j + d) = nI a) (hok : okA a) : fW_aimOf w (nI j) = some (aimS f c p a (nmS f j a)) := by
  have hc := hW.c12; have ht := hW.t12; have hpc := hp.1; have h50 := okA_lt hok
  have hno : ¬ f (135 + j) = f (123 + j) := by rw [hm, hd]; exact fun h => by have := nI_inj (by omega) (by omega) h; omega
  obtain ⟨t1, t2, t3, t4⟩ := hS.th hj
  have L : ∀ k, k < 10 → ((nI (a / 10) = nI k) ↔ a / 10 = k) := fun k hk => nI_eq (by omega) (by omega)
  have L1 : (nI (a / 10) = 1) ↔ a / 10 = 1 := L 1 (by omega)
  have L2 : (nI (a / 10) = 2) ↔ a / 10 = 2 := L 2 (by omega)
  have L3 : (nI (a / 10) = 3) ↔ a / 10 = 3 := L 3 (by omega)
  have L4 : (nI (a / 10) = 4) ↔ a / 10 = 4 := L 4 (by omega)
  have L5 : (nI (a / 10) = 5) ↔ a / 10 = 5 := L 5 (by omega)
  have key : ∀ nm : Int32, (a = 50 → nm ≠ -9) → (if nm = (-9) then some (-9) else (if nI (a / 10) = 1 then (if nI p = 0 then some (-9) else (fW_placeAround w (nI p)).bind fun x25 => (fW_leastUnsealed w x25 nm (nI p)).bind fun x26 => some x26) else if nI (a / 10) = 2 then (fW_unsealedAround w (nI p) nm).bind fun x28 => some x28 else if nI (a / 10) = 3 then (fW_leastUnsealed w (nI p) nm (-9)).bind fun x30 => some x30 else if nI (a / 10) = 4 then some nm else if nI (a / 10) = 5 then (fW_leastMessage w (nI p)).bind fun x33 => some x33 else some (-9))) = some (aimS f c p a nm) := by
    intro nm h9
    rw [aimS]
    by_cases e : nm = -9
    · rw [if_pos e, if_pos e]
    · rw [if_neg e, if_neg e]
      rcases okA_k hok with hk | hk | hk | hk | hk
      · rw [if_pos hk, if_pos (L1.mpr hk)]
        rcases Nat.eq_zero_or_pos p with rfl | h0
        · rfl
        · obtain ⟨q, hq, he⟩ := hW.inn h0 hp
          have := hq.1
          rw [if_neg (nI_ne0 h0 (by omega)), if_neg (show ¬ p = 0 by omega), W_placeAround_l hW hS hp, Option.bind_some, he, W_leastUnsealed hW hS (by omega), Option.bind_some]
      · rw [if_neg (show ¬ a / 10 = 1 by omega), if_pos hk, if_neg (show ¬ nI (a / 10) = 1 from fun h => by have := L1.mp h; omega), if_pos (L2.mpr hk), W_aim2 hW hS hp e, Option.bind_some]
      · rw [if_neg (show ¬ a / 10 = 1 by omega), if_neg (show ¬ a / 10 = 2 by omega), if_pos hk, if_neg (show ¬ nI (a / 10) = 1 from fun h => by have := L1.mp h; omega), if_neg (show ¬ nI (a / 10) = 2 from fun h => by have := L2.mp h; omega), if_pos (L3.mpr hk), W_leastUnsealed hW hS (by omega), Option.bind_some]
      · rw [if_neg (show ¬ a / 10 = 1 by omega), if_neg (show ¬ a / 10 = 2 by omega), if_neg (show ¬ a / 10 = 3 by omega), if_pos hk, if_neg (show ¬ nI (a / 10) = 1 from fun h => by have := L1.mp h; omega), if_neg (show ¬ nI (a / 10) = 2 from fun h => by have := L2.mp h; omega), if_neg (show ¬ nI (a / 10) = 3 from fun h => by have := L3.mp h; omega), if_pos (L4.mpr hk)]
      · rw [if_neg (show ¬ a / 10 = 1 by omega), if_neg (show ¬ a / 10 = 2 by omega), if_neg (show ¬ a / 10 = 3 by omega), if_neg (show ¬ a / 10 = 4 by omega), if_neg (show ¬ nI (a / 10) = 1 from fun h => by have := L1.mp h; omega), if_neg (show ¬ nI (a / 10) = 2 from fun h => by have := L2.mp h; omega), if_neg (show ¬ nI (a / 10) = 3 from fun h => by have := L3.mp h; omega), if_neg (show ¬ nI (a / 10) = 4 from fun h => by have := L4.mp h; omega), if_pos (L5.mpr (by omega)), W_leastMessage hW hS hp, Option.bind_some]
  rw [fW_aimOf, W_isThread_n hW hS hj, Option.bind_some, if_neg n10, W_isOver hW hS hj hm hd h6 (by omega), if_neg hno, Option.bind_some, if_pos rfl, ld_n (by omega) (by omega), t1, hs, ld_n (by omega) (by omega), t3, hd, W_actOf hW hS hj hm h6 hdm, Option.bind_some, ha, e_m10 (by omega), e_d10 (by omega), nmS]
  by_cases e : a % 10 = 9
  · rw [if_pos (by rw [e]; rfl), if_pos e, ld_n (by omega) (by omega), t4]
    exact key _ (fun h => by omega)
  · rw [if_neg (show ¬ nI (a % 10) = 9 from fun h => e (nI_inj (b := 9) (by omega) (by omega) h)), if_neg e]
    exact key _ (fun h => nI_m9 (by omega))
theorem W_aimOf_o (hW : Wf f c t) (hS : Sm w f c t) {j m d : Nat} (hj : j < t) (hm : f (123 + j) = nI m) (hd : f (135 + j) = nI d) (h6 : m ≤ 6) (hdm : d ≤ m) (h : f (135 + j) = f (123 + j)) : fW_aimOf w (nI j) = some (-9) := by
  rw [fW_aimOf, W_isThread_n hW hS hj, Option.bind_some, if_neg n10, W_isOver hW hS hj hm hd h6 hdm, if_pos h, Option.bind_some, if_neg n10]
end AIM
/-- both tell the same -/
theorem RW_aim {g : SR} {w : SW} {c t j : Nat} (hW : Wf g.1 c t) (hS : Sm w g.1 c t) (hj : j < t) : ∃ r, fR_doneWith g (nI j) = some r ∧ fW_aimOf w (nI j) = some r := by
  obtain ⟨p, m, d, h1, h2, h3, h4, h5, h6, h7, h8⟩ := hW.th hj
  rcases Nat.lt_or_ge d m with h | h
  · obtain ⟨a, ha, he⟩ := h8 d h
    exact ⟨_, R_doneWith_n hW hj h1 h2 h4 h6 h3.2 h he ha, W_aimOf_n hW hS hj h1 h2 h4 h6 h3.2 h he ha⟩
  · have e : g.1 (135 + j) = g.1 (123 + j) := by rw [h4, h6, show d = m by omega]
    exact ⟨_, R_doneWith_o hW hj h2 e, W_aimOf_o hW hS hj h4 h6 h3.2 h5 e⟩
