/-! ===== by how few acts ===== -/
def wiB (f : Nat → Int32) (a b : Int32) : Bool := decide (fR_isWithin (f, hh0) a b = some 1)
theorem b2i_inj {x y : Bool} (h : b2i x = b2i y) : x = y := by cases x <;> cases y <;> first | rfl | (exact absurd h (by decide))
theorem wi_c {f : Nat → Int32} {w : SW} {c t : Nat} (hW : Wf f c t) (hS : Sm w f c t) (a b : Int32) : (∀ h : Hh, fR_isWithin (f, h) a b = some (b2i (wiB f a b))) ∧ fW_isWithin w a b = some (b2i (wiB f a b)) := by
  obtain ⟨r, h1, h2⟩ := RW_isWithin (g := (f, hh0)) hW hS a b
  have e : wiB f a b = r := by
    unfold wiB
    rw [h1]
    cases r
    · exact decide_eq_false (by decide)
    · exact decide_eq_true rfl
  rw [e]
  refine ⟨fun h => ?_, h2⟩
  obtain ⟨r', k1, k2⟩ := RW_isWithin (g := (f, h)) hW hS a b
  rw [k1, b2i_inj (Option.some.inj (h2.symm.trans k2))]
def fdN (P : Nat → Bool) : Nat → Nat → Option Nat
  | 0, _ => none
  | n + 1, lo => if P lo = true then some lo else fdN P n (lo + 1)
def fdO (F : Nat → Option Nat) : Nat → Nat → Option Nat
  | 0, _ => none
  | n + 1, lo => match F lo with
    | some r => some r
    | none => fdO F n (lo + 1)
theorem fdN_congr {P Q : Nat → Bool} : ∀ (n lo : Nat), (∀ i, lo ≤ i → i < lo + n → P i = Q i) → fdN P n lo = fdN Q n lo := by
  intro n
  induction n with
  | zero => intro lo _; rfl
  | succ n ih => intro lo h; rw [fdN, fdN, h lo (Nat.le_refl _) (by omega), ih _ (fun i h1 h2 => h i (by omega) (by omega))]
theorem fdO_congr {P Q : Nat → Option Nat} : ∀ (n lo : Nat), (∀ i, lo ≤ i → i < lo + n → P i = Q i) → fdO P n lo = fdO Q n lo := by
  intro n
  induction n with
  | zero => intro lo _; rfl
  | succ n ih => intro lo h; rw [fdO, fdO, h lo (Nat.le_refl _) (by omega), ih _ (fun i h1 h2 => h i (by omega) (by omega))]
theorem fdN_app {P : Nat → Bool} : ∀ (m n lo : Nat), fdN P (m + n) lo = match fdN P m lo with
    | some r => some r
    | none => fdN P n (lo + m) := by
  intro m
  induction m with
  | zero => intro n lo; rw [Nat.zero_add]; rfl
  | succ m ih =>
    intro n lo
    rw [show m + 1 + n = (m + n) + 1 by omega, fdN, fdN]
    by_cases h : P lo = true
    · rw [if_pos h, if_pos h]
    · rw [if_neg h, if_neg h, ih n (lo + 1), show lo + 1 + m = lo + (m + 1) by omega]
theorem fdN_sh {P : Nat → Bool} (d : Nat) : ∀ (n lo : Nat), fdN P n (lo + d) = (fdN (fun i => P (d + i)) n lo).map (fun r => d + r) := by
  intro n
  induction n with
  | zero => intro lo; rfl
  | succ n ih =>
    intro lo
    rw [fdN, fdN, show lo + d = d + lo by omega]
    by_cases h : P (d + lo) = true
    · rw [if_pos h, if_pos h]; rfl
    · rw [if_neg h, if_neg h, show d + lo + 1 = lo + 1 + d by omega, ih]
theorem fdN_blk {P : Nat → Bool} (M : Nat) : ∀ (n lo : Nat), fdN P (n * M) (lo * M) = fdO (fun j => (fdN (fun r => P (j * M + r)) M 0).map (fun r => j * M + r)) n lo := by
  intro n
  induction n with
  | zero => intro lo; rw [Nat.zero_mul]; rfl
  | succ n ih =>
    intro lo
    rw [Nat.succ_mul, Nat.add_comm (n * M) M, fdN_app, fdO, ← ih (lo + 1), Nat.succ_mul]
    have := fdN_sh (P := P) (lo * M) M 0
    rw [Nat.zero_add] at this
    rw [this]
def hit (t : Nat) (a b : Int32) (n : Nat) (f : Nat → Int32) (N : Nat) : Bool := match run (dgt t n N) n 0 f with
  | some f' => wiB f' a b
  | none => false
def frN (t : Nat) (a b : Int32) : Nat → (Nat → Int32) → Option Nat
  | 0, f => if wiB f a b = true then some 0 else none
  | n + 1, f => fdO (fun j => match stp f j with
    | none => none
    | some f' => (frN t a b n f').map (fun r => j * t ^ n + r)) t 0
def FF (t : Nat) (a b : Int32) (n : Nat) (f : Nat → Int32) (j : Nat) : Option Nat := match stp f j with
  | none => none
  | some f' => (frN t a b n f').map (fun r => j * t ^ n + r)
theorem frN_s (t : Nat) (a b : Int32) (n : Nat) (f : Nat → Int32) : frN t a b (n + 1) f = fdO (FF t a b n f) t 0 := rfl
theorem fdN_none {P : Nat → Bool} : ∀ (n lo : Nat), (∀ i, lo ≤ i → i < lo + n → P i = false) → fdN P n lo = none := by
  intro n
  induction n with
  | zero => intro lo _; rfl
  | succ n ih => intro lo h; rw [fdN, if_neg (by rw [h lo (Nat.le_refl _) (by omega)]; decide), ih _ (fun i h1 h2 => h i (by omega) (by omega))]
theorem hit_fr {t : Nat} (ht : 0 < t) (a b : Int32) : ∀ (n : Nat) (f : Nat → Int32), fdN (hit t a b n f) (t ^ n) 0 = frN t a b n f := by
  intro n
  induction n with
  | zero =>
    intro f
    show fdN (hit t a b 0 f) 1 0 = _
    rw [fdN, frN]
    rfl
  | succ n ih =>
    intro f
    have := fdN_blk (P := hit t a b (n + 1) f) (t ^ n) t 0
    rw [Nat.zero_mul] at this
    rw [Nat.pow_succ, Nat.mul_comm, this, frN_s]
    refine fdO_congr _ _ (fun j _ hj => ?_)
    have e : fdN (fun r => hit t a b (n + 1) f (j * t ^ n + r)) (t ^ n) 0 = fdN (fun r => match stp f j with
      | none => false
      | some f' => hit t a b n f' r) (t ^ n) 0 := fdN_congr _ _ (fun r _ hr => by
        unfold hit
        rw [run_s ht (by omega) (by omega)]
        cases stp f j with
        | none => rfl
        | some f' => rfl)
    show (fdN (fun r => hit t a b (n + 1) f (j * t ^ n + r)) (t ^ n) 0).map _ = _
    rw [e]
    unfold FF
    cases hs : stp f j with
    | none => rw [fdN_none _ _ (fun i _ _ => rfl)]; rfl
    | some f' =>
      show (fdN (hit t a b n f') (t ^ n) 0).map _ = (frN t a b n f').map _
      rw [ih f']
theorem fdO_some {F : Nat → Option Nat} : ∀ (n lo r : Nat), fdO F n lo = some r → ∃ j, lo ≤ j ∧ j < lo + n ∧ F j = some r := by
  intro n
  induction n with
  | zero => intro lo r h; cases h
  | succ n ih =>
    intro lo r h
    rw [fdO] at h
    cases hf : F lo with
    | some x => rw [hf] at h; exact ⟨lo, Nat.le_refl _, by omega, by rw [hf]; exact h⟩
    | none =>
      rw [hf] at h
      obtain ⟨j, h1, h2, h3⟩ := ih (lo + 1) r h
      exact ⟨j, by omega, by omega, h3⟩
theorem frN_lt {t : Nat} {a b : Int32} : ∀ (n : Nat) (f : Nat → Int32) (r : Nat), frN t a b n f = some r → r < t ^ n := by
  intro n
  induction n with
  | zero =>
    intro f r h
    rw [frN] at h
    by_cases e : wiB f a b = true
    · rw [if_pos e] at h; have := Option.some.inj h; rw [Nat.pow_zero]; omega
    · rw [if_neg e] at h; cases h
  | succ n ih =>
    intro f r h
    rw [frN_s] at h
    obtain ⟨j, h1, h2, h3⟩ := fdO_some t 0 r h
    unfold FF at h3
    cases hs : stp f j with
    | none => rw [hs] at h3; cases h3
    | some f' =>
      rw [hs] at h3
      have h3 : (frN t a b n f').map (fun r => j * t ^ n + r) = some r := h3
      cases hr : frN t a b n f' with
      | none => rw [hr] at h3; cases h3
      | some x =>
        rw [hr] at h3
        have h4 : j * t ^ n + x = r := Option.some.inj h3
        have h5 := ih f' x hr
        have h6 : j + 1 ≤ t := by omega
        have h7 := Nat.mul_le_mul_right (t ^ n) h6
        rw [Nat.succ_mul] at h7
        rw [Nat.pow_succ, Nat.mul_comm]; omega
/-! ===== the reference: the search ===== -/
section RSOON
variable {c t : Nat} {f : Nat → Int32} {w : SW}
theorem R_find_22 (hW : Wf f c t) (hS : Sm w f c t) (a b : Int32) {n : Nat} (hn : n ≤ 3) {im kp : Nat → Int32} {ii : Int32} (hk : ∀ i, i < 231 → kp i = f i) (kk : SR → Option (Int32 × SR)) : ∀ (m N : Nat) (rw0 : Nat → Int32), N ≤ t ^ n → t ^ n - N < m → ∃ rw1, (fdN (hit t a b n f) (t ^ n - N) N = none ∧ fR_findSoonest_22 a b (nI n) (nI (t ^ n)) kk m (f, im, kp, ii, rw0) (nI N) = kk (f, im, kp, ii, rw1)) ∨ (∃ M, fdN (hit t a b n f) (t ^ n - N) N = some M ∧ (∀ i, i < n → rw1 i = nI (dgt t n M i)) ∧ fR_findSoonest_22 a b (nI n) (nI (t ^ n)) kk m (f, im, kp, ii, rw0) (nI N) = some (nI n, (f, im, kp, ii, rw1))) := by
  have ht := hW.t12
  have hp := pow_12 ht hn
  intro m
  induction m with
  | zero => intro N rw0 h1 h2; omega
  | succ m ih =>
    intro N rw0 h1 h2
    rw [fR_findSoonest_22_s]
    rcases Nat.lt_or_ge N (t ^ n) with h | h
    · rw [if_neg (nI_ge h (by omega)), show t ^ n - N = (t ^ n - (N + 1)) + 1 by omega, fdN]
      have h0 : 0 < n → 0 < t := fun hb0 => by
        rcases Nat.eq_zero_or_pos t with rfl | h3
        · rw [Nat.zero_pow hb0] at h; omega
        · exact h3
      obtain ⟨rw1, hr1, hR⟩ := R_actsRow (g := (f, im, kp, ii, rw0)) hW hS hn h0 (show N < 2 ^ 31 by omega)
      rcases hR with ⟨a1, f', a2, a3⟩ | ⟨f', w', a1, a2, a3, a4, a5⟩
      · have hh : hit t a b n f N = false := by unfold hit; rw [show run (dgt t n N) n 0 f = none from a1]
        rw [a3, Option.bind_some, if_pos rfl, R_putsFrom, Option.bind_some, if_neg (by rw [hh]; decide)]
        obtain ⟨rw2, e⟩ := ih (N + 1) rw1 (by omega) (by omega)
        refine ⟨rw2, ?_⟩
        show (_ ∧ fR_findSoonest_22 a b (nI n) (nI (t ^ n)) kk m (cpF kp f' 0, im, kp, ii, rw1) (nI N + 1) = _) ∨ ∃ M, _ ∧ _ ∧ fR_findSoonest_22 a b (nI n) (nI (t ^ n)) kk m (cpF kp f' 0, im, kp, ii, rw1) (nI N + 1) = _
        rw [back_f hk a2, nI_1]; exact e
      · have hi := (wi_c a3 a4 a b).1 (im, kp, ii, rw1)
        have hh : hit t a b n f N = wiB f' a b := by unfold hit; rw [show run (dgt t n N) n 0 f = some f' from a1]
        rw [a5, Option.bind_some, if_neg n10, show fR_isWithin (f', im, kp, ii, rw1) a b = _ from hi, Option.bind_some, R_putsFrom, Option.bind_some, hh]
        by_cases e : wiB f' a b = true
        · rw [if_pos e, b2i_t e, if_neg n10]
          refine ⟨rw1, Or.inr ⟨N, rfl, hr1, ?_⟩⟩
          show some (nI n, (cpF kp f' 0, im, kp, ii, rw1)) = _
          rw [back_f hk a2]
        · rw [if_neg e, b2i_f e, if_pos rfl]
          obtain ⟨rw2, e⟩ := ih (N + 1) rw1 (by omega) (by omega)
          refine ⟨rw2, ?_⟩
          show (_ ∧ fR_findSoonest_22 a b (nI n) (nI (t ^ n)) kk m (cpF kp f' 0, im, kp, ii, rw1) (nI N + 1) = _) ∨ ∃ M, _ ∧ _ ∧ fR_findSoonest_22 a b (nI n) (nI (t ^ n)) kk m (cpF kp f' 0, im, kp, ii, rw1) (nI N + 1) = _
          rw [back_f hk a2, nI_1]; exact e
    · rw [if_pos (nI_le h (by omega)), show t ^ n - N = 0 by omega]
      exact ⟨rw0, Or.inl ⟨rfl, rfl⟩⟩
theorem hit_fr0 (t : Nat) (a b : Int32) (n : Nat) (f : Nat → Int32) : fdN (hit t a b n f) (t ^ n) 0 = frN t a b n f := by
  rcases Nat.eq_zero_or_pos t with rfl | ht
  · cases n with
    | zero =>
      show fdN (hit 0 a b 0 f) 1 0 = _
      rw [fdN, frN]; rfl
    | succ n => rw [Nat.zero_pow (by omega)]; rfl
  · exact hit_fr ht a b n f
/-- the first number of acts, the first row -/
def soo (t : Nat) (a b : Int32) (f : Nat → Int32) : Nat → Nat → Option (Nat × Nat)
  | 0, _ => none
  | m + 1, n => match frN t a b n f with
    | some M => some (n, M)
    | none => soo t a b f m (n + 1)
theorem R_find_7 (hW : Wf f c t) (hS : Sm w f c t) (a b : Int32) {im kp : Nat → Int32} {ii : Int32} (hk : ∀ i, i < 231 → kp i = f i) : ∀ (m n : Nat) (rw0 : Nat → Int32), n ≤ 4 → 4 - n < m → ∃ rw1, (soo t a b f (4 - n) n = none ∧ fR_findSoonest_7 a b m (f, im, kp, ii, rw0) (nI n) = some (-9, (f, im, kp, ii, rw1))) ∨ (∃ l M, soo t a b f (4 - n) n = some (l, M) ∧ l ≤ 3 ∧ (∀ i, i < l → rw1 i = nI (dgt t l M i)) ∧ fR_findSoonest_7 a b m (f, im, kp, ii, rw0) (nI n) = some (nI l, (f, im, kp, ii, rw1))) := by
  have ht := hW.t12
  intro m
  induction m with
  | zero => intro n rw0 h1 h2; omega
  | succ m ih =>
    intro n rw0 h1 h2
    rw [fR_findSoonest_7_s]
    rcases Nat.lt_or_ge n 4 with h | h
    · have hp := pow_12 ht (show n ≤ 3 by omega)
      rw [if_neg (show ¬ (3 : Int32) < nI n from nI_nlt (a := 3) (by omega) (by omega)), R_allRows (g := (f, im, kp, ii, rw0)) hW (by omega), Option.bind_some, show 4 - n = (4 - (n + 1)) + 1 by omega, soo]
      obtain ⟨rw1, hR⟩ := R_find_22 hW hS a b (show n ≤ 3 by omega) hk (fun s3 => fR_findSoonest_7 a b m s3 (nI n + 1)) 2000 0 rw0 (Nat.zero_le _) (by omega)
      rw [Nat.sub_zero, hit_fr0] at hR
      rcases hR with ⟨a1, a2⟩ | ⟨M, a1, a2, a3⟩
      · rw [a1]
        obtain ⟨rw2, e⟩ := ih (n + 1) rw1 (by omega) (by omega)
        refine ⟨rw2, ?_⟩
        rw [show fR_findSoonest_22 a b (nI n) (nI (t ^ n)) (fun s3 => fR_findSoonest_7 a b m s3 (nI n + 1)) 2000 (f, im, kp, ii, rw0) 0 = _ from a2, nI_1]
        exact e
      · rw [a1]
        exact ⟨rw1, Or.inr ⟨n, M, rfl, by omega, a2, a3⟩⟩
    · have : n = 4 := by omega
      subst this
      rw [if_pos (show (3 : Int32) < nI 4 by decide)]
      exact ⟨rw0, Or.inl ⟨rfl, rfl⟩⟩
end RSOON
/-! ===== the class: the search ===== -/
def isS {α : Type} : Option α → Bool
  | some _ => true
  | none => false
section MSOON
variable {c t : Nat} {a b : Int32}
theorem M_within {w : SW} {f : Nat → Int32} (hW : Wf f c t) (hS : Sm w f c t) (S : SM) : (fW_isWithin w a b).bind (fun x2 => mp_zb x2 (some (x2, S))) = some (b2i (isS (frN t a b 0 f)), S) := by
  rw [(wi_c hW hS a b).2, Option.bind_some, frN]
  by_cases e : wiB f a b = true
  · rw [if_pos e, b2i_t e]; rfl
  · rw [if_neg e, b2i_f e]; rfl
theorem M_find_3 {f : Nat → Int32} (hW : Wf f c t) (n : Nat) (hn : n ≤ 3) (S : SM) (hS : Sm S.2.2.2.2.2.1 f c t) : fM_findRow_3 S (nI n) a b = some (b2i (isS (frN t a b (n - 3) f)), S) := by
  rw [fM_findRow_3, if_pos (show nI n ≤ (3 : Int32) from nI_le (b := 3) hn (by omega)), show n - 3 = 0 by omega]
  exact M_within hW hS S
def rowOK (t d r : Nat) (o : Option Nat) (S S' : SM) : Prop := (∀ i, i < d → S'.2.2.2.2.2.2 i = S.2.2.2.2.2.2 i) ∧ ∀ M, o = some M → ∀ i, i < r → S'.2.2.2.2.2.2 (d + i) = nI (dgt t r M i)
theorem M_find_2_L {f : Nat → Int32} (hW : Wf f c t) (n : Nat) (hn : n ≤ 3) (hd : 2 < n) : ∀ (m q : Nat) (S : SM), Sm S.2.2.2.2.1 f c t → q ≤ t → t - q < m → ∃ S', fM_findRow_2_43 (nI n) a b m S (nI q) = some (b2i (isS (fdO (FF t a b (n - 3) f) (t - q) q)), S') ∧ frm S S' ∧ (S'.2.2.2.1 = S.2.2.2.1 ∧ S'.2.2.2.2.1 = S.2.2.2.2.1) ∧ rowOK t 2 (n - 2) (fdO (FF t a b (n - 3) f) (t - q) q) S S' := by
  have ht := hW.t12
  intro m
  induction m with
  | zero => intro q S _ h1 h2; omega
  | succ m ih =>
    intro q S hS h1 h2
    rw [fM_findRow_2_43_s, fW_threadsInAll, Option.bind_some, hS.tc]
    rcases Nat.lt_or_ge q t with h | h
    · rw [if_neg (nI_ge h (by omega)), show t - q = (t - (q + 1)) + 1 by omega, fdO]
      rcases stp_c hW hS h with ⟨s1, -, s3⟩ | ⟨f1, -, -, s1, -, ⟨r, r1, r2⟩, -, -, -, -⟩
      · rw [s3, Option.bind_some, if_pos rfl, nI_1, show FF t a b (n - 3) f q = none by unfold FF; rw [s1]]
        exact ih (q + 1) S hS (by omega) (by omega)
      · rw [r2, Option.bind_some, if_neg r1]
        obtain ⟨u, hu⟩ : ∃ u, fW_become S.2.2.2.2.2.1 S.2.2.2.2.1 = some u := ⟨_, W_become _ _⟩
        have hSu := Sm_become hW hS hu
        rcases stp_c hW hSu h with ⟨z1, -, -⟩ | ⟨f2, w2, v2, z1, -, -, z4, z5, z6, -⟩
        · rw [s1] at z1; cases z1
        · have : f1 = f2 := Option.some.inj (s1.symm.trans z1)
          subst this
          have eF : FF t a b (n - 3) f q = (frN t a b (n - 3) f1).map (fun r => q * t ^ (n - 3) + r) := by unfold FF; rw [s1]
          obtain ⟨S2, y1, y2, y3, y4⟩ := (show ∃ S2, fM_findRow_3 (S.1, S.2.1, S.2.2.1, S.2.2.2.1, S.2.2.2.2.1, w2, upd S.2.2.2.2.2.2 2 (nI q)) (nI n) a b = some (b2i (isS (frN t a b (n - 3) f1)), S2) ∧ frm (S.1, S.2.1, S.2.2.1, S.2.2.2.1, S.2.2.2.2.1, w2, upd S.2.2.2.2.2.2 2 (nI q)) S2 ∧ (S2.2.2.2.1 = S.2.2.2.1 ∧ S2.2.2.2.2.1 = S.2.2.2.2.1) ∧ rowOK t 3 (n - 3) (frN t a b (n - 3) f1) (S.1, S.2.1, S.2.2.1, S.2.2.2.1, S.2.2.2.2.1, w2, upd S.2.2.2.2.2.2 2 (nI q)) S2 from ⟨_, M_find_3 z5 n hn (S.1, S.2.1, S.2.2.1, S.2.2.2.1, S.2.2.2.2.1, w2, upd S.2.2.2.2.2.2 2 (nI q)) z6, ⟨rfl, rfl, rfl⟩, ⟨rfl, rfl⟩, fun _ _ => rfl, fun M _ i hi => by omega⟩)
          rw [hu, Option.bind_some, z4, Option.bind_some, show mp_st 3 2 = mp_st 3 (nI 2) from rfl, st_n (by omega) (by omega), show Int32.toNatClampNeg 2 = 2 by decide, show fM_findRow_3 (S.1, S.2.1, S.2.2.1, S.2.2.2.1, S.2.2.2.2.1, w2, upd S.2.2.2.2.2.2 2 (nI q)) (nI n) a b = _ from y1, Option.bind_some, eF]
          have k0 : ∀ i, i < 2 → S2.2.2.2.2.2.2 i = S.2.2.2.2.2.2 i := fun i hi => (y4.1 i (by omega)).trans (pk_un (by omega))
          have kd : S2.2.2.2.2.2.2 2 = nI q := (y4.1 2 (by omega)).trans (show upd S.2.2.2.2.2.2 2 (nI q) 2 = nI q from pk_us)
          cases hr : frN t a b (n - 3) f1 with
          | none =>
            rw [show b2i (isS (none : Option Nat)) = 0 from rfl, if_pos rfl, nI_1]
            obtain ⟨S', e1, e2, e3, e4⟩ := ih (q + 1) S2 (by rw [y3.2]; exact hS) (by omega) (by omega)
            refine ⟨S', e1, ⟨e2.1.trans y2.1, e2.2.1.trans y2.2.1, e2.2.2.trans y2.2.2⟩, ⟨e3.1.trans y3.1, e3.2.trans y3.2⟩, fun i hi => (e4.1 i hi).trans (k0 i hi), e4.2⟩
          | some M =>
            rw [show b2i (isS (some M)) = 1 from rfl, if_neg n10]
            refine ⟨S2, rfl, y2, y3, k0, fun M' hM i hi => ?_⟩
            have hM : q * t ^ (n - 3) + M = M' := Option.some.inj hM
            subst hM
            have hlt := frN_lt _ _ _ hr
            rw [show n - 2 = (n - 3) + 1 by omega] at hi ⊢
            cases i with
            | zero => rw [Nat.add_zero, kd, dgt_0 h hlt]
            | succ i => rw [dgt_s (by omega) (by omega), show 2 + (i + 1) = 3 + i by omega]; exact y4.2 M hr i (by omega)
    · rw [if_pos (nI_le h (by omega)), show t - q = 0 by omega]
      exact ⟨S, rfl, ⟨rfl, rfl, rfl⟩, ⟨rfl, rfl⟩, fun _ _ => rfl, fun M hM => by cases hM⟩
theorem M_find_2 {f : Nat → Int32} (hW : Wf f c t) (n : Nat) (hn : n ≤ 3) (S : SM) (hS : Sm S.2.2.2.2.1 f c t) : ∃ S', fM_findRow_2 S (nI n) a b = some (b2i (isS (frN t a b (n - 2) f)), S') ∧ frm S S' ∧ (S'.2.2.2.1 = S.2.2.2.1) ∧ rowOK t 2 (n - 2) (frN t a b (n - 2) f) S S' := by
  have ht := hW.t12
  rw [fM_findRow_2]
  rcases Nat.lt_or_ge 2 n with h | h
  · rw [if_neg (show ¬ nI n ≤ (2 : Int32) from nI_ge (a := 2) h (by omega))]
    obtain ⟨S', e1, e2, e3, e4⟩ := M_find_2_L (a := a) (b := b) hW n hn h 2000 0 S hS (Nat.zero_le _) (by omega)
    rw [Nat.sub_zero] at e1 e4
    refine ⟨S', ?_, e2, e3.1, ?_⟩
    · rw [show n - 2 = (n - 3) + 1 by omega, frN_s]; exact e1
    · rw [show frN t a b (n - 2) f = fdO (FF t a b (n - 3) f) t 0 by rw [show n - 2 = (n - 3) + 1 by omega, frN_s]]; exact e4
  · rw [if_pos (show nI n ≤ (2 : Int32) from nI_le (b := 2) h (by omega)), show n - 2 = 0 by omega]
    exact ⟨S, M_within hW hS S, ⟨rfl, rfl, rfl⟩, rfl, fun _ _ => rfl, fun M _ i hi => by omega⟩
theorem M_find_1_L {f : Nat → Int32} (hW : Wf f c t) (n : Nat) (hn : n ≤ 3) (hd : 1 < n) : ∀ (m q : Nat) (S : SM), Sm S.2.2.2.1 f c t → q ≤ t → t - q < m → ∃ S', fM_findRow_1_43 (nI n) a b m S (nI q) = some (b2i (isS (fdO (FF t a b (n - 2) f) (t - q) q)), S') ∧ frm S S' ∧ (S'.2.2.2.1 = S.2.2.2.1) ∧ rowOK t 1 (n - 1) (fdO (FF t a b (n - 2) f) (t - q) q) S S' := by
  have ht := hW.t12
  intro m
  induction m with
  | zero => intro q S _ h1 h2; omega
  | succ m ih =>
    intro q S hS h1 h2
    rw [fM_findRow_1_43_s, fW_threadsInAll, Option.bind_some, hS.tc]
    rcases Nat.lt_or_ge q t with h | h
    · rw [if_neg (nI_ge h (by omega)), show t - q = (t - (q + 1)) + 1 by omega, fdO]
      rcases stp_c hW hS h with ⟨s1, -, s3⟩ | ⟨f1, -, -, s1, -, ⟨r, r1, r2⟩, -, -, -, -⟩
      · rw [s3, Option.bind_some, if_pos rfl, nI_1, show FF t a b (n - 2) f q = none by unfold FF; rw [s1]]
        exact ih (q + 1) S hS (by omega) (by omega)
      · rw [r2, Option.bind_some, if_neg r1]
        obtain ⟨u, hu⟩ : ∃ u, fW_become S.2.2.2.2.1 S.2.2.2.1 = some u := ⟨_, W_become _ _⟩
        have hSu := Sm_become hW hS hu
        rcases stp_c hW hSu h with ⟨z1, -, -⟩ | ⟨f2, w2, v2, z1, -, -, z4, z5, z6, -⟩
        · rw [s1] at z1; cases z1
        · have : f1 = f2 := Option.some.inj (s1.symm.trans z1)
          subst this
          have eF : FF t a b (n - 2) f q = (frN t a b (n - 2) f1).map (fun r => q * t ^ (n - 2) + r) := by unfold FF; rw [s1]
          obtain ⟨S2, y1, y2, y3, y4⟩ := M_find_2 (a := a) (b := b) z5 n hn (S.1, S.2.1, S.2.2.1, S.2.2.2.1, w2, S.2.2.2.2.2.1, upd S.2.2.2.2.2.2 1 (nI q)) z6
          rw [hu, Option.bind_some, z4, Option.bind_some, show mp_st 3 1 = mp_st 3 (nI 1) from rfl, st_n (by omega) (by omega), show Int32.toNatClampNeg 1 = 1 by decide, show fM_findRow_2 (S.1, S.2.1, S.2.2.1, S.2.2.2.1, w2, S.2.2.2.2.2.1, upd S.2.2.2.2.2.2 1 (nI q)) (nI n) a b = _ from y1, Option.bind_some, eF]
          have k0 : ∀ i, i < 1 → S2.2.2.2.2.2.2 i = S.2.2.2.2.2.2 i := fun i hi => (y4.1 i (by omega)).trans (pk_un (by omega))
          have kd : S2.2.2.2.2.2.2 1 = nI q := (y4.1 1 (by omega)).trans (show upd S.2.2.2.2.2.2 1 (nI q) 1 = nI q from pk_us)
          cases hr : frN t a b (n - 2) f1 with
          | none =>
            rw [show b2i (isS (none : Option Nat)) = 0 from rfl, if_pos rfl, nI_1]
            obtain ⟨S', e1, e2, e3, e4⟩ := ih (q + 1) S2 (by rw [show S2.2.2.2.1 = S.2.2.2.1 from y3]; exact hS) (by omega) (by omega)
            refine ⟨S', e1, ⟨e2.1.trans y2.1, e2.2.1.trans y2.2.1, e2.2.2.trans y2.2.2⟩, e3.trans y3, fun i hi => (e4.1 i hi).trans (k0 i hi), e4.2⟩
          | some M =>
            rw [show b2i (isS (some M)) = 1 from rfl, if_neg n10]
            refine ⟨S2, rfl, y2, y3, k0, fun M' hM i hi => ?_⟩
            have hM : q * t ^ (n - 2) + M = M' := Option.some.inj hM
            subst hM
            have hlt := frN_lt _ _ _ hr
            rw [show n - 1 = (n - 2) + 1 by omega] at hi ⊢
            cases i with
            | zero => rw [Nat.add_zero, kd, dgt_0 h hlt]
            | succ i => rw [dgt_s (by omega) (by omega), show 1 + (i + 1) = 2 + i by omega]; exact y4.2 M hr i (by omega)
    · rw [if_pos (nI_le h (by omega)), show t - q = 0 by omega]
      exact ⟨S, rfl, ⟨rfl, rfl, rfl⟩, rfl, fun _ _ => rfl, fun M hM => by cases hM⟩
theorem M_find_1 {f : Nat → Int32} (hW : Wf f c t) (n : Nat) (hn : n ≤ 3) (S : SM) (hS : Sm S.2.2.2.1 f c t) : ∃ S', fM_findRow_1 S (nI n) a b = some (b2i (isS (frN t a b (n - 1) f)), S') ∧ frm S S' ∧ (True) ∧ rowOK t 1 (n - 1) (frN t a b (n - 1) f) S S' := by
  have ht := hW.t12
  rw [fM_findRow_1]
  rcases Nat.lt_or_ge 1 n with h | h
  · rw [if_neg (show ¬ nI n ≤ (1 : Int32) from nI_ge (a := 1) h (by omega))]
    obtain ⟨S', e1, e2, e3, e4⟩ := M_find_1_L (a := a) (b := b) hW n hn h 2000 0 S hS (Nat.zero_le _) (by omega)
    rw [Nat.sub_zero] at e1 e4
    refine ⟨S', ?_, e2, trivial, ?_⟩
    · rw [show n - 1 = (n - 2) + 1 by omega, frN_s]; exact e1
    · rw [show frN t a b (n - 1) f = fdO (FF t a b (n - 2) f) t 0 by rw [show n - 1 = (n - 2) + 1 by omega, frN_s]]; exact e4
  · rw [if_pos (show nI n ≤ (1 : Int32) from nI_le (b := 1) h (by omega)), show n - 1 = 0 by omega]
    exact ⟨S, M_within hW hS S, ⟨rfl, rfl, rfl⟩, trivial, fun _ _ => rfl, fun M _ i hi => by omega⟩
theorem M_find_0_L {f : Nat → Int32} (hW : Wf f c t) (n : Nat) (hn : n ≤ 3) (hd : 0 < n) : ∀ (m q : Nat) (S : SM), Sm S.1 f c t → q ≤ t → t - q < m → ∃ S', fM_findRow_0_43 (nI n) a b m S (nI q) = some (b2i (isS (fdO (FF t a b (n - 1) f) (t - q) q)), S') ∧ frm S S' ∧ (True) ∧ rowOK t 0 (n - 0) (fdO (FF t a b (n - 1) f) (t - q) q) S S' := by
  have ht := hW.t12
  intro m
  induction m with
  | zero => intro q S _ h1 h2; omega
  | succ m ih =>
    intro q S hS h1 h2
    rw [fM_findRow_0_43_s, fW_threadsInAll, Option.bind_some, hS.tc]
    rcases Nat.lt_or_ge q t with h | h
    · rw [if_neg (nI_ge h (by omega)), show t - q = (t - (q + 1)) + 1 by omega, fdO]
      rcases stp_c hW hS h with ⟨s1, -, s3⟩ | ⟨f1, -, -, s1, -, ⟨r, r1, r2⟩, -, -, -, -⟩
      · rw [s3, Option.bind_some, if_pos rfl, nI_1, show FF t a b (n - 1) f q = none by unfold FF; rw [s1]]
        exact ih (q + 1) S hS (by omega) (by omega)
      · rw [r2, Option.bind_some, if_neg r1]
        obtain ⟨u, hu⟩ : ∃ u, fW_become S.2.2.2.1 S.1 = some u := ⟨_, W_become _ _⟩
        have hSu := Sm_become hW hS hu
        rcases stp_c hW hSu h with ⟨z1, -, -⟩ | ⟨f2, w2, v2, z1, -, -, z4, z5, z6, -⟩
        · rw [s1] at z1; cases z1
        · have : f1 = f2 := Option.some.inj (s1.symm.trans z1)
          subst this
          have eF : FF t a b (n - 1) f q = (frN t a b (n - 1) f1).map (fun r => q * t ^ (n - 1) + r) := by unfold FF; rw [s1]
          obtain ⟨S2, y1, y2, y3, y4⟩ := M_find_1 (a := a) (b := b) z5 n hn (S.1, S.2.1, S.2.2.1, w2, S.2.2.2.2.1, S.2.2.2.2.2.1, upd S.2.2.2.2.2.2 0 (nI q)) z6
          rw [hu, Option.bind_some, z4, Option.bind_some, show mp_st 3 0 = mp_st 3 (nI 0) from rfl, st_n (by omega) (by omega), show Int32.toNatClampNeg 0 = 0 by decide, show fM_findRow_1 (S.1, S.2.1, S.2.2.1, w2, S.2.2.2.2.1, S.2.2.2.2.2.1, upd S.2.2.2.2.2.2 0 (nI q)) (nI n) a b = _ from y1, Option.bind_some, eF]
          have k0 : ∀ i, i < 0 → S2.2.2.2.2.2.2 i = S.2.2.2.2.2.2 i := fun i hi => (y4.1 i (by omega)).trans (pk_un (by omega))
          have kd : S2.2.2.2.2.2.2 0 = nI q := (y4.1 0 (by omega)).trans (show upd S.2.2.2.2.2.2 0 (nI q) 0 = nI q from pk_us)
          cases hr : frN t a b (n - 1) f1 with
          | none =>
            rw [show b2i (isS (none : Option Nat)) = 0 from rfl, if_pos rfl, nI_1]
            obtain ⟨S', e1, e2, e3, e4⟩ := ih (q + 1) S2 (by rw [show S2.1 = S.1 from y2.1]; exact hS) (by omega) (by omega)
            refine ⟨S', e1, ⟨e2.1.trans y2.1, e2.2.1.trans y2.2.1, e2.2.2.trans y2.2.2⟩, trivial, fun i hi => (e4.1 i hi).trans (k0 i hi), e4.2⟩
          | some M =>
            rw [show b2i (isS (some M)) = 1 from rfl, if_neg n10]
            refine ⟨S2, rfl, y2, trivial, k0, fun M' hM i hi => ?_⟩
            have hM : q * t ^ (n - 1) + M = M' := Option.some.inj hM
            subst hM
            have hlt := frN_lt _ _ _ hr
            rw [show n - 0 = (n - 1) + 1 by omega] at hi ⊢
            cases i with
            | zero => rw [Nat.add_zero, kd, dgt_0 h hlt]
            | succ i => rw [dgt_s (by omega) (by omega), show 0 + (i + 1) = 1 + i by omega]; exact y4.2 M hr i (by omega)
    · rw [if_pos (nI_le h (by omega)), show t - q = 0 by omega]
      exact ⟨S, rfl, ⟨rfl, rfl, rfl⟩, trivial, fun _ _ => rfl, fun M hM => by cases hM⟩
theorem M_find_0 {f : Nat → Int32} (hW : Wf f c t) (n : Nat) (hn : n ≤ 3) (S : SM) (hS : Sm S.1 f c t) : ∃ S', fM_findRow_0 S (nI n) a b = some (b2i (isS (frN t a b (n - 0) f)), S') ∧ frm S S' ∧ (True) ∧ rowOK t 0 (n - 0) (frN t a b (n - 0) f) S S' := by
  have ht := hW.t12
  rw [fM_findRow_0]
  rcases Nat.lt_or_ge 0 n with h | h
  · rw [if_neg (show ¬ nI n ≤ (0 : Int32) from nI_ge (a := 0) h (by omega))]
    obtain ⟨S', e1, e2, e3, e4⟩ := M_find_0_L (a := a) (b := b) hW n hn h 2000 0 S hS (Nat.zero_le _) (by omega)
    rw [Nat.sub_zero] at e1 e4
    refine ⟨S', ?_, e2, trivial, ?_⟩
    · rw [show n - 0 = (n - 1) + 1 by omega, frN_s]; exact e1
    · rw [show frN t a b (n - 0) f = fdO (FF t a b (n - 1) f) t 0 by rw [show n - 0 = (n - 1) + 1 by omega, frN_s]]; exact e4
  · rw [if_pos (show nI n ≤ (0 : Int32) from nI_le (b := 0) h (by omega)), show n - 0 = 0 by omega]
    exact ⟨S, M_within hW hS S, ⟨rfl, rfl, rfl⟩, trivial, fun _ _ => rfl, fun M _ i hi => by omega⟩
theorem M_soonest_L {f : Nat → Int32} (hW : Wf f c t) {k : Int32} (hk1 : -1 ≤ k) (hk3 : k < 3) : ∀ (m n : Nat) (S : SM), Sm S.1 f c t → n ≤ 4 → 4 - n < m → ∃ S', frm S S' ∧ fM_soonest_48 a b k m S (nI n) = some ((match soo t a b f (4 - n) n with
    | none => -9
    | some x => if k = -1 then nI x.1 else if nI x.1 ≤ k then -9 else nI (dgt t x.1 x.2 k.toNatClampNeg)), S') := by
  intro m
  induction m with
  | zero => intro n S _ h1 h2; omega
  | succ m ih =>
    intro n S hS h1 h2
    rw [fM_soonest_48_s]
    rcases Nat.lt_or_ge n 4 with h | h
    · rw [if_neg (show ¬ (3 : Int32) < nI n from nI_nlt (a := 3) (by omega) (by omega)), show 4 - n = (4 - (n + 1)) + 1 by omega, soo]
      obtain ⟨S1, e1, e2, -, e4⟩ := M_find_0 (a := a) (b := b) hW n (by omega) S hS
      rw [Nat.sub_zero] at e1 e4
      rw [e1, Option.bind_some]
      cases hr : frN t a b n f with
      | none =>
        rw [show b2i (isS (none : Option Nat)) = 0 from rfl, if_pos rfl, nI_1]
        obtain ⟨S', y1, y2⟩ := ih (n + 1) S1 (by rw [e2.1]; exact hS) (by omega) (by omega)
        exact ⟨S', ⟨y1.1.trans e2.1, y1.2.1.trans e2.2.1, y1.2.2.trans e2.2.2⟩, y2⟩
      | some M =>
        rw [show b2i (isS (some M)) = 1 from rfl, if_neg n10]
        refine ⟨S1, e2, ?_⟩
        show _ = some ((if k = -1 then nI n else if nI n ≤ k then -9 else nI (dgt t n M k.toNatClampNeg)), S1)
        by_cases e : k = -1
        · rw [if_pos e, if_pos e]
        · rw [if_neg e, if_neg e]
          have hk0 : ¬ k < 0 := fun q => e (by
            rw [fa_lt] at q; rw [fa_le] at hk1; rw [fa_eq]
            have : (0 : Int32).toInt = 0 := by decide
            have : (-1 : Int32).toInt = -1 := by decide
            omega)
          obtain ⟨j, hj, rfl⟩ := nI_of hk0
          have hj3 : j < 3 := (nI_ltI (b := 3) hj (by omega)).mp hk3
          rw [fM_threadInRow, if_neg hk0, nI_clamp (by omega)]
          rcases Nat.lt_or_ge j n with hn | hn
          · rw [if_neg (nI_ge hn (by omega)), if_neg (nI_ge hn (by omega)), if_neg (show ¬ (3 : Int32) ≤ nI j from nI_ge (b := 3) hj3 (by omega)), ld_n (by omega) (by omega), Option.bind_some]
            have := e4.2 M hr j hn
            rw [Nat.zero_add] at this
            rw [this]
          · rw [if_pos (nI_le hn (by omega)), if_pos (nI_le hn (by omega)), Option.bind_some]
    · have : n = 4 := by omega
      subst this
      rw [if_pos (show (3 : Int32) < nI 4 by decide)]
      exact ⟨S, ⟨rfl, rfl, rfl⟩, rfl⟩
end MSOON
theorem k_soonest {S : SM} {g : SR} {a1 a2 a3 : Int32} (h : Rel S g) : moOK (fM_soonest S a1 a2 a3) (fR_soonest g a1 a2 a3) := by
  have hR := h
  obtain ⟨⟨c, t, hW, hS⟩, hI⟩ := h
  by_cases ha : ∃ j, lvp g.1 c j ∧ a1 = nI j
  · obtain ⟨j, hj, rfl⟩ := ha
    by_cases hb : ∃ q, lvp g.1 c q ∧ a2 = nI q
    · obtain ⟨q, hq, rfl⟩ := hb
      rw [fM_soonest, fR_soonest, W_isPlace_l hW hS hj, R_isPlace_l hW hj, Option.bind_some, Option.bind_some, if_neg n10, if_neg n10, W_isPlace_l hW hS hq, R_isPlace_l hW hq, Option.bind_some, Option.bind_some, if_neg n10, if_neg n10, fR_between]
      by_cases e1 : a3 < -1
      · rw [if_pos e1, if_pos e1, Option.bind_some, if_pos rfl]; exact mo_i rfl rfl hR
      rw [if_neg e1, if_neg e1]
      have x3 : (3 : Int32).toInt = 3 := by decide
      have x2 : (2 : Int32).toInt = 2 := by decide
      by_cases e2 : a3 < 3
      · have e3 : ¬ (2 : Int32) < a3 := by rw [fa_lt]; rw [fa_lt] at e2; omega
        rw [if_pos e2, if_neg e3, Option.bind_some, if_neg n10]
        by_cases e4 : nI j = nI q
        · rw [if_pos e4, if_pos e4]; exact mo_i rfl rfl hR
        rw [if_neg e4, if_neg e4]
        have hk1 : -1 ≤ a3 := fa_of_nlt e1
        obtain ⟨S', f1, f2⟩ := M_soonest_L (a := nI j) (b := nI q) hW hk1 e2 2000 0 S hS (by omega) (by omega)
        obtain ⟨rw1, hF⟩ := R_find_7 (im := g.2.1) (ii := g.2.2.2.1) (kp := cpF g.1 g.2.2.1 0) hW hS (nI j) (nI q) (fun i hi => cpF_at hi) 2000 0 g.2.2.2.2 (by omega) (by omega)
        rw [show fM_soonest_48 (nI j) (nI q) a3 2000 S 0 = _ from f2, fR_findSoonest, R_keepsAt, Option.bind_some]
        have hRel : Rel S' (g.1, g.2.1, cpF g.1 g.2.2.1 0, g.2.2.2.1, rw1) := Rel_frm hR f1 rfl rfl rfl
        rcases hF with ⟨b1, b2⟩ | ⟨l, M, b1, b2, b3, b4⟩
        · rw [show fR_findSoonest_7 (nI j) (nI q) 2000 (g.1, g.2.1, cpF g.1 g.2.2.1 0, g.2.2.2) 0 = _ from b2, Option.bind_some, b1]
          have hm : (-9 : Int32) ≤ a3 := by
            rw [fa_le] at hk1 ⊢
            have : (-1 : Int32).toInt = -1 := by decide
            have : (-9 : Int32).toInt = -9 := by decide
            omega
          refine mo_i (v := -9) rfl ?_ hRel
          rw [if_pos hm, ite_self]
        · rw [show fR_findSoonest_7 (nI j) (nI q) 2000 (g.1, g.2.1, cpF g.1 g.2.2.1 0, g.2.2.2) 0 = _ from b4, Option.bind_some, b1]
          show moOK (some ((if a3 = -1 then nI l else if nI l ≤ a3 then -9 else nI (dgt t l M a3.toNatClampNeg)), S')) (if a3 = -1 then some (nI l, _) else if nI l ≤ a3 then some (-9, _) else mp_ld rw1 3 a3 fun x11 => some (x11, _))
          by_cases e5 : a3 = -1
          · rw [if_pos e5, if_pos e5]; exact mo_i rfl rfl hRel
          rw [if_neg e5, if_neg e5]
          by_cases e6 : nI l ≤ a3
          · rw [if_pos e6, if_pos e6]; exact mo_i rfl rfl hRel
          rw [if_neg e6, if_neg e6]
          have hk0 : ¬ a3 < 0 := fun q => e5 (by
            rw [fa_lt] at q; rw [fa_le] at hk1; rw [fa_eq]
            have : (0 : Int32).toInt = 0 := by decide
            have : (-1 : Int32).toInt = -1 := by decide
            omega)
          obtain ⟨i, hi, rfl⟩ := nI_of hk0
          have hil : i < l := by
            rcases Nat.lt_or_ge i l with h | h
            · exact h
            · exact absurd (nI_le h hi) e6
          rw [ld_n (by omega) (by omega), nI_clamp hi, b3 i hil]
          exact mo_i rfl rfl hRel
      · have e3 : (2 : Int32) < a3 := by rw [fa_lt]; rw [fa_lt] at e2; omega
        rw [if_neg e2, if_pos e3, Option.bind_some, if_pos rfl]; exact mo_i rfl rfl hR
    · have hb' : ∀ j, lvp g.1 c j → a2 ≠ nI j := fun j h e => hb ⟨j, h, e⟩
      exact mo_i (v := -1) (by rw [fM_soonest, W_isPlace_l hW hS hj, Option.bind_some, if_neg n10, W_isPlace_o hW hS hb', Option.bind_some, if_pos rfl]) (by rw [fR_soonest, R_isPlace_l hW hj, Option.bind_some, if_neg n10, R_isPlace_o hW hb', Option.bind_some, if_pos rfl]) hR
  · have ha' : ∀ j, lvp g.1 c j → a1 ≠ nI j := fun j h e => ha ⟨j, h, e⟩
    exact mo_i (v := -1) (by rw [fM_soonest, W_isPlace_o hW hS ha', Option.bind_some, if_pos rfl]) (by rw [fR_soonest, R_isPlace_o hW ha', Option.bind_some, if_pos rfl]) hR
