/-! ===== constructors ===== -/
def mp_w0 : SW := (1, 0, 0, upd (fun _ => 0) 0 (-9), upd (fun _ => 0) 0 (-9), fun _ => 0, 0, fun _ => 0, fun _ => 0, fun _ => 0, fun _ => 0, fun _ => 0)
def mp_S0 : SM := (mp_w0, mp_w0, 0, mp_w0, mp_w0, mp_w0, fun _ => 0)
def mp_g0 : SR := (upd (upd (upd (fun _ => 0) 0 1) 3 (-9)) 15 (-9), fun _ => 0, fun _ => 0, 0, fun _ => 0)
def mp_PN (k : KK) (sz : Nat) (ws : va_W) (U : State) : Prop := U.heap.size = sz ∧ k.1 ≤ sz ∧ va_AO rW U ∧ mp_P k ws U
theorem mp_blindN {k : KK} {sz : Nat} {av : List Value} {ws : va_W} : FrameBlind (va_Pc av (mp_PN k sz ws)) := fun a U g mk q => ⟨q.1, q.2.1, q.2.2.1, va_AO.moved (u := U) (U := U.calling g mk a) (Vm.Alike.refl U.vm) q.2.2.2.1, q.2.2.2.2.1, q.2.2.2.2.2.1, q.2.2.2.2.2.2.call g mk a⟩
abbrev mp_QN (k : KK) (A : Nat → Prop) (h0 : Nat) (cf : (Nat → Nat) → va_W) : Array Value → State → Outcome → State → Prop := va_Qv (fun ad : Nat → Nat => ad 0 = h0) (fun ad t => va_P (kD k) mp_cls (cf ad) t.heap ∧ va_D A (cf ad)) A
theorem mp_cI {k : KK} {s : State} {cA : ClassId} (h1 : va_K (kD k) mp_cls (kT k) s) (h2 : va_K (kD k) mp_cls (kT k ++ [(cA, .int)]) s) : cA = kI k := Option.some.inj ((h2.2 3 (cA, .int) rfl).2.symm.trans (h1.2 0 (kI k, .int) rfl).2)
theorem mp_cL {k : KK} {s : State} {cA : ClassId} (h1 : va_K (kD k) mp_cls (kT k) s) (h2 : va_K (kD k) mp_cls (kT k ++ [(cA, .long)]) s) : cA = kL k := Option.some.inj ((h2.2 3 (cA, .long) rfl).2.symm.trans (h1.2 1 (kL k, .long) rfl).2)
theorem mp_cO {k : KK} {s : State} {cA : ClassId} (h1 : va_K (kD k) mp_cls (kT k) s) (h2 : va_K (kD k) mp_cls (kT k ++ [(cA, .object rW)]) s) : cA = kO k := by
  obtain ⟨-, -, -, -, -, a⟩ := (h2.2 3 (cA, .object rW) rfl).2
  obtain ⟨-, -, -, -, -, b⟩ := (h1.2 2 (kO k, .object rW) rfl).2
  exact Option.some.inj (a.symm.trans b)
theorem mp_NA {k : KK} {ws : va_W} {sz : Nat} (hD : va_D (mp_N k) ws) (hz : k.1 ≤ sz) : ∀ q, va_A ws sz q → mp_N k q := fun q h => by
  rcases h with ⟨i, e, h⟩ | h
  · exact hD.2 i (q, e) h
  · exact Nat.le_trans hz h
theorem dW_init_0 : decode bW_init 0 = .ok (.aload_n 0, 1) := by decide +kernel
theorem dW_init_1 : decode bW_init 1 = .ok (.invokespecial 3, 3) := by decide +kernel
theorem dW_init_4 : decode bW_init 4 = .ok (.aload_n 0, 1) := by decide +kernel
theorem dW_init_5 : decode bW_init 5 = .ok (.iconst 1, 1) := by decide +kernel
theorem dW_init_6 : decode bW_init 6 = .ok (.putfield 9, 3) := by decide +kernel
theorem dW_init_9 : decode bW_init 9 = .ok (.aload_n 0, 1) := by decide +kernel
theorem dW_init_10 : decode bW_init 10 = .ok (.iconst 0, 1) := by decide +kernel
theorem dW_init_11 : decode bW_init 11 = .ok (.putfield 15, 3) := by decide +kernel
theorem dW_init_14 : decode bW_init 14 = .ok (.aload_n 0, 1) := by decide +kernel
theorem dW_init_15 : decode bW_init 15 = .ok (.iconst 0, 1) := by decide +kernel
theorem dW_init_16 : decode bW_init 16 = .ok (.putfield 18, 3) := by decide +kernel
theorem dW_init_19 : decode bW_init 19 = .ok (.aload_n 0, 1) := by decide +kernel
theorem dW_init_20 : decode bW_init 20 = .ok (.bipush 12, 2) := by decide +kernel
theorem dW_init_22 : decode bW_init 22 = .ok (.newarray .int, 2) := by decide +kernel
theorem dW_init_24 : decode bW_init 24 = .ok (.putfield 21, 3) := by decide +kernel
theorem dW_init_27 : decode bW_init 27 = .ok (.aload_n 0, 1) := by decide +kernel
theorem dW_init_28 : decode bW_init 28 = .ok (.bipush 12, 2) := by decide +kernel
theorem dW_init_30 : decode bW_init 30 = .ok (.newarray .int, 2) := by decide +kernel
theorem dW_init_32 : decode bW_init 32 = .ok (.putfield 25, 3) := by decide +kernel
theorem dW_init_35 : decode bW_init 35 = .ok (.aload_n 0, 1) := by decide +kernel
theorem dW_init_36 : decode bW_init 36 = .ok (.bipush 72, 2) := by decide +kernel
theorem dW_init_38 : decode bW_init 38 = .ok (.newarray .int, 2) := by decide +kernel
theorem dW_init_40 : decode bW_init 40 = .ok (.putfield 28, 3) := by decide +kernel
theorem dW_init_43 : decode bW_init 43 = .ok (.aload_n 0, 1) := by decide +kernel
theorem dW_init_44 : decode bW_init 44 = .ok (.iconst 0, 1) := by decide +kernel
theorem dW_init_45 : decode bW_init 45 = .ok (.putfield 31, 3) := by decide +kernel
theorem dW_init_48 : decode bW_init 48 = .ok (.aload_n 0, 1) := by decide +kernel
theorem dW_init_49 : decode bW_init 49 = .ok (.bipush 12, 2) := by decide +kernel
theorem dW_init_51 : decode bW_init 51 = .ok (.newarray .int, 2) := by decide +kernel
theorem dW_init_53 : decode bW_init 53 = .ok (.putfield 34, 3) := by decide +kernel
theorem dW_init_56 : decode bW_init 56 = .ok (.aload_n 0, 1) := by decide +kernel
theorem dW_init_57 : decode bW_init 57 = .ok (.bipush 12, 2) := by decide +kernel
theorem dW_init_59 : decode bW_init 59 = .ok (.newarray .long, 2) := by decide +kernel
theorem dW_init_61 : decode bW_init 61 = .ok (.putfield 37, 3) := by decide +kernel
theorem dW_init_64 : decode bW_init 64 = .ok (.aload_n 0, 1) := by decide +kernel
theorem dW_init_65 : decode bW_init 65 = .ok (.bipush 12, 2) := by decide +kernel
theorem dW_init_67 : decode bW_init 67 = .ok (.newarray .int, 2) := by decide +kernel
theorem dW_init_69 : decode bW_init 69 = .ok (.putfield 41, 3) := by decide +kernel
theorem dW_init_72 : decode bW_init 72 = .ok (.aload_n 0, 1) := by decide +kernel
theorem dW_init_73 : decode bW_init 73 = .ok (.bipush 12, 2) := by decide +kernel
theorem dW_init_75 : decode bW_init 75 = .ok (.newarray .int, 2) := by decide +kernel
theorem dW_init_77 : decode bW_init 77 = .ok (.putfield 44, 3) := by decide +kernel
theorem dW_init_80 : decode bW_init 80 = .ok (.aload_n 0, 1) := by decide +kernel
theorem dW_init_81 : decode bW_init 81 = .ok (.bipush 12, 2) := by decide +kernel
theorem dW_init_83 : decode bW_init 83 = .ok (.newarray .int, 2) := by decide +kernel
theorem dW_init_85 : decode bW_init 85 = .ok (.putfield 47, 3) := by decide +kernel
theorem dW_init_88 : decode bW_init 88 = .ok (.aload_n 0, 1) := by decide +kernel
theorem dW_init_89 : decode bW_init 89 = .ok (.getfield 21, 3) := by decide +kernel
theorem dW_init_92 : decode bW_init 92 = .ok (.iconst 0, 1) := by decide +kernel
theorem dW_init_93 : decode bW_init 93 = .ok (.bipush (-9), 2) := by decide +kernel
theorem dW_init_95 : decode bW_init 95 = .ok (.iastore, 1) := by decide +kernel
theorem dW_init_96 : decode bW_init 96 = .ok (.aload_n 0, 1) := by decide +kernel
theorem dW_init_97 : decode bW_init 97 = .ok (.getfield 25, 3) := by decide +kernel
theorem dW_init_100 : decode bW_init 100 = .ok (.iconst 0, 1) := by decide +kernel
theorem dW_init_101 : decode bW_init 101 = .ok (.bipush (-9), 2) := by decide +kernel
theorem dW_init_103 : decode bW_init 103 = .ok (.iastore, 1) := by decide +kernel
theorem dW_init_104 : decode bW_init 104 = .ok (.return_, 1) := by decide +kernel
theorem dM_init_0 : decode bM_init 0 = .ok (.aload_n 0, 1) := by decide +kernel
theorem dM_init_1 : decode bM_init 1 = .ok (.invokespecial 1, 3) := by decide +kernel
theorem dM_init_4 : decode bM_init 4 = .ok (.aload_n 0, 1) := by decide +kernel
theorem dM_init_5 : decode bM_init 5 = .ok (.new 7, 3) := by decide +kernel
theorem dM_init_8 : decode bM_init 8 = .ok (.dup, 1) := by decide +kernel
theorem dM_init_9 : decode bM_init 9 = .ok (.invokespecial 9, 3) := by decide +kernel
theorem dM_init_12 : decode bM_init 12 = .ok (.putfield 10, 3) := by decide +kernel
theorem dM_init_15 : decode bM_init 15 = .ok (.aload_n 0, 1) := by decide +kernel
theorem dM_init_16 : decode bM_init 16 = .ok (.new 7, 3) := by decide +kernel
theorem dM_init_19 : decode bM_init 19 = .ok (.dup, 1) := by decide +kernel
theorem dM_init_20 : decode bM_init 20 = .ok (.invokespecial 9, 3) := by decide +kernel
theorem dM_init_23 : decode bM_init 23 = .ok (.putfield 16, 3) := by decide +kernel
theorem dM_init_26 : decode bM_init 26 = .ok (.aload_n 0, 1) := by decide +kernel
theorem dM_init_27 : decode bM_init 27 = .ok (.iconst 0, 1) := by decide +kernel
theorem dM_init_28 : decode bM_init 28 = .ok (.putfield 19, 3) := by decide +kernel
theorem dM_init_31 : decode bM_init 31 = .ok (.aload_n 0, 1) := by decide +kernel
theorem dM_init_32 : decode bM_init 32 = .ok (.iconst 3, 1) := by decide +kernel
theorem dM_init_33 : decode bM_init 33 = .ok (.anewarray 7, 3) := by decide +kernel
theorem dM_init_36 : decode bM_init 36 = .ok (.dup, 1) := by decide +kernel
theorem dM_init_37 : decode bM_init 37 = .ok (.iconst 0, 1) := by decide +kernel
theorem dM_init_38 : decode bM_init 38 = .ok (.new 7, 3) := by decide +kernel
theorem dM_init_41 : decode bM_init 41 = .ok (.dup, 1) := by decide +kernel
theorem dM_init_42 : decode bM_init 42 = .ok (.invokespecial 9, 3) := by decide +kernel
theorem dM_init_45 : decode bM_init 45 = .ok (.aastore, 1) := by decide +kernel
theorem dM_init_46 : decode bM_init 46 = .ok (.dup, 1) := by decide +kernel
theorem dM_init_47 : decode bM_init 47 = .ok (.iconst 1, 1) := by decide +kernel
theorem dM_init_48 : decode bM_init 48 = .ok (.new 7, 3) := by decide +kernel
theorem dM_init_51 : decode bM_init 51 = .ok (.dup, 1) := by decide +kernel
theorem dM_init_52 : decode bM_init 52 = .ok (.invokespecial 9, 3) := by decide +kernel
theorem dM_init_55 : decode bM_init 55 = .ok (.aastore, 1) := by decide +kernel
theorem dM_init_56 : decode bM_init 56 = .ok (.dup, 1) := by decide +kernel
theorem dM_init_57 : decode bM_init 57 = .ok (.iconst 2, 1) := by decide +kernel
theorem dM_init_58 : decode bM_init 58 = .ok (.new 7, 3) := by decide +kernel
theorem dM_init_61 : decode bM_init 61 = .ok (.dup, 1) := by decide +kernel
theorem dM_init_62 : decode bM_init 62 = .ok (.invokespecial 9, 3) := by decide +kernel
theorem dM_init_65 : decode bM_init 65 = .ok (.aastore, 1) := by decide +kernel
theorem dM_init_66 : decode bM_init 66 = .ok (.putfield 23, 3) := by decide +kernel
theorem dM_init_69 : decode bM_init 69 = .ok (.aload_n 0, 1) := by decide +kernel
theorem dM_init_70 : decode bM_init 70 = .ok (.iconst 3, 1) := by decide +kernel
theorem dM_init_71 : decode bM_init 71 = .ok (.newarray .int, 2) := by decide +kernel
theorem dM_init_73 : decode bM_init 73 = .ok (.putfield 27, 3) := by decide +kernel
theorem dM_init_76 : decode bM_init 76 = .ok (.return_, 1) := by decide +kernel
theorem dR_init_0 : decode bR_init 0 = .ok (.aload_n 0, 1) := by decide +kernel
theorem dR_init_1 : decode bR_init 1 = .ok (.invokespecial 1, 3) := by decide +kernel
theorem dR_init_4 : decode bR_init 4 = .ok (.aload_n 0, 1) := by decide +kernel
theorem dR_init_5 : decode bR_init 5 = .ok (.sipush 231, 3) := by decide +kernel
theorem dR_init_8 : decode bR_init 8 = .ok (.newarray .int, 2) := by decide +kernel
theorem dR_init_10 : decode bR_init 10 = .ok (.putfield 7, 3) := by decide +kernel
theorem dR_init_13 : decode bR_init 13 = .ok (.aload_n 0, 1) := by decide +kernel
theorem dR_init_14 : decode bR_init 14 = .ok (.sipush 231, 3) := by decide +kernel
theorem dR_init_17 : decode bR_init 17 = .ok (.newarray .int, 2) := by decide +kernel
theorem dR_init_19 : decode bR_init 19 = .ok (.putfield 13, 3) := by decide +kernel
theorem dR_init_22 : decode bR_init 22 = .ok (.aload_n 0, 1) := by decide +kernel
theorem dR_init_23 : decode bR_init 23 = .ok (.sipush 693, 3) := by decide +kernel
theorem dR_init_26 : decode bR_init 26 = .ok (.newarray .int, 2) := by decide +kernel
theorem dR_init_28 : decode bR_init 28 = .ok (.putfield 16, 3) := by decide +kernel
theorem dR_init_31 : decode bR_init 31 = .ok (.aload_n 0, 1) := by decide +kernel
theorem dR_init_32 : decode bR_init 32 = .ok (.iconst 3, 1) := by decide +kernel
theorem dR_init_33 : decode bR_init 33 = .ok (.newarray .int, 2) := by decide +kernel
theorem dR_init_35 : decode bR_init 35 = .ok (.putfield 19, 3) := by decide +kernel
theorem dR_init_38 : decode bR_init 38 = .ok (.aload_n 0, 1) := by decide +kernel
theorem dR_init_39 : decode bR_init 39 = .ok (.getfield 7, 3) := by decide +kernel
theorem dR_init_42 : decode bR_init 42 = .ok (.iconst 0, 1) := by decide +kernel
theorem dR_init_43 : decode bR_init 43 = .ok (.iconst 1, 1) := by decide +kernel
theorem dR_init_44 : decode bR_init 44 = .ok (.iastore, 1) := by decide +kernel
theorem dR_init_45 : decode bR_init 45 = .ok (.aload_n 0, 1) := by decide +kernel
theorem dR_init_46 : decode bR_init 46 = .ok (.getfield 7, 3) := by decide +kernel
theorem dR_init_49 : decode bR_init 49 = .ok (.iconst 3, 1) := by decide +kernel
theorem dR_init_50 : decode bR_init 50 = .ok (.bipush (-9), 2) := by decide +kernel
theorem dR_init_52 : decode bR_init 52 = .ok (.iastore, 1) := by decide +kernel
theorem dR_init_53 : decode bR_init 53 = .ok (.aload_n 0, 1) := by decide +kernel
theorem dR_init_54 : decode bR_init 54 = .ok (.getfield 7, 3) := by decide +kernel
theorem dR_init_57 : decode bR_init 57 = .ok (.bipush 15, 2) := by decide +kernel
theorem dR_init_59 : decode bR_init 59 = .ok (.bipush (-9), 2) := by decide +kernel
theorem dR_init_61 : decode bR_init 61 = .ok (.iastore, 1) := by decide +kernel
theorem dR_init_62 : decode bR_init 62 = .ok (.return_, 1) := by decide +kernel
theorem wq_55 : Cond.methodLink rW 3 objectInit ∈ wT := wT_in 55 rfl rfl
theorem wq_48 : Cond.instanceMethod objectInit ∈ wT := wT_in 48 rfl rfl
theorem wq_49 : Cond.code objectInit ⟨#[0xb1]⟩ 1 none ∈ wT := wT_in 49 rfl rfl
theorem wq_93 : Cond.arrayClass .int ∈ wT := wT_in 93 rfl rfl
theorem wq_94 : Cond.arrayClass .long ∈ wT := wT_in 94 rfl rfl
theorem wq_47 : Cond.methodLink rM 1 objectInit ∈ wT := wT_in 47 rfl rfl
theorem wq_50 : Cond.classLink rM 7 rW ∈ wT := wT_in 50 rfl rfl
theorem wq_51 : Cond.instantiable rW 12 ∈ wT := wT_in 51 rfl rfl
theorem wq_54 : Cond.code yW_init bW_init 1 none ∈ wT := wT_in 54 rfl rfl
theorem wq_52 : Cond.methodLink rM 9 yW_init ∈ wT := wT_in 52 rfl rfl
theorem wq_53 : Cond.instanceMethod yW_init ∈ wT := wT_in 53 rfl rfl
theorem wq_400 : Cond.methodLink rR 1 objectInit ∈ wT := wT_in 400 rfl rfl
-- MovingPlaces$World.<init>
abbrev rmW_init : Room := { frames := 1, cells := 8, slots := 156, locals := 60 }
set_option maxHeartbeats 4000000 in
set_option maxRecDepth 100000 in
theorem cW_init (l : Launch) (k : KK) (h0 sz : Nat) : Met l yW_init (Cond.code yW_init bW_init 1 none :: wT) rmW_init (va_Pc [.ref h0] (mp_PN k sz ([(h0, .inr (0, [.int 0, .int 0, .int 0, .null, .null, .null, .int 0, .null, .null, .null, .null, .null]))]))) (mp_QN k (va_A ([(h0, .inr (0, [.int 0, .int 0, .int 0, .null, .null, .null, .int 0, .null, .null, .null, .null, .null]))]) sz) h0 (fun ad => cW k ad mp_w0)) 8 156 (va_A ([(h0, .inr (0, [.int 0, .int 0, .int 0, .null, .null, .null, .int 0, .null, .null, .null, .null, .null]))]) sz) := by
  refine Met.ofW (cc := bW_init) (maxL := 1) (ret := none) (by decide) rfl ?_
  intro p e s m args below meth c s₁ B hml hv
  obtain ⟨rfl, hsz, hz, hO, hP, hD0, hE⟩ := hv
  have cx := mp_C.of B hml
  obtain ⟨hx, hb, hr, -, hown, hts, hlocks⟩ := id cx
  have hin : meth.name = "<init>" := (name_of_methodNamed B.named B.method).1
  subst hsz
  have hD := hD0.self (sz := s.heap.size)
  have hAN := mp_NA hD0 hz
  generalize hAe : va_A ([(h0, .inr (0, [.int 0, .int 0, .int 0, .null, .null, .null, .int 0, .null, .null, .null, .null, .null]))]) s.heap.size = A at hD hAN ⊢
  have hA : ∀ q : Nat, s.heap.size ≤ q → A q := fun q h => by rw [← hAe]; exact Or.inr h
  have hS : va_S A s.heap s.heap [] := va_S.rf
  have hl := lv_entry ([.ref h0]) (n := 1) (Nat.le_of_ble_eq_true rfl)
  rw [lg_entry_eq]
  generalize (lg_sl ([.ref h0]) ++ List.replicate (1 - (lg_sl ([.ref h0])).length) Slot.unset).toArray = ls at hl ⊢
  have hl : lv_has ls 1 [(0, .ref h0)] := hl
  have hH0 : True := trivial
  refine lv_aload_n hx hb dW_init_0 rfl (lv_at hl 0 rfl) ?_
  refine W.objInit hx hb hown (hts _ wq_55) (hts _ wq_48) (hts _ wq_49) rfl (by rw [hml]; exact hl.1) rfl dW_init_1 (Nat.le_of_ble_eq_true rfl) (Nat.le_of_ble_eq_true rfl) ?_
  refine W.eq (g2 := F0 m 4 ls []) rfl ?_
  refine lv_aload_n hx hb dW_init_4 rfl (lv_at hl 0 rfl) ?_
  refine lv_iconst (v := 1) hx hb dW_init_5 (by decide) ?_
  refine va_put (D := kD k) (ci := 0) (v := .int 1) (ty := .int) (C := rW) (T := tW) (N := 12) hx hb hts iW gW gW_ok nW hown hE.1 hP hD hS 0 rfl rfl 0 (by decide) (hts _ wq_56) (fun _ h9 => h9) rfl (by decide +kernel) rfl rfl (Nat.le_of_ble_eq_true rfl) dW_init_6 (fun H locs hP hD hS => ?_)
  have hP : va_P (kD k) mp_cls ([(h0, .inr (0, [.int 1, .int 0, .int 0, .null, .null, .null, .int 0, .null, .null, .null, .null, .null]))]) H := hP
  have hD : va_D A ([(h0, .inr (0, [.int 1, .int 0, .int 0, .null, .null, .null, .int 0, .null, .null, .null, .null, .null]))]) := hD
  refine lv_aload_n hx hb dW_init_9 rfl (lv_at hl 0 rfl) ?_
  refine lv_iconst (v := 0) hx hb dW_init_10 (by decide) ?_
  refine va_put (D := kD k) (ci := 0) (v := .int 0) (ty := .int) (C := rW) (T := tW) (N := 12) hx hb hts iW gW gW_ok nW hown hE.1 hP hD hS 0 rfl rfl 1 (by decide) (hts _ wq_57) (fun _ h9 => h9) rfl (by decide +kernel) rfl rfl (Nat.le_of_ble_eq_true rfl) dW_init_11 (fun H locs hP hD hS => ?_)
  have hP : va_P (kD k) mp_cls ([(h0, .inr (0, [.int 1, .int 0, .int 0, .null, .null, .null, .int 0, .null, .null, .null, .null, .null]))]) H := hP
  have hD : va_D A ([(h0, .inr (0, [.int 1, .int 0, .int 0, .null, .null, .null, .int 0, .null, .null, .null, .null, .null]))]) := hD
  refine lv_aload_n hx hb dW_init_14 rfl (lv_at hl 0 rfl) ?_
  refine lv_iconst (v := 0) hx hb dW_init_15 (by decide) ?_
  refine va_put (D := kD k) (ci := 0) (v := .int 0) (ty := .int) (C := rW) (T := tW) (N := 12) hx hb hts iW gW gW_ok nW hown hE.1 hP hD hS 0 rfl rfl 2 (by decide) (hts _ wq_58) (fun _ h9 => h9) rfl (by decide +kernel) rfl rfl (Nat.le_of_ble_eq_true rfl) dW_init_16 (fun H locs hP hD hS => ?_)
  have hP : va_P (kD k) mp_cls ([(h0, .inr (0, [.int 1, .int 0, .int 0, .null, .null, .null, .int 0, .null, .null, .null, .null, .null]))]) H := hP
  have hD : va_D A ([(h0, .inr (0, [.int 1, .int 0, .int 0, .null, .null, .null, .int 0, .null, .null, .null, .null, .null]))]) := hD
  refine lv_aload_n hx hb dW_init_19 rfl (lv_at hl 0 rfl) ?_
  refine lv_bipush (v := 12) hx hb dW_init_20 (by decide) ?_
  refine va_newa (atype := .int) (N' := 12) (a0 := (12, .inl (fun _ => 0))) hx hb (hts _ wq_93) rfl hE.1 hP hD hS hA (fun _ => rfl) (by decide) (by decide) (Nat.le_of_ble_eq_true rfl) (Nat.le_of_ble_eq_true rfl) (Nat.le_of_ble_eq_true rfl) dW_init_22 (fun q1 cA H hK2 hP hD hS => ?_)
  obtain rfl := mp_cI hE.1 hK2
  have hP : va_P (kD k) mp_cls ([(h0, .inr (0, [.int 1, .int 0, .int 0, .null, .null, .null, .int 0, .null, .null, .null, .null, .null]))] ++ [(q1, .inl (kI k, 12, .inl (fun _ => 0)))]) H := hP
  have hD : va_D A ([(h0, .inr (0, [.int 1, .int 0, .int 0, .null, .null, .null, .int 0, .null, .null, .null, .null, .null]))] ++ [(q1, .inl (kI k, 12, .inl (fun _ => 0)))]) := hD
  refine W.widen (k := 1) (n := 12) (Nat.le_of_ble_eq_true rfl) (Nat.le_of_ble_eq_true rfl) ?_
  refine va_putF (D := kD k) (ci := 0) (v := .ref q1) (ty := .array .int) (C := rW) (T := tW) (N := 12) hx hb hts iW gW gW_ok nW hown hE.1 hP hD hS 0 rfl rfl 3 (by decide) (hts _ wq_59) (fun _ h9 => h9) rfl hin rfl (by decide +kernel) rfl rfl (Nat.le_of_ble_eq_true rfl) dW_init_24 (fun H locs hP hD hS => ?_)
  have hP : va_P (kD k) mp_cls ([(h0, .inr (0, [.int 1, .int 0, .int 0, .ref q1, .null, .null, .int 0, .null, .null, .null, .null, .null]))] ++ [(q1, .inl (kI k, 12, .inl (fun _ => 0)))]) H := hP
  have hD : va_D A ([(h0, .inr (0, [.int 1, .int 0, .int 0, .ref q1, .null, .null, .int 0, .null, .null, .null, .null, .null]))] ++ [(q1, .inl (kI k, 12, .inl (fun _ => 0)))]) := hD
  refine lv_aload_n hx hb dW_init_27 rfl (lv_at hl 0 rfl) ?_
  refine lv_bipush (v := 12) hx hb dW_init_28 (by decide) ?_
  refine va_newa (atype := .int) (N' := 12) (a0 := (12, .inl (fun _ => 0))) hx hb (hts _ wq_93) rfl hE.1 hP hD hS hA (fun _ => rfl) (by decide) (by decide) (Nat.le_of_ble_eq_true rfl) (Nat.le_of_ble_eq_true rfl) (Nat.le_of_ble_eq_true rfl) dW_init_30 (fun q2 cA H hK2 hP hD hS => ?_)
  obtain rfl := mp_cI hE.1 hK2
  have hP : va_P (kD k) mp_cls ([(h0, .inr (0, [.int 1, .int 0, .int 0, .ref q1, .null, .null, .int 0, .null, .null, .null, .null, .null]))] ++ [(q1, .inl (kI k, 12, .inl (fun _ => 0)))] ++ [(q2, .inl (kI k, 12, .inl (fun _ => 0)))]) H := hP
  have hD : va_D A ([(h0, .inr (0, [.int 1, .int 0, .int 0, .ref q1, .null, .null, .int 0, .null, .null, .null, .null, .null]))] ++ [(q1, .inl (kI k, 12, .inl (fun _ => 0)))] ++ [(q2, .inl (kI k, 12, .inl (fun _ => 0)))]) := hD
  refine W.widen (k := 2) (n := 24) (Nat.le_of_ble_eq_true rfl) (Nat.le_of_ble_eq_true rfl) ?_
  refine va_putF (D := kD k) (ci := 0) (v := .ref q2) (ty := .array .int) (C := rW) (T := tW) (N := 12) hx hb hts iW gW gW_ok nW hown hE.1 hP hD hS 0 rfl rfl 4 (by decide) (hts _ wq_60) (fun _ h9 => h9) rfl hin rfl (by decide +kernel) rfl rfl (Nat.le_of_ble_eq_true rfl) dW_init_32 (fun H locs hP hD hS => ?_)
  have hP : va_P (kD k) mp_cls ([(h0, .inr (0, [.int 1, .int 0, .int 0, .ref q1, .ref q2, .null, .int 0, .null, .null, .null, .null, .null]))] ++ [(q1, .inl (kI k, 12, .inl (fun _ => 0)))] ++ [(q2, .inl (kI k, 12, .inl (fun _ => 0)))]) H := hP
  have hD : va_D A ([(h0, .inr (0, [.int 1, .int 0, .int 0, .ref q1, .ref q2, .null, .int 0, .null, .null, .null, .null, .null]))] ++ [(q1, .inl (kI k, 12, .inl (fun _ => 0)))] ++ [(q2, .inl (kI k, 12, .inl (fun _ => 0)))]) := hD
  refine lv_aload_n hx hb dW_init_35 rfl (lv_at hl 0 rfl) ?_
  refine lv_bipush (v := 72) hx hb dW_init_36 (by decide) ?_
  refine va_newa (atype := .int) (N' := 72) (a0 := (72, .inl (fun _ => 0))) hx hb (hts _ wq_93) rfl hE.1 hP hD hS hA (fun _ => rfl) (by decide) (by decide) (Nat.le_of_ble_eq_true rfl) (Nat.le_of_ble_eq_true rfl) (Nat.le_of_ble_eq_true rfl) dW_init_38 (fun q3 cA H hK2 hP hD hS => ?_)
  obtain rfl := mp_cI hE.1 hK2
  have hP : va_P (kD k) mp_cls ([(h0, .inr (0, [.int 1, .int 0, .int 0, .ref q1, .ref q2, .null, .int 0, .null, .null, .null, .null, .null]))] ++ [(q1, .inl (kI k, 12, .inl (fun _ => 0)))] ++ [(q2, .inl (kI k, 12, .inl (fun _ => 0)))] ++ [(q3, .inl (kI k, 72, .inl (fun _ => 0)))]) H := hP
  have hD : va_D A ([(h0, .inr (0, [.int 1, .int 0, .int 0, .ref q1, .ref q2, .null, .int 0, .null, .null, .null, .null, .null]))] ++ [(q1, .inl (kI k, 12, .inl (fun _ => 0)))] ++ [(q2, .inl (kI k, 12, .inl (fun _ => 0)))] ++ [(q3, .inl (kI k, 72, .inl (fun _ => 0)))]) := hD
  refine W.widen (k := 3) (n := 96) (Nat.le_of_ble_eq_true rfl) (Nat.le_of_ble_eq_true rfl) ?_
  refine va_putF (D := kD k) (ci := 0) (v := .ref q3) (ty := .array .int) (C := rW) (T := tW) (N := 12) hx hb hts iW gW gW_ok nW hown hE.1 hP hD hS 0 rfl rfl 5 (by decide) (hts _ wq_61) (fun _ h9 => h9) rfl hin rfl (by decide +kernel) rfl rfl (Nat.le_of_ble_eq_true rfl) dW_init_40 (fun H locs hP hD hS => ?_)
  have hP : va_P (kD k) mp_cls ([(h0, .inr (0, [.int 1, .int 0, .int 0, .ref q1, .ref q2, .ref q3, .int 0, .null, .null, .null, .null, .null]))] ++ [(q1, .inl (kI k, 12, .inl (fun _ => 0)))] ++ [(q2, .inl (kI k, 12, .inl (fun _ => 0)))] ++ [(q3, .inl (kI k, 72, .inl (fun _ => 0)))]) H := hP
  have hD : va_D A ([(h0, .inr (0, [.int 1, .int 0, .int 0, .ref q1, .ref q2, .ref q3, .int 0, .null, .null, .null, .null, .null]))] ++ [(q1, .inl (kI k, 12, .inl (fun _ => 0)))] ++ [(q2, .inl (kI k, 12, .inl (fun _ => 0)))] ++ [(q3, .inl (kI k, 72, .inl (fun _ => 0)))]) := hD
  refine lv_aload_n hx hb dW_init_43 rfl (lv_at hl 0 rfl) ?_
  refine lv_iconst (v := 0) hx hb dW_init_44 (by decide) ?_
  refine va_put (D := kD k) (ci := 0) (v := .int 0) (ty := .int) (C := rW) (T := tW) (N := 12) hx hb hts iW gW gW_ok nW hown hE.1 hP hD hS 0 rfl rfl 6 (by decide) (hts _ wq_62) (fun _ h9 => h9) rfl (by decide +kernel) rfl rfl (Nat.le_of_ble_eq_true rfl) dW_init_45 (fun H locs hP hD hS => ?_)
  have hP : va_P (kD k) mp_cls ([(h0, .inr (0, [.int 1, .int 0, .int 0, .ref q1, .ref q2, .ref q3, .int 0, .null, .null, .null, .null, .null]))] ++ [(q1, .inl (kI k, 12, .inl (fun _ => 0)))] ++ [(q2, .inl (kI k, 12, .inl (fun _ => 0)))] ++ [(q3, .inl (kI k, 72, .inl (fun _ => 0)))]) H := hP
  have hD : va_D A ([(h0, .inr (0, [.int 1, .int 0, .int 0, .ref q1, .ref q2, .ref q3, .int 0, .null, .null, .null, .null, .null]))] ++ [(q1, .inl (kI k, 12, .inl (fun _ => 0)))] ++ [(q2, .inl (kI k, 12, .inl (fun _ => 0)))] ++ [(q3, .inl (kI k, 72, .inl (fun _ => 0)))]) := hD
  refine lv_aload_n hx hb dW_init_48 rfl (lv_at hl 0 rfl) ?_
  refine lv_bipush (v := 12) hx hb dW_init_49 (by decide) ?_
  refine va_newa (atype := .int) (N' := 12) (a0 := (12, .inl (fun _ => 0))) hx hb (hts _ wq_93) rfl hE.1 hP hD hS hA (fun _ => rfl) (by decide) (by decide) (Nat.le_of_ble_eq_true rfl) (Nat.le_of_ble_eq_true rfl) (Nat.le_of_ble_eq_true rfl) dW_init_51 (fun q4 cA H hK2 hP hD hS => ?_)
  obtain rfl := mp_cI hE.1 hK2
  have hP : va_P (kD k) mp_cls ([(h0, .inr (0, [.int 1, .int 0, .int 0, .ref q1, .ref q2, .ref q3, .int 0, .null, .null, .null, .null, .null]))] ++ [(q1, .inl (kI k, 12, .inl (fun _ => 0)))] ++ [(q2, .inl (kI k, 12, .inl (fun _ => 0)))] ++ [(q3, .inl (kI k, 72, .inl (fun _ => 0)))] ++ [(q4, .inl (kI k, 12, .inl (fun _ => 0)))]) H := hP
  have hD : va_D A ([(h0, .inr (0, [.int 1, .int 0, .int 0, .ref q1, .ref q2, .ref q3, .int 0, .null, .null, .null, .null, .null]))] ++ [(q1, .inl (kI k, 12, .inl (fun _ => 0)))] ++ [(q2, .inl (kI k, 12, .inl (fun _ => 0)))] ++ [(q3, .inl (kI k, 72, .inl (fun _ => 0)))] ++ [(q4, .inl (kI k, 12, .inl (fun _ => 0)))]) := hD
  refine W.widen (k := 4) (n := 108) (Nat.le_of_ble_eq_true rfl) (Nat.le_of_ble_eq_true rfl) ?_
  refine va_putF (D := kD k) (ci := 0) (v := .ref q4) (ty := .array .int) (C := rW) (T := tW) (N := 12) hx hb hts iW gW gW_ok nW hown hE.1 hP hD hS 0 rfl rfl 7 (by decide) (hts _ wq_63) (fun _ h9 => h9) rfl hin rfl (by decide +kernel) rfl rfl (Nat.le_of_ble_eq_true rfl) dW_init_53 (fun H locs hP hD hS => ?_)
  have hP : va_P (kD k) mp_cls ([(h0, .inr (0, [.int 1, .int 0, .int 0, .ref q1, .ref q2, .ref q3, .int 0, .ref q4, .null, .null, .null, .null]))] ++ [(q1, .inl (kI k, 12, .inl (fun _ => 0)))] ++ [(q2, .inl (kI k, 12, .inl (fun _ => 0)))] ++ [(q3, .inl (kI k, 72, .inl (fun _ => 0)))] ++ [(q4, .inl (kI k, 12, .inl (fun _ => 0)))]) H := hP
  have hD : va_D A ([(h0, .inr (0, [.int 1, .int 0, .int 0, .ref q1, .ref q2, .ref q3, .int 0, .ref q4, .null, .null, .null, .null]))] ++ [(q1, .inl (kI k, 12, .inl (fun _ => 0)))] ++ [(q2, .inl (kI k, 12, .inl (fun _ => 0)))] ++ [(q3, .inl (kI k, 72, .inl (fun _ => 0)))] ++ [(q4, .inl (kI k, 12, .inl (fun _ => 0)))]) := hD
  refine lv_aload_n hx hb dW_init_56 rfl (lv_at hl 0 rfl) ?_
  refine lv_bipush (v := 12) hx hb dW_init_57 (by decide) ?_
  refine va_newa (atype := .long) (N' := 12) (a0 := (12, .inr (.inl (fun _ => 0)))) hx hb (hts _ wq_94) rfl hE.1 hP hD hS hA (fun _ => rfl) (by decide) (by decide) (Nat.le_of_ble_eq_true rfl) (Nat.le_of_ble_eq_true rfl) (Nat.le_of_ble_eq_true rfl) dW_init_59 (fun q5 cA H hK2 hP hD hS => ?_)
  obtain rfl := mp_cL hE.1 hK2
  have hP : va_P (kD k) mp_cls ([(h0, .inr (0, [.int 1, .int 0, .int 0, .ref q1, .ref q2, .ref q3, .int 0, .ref q4, .null, .null, .null, .null]))] ++ [(q1, .inl (kI k, 12, .inl (fun _ => 0)))] ++ [(q2, .inl (kI k, 12, .inl (fun _ => 0)))] ++ [(q3, .inl (kI k, 72, .inl (fun _ => 0)))] ++ [(q4, .inl (kI k, 12, .inl (fun _ => 0)))] ++ [(q5, .inl (kL k, 12, .inr (.inl (fun _ => 0))))]) H := hP
  have hD : va_D A ([(h0, .inr (0, [.int 1, .int 0, .int 0, .ref q1, .ref q2, .ref q3, .int 0, .ref q4, .null, .null, .null, .null]))] ++ [(q1, .inl (kI k, 12, .inl (fun _ => 0)))] ++ [(q2, .inl (kI k, 12, .inl (fun _ => 0)))] ++ [(q3, .inl (kI k, 72, .inl (fun _ => 0)))] ++ [(q4, .inl (kI k, 12, .inl (fun _ => 0)))] ++ [(q5, .inl (kL k, 12, .inr (.inl (fun _ => 0))))]) := hD
  refine W.widen (k := 5) (n := 120) (Nat.le_of_ble_eq_true rfl) (Nat.le_of_ble_eq_true rfl) ?_
  refine va_putF (D := kD k) (ci := 0) (v := .ref q5) (ty := .array .long) (C := rW) (T := tW) (N := 12) hx hb hts iW gW gW_ok nW hown hE.1 hP hD hS 0 rfl rfl 8 (by decide) (hts _ wq_64) (fun _ h9 => h9) rfl hin rfl (by decide +kernel) rfl rfl (Nat.le_of_ble_eq_true rfl) dW_init_61 (fun H locs hP hD hS => ?_)
  have hP : va_P (kD k) mp_cls ([(h0, .inr (0, [.int 1, .int 0, .int 0, .ref q1, .ref q2, .ref q3, .int 0, .ref q4, .ref q5, .null, .null, .null]))] ++ [(q1, .inl (kI k, 12, .inl (fun _ => 0)))] ++ [(q2, .inl (kI k, 12, .inl (fun _ => 0)))] ++ [(q3, .inl (kI k, 72, .inl (fun _ => 0)))] ++ [(q4, .inl (kI k, 12, .inl (fun _ => 0)))] ++ [(q5, .inl (kL k, 12, .inr (.inl (fun _ => 0))))]) H := hP
  have hD : va_D A ([(h0, .inr (0, [.int 1, .int 0, .int 0, .ref q1, .ref q2, .ref q3, .int 0, .ref q4, .ref q5, .null, .null, .null]))] ++ [(q1, .inl (kI k, 12, .inl (fun _ => 0)))] ++ [(q2, .inl (kI k, 12, .inl (fun _ => 0)))] ++ [(q3, .inl (kI k, 72, .inl (fun _ => 0)))] ++ [(q4, .inl (kI k, 12, .inl (fun _ => 0)))] ++ [(q5, .inl (kL k, 12, .inr (.inl (fun _ => 0))))]) := hD
  refine lv_aload_n hx hb dW_init_64 rfl (lv_at hl 0 rfl) ?_
  refine lv_bipush (v := 12) hx hb dW_init_65 (by decide) ?_
  refine va_newa (atype := .int) (N' := 12) (a0 := (12, .inl (fun _ => 0))) hx hb (hts _ wq_93) rfl hE.1 hP hD hS hA (fun _ => rfl) (by decide) (by decide) (Nat.le_of_ble_eq_true rfl) (Nat.le_of_ble_eq_true rfl) (Nat.le_of_ble_eq_true rfl) dW_init_67 (fun q6 cA H hK2 hP hD hS => ?_)
  obtain rfl := mp_cI hE.1 hK2
  have hP : va_P (kD k) mp_cls ([(h0, .inr (0, [.int 1, .int 0, .int 0, .ref q1, .ref q2, .ref q3, .int 0, .ref q4, .ref q5, .null, .null, .null]))] ++ [(q1, .inl (kI k, 12, .inl (fun _ => 0)))] ++ [(q2, .inl (kI k, 12, .inl (fun _ => 0)))] ++ [(q3, .inl (kI k, 72, .inl (fun _ => 0)))] ++ [(q4, .inl (kI k, 12, .inl (fun _ => 0)))] ++ [(q5, .inl (kL k, 12, .inr (.inl (fun _ => 0))))] ++ [(q6, .inl (kI k, 12, .inl (fun _ => 0)))]) H := hP
  have hD : va_D A ([(h0, .inr (0, [.int 1, .int 0, .int 0, .ref q1, .ref q2, .ref q3, .int 0, .ref q4, .ref q5, .null, .null, .null]))] ++ [(q1, .inl (kI k, 12, .inl (fun _ => 0)))] ++ [(q2, .inl (kI k, 12, .inl (fun _ => 0)))] ++ [(q3, .inl (kI k, 72, .inl (fun _ => 0)))] ++ [(q4, .inl (kI k, 12, .inl (fun _ => 0)))] ++ [(q5, .inl (kL k, 12, .inr (.inl (fun _ => 0))))] ++ [(q6, .inl (kI k, 12, .inl (fun _ => 0)))]) := hD
  refine W.widen (k := 6) (n := 132) (Nat.le_of_ble_eq_true rfl) (Nat.le_of_ble_eq_true rfl) ?_
  refine va_putF (D := kD k) (ci := 0) (v := .ref q6) (ty := .array .int) (C := rW) (T := tW) (N := 12) hx hb hts iW gW gW_ok nW hown hE.1 hP hD hS 0 rfl rfl 9 (by decide) (hts _ wq_65) (fun _ h9 => h9) rfl hin rfl (by decide +kernel) rfl rfl (Nat.le_of_ble_eq_true rfl) dW_init_69 (fun H locs hP hD hS => ?_)
  have hP : va_P (kD k) mp_cls ([(h0, .inr (0, [.int 1, .int 0, .int 0, .ref q1, .ref q2, .ref q3, .int 0, .ref q4, .ref q5, .ref q6, .null, .null]))] ++ [(q1, .inl (kI k, 12, .inl (fun _ => 0)))] ++ [(q2, .inl (kI k, 12, .inl (fun _ => 0)))] ++ [(q3, .inl (kI k, 72, .inl (fun _ => 0)))] ++ [(q4, .inl (kI k, 12, .inl (fun _ => 0)))] ++ [(q5, .inl (kL k, 12, .inr (.inl (fun _ => 0))))] ++ [(q6, .inl (kI k, 12, .inl (fun _ => 0)))]) H := hP
  have hD : va_D A ([(h0, .inr (0, [.int 1, .int 0, .int 0, .ref q1, .ref q2, .ref q3, .int 0, .ref q4, .ref q5, .ref q6, .null, .null]))] ++ [(q1, .inl (kI k, 12, .inl (fun _ => 0)))] ++ [(q2, .inl (kI k, 12, .inl (fun _ => 0)))] ++ [(q3, .inl (kI k, 72, .inl (fun _ => 0)))] ++ [(q4, .inl (kI k, 12, .inl (fun _ => 0)))] ++ [(q5, .inl (kL k, 12, .inr (.inl (fun _ => 0))))] ++ [(q6, .inl (kI k, 12, .inl (fun _ => 0)))]) := hD
  refine lv_aload_n hx hb dW_init_72 rfl (lv_at hl 0 rfl) ?_
  refine lv_bipush (v := 12) hx hb dW_init_73 (by decide) ?_
  refine va_newa (atype := .int) (N' := 12) (a0 := (12, .inl (fun _ => 0))) hx hb (hts _ wq_93) rfl hE.1 hP hD hS hA (fun _ => rfl) (by decide) (by decide) (Nat.le_of_ble_eq_true rfl) (Nat.le_of_ble_eq_true rfl) (Nat.le_of_ble_eq_true rfl) dW_init_75 (fun q7 cA H hK2 hP hD hS => ?_)
  obtain rfl := mp_cI hE.1 hK2
  have hP : va_P (kD k) mp_cls ([(h0, .inr (0, [.int 1, .int 0, .int 0, .ref q1, .ref q2, .ref q3, .int 0, .ref q4, .ref q5, .ref q6, .null, .null]))] ++ [(q1, .inl (kI k, 12, .inl (fun _ => 0)))] ++ [(q2, .inl (kI k, 12, .inl (fun _ => 0)))] ++ [(q3, .inl (kI k, 72, .inl (fun _ => 0)))] ++ [(q4, .inl (kI k, 12, .inl (fun _ => 0)))] ++ [(q5, .inl (kL k, 12, .inr (.inl (fun _ => 0))))] ++ [(q6, .inl (kI k, 12, .inl (fun _ => 0)))] ++ [(q7, .inl (kI k, 12, .inl (fun _ => 0)))]) H := hP
  have hD : va_D A ([(h0, .inr (0, [.int 1, .int 0, .int 0, .ref q1, .ref q2, .ref q3, .int 0, .ref q4, .ref q5, .ref q6, .null, .null]))] ++ [(q1, .inl (kI k, 12, .inl (fun _ => 0)))] ++ [(q2, .inl (kI k, 12, .inl (fun _ => 0)))] ++ [(q3, .inl (kI k, 72, .inl (fun _ => 0)))] ++ [(q4, .inl (kI k, 12, .inl (fun _ => 0)))] ++ [(q5, .inl (kL k, 12, .inr (.inl (fun _ => 0))))] ++ [(q6, .inl (kI k, 12, .inl (fun _ => 0)))] ++ [(q7, .inl (kI k, 12, .inl (fun _ => 0)))]) := hD
  refine W.widen (k := 7) (n := 144) (Nat.le_of_ble_eq_true rfl) (Nat.le_of_ble_eq_true rfl) ?_
  refine va_putF (D := kD k) (ci := 0) (v := .ref q7) (ty := .array .int) (C := rW) (T := tW) (N := 12) hx hb hts iW gW gW_ok nW hown hE.1 hP hD hS 0 rfl rfl 10 (by decide) (hts _ wq_66) (fun _ h9 => h9) rfl hin rfl (by decide +kernel) rfl rfl (Nat.le_of_ble_eq_true rfl) dW_init_77 (fun H locs hP hD hS => ?_)
  have hP : va_P (kD k) mp_cls ([(h0, .inr (0, [.int 1, .int 0, .int 0, .ref q1, .ref q2, .ref q3, .int 0, .ref q4, .ref q5, .ref q6, .ref q7, .null]))] ++ [(q1, .inl (kI k, 12, .inl (fun _ => 0)))] ++ [(q2, .inl (kI k, 12, .inl (fun _ => 0)))] ++ [(q3, .inl (kI k, 72, .inl (fun _ => 0)))] ++ [(q4, .inl (kI k, 12, .inl (fun _ => 0)))] ++ [(q5, .inl (kL k, 12, .inr (.inl (fun _ => 0))))] ++ [(q6, .inl (kI k, 12, .inl (fun _ => 0)))] ++ [(q7, .inl (kI k, 12, .inl (fun _ => 0)))]) H := hP
  have hD : va_D A ([(h0, .inr (0, [.int 1, .int 0, .int 0, .ref q1, .ref q2, .ref q3, .int 0, .ref q4, .ref q5, .ref q6, .ref q7, .null]))] ++ [(q1, .inl (kI k, 12, .inl (fun _ => 0)))] ++ [(q2, .inl (kI k, 12, .inl (fun _ => 0)))] ++ [(q3, .inl (kI k, 72, .inl (fun _ => 0)))] ++ [(q4, .inl (kI k, 12, .inl (fun _ => 0)))] ++ [(q5, .inl (kL k, 12, .inr (.inl (fun _ => 0))))] ++ [(q6, .inl (kI k, 12, .inl (fun _ => 0)))] ++ [(q7, .inl (kI k, 12, .inl (fun _ => 0)))]) := hD
  refine lv_aload_n hx hb dW_init_80 rfl (lv_at hl 0 rfl) ?_
  refine lv_bipush (v := 12) hx hb dW_init_81 (by decide) ?_
  refine va_newa (atype := .int) (N' := 12) (a0 := (12, .inl (fun _ => 0))) hx hb (hts _ wq_93) rfl hE.1 hP hD hS hA (fun _ => rfl) (by decide) (by decide) (Nat.le_of_ble_eq_true rfl) (Nat.le_of_ble_eq_true rfl) (Nat.le_of_ble_eq_true rfl) dW_init_83 (fun q8 cA H hK2 hP hD hS => ?_)
  obtain rfl := mp_cI hE.1 hK2
  have hP : va_P (kD k) mp_cls ([(h0, .inr (0, [.int 1, .int 0, .int 0, .ref q1, .ref q2, .ref q3, .int 0, .ref q4, .ref q5, .ref q6, .ref q7, .null]))] ++ [(q1, .inl (kI k, 12, .inl (fun _ => 0)))] ++ [(q2, .inl (kI k, 12, .inl (fun _ => 0)))] ++ [(q3, .inl (kI k, 72, .inl (fun _ => 0)))] ++ [(q4, .inl (kI k, 12, .inl (fun _ => 0)))] ++ [(q5, .inl (kL k, 12, .inr (.inl (fun _ => 0))))] ++ [(q6, .inl (kI k, 12, .inl (fun _ => 0)))] ++ [(q7, .inl (kI k, 12, .inl (fun _ => 0)))] ++ [(q8, .inl (kI k, 12, .inl (fun _ => 0)))]) H := hP
  have hD : va_D A ([(h0, .inr (0, [.int 1, .int 0, .int 0, .ref q1, .ref q2, .ref q3, .int 0, .ref q4, .ref q5, .ref q6, .ref q7, .null]))] ++ [(q1, .inl (kI k, 12, .inl (fun _ => 0)))] ++ [(q2, .inl (kI k, 12, .inl (fun _ => 0)))] ++ [(q3, .inl (kI k, 72, .inl (fun _ => 0)))] ++ [(q4, .inl (kI k, 12, .inl (fun _ => 0)))] ++ [(q5, .inl (kL k, 12, .inr (.inl (fun _ => 0))))] ++ [(q6, .inl (kI k, 12, .inl (fun _ => 0)))] ++ [(q7, .inl (kI k, 12, .inl (fun _ => 0)))] ++ [(q8, .inl (kI k, 12, .inl (fun _ => 0)))]) := hD
  refine W.widen (k := 8) (n := 156) (Nat.le_of_ble_eq_true rfl) (Nat.le_of_ble_eq_true rfl) ?_
  refine va_putF (D := kD k) (ci := 0) (v := .ref q8) (ty := .array .int) (C := rW) (T := tW) (N := 12) hx hb hts iW gW gW_ok nW hown hE.1 hP hD hS 0 rfl rfl 11 (by decide) (hts _ wq_67) (fun _ h9 => h9) rfl hin rfl (by decide +kernel) rfl rfl (Nat.le_of_ble_eq_true rfl) dW_init_85 (fun H locs hP hD hS => ?_)
  have hP : va_P (kD k) mp_cls ([(h0, .inr (0, [.int 1, .int 0, .int 0, .ref q1, .ref q2, .ref q3, .int 0, .ref q4, .ref q5, .ref q6, .ref q7, .ref q8]))] ++ [(q1, .inl (kI k, 12, .inl (fun _ => 0)))] ++ [(q2, .inl (kI k, 12, .inl (fun _ => 0)))] ++ [(q3, .inl (kI k, 72, .inl (fun _ => 0)))] ++ [(q4, .inl (kI k, 12, .inl (fun _ => 0)))] ++ [(q5, .inl (kL k, 12, .inr (.inl (fun _ => 0))))] ++ [(q6, .inl (kI k, 12, .inl (fun _ => 0)))] ++ [(q7, .inl (kI k, 12, .inl (fun _ => 0)))] ++ [(q8, .inl (kI k, 12, .inl (fun _ => 0)))]) H := hP
  have hD : va_D A ([(h0, .inr (0, [.int 1, .int 0, .int 0, .ref q1, .ref q2, .ref q3, .int 0, .ref q4, .ref q5, .ref q6, .ref q7, .ref q8]))] ++ [(q1, .inl (kI k, 12, .inl (fun _ => 0)))] ++ [(q2, .inl (kI k, 12, .inl (fun _ => 0)))] ++ [(q3, .inl (kI k, 72, .inl (fun _ => 0)))] ++ [(q4, .inl (kI k, 12, .inl (fun _ => 0)))] ++ [(q5, .inl (kL k, 12, .inr (.inl (fun _ => 0))))] ++ [(q6, .inl (kI k, 12, .inl (fun _ => 0)))] ++ [(q7, .inl (kI k, 12, .inl (fun _ => 0)))] ++ [(q8, .inl (kI k, 12, .inl (fun _ => 0)))]) := hD
  refine lv_aload_n hx hb dW_init_88 rfl (lv_at hl 0 rfl) ?_
  refine mp_gW cx hE hP iW 0 rfl 3 (by decide) wq_59 rfl (v := .ref q1) rfl dW_init_89 ?_
  refine lv_iconst (v := 0) hx hb dW_init_92 (by decide) ?_
  refine lv_bipush (v := (-9)) hx hb dW_init_93 (by decide) ?_
  refine va_iast hx hb hE.1 hP hD hS 1 0 (f := (fun _ => 0)) (n := 12) rfl rfl (mp_ix_in (by decide)) dW_init_95 (fun H locs hP hD hS => ?_)
  have hP : va_P (kD k) mp_cls ([(h0, .inr (0, [.int 1, .int 0, .int 0, .ref q1, .ref q2, .ref q3, .int 0, .ref q4, .ref q5, .ref q6, .ref q7, .ref q8]))] ++ [(q1, .inl (kI k, 12, .inl (upd (fun _ => 0) 0 (-9))))] ++ [(q2, .inl (kI k, 12, .inl (fun _ => 0)))] ++ [(q3, .inl (kI k, 72, .inl (fun _ => 0)))] ++ [(q4, .inl (kI k, 12, .inl (fun _ => 0)))] ++ [(q5, .inl (kL k, 12, .inr (.inl (fun _ => 0))))] ++ [(q6, .inl (kI k, 12, .inl (fun _ => 0)))] ++ [(q7, .inl (kI k, 12, .inl (fun _ => 0)))] ++ [(q8, .inl (kI k, 12, .inl (fun _ => 0)))]) H := hP
  have hD : va_D A ([(h0, .inr (0, [.int 1, .int 0, .int 0, .ref q1, .ref q2, .ref q3, .int 0, .ref q4, .ref q5, .ref q6, .ref q7, .ref q8]))] ++ [(q1, .inl (kI k, 12, .inl (upd (fun _ => 0) 0 (-9))))] ++ [(q2, .inl (kI k, 12, .inl (fun _ => 0)))] ++ [(q3, .inl (kI k, 72, .inl (fun _ => 0)))] ++ [(q4, .inl (kI k, 12, .inl (fun _ => 0)))] ++ [(q5, .inl (kL k, 12, .inr (.inl (fun _ => 0))))] ++ [(q6, .inl (kI k, 12, .inl (fun _ => 0)))] ++ [(q7, .inl (kI k, 12, .inl (fun _ => 0)))] ++ [(q8, .inl (kI k, 12, .inl (fun _ => 0)))]) := hD
  refine lv_aload_n hx hb dW_init_96 rfl (lv_at hl 0 rfl) ?_
  refine mp_gW cx hE hP iW 0 rfl 4 (by decide) wq_60 rfl (v := .ref q2) rfl dW_init_97 ?_
  refine lv_iconst (v := 0) hx hb dW_init_100 (by decide) ?_
  refine lv_bipush (v := (-9)) hx hb dW_init_101 (by decide) ?_
  refine va_iast hx hb hE.1 hP hD hS 2 0 (f := (fun _ => 0)) (n := 12) rfl rfl (mp_ix_in (by decide)) dW_init_103 (fun H locs hP hD hS => ?_)
  have hP : va_P (kD k) mp_cls ([(h0, .inr (0, [.int 1, .int 0, .int 0, .ref q1, .ref q2, .ref q3, .int 0, .ref q4, .ref q5, .ref q6, .ref q7, .ref q8]))] ++ [(q1, .inl (kI k, 12, .inl (upd (fun _ => 0) 0 (-9))))] ++ [(q2, .inl (kI k, 12, .inl (upd (fun _ => 0) 0 (-9))))] ++ [(q3, .inl (kI k, 72, .inl (fun _ => 0)))] ++ [(q4, .inl (kI k, 12, .inl (fun _ => 0)))] ++ [(q5, .inl (kL k, 12, .inr (.inl (fun _ => 0))))] ++ [(q6, .inl (kI k, 12, .inl (fun _ => 0)))] ++ [(q7, .inl (kI k, 12, .inl (fun _ => 0)))] ++ [(q8, .inl (kI k, 12, .inl (fun _ => 0)))]) H := hP
  have hD : va_D A ([(h0, .inr (0, [.int 1, .int 0, .int 0, .ref q1, .ref q2, .ref q3, .int 0, .ref q4, .ref q5, .ref q6, .ref q7, .ref q8]))] ++ [(q1, .inl (kI k, 12, .inl (upd (fun _ => 0) 0 (-9))))] ++ [(q2, .inl (kI k, 12, .inl (upd (fun _ => 0) 0 (-9))))] ++ [(q3, .inl (kI k, 72, .inl (fun _ => 0)))] ++ [(q4, .inl (kI k, 12, .inl (fun _ => 0)))] ++ [(q5, .inl (kL k, 12, .inr (.inl (fun _ => 0))))] ++ [(q6, .inl (kI k, 12, .inl (fun _ => 0)))] ++ [(q7, .inl (kI k, 12, .inl (fun _ => 0)))] ++ [(q8, .inl (kI k, 12, .inl (fun _ => 0)))]) := hD
  have hP : va_P (kD k) mp_cls (cW k (fun i => [h0, q1, q2, q3, q4, q5, q6, q7, q8].getD i 0) mp_w0) H := hP
  have hD : va_D A (cW k (fun i => [h0, q1, q2, q3, q4, q5, q6, q7, q8].getD i 0) mp_w0) := hD
  exact W.vret hx hb hr (fun t ht hW => ⟨⟨(fun i => [h0, q1, q2, q3, q4, q5, q6, q7, q8].getD i 0), rfl, rfl, by rw [ht]; exact hP, hD⟩, hS.F ht⟩) hS.2.2 dW_init_104
-- MovingPlaces.<init>
abbrev rmM_init : Room := { frames := 2, cells := 47, slots := 846, locals := 100 }
set_option maxHeartbeats 4000000 in
set_option maxRecDepth 100000 in
theorem cM_init (l : Launch) (k : KK) (h0 sz : Nat) : Met l yM_init (Cond.code yM_init bM_init 1 none :: wT) rmM_init (va_Pc [.ref h0] (mp_PN k sz ([(h0, .inr (1, [.null, .null, .int 0, .null, .null]))]))) (mp_QN k (va_A ([(h0, .inr (1, [.null, .null, .int 0, .null, .null]))]) sz) h0 (fun ad => cM k ad mp_S0)) 47 846 (va_A ([(h0, .inr (1, [.null, .null, .int 0, .null, .null]))]) sz) := by
  refine Met.ofW (cc := bM_init) (maxL := 1) (ret := none) (by decide) rfl ?_
  intro p e s m args below meth c s₁ B hml hv
  obtain ⟨rfl, hsz, hz, hO, hP, hD0, hE⟩ := hv
  have cx := mp_C.of B hml
  obtain ⟨hx, hb, hr, -, hown, hts, hlocks⟩ := id cx
  have hin : meth.name = "<init>" := (name_of_methodNamed B.named B.method).1
  subst hsz
  have hD := hD0.self (sz := s.heap.size)
  have hAN := mp_NA hD0 hz
  generalize hAe : va_A ([(h0, .inr (1, [.null, .null, .int 0, .null, .null]))]) s.heap.size = A at hD hAN ⊢
  have hA : ∀ q : Nat, s.heap.size ≤ q → A q := fun q h => by rw [← hAe]; exact Or.inr h
  have hS : va_S A s.heap s.heap [] := va_S.rf
  have hl := lv_entry ([.ref h0]) (n := 1) (Nat.le_of_ble_eq_true rfl)
  rw [lg_entry_eq]
  generalize (lg_sl ([.ref h0]) ++ List.replicate (1 - (lg_sl ([.ref h0])).length) Slot.unset).toArray = ls at hl ⊢
  have hl : lv_has ls 1 [(0, .ref h0)] := hl
  have hH0 : True := trivial
  refine lv_aload_n hx hb dM_init_0 rfl (lv_at hl 0 rfl) ?_
  refine W.objInit hx hb hown (hts _ wq_47) (hts _ wq_48) (hts _ wq_49) rfl (by rw [hml]; exact hl.1) rfl dM_init_1 (Nat.le_of_ble_eq_true rfl) (Nat.le_of_ble_eq_true rfl) ?_
  refine W.eq (g2 := F0 m 4 ls []) rfl ?_
  refine lv_aload_n hx hb dM_init_4 rfl (lv_at hl 0 rfl) ?_
  refine va_new (ci := 0) (fs := [.int 0, .int 0, .int 0, .null, .null, .null, .int 0, .null, .null, .null, .null, .null]) (C := rW) (T := tW) (N := 12) hx hb hts iW gW gW_ok hown (hts _ wq_50) (hts _ wq_51) (hts _ wq_38) hE.1 hP hD hS hA rfl (fun j hj => by rcases (show j = 0 ∨ j = 1 ∨ j = 2 ∨ j = 3 ∨ j = 4 ∨ j = 5 ∨ j = 6 ∨ j = 7 ∨ j = 8 ∨ j = 9 ∨ j = 10 ∨ j = 11 by omega) with rfl | rfl | rfl | rfl | rfl | rfl | rfl | rfl | rfl | rfl | rfl | rfl <;> rfl) (Nat.le_of_ble_eq_true rfl) (Nat.le_of_ble_eq_true rfl) dM_init_5 (fun q1 H hP hD hS => ?_)
  have hP : va_P (kD k) mp_cls ([(h0, .inr (1, [.null, .null, .int 0, .null, .null]))] ++ [(q1, .inr (0, [.int 0, .int 0, .int 0, .null, .null, .null, .int 0, .null, .null, .null, .null, .null]))]) H := hP
  have hD : va_D A ([(h0, .inr (1, [.null, .null, .int 0, .null, .null]))] ++ [(q1, .inr (0, [.int 0, .int 0, .int 0, .null, .null, .null, .int 0, .null, .null, .null, .null, .null]))]) := hD
  refine W.widen (k := 1) (n := 12) (Nat.le_of_ble_eq_true rfl) (Nat.le_of_ble_eq_true rfl) ?_
  refine lv_dup hx hb dM_init_8 rfl ?_
  have hPc := hP.sub (ws' := [(q1, .inr (0, [.int 0, .int 0, .int 0, .null, .null, .null, .int 0, .null, .null, .null, .null, .null]))]) [1] rfl
  have hDc := hD.sub (ws' := [(q1, .inr (0, [.int 0, .int 0, .int 0, .null, .null, .null, .int 0, .null, .null, .null, .null, .null]))]) [1] (by decide) rfl
  have hFc := va_free (wc := [(q1, .inr (0, [.int 0, .int 0, .int 0, .null, .null, .null, .int 0, .null, .null, .null, .null, .null]))]) hD hS hA [1] rfl
  refine va_callv (va_runI (As := []) (rest := [.ref q1, .ref h0]) ⟨hx, hb, hml, hown, hts⟩ (cW_init l k q1 H.size) (cwI 0 hts (wT_gd wq_54) rfl rfl rfl (hts _ wq_38) (hts _ wq_52) (hts _ wq_53) rfl ⟨by decide, by decide, by decide +kernel⟩ ⟨Nat.le_of_ble_eq_true rfl, Nat.le_of_ble_eq_true rfl⟩) ⟨mp_blindN, fun U hU hW => ⟨rfl, by rw [hU], Nat.le_trans hz hS.1, hO.moved hW.alike, by rw [hU]; exact hPc, mp_Dw hDc hAN, hE.at (mp_S hS hAN) hU hW⟩⟩ rfl rfl hl.1 rfl (lv_room (Nat.le_of_ble_eq_true rfl)) dM_init_9 ⟨Nat.le_of_ble_eq_true rfl, Nat.le_of_ble_eq_true rfl⟩) hS (fun q _ h => hFc q h) hFc (fun ad2 t H1 locs ht hvm hw hB hz1 hk1 hS => ?_)
  obtain ⟨hP1, hD1⟩ := hB
  rw [ht] at hP1
  try dsimp only at hw
  subst hw
  obtain ⟨hP, hD⟩ := va_join (wr := [(h0, .inr (1, [.null, .null, .int 0, .null, .null]))]) (w1 := cW k ad2 mp_w0) hP hD [1] [0] rfl rfl (by decide) (by decide) hk1 hFc hP1 hD1
  generalize H1 = H at hP hS ⊢
  have hP : va_P (kD k) mp_cls ([(h0, .inr (1, [.null, .null, .int 0, .null, .null]))] ++ cW k ad2 mp_w0) H := hP
  have hD : va_D A ([(h0, .inr (1, [.null, .null, .int 0, .null, .null]))] ++ cW k ad2 mp_w0) := hD
  refine W.widen (k := 9) (n := 168) (Nat.le_of_ble_eq_true rfl) (Nat.le_of_ble_eq_true rfl) ?_
  refine va_putF (D := kD k) (ci := 1) (v := .ref (ad2 0)) (ty := .object "MovingPlaces$World") (C := rM) (T := tM) (N := 5) hx hb hts iM gM gM_ok nM hown hE.1 hP hD hS 0 rfl rfl 0 (by decide) (hts _ wq_96) (fun _ h9 => h9) rfl hin rfl (by decide +kernel) rfl rfl (Nat.le_of_ble_eq_true rfl) dM_init_12 (fun H locs hP hD hS => ?_)
  have hP : va_P (kD k) mp_cls ([(h0, .inr (1, [.ref (ad2 0), .null, .int 0, .null, .null]))] ++ cW k ad2 mp_w0) H := hP
  have hD : va_D A ([(h0, .inr (1, [.ref (ad2 0), .null, .int 0, .null, .null]))] ++ cW k ad2 mp_w0) := hD
  refine lv_aload_n hx hb dM_init_15 rfl (lv_at hl 0 rfl) ?_
  refine va_new (ci := 0) (fs := [.int 0, .int 0, .int 0, .null, .null, .null, .int 0, .null, .null, .null, .null, .null]) (C := rW) (T := tW) (N := 12) hx hb hts iW gW gW_ok hown (hts _ wq_50) (hts _ wq_51) (hts _ wq_38) hE.1 hP hD hS hA rfl (fun j hj => by rcases (show j = 0 ∨ j = 1 ∨ j = 2 ∨ j = 3 ∨ j = 4 ∨ j = 5 ∨ j = 6 ∨ j = 7 ∨ j = 8 ∨ j = 9 ∨ j = 10 ∨ j = 11 by omega) with rfl | rfl | rfl | rfl | rfl | rfl | rfl | rfl | rfl | rfl | rfl | rfl <;> rfl) (Nat.le_of_ble_eq_true rfl) (Nat.le_of_ble_eq_true rfl) dM_init_16 (fun q3 H hP hD hS => ?_)
  have hP : va_P (kD k) mp_cls ([(h0, .inr (1, [.ref (ad2 0), .null, .int 0, .null, .null]))] ++ cW k ad2 mp_w0 ++ [(q3, .inr (0, [.int 0, .int 0, .int 0, .null, .null, .null, .int 0, .null, .null, .null, .null, .null]))]) H := hP
  have hD : va_D A ([(h0, .inr (1, [.ref (ad2 0), .null, .int 0, .null, .null]))] ++ cW k ad2 mp_w0 ++ [(q3, .inr (0, [.int 0, .int 0, .int 0, .null, .null, .null, .int 0, .null, .null, .null, .null, .null]))]) := hD
  refine W.widen (k := 10) (n := 180) (Nat.le_of_ble_eq_true rfl) (Nat.le_of_ble_eq_true rfl) ?_
  refine lv_dup hx hb dM_init_19 rfl ?_
  have hPc := hP.sub (ws' := [(q3, .inr (0, [.int 0, .int 0, .int 0, .null, .null, .null, .int 0, .null, .null, .null, .null, .null]))]) [10] rfl
  have hDc := hD.sub (ws' := [(q3, .inr (0, [.int 0, .int 0, .int 0, .null, .null, .null, .int 0, .null, .null, .null, .null, .null]))]) [10] (by decide) rfl
  have hFc := va_free (wc := [(q3, .inr (0, [.int 0, .int 0, .int 0, .null, .null, .null, .int 0, .null, .null, .null, .null, .null]))]) hD hS hA [10] rfl
  refine va_callv (va_runI (As := []) (rest := [.ref q3, .ref h0]) ⟨hx, hb, hml, hown, hts⟩ (cW_init l k q3 H.size) (cwI 0 hts (wT_gd wq_54) rfl rfl rfl (hts _ wq_38) (hts _ wq_52) (hts _ wq_53) rfl ⟨by decide, by decide, by decide +kernel⟩ ⟨Nat.le_of_ble_eq_true rfl, Nat.le_of_ble_eq_true rfl⟩) ⟨mp_blindN, fun U hU hW => ⟨rfl, by rw [hU], Nat.le_trans hz hS.1, hO.moved hW.alike, by rw [hU]; exact hPc, mp_Dw hDc hAN, hE.at (mp_S hS hAN) hU hW⟩⟩ rfl rfl hl.1 rfl (lv_room (Nat.le_of_ble_eq_true rfl)) dM_init_20 ⟨Nat.le_of_ble_eq_true rfl, Nat.le_of_ble_eq_true rfl⟩) hS (fun q _ h => hFc q h) hFc (fun ad4 t H1 locs ht hvm hw hB hz1 hk1 hS => ?_)
  obtain ⟨hP1, hD1⟩ := hB
  rw [ht] at hP1
  try dsimp only at hw
  subst hw
  obtain ⟨hP, hD⟩ := va_join (wr := [(h0, .inr (1, [.ref (ad2 0), .null, .int 0, .null, .null]))] ++ cW k ad2 mp_w0) (w1 := cW k ad4 mp_w0) hP hD [10] [0, 1, 2, 3, 4, 5, 6, 7, 8, 9] rfl rfl (by decide) (by decide) hk1 hFc hP1 hD1
  generalize H1 = H at hP hS ⊢
  have hP : va_P (kD k) mp_cls ([(h0, .inr (1, [.ref (ad2 0), .null, .int 0, .null, .null]))] ++ cW k ad2 mp_w0 ++ cW k ad4 mp_w0) H := hP
  have hD : va_D A ([(h0, .inr (1, [.ref (ad2 0), .null, .int 0, .null, .null]))] ++ cW k ad2 mp_w0 ++ cW k ad4 mp_w0) := hD
  refine W.widen (k := 18) (n := 336) (Nat.le_of_ble_eq_true rfl) (Nat.le_of_ble_eq_true rfl) ?_
  refine va_putF (D := kD k) (ci := 1) (v := .ref (ad4 0)) (ty := .object "MovingPlaces$World") (C := rM) (T := tM) (N := 5) hx hb hts iM gM gM_ok nM hown hE.1 hP hD hS 0 rfl rfl 1 (by decide) (hts _ wq_97) (fun _ h9 => h9) rfl hin rfl (by decide +kernel) rfl rfl (Nat.le_of_ble_eq_true rfl) dM_init_23 (fun H locs hP hD hS => ?_)
  have hP : va_P (kD k) mp_cls ([(h0, .inr (1, [.ref (ad2 0), .ref (ad4 0), .int 0, .null, .null]))] ++ cW k ad2 mp_w0 ++ cW k ad4 mp_w0) H := hP
  have hD : va_D A ([(h0, .inr (1, [.ref (ad2 0), .ref (ad4 0), .int 0, .null, .null]))] ++ cW k ad2 mp_w0 ++ cW k ad4 mp_w0) := hD
  refine lv_aload_n hx hb dM_init_26 rfl (lv_at hl 0 rfl) ?_
  refine lv_iconst (v := 0) hx hb dM_init_27 (by decide) ?_
  refine va_put (D := kD k) (ci := 1) (v := .int 0) (ty := .boolean) (C := rM) (T := tM) (N := 5) hx hb hts iM gM gM_ok nM hown hE.1 hP hD hS 0 rfl rfl 2 (by decide) (hts _ wq_98) (fun _ h9 => h9) rfl (by decide +kernel) rfl rfl (Nat.le_of_ble_eq_true rfl) dM_init_28 (fun H locs hP hD hS => ?_)
  have hP : va_P (kD k) mp_cls ([(h0, .inr (1, [.ref (ad2 0), .ref (ad4 0), .int 0, .null, .null]))] ++ cW k ad2 mp_w0 ++ cW k ad4 mp_w0) H := hP
  have hD : va_D A ([(h0, .inr (1, [.ref (ad2 0), .ref (ad4 0), .int 0, .null, .null]))] ++ cW k ad2 mp_w0 ++ cW k ad4 mp_w0) := hD
  refine lv_aload_n hx hb dM_init_31 rfl (lv_at hl 0 rfl) ?_
  refine lv_iconst (v := 3) hx hb dM_init_32 (by decide) ?_
  refine va_newq (C := rW) (N' := 3) hx hb hown (hts _ wq_50) hO hE.1 hP hD hS hA (by decide) (by decide) (Nat.le_of_ble_eq_true rfl) (Nat.le_of_ble_eq_true rfl) (Nat.le_of_ble_eq_true rfl) dM_init_33 (fun q5 cA H hK2 hP hD hS => ?_)
  obtain rfl := mp_cO hE.1 hK2
  have hP : va_P (kD k) mp_cls ([(h0, .inr (1, [.ref (ad2 0), .ref (ad4 0), .int 0, .null, .null]))] ++ cW k ad2 mp_w0 ++ cW k ad4 mp_w0 ++ [(q5, .inl (kO k, 3, .inr (.inr (.inr (.inr (fun _ => none))))))]) H := hP
  have hD : va_D A ([(h0, .inr (1, [.ref (ad2 0), .ref (ad4 0), .int 0, .null, .null]))] ++ cW k ad2 mp_w0 ++ cW k ad4 mp_w0 ++ [(q5, .inl (kO k, 3, .inr (.inr (.inr (.inr (fun _ => none))))))]) := hD
  refine W.widen (k := 19) (n := 339) (Nat.le_of_ble_eq_true rfl) (Nat.le_of_ble_eq_true rfl) ?_
  refine lv_dup hx hb dM_init_36 rfl ?_
  refine lv_iconst (v := 0) hx hb dM_init_37 (by decide) ?_
  refine va_new (ci := 0) (fs := [.int 0, .int 0, .int 0, .null, .null, .null, .int 0, .null, .null, .null, .null, .null]) (C := rW) (T := tW) (N := 12) hx hb hts iW gW gW_ok hown (hts _ wq_50) (hts _ wq_51) (hts _ wq_38) hE.1 hP hD hS hA rfl (fun j hj => by rcases (show j = 0 ∨ j = 1 ∨ j = 2 ∨ j = 3 ∨ j = 4 ∨ j = 5 ∨ j = 6 ∨ j = 7 ∨ j = 8 ∨ j = 9 ∨ j = 10 ∨ j = 11 by omega) with rfl | rfl | rfl | rfl | rfl | rfl | rfl | rfl | rfl | rfl | rfl | rfl <;> rfl) (Nat.le_of_ble_eq_true rfl) (Nat.le_of_ble_eq_true rfl) dM_init_38 (fun q6 H hP hD hS => ?_)
  have hP : va_P (kD k) mp_cls ([(h0, .inr (1, [.ref (ad2 0), .ref (ad4 0), .int 0, .null, .null]))] ++ cW k ad2 mp_w0 ++ cW k ad4 mp_w0 ++ [(q5, .inl (kO k, 3, .inr (.inr (.inr (.inr (fun _ => none))))))] ++ [(q6, .inr (0, [.int 0, .int 0, .int 0, .null, .null, .null, .int 0, .null, .null, .null, .null, .null]))]) H := hP
  have hD : va_D A ([(h0, .inr (1, [.ref (ad2 0), .ref (ad4 0), .int 0, .null, .null]))] ++ cW k ad2 mp_w0 ++ cW k ad4 mp_w0 ++ [(q5, .inl (kO k, 3, .inr (.inr (.inr (.inr (fun _ => none))))))] ++ [(q6, .inr (0, [.int 0, .int 0, .int 0, .null, .null, .null, .int 0, .null, .null, .null, .null, .null]))]) := hD
  refine W.widen (k := 20) (n := 351) (Nat.le_of_ble_eq_true rfl) (Nat.le_of_ble_eq_true rfl) ?_
  refine lv_dup hx hb dM_init_41 rfl ?_
  have hPc := hP.sub (ws' := [(q6, .inr (0, [.int 0, .int 0, .int 0, .null, .null, .null, .int 0, .null, .null, .null, .null, .null]))]) [20] rfl
  have hDc := hD.sub (ws' := [(q6, .inr (0, [.int 0, .int 0, .int 0, .null, .null, .null, .int 0, .null, .null, .null, .null, .null]))]) [20] (by decide) rfl
  have hFc := va_free (wc := [(q6, .inr (0, [.int 0, .int 0, .int 0, .null, .null, .null, .int 0, .null, .null, .null, .null, .null]))]) hD hS hA [20] rfl
  refine va_callv (va_runI (As := []) (rest := [.ref q6, .int 0, .ref q5, .ref q5, .ref h0]) ⟨hx, hb, hml, hown, hts⟩ (cW_init l k q6 H.size) (cwI 0 hts (wT_gd wq_54) rfl rfl rfl (hts _ wq_38) (hts _ wq_52) (hts _ wq_53) rfl ⟨by decide, by decide, by decide +kernel⟩ ⟨Nat.le_of_ble_eq_true rfl, Nat.le_of_ble_eq_true rfl⟩) ⟨mp_blindN, fun U hU hW => ⟨rfl, by rw [hU], Nat.le_trans hz hS.1, hO.moved hW.alike, by rw [hU]; exact hPc, mp_Dw hDc hAN, hE.at (mp_S hS hAN) hU hW⟩⟩ rfl rfl hl.1 rfl (lv_room (Nat.le_of_ble_eq_true rfl)) dM_init_42 ⟨Nat.le_of_ble_eq_true rfl, Nat.le_of_ble_eq_true rfl⟩) hS (fun q _ h => hFc q h) hFc (fun ad7 t H1 locs ht hvm hw hB hz1 hk1 hS => ?_)
  obtain ⟨hP1, hD1⟩ := hB
  rw [ht] at hP1
  try dsimp only at hw
  subst hw
  obtain ⟨hP, hD⟩ := va_join (wr := [(h0, .inr (1, [.ref (ad2 0), .ref (ad4 0), .int 0, .null, .null]))] ++ cW k ad2 mp_w0 ++ cW k ad4 mp_w0 ++ [(q5, .inl (kO k, 3, .inr (.inr (.inr (.inr (fun _ => none))))))]) (w1 := cW k ad7 mp_w0) hP hD [20] [0, 1, 2, 3, 4, 5, 6, 7, 8, 9, 10, 11, 12, 13, 14, 15, 16, 17, 18, 19] rfl rfl (by decide) (by decide) hk1 hFc hP1 hD1
  generalize H1 = H at hP hS ⊢
  have hP : va_P (kD k) mp_cls ([(h0, .inr (1, [.ref (ad2 0), .ref (ad4 0), .int 0, .null, .null]))] ++ cW k ad2 mp_w0 ++ cW k ad4 mp_w0 ++ [(q5, .inl (kO k, 3, .inr (.inr (.inr (.inr (fun _ => none))))))] ++ cW k ad7 mp_w0) H := hP
  have hD : va_D A ([(h0, .inr (1, [.ref (ad2 0), .ref (ad4 0), .int 0, .null, .null]))] ++ cW k ad2 mp_w0 ++ cW k ad4 mp_w0 ++ [(q5, .inl (kO k, 3, .inr (.inr (.inr (.inr (fun _ => none))))))] ++ cW k ad7 mp_w0) := hD
  refine W.widen (k := 28) (n := 507) (Nat.le_of_ble_eq_true rfl) (Nat.le_of_ble_eq_true rfl) ?_
  refine va_astq hx hb hE.1 hP hD hS 19 2 20 0 (f := (fun _ => none)) (n := 3) rfl rfl rfl rfl (mp_ix_in (by decide)) dM_init_45 (fun H locs hP hD hS => ?_)
  have hP : va_P (kD k) mp_cls ([(h0, .inr (1, [.ref (ad2 0), .ref (ad4 0), .int 0, .null, .null]))] ++ cW k ad2 mp_w0 ++ cW k ad4 mp_w0 ++ [(q5, .inl (kO k, 3, .inr (.inr (.inr (.inr (va_up (fun _ => none) 0 (some (ad7 0))))))))] ++ cW k ad7 mp_w0) H := hP
  have hD : va_D A ([(h0, .inr (1, [.ref (ad2 0), .ref (ad4 0), .int 0, .null, .null]))] ++ cW k ad2 mp_w0 ++ cW k ad4 mp_w0 ++ [(q5, .inl (kO k, 3, .inr (.inr (.inr (.inr (va_up (fun _ => none) 0 (some (ad7 0))))))))] ++ cW k ad7 mp_w0) := hD
  refine lv_dup hx hb dM_init_46 rfl ?_
  refine lv_iconst (v := 1) hx hb dM_init_47 (by decide) ?_
  refine va_new (ci := 0) (fs := [.int 0, .int 0, .int 0, .null, .null, .null, .int 0, .null, .null, .null, .null, .null]) (C := rW) (T := tW) (N := 12) hx hb hts iW gW gW_ok hown (hts _ wq_50) (hts _ wq_51) (hts _ wq_38) hE.1 hP hD hS hA rfl (fun j hj => by rcases (show j = 0 ∨ j = 1 ∨ j = 2 ∨ j = 3 ∨ j = 4 ∨ j = 5 ∨ j = 6 ∨ j = 7 ∨ j = 8 ∨ j = 9 ∨ j = 10 ∨ j = 11 by omega) with rfl | rfl | rfl | rfl | rfl | rfl | rfl | rfl | rfl | rfl | rfl | rfl <;> rfl) (Nat.le_of_ble_eq_true rfl) (Nat.le_of_ble_eq_true rfl) dM_init_48 (fun q8 H hP hD hS => ?_)
  have hP : va_P (kD k) mp_cls ([(h0, .inr (1, [.ref (ad2 0), .ref (ad4 0), .int 0, .null, .null]))] ++ cW k ad2 mp_w0 ++ cW k ad4 mp_w0 ++ [(q5, .inl (kO k, 3, .inr (.inr (.inr (.inr (va_up (fun _ => none) 0 (some (ad7 0))))))))] ++ cW k ad7 mp_w0 ++ [(q8, .inr (0, [.int 0, .int 0, .int 0, .null, .null, .null, .int 0, .null, .null, .null, .null, .null]))]) H := hP
  have hD : va_D A ([(h0, .inr (1, [.ref (ad2 0), .ref (ad4 0), .int 0, .null, .null]))] ++ cW k ad2 mp_w0 ++ cW k ad4 mp_w0 ++ [(q5, .inl (kO k, 3, .inr (.inr (.inr (.inr (va_up (fun _ => none) 0 (some (ad7 0))))))))] ++ cW k ad7 mp_w0 ++ [(q8, .inr (0, [.int 0, .int 0, .int 0, .null, .null, .null, .int 0, .null, .null, .null, .null, .null]))]) := hD
  refine W.widen (k := 29) (n := 519) (Nat.le_of_ble_eq_true rfl) (Nat.le_of_ble_eq_true rfl) ?_
  refine lv_dup hx hb dM_init_51 rfl ?_
  have hPc := hP.sub (ws' := [(q8, .inr (0, [.int 0, .int 0, .int 0, .null, .null, .null, .int 0, .null, .null, .null, .null, .null]))]) [29] rfl
  have hDc := hD.sub (ws' := [(q8, .inr (0, [.int 0, .int 0, .int 0, .null, .null, .null, .int 0, .null, .null, .null, .null, .null]))]) [29] (by decide) rfl
  have hFc := va_free (wc := [(q8, .inr (0, [.int 0, .int 0, .int 0, .null, .null, .null, .int 0, .null, .null, .null, .null, .null]))]) hD hS hA [29] rfl
  refine va_callv (va_runI (As := []) (rest := [.ref q8, .int 1, .ref q5, .ref q5, .ref h0]) ⟨hx, hb, hml, hown, hts⟩ (cW_init l k q8 H.size) (cwI 0 hts (wT_gd wq_54) rfl rfl rfl (hts _ wq_38) (hts _ wq_52) (hts _ wq_53) rfl ⟨by decide, by decide, by decide +kernel⟩ ⟨Nat.le_of_ble_eq_true rfl, Nat.le_of_ble_eq_true rfl⟩) ⟨mp_blindN, fun U hU hW => ⟨rfl, by rw [hU], Nat.le_trans hz hS.1, hO.moved hW.alike, by rw [hU]; exact hPc, mp_Dw hDc hAN, hE.at (mp_S hS hAN) hU hW⟩⟩ rfl rfl hl.1 rfl (lv_room (Nat.le_of_ble_eq_true rfl)) dM_init_52 ⟨Nat.le_of_ble_eq_true rfl, Nat.le_of_ble_eq_true rfl⟩) hS (fun q _ h => hFc q h) hFc (fun ad9 t H1 locs ht hvm hw hB hz1 hk1 hS => ?_)
  obtain ⟨hP1, hD1⟩ := hB
  rw [ht] at hP1
  try dsimp only at hw
  subst hw
  obtain ⟨hP, hD⟩ := va_join (wr := [(h0, .inr (1, [.ref (ad2 0), .ref (ad4 0), .int 0, .null, .null]))] ++ cW k ad2 mp_w0 ++ cW k ad4 mp_w0 ++ [(q5, .inl (kO k, 3, .inr (.inr (.inr (.inr (va_up (fun _ => none) 0 (some (ad7 0))))))))] ++ cW k ad7 mp_w0) (w1 := cW k ad9 mp_w0) hP hD [29] [0, 1, 2, 3, 4, 5, 6, 7, 8, 9, 10, 11, 12, 13, 14, 15, 16, 17, 18, 19, 20, 21, 22, 23, 24, 25, 26, 27, 28] rfl rfl (by decide) (by decide) hk1 hFc hP1 hD1
  generalize H1 = H at hP hS ⊢
  have hP : va_P (kD k) mp_cls ([(h0, .inr (1, [.ref (ad2 0), .ref (ad4 0), .int 0, .null, .null]))] ++ cW k ad2 mp_w0 ++ cW k ad4 mp_w0 ++ [(q5, .inl (kO k, 3, .inr (.inr (.inr (.inr (va_up (fun _ => none) 0 (some (ad7 0))))))))] ++ cW k ad7 mp_w0 ++ cW k ad9 mp_w0) H := hP
  have hD : va_D A ([(h0, .inr (1, [.ref (ad2 0), .ref (ad4 0), .int 0, .null, .null]))] ++ cW k ad2 mp_w0 ++ cW k ad4 mp_w0 ++ [(q5, .inl (kO k, 3, .inr (.inr (.inr (.inr (va_up (fun _ => none) 0 (some (ad7 0))))))))] ++ cW k ad7 mp_w0 ++ cW k ad9 mp_w0) := hD
  refine W.widen (k := 37) (n := 675) (Nat.le_of_ble_eq_true rfl) (Nat.le_of_ble_eq_true rfl) ?_
  refine va_astq hx hb hE.1 hP hD hS 19 2 29 0 (f := (va_up (fun _ => none) 0 (some (ad7 0)))) (n := 3) rfl rfl rfl rfl (mp_ix_in (by decide)) dM_init_55 (fun H locs hP hD hS => ?_)
  have hP : va_P (kD k) mp_cls ([(h0, .inr (1, [.ref (ad2 0), .ref (ad4 0), .int 0, .null, .null]))] ++ cW k ad2 mp_w0 ++ cW k ad4 mp_w0 ++ [(q5, .inl (kO k, 3, .inr (.inr (.inr (.inr (va_up (va_up (fun _ => none) 0 (some (ad7 0))) 1 (some (ad9 0))))))))] ++ cW k ad7 mp_w0 ++ cW k ad9 mp_w0) H := hP
  have hD : va_D A ([(h0, .inr (1, [.ref (ad2 0), .ref (ad4 0), .int 0, .null, .null]))] ++ cW k ad2 mp_w0 ++ cW k ad4 mp_w0 ++ [(q5, .inl (kO k, 3, .inr (.inr (.inr (.inr (va_up (va_up (fun _ => none) 0 (some (ad7 0))) 1 (some (ad9 0))))))))] ++ cW k ad7 mp_w0 ++ cW k ad9 mp_w0) := hD
  refine lv_dup hx hb dM_init_56 rfl ?_
  refine lv_iconst (v := 2) hx hb dM_init_57 (by decide) ?_
  refine va_new (ci := 0) (fs := [.int 0, .int 0, .int 0, .null, .null, .null, .int 0, .null, .null, .null, .null, .null]) (C := rW) (T := tW) (N := 12) hx hb hts iW gW gW_ok hown (hts _ wq_50) (hts _ wq_51) (hts _ wq_38) hE.1 hP hD hS hA rfl (fun j hj => by rcases (show j = 0 ∨ j = 1 ∨ j = 2 ∨ j = 3 ∨ j = 4 ∨ j = 5 ∨ j = 6 ∨ j = 7 ∨ j = 8 ∨ j = 9 ∨ j = 10 ∨ j = 11 by omega) with rfl | rfl | rfl | rfl | rfl | rfl | rfl | rfl | rfl | rfl | rfl | rfl <;> rfl) (Nat.le_of_ble_eq_true rfl) (Nat.le_of_ble_eq_true rfl) dM_init_58 (fun q10 H hP hD hS => ?_)
  have hP : va_P (kD k) mp_cls ([(h0, .inr (1, [.ref (ad2 0), .ref (ad4 0), .int 0, .null, .null]))] ++ cW k ad2 mp_w0 ++ cW k ad4 mp_w0 ++ [(q5, .inl (kO k, 3, .inr (.inr (.inr (.inr (va_up (va_up (fun _ => none) 0 (some (ad7 0))) 1 (some (ad9 0))))))))] ++ cW k ad7 mp_w0 ++ cW k ad9 mp_w0 ++ [(q10, .inr (0, [.int 0, .int 0, .int 0, .null, .null, .null, .int 0, .null, .null, .null, .null, .null]))]) H := hP
  have hD : va_D A ([(h0, .inr (1, [.ref (ad2 0), .ref (ad4 0), .int 0, .null, .null]))] ++ cW k ad2 mp_w0 ++ cW k ad4 mp_w0 ++ [(q5, .inl (kO k, 3, .inr (.inr (.inr (.inr (va_up (va_up (fun _ => none) 0 (some (ad7 0))) 1 (some (ad9 0))))))))] ++ cW k ad7 mp_w0 ++ cW k ad9 mp_w0 ++ [(q10, .inr (0, [.int 0, .int 0, .int 0, .null, .null, .null, .int 0, .null, .null, .null, .null, .null]))]) := hD
  refine W.widen (k := 38) (n := 687) (Nat.le_of_ble_eq_true rfl) (Nat.le_of_ble_eq_true rfl) ?_
  refine lv_dup hx hb dM_init_61 rfl ?_
  have hPc := hP.sub (ws' := [(q10, .inr (0, [.int 0, .int 0, .int 0, .null, .null, .null, .int 0, .null, .null, .null, .null, .null]))]) [38] rfl
  have hDc := hD.sub (ws' := [(q10, .inr (0, [.int 0, .int 0, .int 0, .null, .null, .null, .int 0, .null, .null, .null, .null, .null]))]) [38] (by decide) rfl
  have hFc := va_free (wc := [(q10, .inr (0, [.int 0, .int 0, .int 0, .null, .null, .null, .int 0, .null, .null, .null, .null, .null]))]) hD hS hA [38] rfl
  refine va_callv (va_runI (As := []) (rest := [.ref q10, .int 2, .ref q5, .ref q5, .ref h0]) ⟨hx, hb, hml, hown, hts⟩ (cW_init l k q10 H.size) (cwI 0 hts (wT_gd wq_54) rfl rfl rfl (hts _ wq_38) (hts _ wq_52) (hts _ wq_53) rfl ⟨by decide, by decide, by decide +kernel⟩ ⟨Nat.le_of_ble_eq_true rfl, Nat.le_of_ble_eq_true rfl⟩) ⟨mp_blindN, fun U hU hW => ⟨rfl, by rw [hU], Nat.le_trans hz hS.1, hO.moved hW.alike, by rw [hU]; exact hPc, mp_Dw hDc hAN, hE.at (mp_S hS hAN) hU hW⟩⟩ rfl rfl hl.1 rfl (lv_room (Nat.le_of_ble_eq_true rfl)) dM_init_62 ⟨Nat.le_of_ble_eq_true rfl, Nat.le_of_ble_eq_true rfl⟩) hS (fun q _ h => hFc q h) hFc (fun ad11 t H1 locs ht hvm hw hB hz1 hk1 hS => ?_)
  obtain ⟨hP1, hD1⟩ := hB
  rw [ht] at hP1
  try dsimp only at hw
  subst hw
  obtain ⟨hP, hD⟩ := va_join (wr := [(h0, .inr (1, [.ref (ad2 0), .ref (ad4 0), .int 0, .null, .null]))] ++ cW k ad2 mp_w0 ++ cW k ad4 mp_w0 ++ [(q5, .inl (kO k, 3, .inr (.inr (.inr (.inr (va_up (va_up (fun _ => none) 0 (some (ad7 0))) 1 (some (ad9 0))))))))] ++ cW k ad7 mp_w0 ++ cW k ad9 mp_w0) (w1 := cW k ad11 mp_w0) hP hD [38] [0, 1, 2, 3, 4, 5, 6, 7, 8, 9, 10, 11, 12, 13, 14, 15, 16, 17, 18, 19, 20, 21, 22, 23, 24, 25, 26, 27, 28, 29, 30, 31, 32, 33, 34, 35, 36, 37] rfl rfl (by decide) (by decide) hk1 hFc hP1 hD1
  generalize H1 = H at hP hS ⊢
  have hP : va_P (kD k) mp_cls ([(h0, .inr (1, [.ref (ad2 0), .ref (ad4 0), .int 0, .null, .null]))] ++ cW k ad2 mp_w0 ++ cW k ad4 mp_w0 ++ [(q5, .inl (kO k, 3, .inr (.inr (.inr (.inr (va_up (va_up (fun _ => none) 0 (some (ad7 0))) 1 (some (ad9 0))))))))] ++ cW k ad7 mp_w0 ++ cW k ad9 mp_w0 ++ cW k ad11 mp_w0) H := hP
  have hD : va_D A ([(h0, .inr (1, [.ref (ad2 0), .ref (ad4 0), .int 0, .null, .null]))] ++ cW k ad2 mp_w0 ++ cW k ad4 mp_w0 ++ [(q5, .inl (kO k, 3, .inr (.inr (.inr (.inr (va_up (va_up (fun _ => none) 0 (some (ad7 0))) 1 (some (ad9 0))))))))] ++ cW k ad7 mp_w0 ++ cW k ad9 mp_w0 ++ cW k ad11 mp_w0) := hD
  refine W.widen (k := 46) (n := 843) (Nat.le_of_ble_eq_true rfl) (Nat.le_of_ble_eq_true rfl) ?_
  refine va_astq hx hb hE.1 hP hD hS 19 2 38 0 (f := (va_up (va_up (fun _ => none) 0 (some (ad7 0))) 1 (some (ad9 0)))) (n := 3) rfl rfl rfl rfl (mp_ix_in (by decide)) dM_init_65 (fun H locs hP hD hS => ?_)
  have hP : va_P (kD k) mp_cls ([(h0, .inr (1, [.ref (ad2 0), .ref (ad4 0), .int 0, .null, .null]))] ++ cW k ad2 mp_w0 ++ cW k ad4 mp_w0 ++ [(q5, .inl (kO k, 3, .inr (.inr (.inr (.inr (va_up (va_up (va_up (fun _ => none) 0 (some (ad7 0))) 1 (some (ad9 0))) 2 (some (ad11 0))))))))] ++ cW k ad7 mp_w0 ++ cW k ad9 mp_w0 ++ cW k ad11 mp_w0) H := hP
  have hD : va_D A ([(h0, .inr (1, [.ref (ad2 0), .ref (ad4 0), .int 0, .null, .null]))] ++ cW k ad2 mp_w0 ++ cW k ad4 mp_w0 ++ [(q5, .inl (kO k, 3, .inr (.inr (.inr (.inr (va_up (va_up (va_up (fun _ => none) 0 (some (ad7 0))) 1 (some (ad9 0))) 2 (some (ad11 0))))))))] ++ cW k ad7 mp_w0 ++ cW k ad9 mp_w0 ++ cW k ad11 mp_w0) := hD
  refine va_putF (D := kD k) (ci := 1) (v := .ref q5) (ty := .array (.object "MovingPlaces$World")) (C := rM) (T := tM) (N := 5) hx hb hts iM gM gM_ok nM hown hE.1 hP hD hS 0 rfl rfl 3 (by decide) (hts _ wq_99) (fun _ h9 => h9) rfl hin rfl (by decide +kernel) rfl rfl (Nat.le_of_ble_eq_true rfl) dM_init_66 (fun H locs hP hD hS => ?_)
  have hP : va_P (kD k) mp_cls ([(h0, .inr (1, [.ref (ad2 0), .ref (ad4 0), .int 0, .ref q5, .null]))] ++ cW k ad2 mp_w0 ++ cW k ad4 mp_w0 ++ [(q5, .inl (kO k, 3, .inr (.inr (.inr (.inr (va_up (va_up (va_up (fun _ => none) 0 (some (ad7 0))) 1 (some (ad9 0))) 2 (some (ad11 0))))))))] ++ cW k ad7 mp_w0 ++ cW k ad9 mp_w0 ++ cW k ad11 mp_w0) H := hP
  have hD : va_D A ([(h0, .inr (1, [.ref (ad2 0), .ref (ad4 0), .int 0, .ref q5, .null]))] ++ cW k ad2 mp_w0 ++ cW k ad4 mp_w0 ++ [(q5, .inl (kO k, 3, .inr (.inr (.inr (.inr (va_up (va_up (va_up (fun _ => none) 0 (some (ad7 0))) 1 (some (ad9 0))) 2 (some (ad11 0))))))))] ++ cW k ad7 mp_w0 ++ cW k ad9 mp_w0 ++ cW k ad11 mp_w0) := hD
  refine lv_aload_n hx hb dM_init_69 rfl (lv_at hl 0 rfl) ?_
  refine lv_iconst (v := 3) hx hb dM_init_70 (by decide) ?_
  refine va_newa (atype := .int) (N' := 3) (a0 := (3, .inl (fun _ => 0))) hx hb (hts _ wq_93) rfl hE.1 hP hD hS hA (fun _ => rfl) (by decide) (by decide) (Nat.le_of_ble_eq_true rfl) (Nat.le_of_ble_eq_true rfl) (Nat.le_of_ble_eq_true rfl) dM_init_71 (fun q12 cA H hK2 hP hD hS => ?_)
  obtain rfl := mp_cI hE.1 hK2
  have hP : va_P (kD k) mp_cls ([(h0, .inr (1, [.ref (ad2 0), .ref (ad4 0), .int 0, .ref q5, .null]))] ++ cW k ad2 mp_w0 ++ cW k ad4 mp_w0 ++ [(q5, .inl (kO k, 3, .inr (.inr (.inr (.inr (va_up (va_up (va_up (fun _ => none) 0 (some (ad7 0))) 1 (some (ad9 0))) 2 (some (ad11 0))))))))] ++ cW k ad7 mp_w0 ++ cW k ad9 mp_w0 ++ cW k ad11 mp_w0 ++ [(q12, .inl (kI k, 3, .inl (fun _ => 0)))]) H := hP
  have hD : va_D A ([(h0, .inr (1, [.ref (ad2 0), .ref (ad4 0), .int 0, .ref q5, .null]))] ++ cW k ad2 mp_w0 ++ cW k ad4 mp_w0 ++ [(q5, .inl (kO k, 3, .inr (.inr (.inr (.inr (va_up (va_up (va_up (fun _ => none) 0 (some (ad7 0))) 1 (some (ad9 0))) 2 (some (ad11 0))))))))] ++ cW k ad7 mp_w0 ++ cW k ad9 mp_w0 ++ cW k ad11 mp_w0 ++ [(q12, .inl (kI k, 3, .inl (fun _ => 0)))]) := hD
  refine W.widen (k := 47) (n := 846) (Nat.le_of_ble_eq_true rfl) (Nat.le_of_ble_eq_true rfl) ?_
  refine va_putF (D := kD k) (ci := 1) (v := .ref q12) (ty := .array .int) (C := rM) (T := tM) (N := 5) hx hb hts iM gM gM_ok nM hown hE.1 hP hD hS 0 rfl rfl 4 (by decide) (hts _ wq_100) (fun _ h9 => h9) rfl hin rfl (by decide +kernel) rfl rfl (Nat.le_of_ble_eq_true rfl) dM_init_73 (fun H locs hP hD hS => ?_)
  have hP : va_P (kD k) mp_cls ([(h0, .inr (1, [.ref (ad2 0), .ref (ad4 0), .int 0, .ref q5, .ref q12]))] ++ cW k ad2 mp_w0 ++ cW k ad4 mp_w0 ++ [(q5, .inl (kO k, 3, .inr (.inr (.inr (.inr (va_up (va_up (va_up (fun _ => none) 0 (some (ad7 0))) 1 (some (ad9 0))) 2 (some (ad11 0))))))))] ++ cW k ad7 mp_w0 ++ cW k ad9 mp_w0 ++ cW k ad11 mp_w0 ++ [(q12, .inl (kI k, 3, .inl (fun _ => 0)))]) H := hP
  have hD : va_D A ([(h0, .inr (1, [.ref (ad2 0), .ref (ad4 0), .int 0, .ref q5, .ref q12]))] ++ cW k ad2 mp_w0 ++ cW k ad4 mp_w0 ++ [(q5, .inl (kO k, 3, .inr (.inr (.inr (.inr (va_up (va_up (va_up (fun _ => none) 0 (some (ad7 0))) 1 (some (ad9 0))) 2 (some (ad11 0))))))))] ++ cW k ad7 mp_w0 ++ cW k ad9 mp_w0 ++ cW k ad11 mp_w0 ++ [(q12, .inl (kI k, 3, .inl (fun _ => 0)))]) := hD
  have hP : va_P (kD k) mp_cls (cM k (fun i => [h0, ad2 0, ad2 1, ad2 2, ad2 3, ad2 4, ad2 5, ad2 6, ad2 7, ad2 8, ad4 0, ad4 1, ad4 2, ad4 3, ad4 4, ad4 5, ad4 6, ad4 7, ad4 8, q5, ad7 0, ad7 1, ad7 2, ad7 3, ad7 4, ad7 5, ad7 6, ad7 7, ad7 8, ad9 0, ad9 1, ad9 2, ad9 3, ad9 4, ad9 5, ad9 6, ad9 7, ad9 8, ad11 0, ad11 1, ad11 2, ad11 3, ad11 4, ad11 5, ad11 6, ad11 7, ad11 8, q12].getD i 0) mp_S0) H := hP
  have hD : va_D A (cM k (fun i => [h0, ad2 0, ad2 1, ad2 2, ad2 3, ad2 4, ad2 5, ad2 6, ad2 7, ad2 8, ad4 0, ad4 1, ad4 2, ad4 3, ad4 4, ad4 5, ad4 6, ad4 7, ad4 8, q5, ad7 0, ad7 1, ad7 2, ad7 3, ad7 4, ad7 5, ad7 6, ad7 7, ad7 8, ad9 0, ad9 1, ad9 2, ad9 3, ad9 4, ad9 5, ad9 6, ad9 7, ad9 8, ad11 0, ad11 1, ad11 2, ad11 3, ad11 4, ad11 5, ad11 6, ad11 7, ad11 8, q12].getD i 0) mp_S0) := hD
  exact W.vret hx hb hr (fun t ht hW => ⟨⟨(fun i => [h0, ad2 0, ad2 1, ad2 2, ad2 3, ad2 4, ad2 5, ad2 6, ad2 7, ad2 8, ad4 0, ad4 1, ad4 2, ad4 3, ad4 4, ad4 5, ad4 6, ad4 7, ad4 8, q5, ad7 0, ad7 1, ad7 2, ad7 3, ad7 4, ad7 5, ad7 6, ad7 7, ad7 8, ad9 0, ad9 1, ad9 2, ad9 3, ad9 4, ad9 5, ad9 6, ad9 7, ad9 8, ad11 0, ad11 1, ad11 2, ad11 3, ad11 4, ad11 5, ad11 6, ad11 7, ad11 8, q12].getD i 0), rfl, rfl, by rw [ht]; exact hP, hD⟩, hS.F ht⟩) hS.2.2 dM_init_76
-- MovingPlacesModel.<init>
abbrev rmR_init : Room := { frames := 1, cells := 4, slots := 1158, locals := 60 }
set_option maxHeartbeats 4000000 in
set_option maxRecDepth 100000 in
theorem cR_init (l : Launch) (k : KK) (h0 sz : Nat) : Met l yR_init (Cond.code yR_init bR_init 1 none :: wT) rmR_init (va_Pc [.ref h0] (mp_PN k sz ([(h0, .inr (2, [.null, .null, .null, .int 0, .null]))]))) (mp_QN k (va_A ([(h0, .inr (2, [.null, .null, .null, .int 0, .null]))]) sz) h0 (fun ad => cR k ad mp_g0)) 4 1158 (va_A ([(h0, .inr (2, [.null, .null, .null, .int 0, .null]))]) sz) := by
  refine Met.ofW (cc := bR_init) (maxL := 1) (ret := none) (by decide) rfl ?_
  intro p e s m args below meth c s₁ B hml hv
  obtain ⟨rfl, hsz, hz, hO, hP, hD0, hE⟩ := hv
  have cx := mp_C.of B hml
  obtain ⟨hx, hb, hr, -, hown, hts, hlocks⟩ := id cx
  have hin : meth.name = "<init>" := (name_of_methodNamed B.named B.method).1
  subst hsz
  have hD := hD0.self (sz := s.heap.size)
  have hAN := mp_NA hD0 hz
  generalize hAe : va_A ([(h0, .inr (2, [.null, .null, .null, .int 0, .null]))]) s.heap.size = A at hD hAN ⊢
  have hA : ∀ q : Nat, s.heap.size ≤ q → A q := fun q h => by rw [← hAe]; exact Or.inr h
  have hS : va_S A s.heap s.heap [] := va_S.rf
  have hl := lv_entry ([.ref h0]) (n := 1) (Nat.le_of_ble_eq_true rfl)
  rw [lg_entry_eq]
  generalize (lg_sl ([.ref h0]) ++ List.replicate (1 - (lg_sl ([.ref h0])).length) Slot.unset).toArray = ls at hl ⊢
  have hl : lv_has ls 1 [(0, .ref h0)] := hl
  have hH0 : True := trivial
  refine lv_aload_n hx hb dR_init_0 rfl (lv_at hl 0 rfl) ?_
  refine W.objInit hx hb hown (hts _ wq_400) (hts _ wq_48) (hts _ wq_49) rfl (by rw [hml]; exact hl.1) rfl dR_init_1 (Nat.le_of_ble_eq_true rfl) (Nat.le_of_ble_eq_true rfl) ?_
  refine W.eq (g2 := F0 m 4 ls []) rfl ?_
  refine lv_aload_n hx hb dR_init_4 rfl (lv_at hl 0 rfl) ?_
  refine lv_sipush (v := 231) hx hb dR_init_5 (by decide) ?_
  refine va_newa (atype := .int) (N' := 231) (a0 := (231, .inl (fun _ => 0))) hx hb (hts _ wq_93) rfl hE.1 hP hD hS hA (fun _ => rfl) (by decide) (by decide) (Nat.le_of_ble_eq_true rfl) (Nat.le_of_ble_eq_true rfl) (Nat.le_of_ble_eq_true rfl) dR_init_8 (fun q1 cA H hK2 hP hD hS => ?_)
  obtain rfl := mp_cI hE.1 hK2
  have hP : va_P (kD k) mp_cls ([(h0, .inr (2, [.null, .null, .null, .int 0, .null]))] ++ [(q1, .inl (kI k, 231, .inl (fun _ => 0)))]) H := hP
  have hD : va_D A ([(h0, .inr (2, [.null, .null, .null, .int 0, .null]))] ++ [(q1, .inl (kI k, 231, .inl (fun _ => 0)))]) := hD
  refine W.widen (k := 1) (n := 231) (Nat.le_of_ble_eq_true rfl) (Nat.le_of_ble_eq_true rfl) ?_
  refine va_putF (D := kD k) (ci := 2) (v := .ref q1) (ty := .array .int) (C := rR) (T := tR) (N := 5) hx hb hts iR gR gR_ok nR hown hE.1 hP hD hS 0 rfl rfl 0 (by decide) (hts _ wq_401) (fun _ h9 => h9) rfl hin rfl (by decide +kernel) rfl rfl (Nat.le_of_ble_eq_true rfl) dR_init_10 (fun H locs hP hD hS => ?_)
  have hP : va_P (kD k) mp_cls ([(h0, .inr (2, [.ref q1, .null, .null, .int 0, .null]))] ++ [(q1, .inl (kI k, 231, .inl (fun _ => 0)))]) H := hP
  have hD : va_D A ([(h0, .inr (2, [.ref q1, .null, .null, .int 0, .null]))] ++ [(q1, .inl (kI k, 231, .inl (fun _ => 0)))]) := hD
  refine lv_aload_n hx hb dR_init_13 rfl (lv_at hl 0 rfl) ?_
  refine lv_sipush (v := 231) hx hb dR_init_14 (by decide) ?_
  refine va_newa (atype := .int) (N' := 231) (a0 := (231, .inl (fun _ => 0))) hx hb (hts _ wq_93) rfl hE.1 hP hD hS hA (fun _ => rfl) (by decide) (by decide) (Nat.le_of_ble_eq_true rfl) (Nat.le_of_ble_eq_true rfl) (Nat.le_of_ble_eq_true rfl) dR_init_17 (fun q2 cA H hK2 hP hD hS => ?_)
  obtain rfl := mp_cI hE.1 hK2
  have hP : va_P (kD k) mp_cls ([(h0, .inr (2, [.ref q1, .null, .null, .int 0, .null]))] ++ [(q1, .inl (kI k, 231, .inl (fun _ => 0)))] ++ [(q2, .inl (kI k, 231, .inl (fun _ => 0)))]) H := hP
  have hD : va_D A ([(h0, .inr (2, [.ref q1, .null, .null, .int 0, .null]))] ++ [(q1, .inl (kI k, 231, .inl (fun _ => 0)))] ++ [(q2, .inl (kI k, 231, .inl (fun _ => 0)))]) := hD
  refine W.widen (k := 2) (n := 462) (Nat.le_of_ble_eq_true rfl) (Nat.le_of_ble_eq_true rfl) ?_
  refine va_putF (D := kD k) (ci := 2) (v := .ref q2) (ty := .array .int) (C := rR) (T := tR) (N := 5) hx hb hts iR gR gR_ok nR hown hE.1 hP hD hS 0 rfl rfl 1 (by decide) (hts _ wq_402) (fun _ h9 => h9) rfl hin rfl (by decide +kernel) rfl rfl (Nat.le_of_ble_eq_true rfl) dR_init_19 (fun H locs hP hD hS => ?_)
  have hP : va_P (kD k) mp_cls ([(h0, .inr (2, [.ref q1, .ref q2, .null, .int 0, .null]))] ++ [(q1, .inl (kI k, 231, .inl (fun _ => 0)))] ++ [(q2, .inl (kI k, 231, .inl (fun _ => 0)))]) H := hP
  have hD : va_D A ([(h0, .inr (2, [.ref q1, .ref q2, .null, .int 0, .null]))] ++ [(q1, .inl (kI k, 231, .inl (fun _ => 0)))] ++ [(q2, .inl (kI k, 231, .inl (fun _ => 0)))]) := hD
  refine lv_aload_n hx hb dR_init_22 rfl (lv_at hl 0 rfl) ?_
  refine lv_sipush (v := 693) hx hb dR_init_23 (by decide) ?_
  refine va_newa (atype := .int) (N' := 693) (a0 := (693, .inl (fun _ => 0))) hx hb (hts _ wq_93) rfl hE.1 hP hD hS hA (fun _ => rfl) (by decide) (by decide) (Nat.le_of_ble_eq_true rfl) (Nat.le_of_ble_eq_true rfl) (Nat.le_of_ble_eq_true rfl) dR_init_26 (fun q3 cA H hK2 hP hD hS => ?_)
  obtain rfl := mp_cI hE.1 hK2
  have hP : va_P (kD k) mp_cls ([(h0, .inr (2, [.ref q1, .ref q2, .null, .int 0, .null]))] ++ [(q1, .inl (kI k, 231, .inl (fun _ => 0)))] ++ [(q2, .inl (kI k, 231, .inl (fun _ => 0)))] ++ [(q3, .inl (kI k, 693, .inl (fun _ => 0)))]) H := hP
  have hD : va_D A ([(h0, .inr (2, [.ref q1, .ref q2, .null, .int 0, .null]))] ++ [(q1, .inl (kI k, 231, .inl (fun _ => 0)))] ++ [(q2, .inl (kI k, 231, .inl (fun _ => 0)))] ++ [(q3, .inl (kI k, 693, .inl (fun _ => 0)))]) := hD
  refine W.widen (k := 3) (n := 1155) (Nat.le_of_ble_eq_true rfl) (Nat.le_of_ble_eq_true rfl) ?_
  refine va_putF (D := kD k) (ci := 2) (v := .ref q3) (ty := .array .int) (C := rR) (T := tR) (N := 5) hx hb hts iR gR gR_ok nR hown hE.1 hP hD hS 0 rfl rfl 2 (by decide) (hts _ wq_403) (fun _ h9 => h9) rfl hin rfl (by decide +kernel) rfl rfl (Nat.le_of_ble_eq_true rfl) dR_init_28 (fun H locs hP hD hS => ?_)
  have hP : va_P (kD k) mp_cls ([(h0, .inr (2, [.ref q1, .ref q2, .ref q3, .int 0, .null]))] ++ [(q1, .inl (kI k, 231, .inl (fun _ => 0)))] ++ [(q2, .inl (kI k, 231, .inl (fun _ => 0)))] ++ [(q3, .inl (kI k, 693, .inl (fun _ => 0)))]) H := hP
  have hD : va_D A ([(h0, .inr (2, [.ref q1, .ref q2, .ref q3, .int 0, .null]))] ++ [(q1, .inl (kI k, 231, .inl (fun _ => 0)))] ++ [(q2, .inl (kI k, 231, .inl (fun _ => 0)))] ++ [(q3, .inl (kI k, 693, .inl (fun _ => 0)))]) := hD
  refine lv_aload_n hx hb dR_init_31 rfl (lv_at hl 0 rfl) ?_
  refine lv_iconst (v := 3) hx hb dR_init_32 (by decide) ?_
  refine va_newa (atype := .int) (N' := 3) (a0 := (3, .inl (fun _ => 0))) hx hb (hts _ wq_93) rfl hE.1 hP hD hS hA (fun _ => rfl) (by decide) (by decide) (Nat.le_of_ble_eq_true rfl) (Nat.le_of_ble_eq_true rfl) (Nat.le_of_ble_eq_true rfl) dR_init_33 (fun q4 cA H hK2 hP hD hS => ?_)
  obtain rfl := mp_cI hE.1 hK2
  have hP : va_P (kD k) mp_cls ([(h0, .inr (2, [.ref q1, .ref q2, .ref q3, .int 0, .null]))] ++ [(q1, .inl (kI k, 231, .inl (fun _ => 0)))] ++ [(q2, .inl (kI k, 231, .inl (fun _ => 0)))] ++ [(q3, .inl (kI k, 693, .inl (fun _ => 0)))] ++ [(q4, .inl (kI k, 3, .inl (fun _ => 0)))]) H := hP
  have hD : va_D A ([(h0, .inr (2, [.ref q1, .ref q2, .ref q3, .int 0, .null]))] ++ [(q1, .inl (kI k, 231, .inl (fun _ => 0)))] ++ [(q2, .inl (kI k, 231, .inl (fun _ => 0)))] ++ [(q3, .inl (kI k, 693, .inl (fun _ => 0)))] ++ [(q4, .inl (kI k, 3, .inl (fun _ => 0)))]) := hD
  refine W.widen (k := 4) (n := 1158) (Nat.le_of_ble_eq_true rfl) (Nat.le_of_ble_eq_true rfl) ?_
  refine va_putF (D := kD k) (ci := 2) (v := .ref q4) (ty := .array .int) (C := rR) (T := tR) (N := 5) hx hb hts iR gR gR_ok nR hown hE.1 hP hD hS 0 rfl rfl 4 (by decide) (hts _ wq_405) (fun _ h9 => h9) rfl hin rfl (by decide +kernel) rfl rfl (Nat.le_of_ble_eq_true rfl) dR_init_35 (fun H locs hP hD hS => ?_)
  have hP : va_P (kD k) mp_cls ([(h0, .inr (2, [.ref q1, .ref q2, .ref q3, .int 0, .ref q4]))] ++ [(q1, .inl (kI k, 231, .inl (fun _ => 0)))] ++ [(q2, .inl (kI k, 231, .inl (fun _ => 0)))] ++ [(q3, .inl (kI k, 693, .inl (fun _ => 0)))] ++ [(q4, .inl (kI k, 3, .inl (fun _ => 0)))]) H := hP
  have hD : va_D A ([(h0, .inr (2, [.ref q1, .ref q2, .ref q3, .int 0, .ref q4]))] ++ [(q1, .inl (kI k, 231, .inl (fun _ => 0)))] ++ [(q2, .inl (kI k, 231, .inl (fun _ => 0)))] ++ [(q3, .inl (kI k, 693, .inl (fun _ => 0)))] ++ [(q4, .inl (kI k, 3, .inl (fun _ => 0)))]) := hD
  refine lv_aload_n hx hb dR_init_38 rfl (lv_at hl 0 rfl) ?_
  refine mp_gR cx hE hP iR 0 rfl 0 (by decide) wq_401 rfl (v := .ref q1) rfl dR_init_39 ?_
  refine lv_iconst (v := 0) hx hb dR_init_42 (by decide) ?_
  refine lv_iconst (v := 1) hx hb dR_init_43 (by decide) ?_
  refine va_iast hx hb hE.1 hP hD hS 1 0 (f := (fun _ => 0)) (n := 231) rfl rfl (mp_ix_in (by decide)) dR_init_44 (fun H locs hP hD hS => ?_)
  have hP : va_P (kD k) mp_cls ([(h0, .inr (2, [.ref q1, .ref q2, .ref q3, .int 0, .ref q4]))] ++ [(q1, .inl (kI k, 231, .inl (upd (fun _ => 0) 0 1)))] ++ [(q2, .inl (kI k, 231, .inl (fun _ => 0)))] ++ [(q3, .inl (kI k, 693, .inl (fun _ => 0)))] ++ [(q4, .inl (kI k, 3, .inl (fun _ => 0)))]) H := hP
  have hD : va_D A ([(h0, .inr (2, [.ref q1, .ref q2, .ref q3, .int 0, .ref q4]))] ++ [(q1, .inl (kI k, 231, .inl (upd (fun _ => 0) 0 1)))] ++ [(q2, .inl (kI k, 231, .inl (fun _ => 0)))] ++ [(q3, .inl (kI k, 693, .inl (fun _ => 0)))] ++ [(q4, .inl (kI k, 3, .inl (fun _ => 0)))]) := hD
  refine lv_aload_n hx hb dR_init_45 rfl (lv_at hl 0 rfl) ?_
  refine mp_gR cx hE hP iR 0 rfl 0 (by decide) wq_401 rfl (v := .ref q1) rfl dR_init_46 ?_
  refine lv_iconst (v := 3) hx hb dR_init_49 (by decide) ?_
  refine lv_bipush (v := (-9)) hx hb dR_init_50 (by decide) ?_
  refine va_iast hx hb hE.1 hP hD hS 1 0 (f := (upd (fun _ => 0) 0 1)) (n := 231) rfl rfl (mp_ix_in (by decide)) dR_init_52 (fun H locs hP hD hS => ?_)
  have hP : va_P (kD k) mp_cls ([(h0, .inr (2, [.ref q1, .ref q2, .ref q3, .int 0, .ref q4]))] ++ [(q1, .inl (kI k, 231, .inl (upd (upd (fun _ => 0) 0 1) 3 (-9))))] ++ [(q2, .inl (kI k, 231, .inl (fun _ => 0)))] ++ [(q3, .inl (kI k, 693, .inl (fun _ => 0)))] ++ [(q4, .inl (kI k, 3, .inl (fun _ => 0)))]) H := hP
  have hD : va_D A ([(h0, .inr (2, [.ref q1, .ref q2, .ref q3, .int 0, .ref q4]))] ++ [(q1, .inl (kI k, 231, .inl (upd (upd (fun _ => 0) 0 1) 3 (-9))))] ++ [(q2, .inl (kI k, 231, .inl (fun _ => 0)))] ++ [(q3, .inl (kI k, 693, .inl (fun _ => 0)))] ++ [(q4, .inl (kI k, 3, .inl (fun _ => 0)))]) := hD
  refine lv_aload_n hx hb dR_init_53 rfl (lv_at hl 0 rfl) ?_
  refine mp_gR cx hE hP iR 0 rfl 0 (by decide) wq_401 rfl (v := .ref q1) rfl dR_init_54 ?_
  refine lv_bipush (v := 15) hx hb dR_init_57 (by decide) ?_
  refine lv_bipush (v := (-9)) hx hb dR_init_59 (by decide) ?_
  refine va_iast hx hb hE.1 hP hD hS 1 0 (f := (upd (upd (fun _ => 0) 0 1) 3 (-9))) (n := 231) rfl rfl (mp_ix_in (by decide)) dR_init_61 (fun H locs hP hD hS => ?_)
  have hP : va_P (kD k) mp_cls ([(h0, .inr (2, [.ref q1, .ref q2, .ref q3, .int 0, .ref q4]))] ++ [(q1, .inl (kI k, 231, .inl (upd (upd (upd (fun _ => 0) 0 1) 3 (-9)) 15 (-9))))] ++ [(q2, .inl (kI k, 231, .inl (fun _ => 0)))] ++ [(q3, .inl (kI k, 693, .inl (fun _ => 0)))] ++ [(q4, .inl (kI k, 3, .inl (fun _ => 0)))]) H := hP
  have hD : va_D A ([(h0, .inr (2, [.ref q1, .ref q2, .ref q3, .int 0, .ref q4]))] ++ [(q1, .inl (kI k, 231, .inl (upd (upd (upd (fun _ => 0) 0 1) 3 (-9)) 15 (-9))))] ++ [(q2, .inl (kI k, 231, .inl (fun _ => 0)))] ++ [(q3, .inl (kI k, 693, .inl (fun _ => 0)))] ++ [(q4, .inl (kI k, 3, .inl (fun _ => 0)))]) := hD
  have hP : va_P (kD k) mp_cls (cR k (fun i => [h0, q1, q2, q3, q4].getD i 0) mp_g0) H := hP
  have hD : va_D A (cR k (fun i => [h0, q1, q2, q3, q4].getD i 0) mp_g0) := hD
  exact W.vret hx hb hr (fun t ht hW => ⟨⟨(fun i => [h0, q1, q2, q3, q4].getD i 0), rfl, rfl, by rw [ht]; exact hP, hD⟩, hS.F ht⟩) hS.2.2 dR_init_62
