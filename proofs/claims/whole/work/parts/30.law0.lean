def R_law : String := "MovingPlacesLaw"
def lw_P (b : Addr) (xs : List Int32) (args : Array Value) (s : State) : Prop := args = #[.ref b] ∧ s.IntsAt b xs ∧ xs.length ≤ 2048 ∧ (Jvm.Cond.and given_1 narrow_1).before args s = true
def lw_Q (_ : Array Value) (s : State) (o : Outcome) (t : State) : Prop := o = .returned (some (.int 1)) ∧ Framed s o t [] 600000 7302250
def lw_Z (below : List Frame) (a : Array Value) (s : State) : State → Prop := fun t => ∃ o, t.status = .running ∧ Ended t below o ∧ lw_Q a s o t
/-- the law's own end, with 1 on the stack, nothing written that was there before, its room as the claim has it -/
theorem lw_ret {p : Program} {l : Launch} {e : Env} {s : State} {m : MethodId} {below : List Frame} {meth : Method} {c : Code} {b : Nat} (hx : p.tables.exec = Jvm.exec) (hb : c.code = code) (hr : meth.sig.returnType = ret) (hlocks : meth.locks = false) {pc : Nat} {H : Heap} {ls : Array Slot} (hdg : decode code pc = .ok (.ireturn, 1)) : W p l e room_1 s m #[Value.ref b] below meth c H [] 600000 7302250 (lw_Z below #[Value.ref b] s) (F0 m pc ls [.int 1]) := by
  intro T hT X
  obtain ⟨fs, hret, hrun, hended, hW, hframe⟩ := X.leave (v := some (.int 1)) (hlocks := hlocks) (fun h => by rw [hr] at h; cases h)
  have hmeth' : T.vm.method? m = some meth := X.method'
  refine ⟨T.setFrames fs, ?_, .returned (some (.int 1)), hrun, hended, rfl, ⟨_, rfl⟩, hW, hframe⟩
  jvm_step X.here [X.here.top, hx, hb, hdg, hmeth', hr, ret, narrow_b1]
  (try refine ⟨rfl, ?_⟩); (try refine ⟨rfl, ?_⟩)
  first | (intro acts; rw [hret _ acts rfl rfl rfl]) | rw [hret _ _ rfl rfl rfl]
  exact Steps.refl _
/-- what holds at the law's entry: the machine, the code, the tables' words (any of lw_tbl by 'hts w (by decide +kernel)'), the script of L ints xs at the cell b, what the Statement gives of the start (any of its parts by flat_of_before) -/
def lw_At (p : Program) (s : State) (m : MethodId) (meth : Method) (c : Code) (b L : Nat) (xs : Nat → Int32) : Prop :=
  p.tables.exec = Jvm.exec ∧ c.code = code ∧ meth.sig.returnType = ret ∧ c.maxLocals = 4 ∧ s.vm.findClass R_law = some m.cls ∧ (∀ w ∈ lw_tbl, w.before #[Value.ref b] s = true) ∧ va_X b L xs s s.heap ∧ b < s.heap.size ∧ meth.locks = false ∧ (Jvm.Cond.and given_1 narrow_1).before #[Value.ref b] s = true
/-! ===== the law: both sides begin alike ===== -/
theorem g0_at {i : Nat} (h1 : i ≠ 0) (h2 : i ≠ 3) (h3 : i ≠ 15) : mp_g0.1 i = 0 := by
  show upd (upd (upd (fun _ => 0) 0 1) 3 (-9)) 15 (-9) i = 0
  rw [pk_un h3, pk_un h2, pk_un h1]
theorem Rel_0 : Rel mp_S0 mp_g0 := by
  have h2 : mp_g0.1 2 = 0 := g0_at (by omega) (by omega) (by omega)
  have l0 : ∀ p, lvp mp_g0.1 1 p → p = 0 := fun p h => by have := h.1; omega
  refine ⟨⟨1, 0, ⟨⟨rfl, rfl, by omega, by omega, by omega⟩, ⟨by rw [h2, b_0], rfl, rfl, rfl⟩, fun p a b => by omega, fun p a b => by have := l0 p b; omega, ⟨fun _ => 0, fun p q a b => by have := l0 p b; omega⟩, fun p a => Or.inl (g0_at (by omega) (by omega) (by omega)), fun p a b => g0_at (by omega) (by omega) (by omega), fun p n a b _ => g0_at (by omega) (by omega) (by omega), fun p a => by rw [h2, b_0], fun j h => by omega⟩,
    ⟨⟨rfl, h2.symm, rfl⟩, fun p h => ?_, fun p h => ?_, fun p a b => ?_, fun p a => ?_, fun p n a b => ?_, fun j h => by omega, fun j h => by omega⟩⟩, rfl, Or.inl rfl⟩
  · rw [show p = 0 by omega]; rfl
  · rw [l0 p h]; rfl
  · rw [show p = 0 by omega] at b
    exact absurd ⟨by omega, by rw [h2, b_0]⟩ b
  · constructor
    · intro q; rw [show mp_S0.1.2.2.1 = 0 from rfl, b_0] at q; cases q
    · intro q; rw [g0_at (by omega) (by omega) (by omega)] at q; exact absurd q (by decide)
  · rw [g0_at (by omega) (by omega) (by omega)]; rfl
/-! ===== the two worlds, apart ===== -/
def lwI (k : KK) (am ar : Nat → Nat) (s : State) (S : SM) (g : SR) (H : Heap) (locs : List Loc) : Prop := va_P (kD k) mp_cls (cM k am S) H ∧ va_D (mp_N k) (cM k am S) ∧ va_P (kD k) mp_cls (cR k ar g) H ∧ va_D (mp_N k) (cR k ar g) ∧ va_S (mp_N k) s.heap H locs
def lwX (am ar : Nat → Nat) : Prop := ∀ q, mp_A (aM am) q → ¬ mp_A (aR ar) q
theorem mp_Ain {ws : va_W} {as : List Nat} (e : ws.map (fun q => q.1) = as) {j : Nat} {q : Nat × va_E} (h : ws[j]? = some q) : mp_A as q.1 := by
  show q.1 ∈ as
  rw [← e]
  exact List.mem_map.mpr ⟨q, List.mem_of_getElem? h, rfl⟩
theorem lwI.m {k : KK} {am ar : Nat → Nat} {s : State} {S S' : SM} {g : SR} {H H1 : Heap} {locs locs1 : List Loc} (h : lwI k am ar s S g H locs) (hx : lwX am ar) (hP1 : va_P (kD k) mp_cls (cM k am S') H1) (hk : ∀ q : Nat, q < H.size → ¬ mp_A (aM am) q → H1[q]? = H[q]?) (hS : va_S (mp_N k) s.heap H1 locs1) : lwI k am ar s S' g H1 locs1 :=
  ⟨hP1, mp_Ds h.2.1 rfl, h.2.2.1.kept (fun j q hq => hk q.1 ((h.2.2.1 j q hq).lt) (fun z => hx q.1 z (mp_Ain rfl hq))), h.2.2.2.1, hS⟩
theorem lwI.r {k : KK} {am ar : Nat → Nat} {s : State} {S : SM} {g g' : SR} {H H1 : Heap} {locs locs1 : List Loc} (h : lwI k am ar s S g H locs) (hx : lwX am ar) (hP1 : va_P (kD k) mp_cls (cR k ar g') H1) (hk : ∀ q : Nat, q < H.size → ¬ mp_A (aR ar) q → H1[q]? = H[q]?) (hS : va_S (mp_N k) s.heap H1 locs1) : lwI k am ar s S g' H1 locs1 :=
  ⟨h.1.kept (fun j q hq => hk q.1 ((h.1 j q hq).lt) (fun z => hx q.1 (mp_Ain (ws := cM k am S) rfl hq) z)), h.2.1, hP1, mp_Ds h.2.2.2.1 rfl, hS⟩
def lwC (p : Program) (s : State) (m : MethodId) (meth : Method) (c : Code) (b L : Nat) (xs : Nat → Int32) (k : KK) (am ar : Nat → Nat) : Prop :=
  mp_C p s m #[Value.ref b] meth c code 4 ret R_law ∧ mp_E k s ∧ va_X b L xs s s.heap ∧ b < s.heap.size ∧ ¬ mp_N k b ∧ lwX am ar
theorem wq_112 : Cond.methodLink "MovingPlacesLaw" 13 yM_place ∈ wT := wT_in 112 rfl rfl
theorem wq_113 : Cond.instanceMethod yM_place ∈ wT := wT_in 113 rfl rfl
theorem wq_114 : Cond.selects rM yM_place yM_place ∈ wT := wT_in 114 rfl rfl
theorem wq_115 : Cond.code yM_place bM_place 3 (some .int) ∈ wT := wT_in 115 rfl rfl
theorem kV_L_13 : mp_V R_law 13 yM_place bM_place 3 (some .int) 2 := ⟨wq_112, wq_113, wq_114, wq_37, wq_115, ⟨by decide, by decide, by decide +kernel⟩⟩
theorem wq_417 : Cond.methodLink "MovingPlacesLaw" 17 yR_place ∈ wT := wT_in 417 rfl rfl
theorem wq_418 : Cond.instanceMethod yR_place ∈ wT := wT_in 418 rfl rfl
theorem wq_419 : Cond.selects rR yR_place yR_place ∈ wT := wT_in 419 rfl rfl
theorem wq_420 : Cond.code yR_place bR_place 4 (some .int) ∈ wT := wT_in 420 rfl rfl
theorem kV_L_17 : mp_V R_law 17 yR_place bR_place 4 (some .int) 2 := ⟨wq_417, wq_418, wq_419, wq_39, wq_420, ⟨by decide, by decide, by decide +kernel⟩⟩
set_option maxRecDepth 20000 in
theorem wq_600 : Cond.constantLong "MovingPlacesLaw" 18 4294967295 ∈ wT := wT_in 600 rfl rfl
theorem wq_127 : Cond.methodLink "MovingPlacesLaw" 20 yM_thread ∈ wT := wT_in 127 rfl rfl
theorem wq_128 : Cond.instanceMethod yM_thread ∈ wT := wT_in 128 rfl rfl
theorem wq_129 : Cond.selects rM yM_thread yM_thread ∈ wT := wT_in 129 rfl rfl
theorem wq_130 : Cond.code yM_thread bM_thread 5 (some .int) ∈ wT := wT_in 130 rfl rfl
theorem kV_L_20 : mp_V R_law 20 yM_thread bM_thread 5 (some .int) 2 := ⟨wq_127, wq_128, wq_129, wq_37, wq_130, ⟨by decide, by decide, by decide +kernel⟩⟩
theorem wq_434 : Cond.methodLink "MovingPlacesLaw" 24 yR_thread ∈ wT := wT_in 434 rfl rfl
theorem wq_435 : Cond.instanceMethod yR_thread ∈ wT := wT_in 435 rfl rfl
theorem wq_436 : Cond.selects rR yR_thread yR_thread ∈ wT := wT_in 436 rfl rfl
theorem wq_437 : Cond.code yR_thread bR_thread 9 (some .int) ∈ wT := wT_in 437 rfl rfl
theorem kV_L_24 : mp_V R_law 24 yR_thread bR_thread 9 (some .int) 2 := ⟨wq_434, wq_435, wq_436, wq_39, wq_437, ⟨by decide, by decide, by decide +kernel⟩⟩
theorem wq_142 : Cond.methodLink "MovingPlacesLaw" 25 yM_seal ∈ wT := wT_in 142 rfl rfl
theorem wq_143 : Cond.instanceMethod yM_seal ∈ wT := wT_in 143 rfl rfl
theorem wq_144 : Cond.selects rM yM_seal yM_seal ∈ wT := wT_in 144 rfl rfl
theorem wq_145 : Cond.code yM_seal bM_seal 3 (some .int) ∈ wT := wT_in 145 rfl rfl
theorem kV_L_25 : mp_V R_law 25 yM_seal bM_seal 3 (some .int) 2 := ⟨wq_142, wq_143, wq_144, wq_37, wq_145, ⟨by decide, by decide, by decide +kernel⟩⟩
set_option maxRecDepth 20000 in
theorem wq_445 : Cond.methodLink "MovingPlacesLaw" 29 yR_seal ∈ wT := wT_in 445 rfl rfl
set_option maxRecDepth 20000 in
theorem wq_446 : Cond.instanceMethod yR_seal ∈ wT := wT_in 446 rfl rfl
set_option maxRecDepth 20000 in
theorem wq_447 : Cond.selects rR yR_seal yR_seal ∈ wT := wT_in 447 rfl rfl
set_option maxRecDepth 20000 in
theorem wq_448 : Cond.code yR_seal bR_seal 5 (some .int) ∈ wT := wT_in 448 rfl rfl
theorem kV_L_29 : mp_V R_law 29 yR_seal bR_seal 5 (some .int) 2 := ⟨wq_445, wq_446, wq_447, wq_39, wq_448, ⟨by decide, by decide, by decide +kernel⟩⟩
theorem wq_155 : Cond.methodLink "MovingPlacesLaw" 30 yM_message ∈ wT := wT_in 155 rfl rfl
theorem wq_156 : Cond.instanceMethod yM_message ∈ wT := wT_in 156 rfl rfl
theorem wq_157 : Cond.selects rM yM_message yM_message ∈ wT := wT_in 157 rfl rfl
theorem wq_158 : Cond.code yM_message bM_message 3 (some .int) ∈ wT := wT_in 158 rfl rfl
theorem kV_L_30 : mp_V R_law 30 yM_message bM_message 3 (some .int) 2 := ⟨wq_155, wq_156, wq_157, wq_37, wq_158, ⟨by decide, by decide, by decide +kernel⟩⟩
set_option maxRecDepth 20000 in
theorem wq_449 : Cond.methodLink "MovingPlacesLaw" 33 yR_message ∈ wT := wT_in 449 rfl rfl
set_option maxRecDepth 20000 in
theorem wq_450 : Cond.instanceMethod yR_message ∈ wT := wT_in 450 rfl rfl
set_option maxRecDepth 20000 in
theorem wq_451 : Cond.selects rR yR_message yR_message ∈ wT := wT_in 451 rfl rfl
set_option maxRecDepth 20000 in
theorem wq_452 : Cond.code yR_message bR_message 3 (some .int) ∈ wT := wT_in 452 rfl rfl
theorem kV_L_33 : mp_V R_law 33 yR_message bR_message 3 (some .int) 2 := ⟨wq_449, wq_450, wq_451, wq_39, wq_452, ⟨by decide, by decide, by decide +kernel⟩⟩
theorem wq_168 : Cond.methodLink "MovingPlacesLaw" 34 yM_ofPlace ∈ wT := wT_in 168 rfl rfl
theorem wq_169 : Cond.instanceMethod yM_ofPlace ∈ wT := wT_in 169 rfl rfl
theorem wq_170 : Cond.selects rM yM_ofPlace yM_ofPlace ∈ wT := wT_in 170 rfl rfl
theorem wq_171 : Cond.code yM_ofPlace bM_ofPlace 3 (some .int) ∈ wT := wT_in 171 rfl rfl
theorem kV_L_34 : mp_V R_law 34 yM_ofPlace bM_ofPlace 3 (some .int) 2 := ⟨wq_168, wq_169, wq_170, wq_37, wq_171, ⟨by decide, by decide, by decide +kernel⟩⟩
set_option maxRecDepth 20000 in
theorem wq_453 : Cond.methodLink "MovingPlacesLaw" 37 yR_ofPlace ∈ wT := wT_in 453 rfl rfl
set_option maxRecDepth 20000 in
theorem wq_454 : Cond.instanceMethod yR_ofPlace ∈ wT := wT_in 454 rfl rfl
set_option maxRecDepth 20000 in
theorem wq_455 : Cond.selects rR yR_ofPlace yR_ofPlace ∈ wT := wT_in 455 rfl rfl
set_option maxRecDepth 20000 in
theorem wq_456 : Cond.code yR_ofPlace bR_ofPlace 3 (some .int) ∈ wT := wT_in 456 rfl rfl
theorem kV_L_37 : mp_V R_law 37 yR_ofPlace bR_ofPlace 3 (some .int) 2 := ⟨wq_453, wq_454, wq_455, wq_39, wq_456, ⟨by decide, by decide, by decide +kernel⟩⟩
theorem wq_193 : Cond.methodLink "MovingPlacesLaw" 38 yM_ofThread ∈ wT := wT_in 193 rfl rfl
theorem wq_194 : Cond.instanceMethod yM_ofThread ∈ wT := wT_in 194 rfl rfl
theorem wq_195 : Cond.selects rM yM_ofThread yM_ofThread ∈ wT := wT_in 195 rfl rfl
theorem wq_196 : Cond.code yM_ofThread bM_ofThread 3 (some .int) ∈ wT := wT_in 196 rfl rfl
theorem kV_L_38 : mp_V R_law 38 yM_ofThread bM_ofThread 3 (some .int) 2 := ⟨wq_193, wq_194, wq_195, wq_37, wq_196, ⟨by decide, by decide, by decide +kernel⟩⟩
set_option maxRecDepth 20000 in
theorem wq_469 : Cond.methodLink "MovingPlacesLaw" 41 yR_ofThread ∈ wT := wT_in 469 rfl rfl
set_option maxRecDepth 20000 in
theorem wq_470 : Cond.instanceMethod yR_ofThread ∈ wT := wT_in 470 rfl rfl
set_option maxRecDepth 20000 in
theorem wq_471 : Cond.selects rR yR_ofThread yR_ofThread ∈ wT := wT_in 471 rfl rfl
set_option maxRecDepth 20000 in
theorem wq_472 : Cond.code yR_ofThread bR_ofThread 3 (some .int) ∈ wT := wT_in 472 rfl rfl
theorem kV_L_41 : mp_V R_law 41 yR_ofThread bR_ofThread 3 (some .int) 2 := ⟨wq_469, wq_470, wq_471, wq_39, wq_472, ⟨by decide, by decide, by decide +kernel⟩⟩
theorem wq_231 : Cond.methodLink "MovingPlacesLaw" 42 yM_within ∈ wT := wT_in 231 rfl rfl
theorem wq_232 : Cond.instanceMethod yM_within ∈ wT := wT_in 232 rfl rfl
theorem wq_233 : Cond.selects rM yM_within yM_within ∈ wT := wT_in 233 rfl rfl
theorem wq_234 : Cond.code yM_within bM_within 3 (some .int) ∈ wT := wT_in 234 rfl rfl
theorem kV_L_42 : mp_V R_law 42 yM_within bM_within 3 (some .int) 2 := ⟨wq_231, wq_232, wq_233, wq_37, wq_234, ⟨by decide, by decide, by decide +kernel⟩⟩
set_option maxRecDepth 20000 in
theorem wq_485 : Cond.methodLink "MovingPlacesLaw" 45 yR_within ∈ wT := wT_in 485 rfl rfl
set_option maxRecDepth 20000 in
theorem wq_486 : Cond.instanceMethod yR_within ∈ wT := wT_in 486 rfl rfl
set_option maxRecDepth 20000 in
theorem wq_487 : Cond.selects rR yR_within yR_within ∈ wT := wT_in 487 rfl rfl
set_option maxRecDepth 20000 in
theorem wq_488 : Cond.code yR_within bR_within 3 (some .int) ∈ wT := wT_in 488 rfl rfl
theorem kV_L_45 : mp_V R_law 45 yR_within bR_within 3 (some .int) 2 := ⟨wq_485, wq_486, wq_487, wq_39, wq_488, ⟨by decide, by decide, by decide +kernel⟩⟩
theorem wq_239 : Cond.methodLink "MovingPlacesLaw" 46 yM_can ∈ wT := wT_in 239 rfl rfl
theorem wq_240 : Cond.instanceMethod yM_can ∈ wT := wT_in 240 rfl rfl
theorem wq_241 : Cond.selects rM yM_can yM_can ∈ wT := wT_in 241 rfl rfl
theorem wq_242 : Cond.code yM_can bM_can 1 (some .int) ∈ wT := wT_in 242 rfl rfl
theorem kV_L_46 : mp_V R_law 46 yM_can bM_can 1 (some .int) 0 := ⟨wq_239, wq_240, wq_241, wq_37, wq_242, ⟨by decide, by decide, by decide +kernel⟩⟩
set_option maxRecDepth 20000 in
theorem wq_493 : Cond.methodLink "MovingPlacesLaw" 50 yR_can ∈ wT := wT_in 493 rfl rfl
set_option maxRecDepth 20000 in
theorem wq_494 : Cond.instanceMethod yR_can ∈ wT := wT_in 494 rfl rfl
set_option maxRecDepth 20000 in
theorem wq_495 : Cond.selects rR yR_can yR_can ∈ wT := wT_in 495 rfl rfl
set_option maxRecDepth 20000 in
theorem wq_496 : Cond.code yR_can bR_can 3 (some .int) ∈ wT := wT_in 496 rfl rfl
theorem kV_L_50 : mp_V R_law 50 yR_can bR_can 3 (some .int) 0 := ⟨wq_493, wq_494, wq_495, wq_39, wq_496, ⟨by decide, by decide, by decide +kernel⟩⟩
theorem wq_268 : Cond.methodLink "MovingPlacesLaw" 51 yM_act ∈ wT := wT_in 268 rfl rfl
theorem wq_269 : Cond.instanceMethod yM_act ∈ wT := wT_in 269 rfl rfl
theorem wq_270 : Cond.selects rM yM_act yM_act ∈ wT := wT_in 270 rfl rfl
theorem wq_271 : Cond.code yM_act bM_act 3 (some .int) ∈ wT := wT_in 271 rfl rfl
theorem kV_L_51 : mp_V R_law 51 yM_act bM_act 3 (some .int) 1 := ⟨wq_268, wq_269, wq_270, wq_37, wq_271, ⟨by decide, by decide, by decide +kernel⟩⟩
set_option maxRecDepth 20000 in
theorem wq_513 : Cond.methodLink "MovingPlacesLaw" 55 yR_act ∈ wT := wT_in 513 rfl rfl
set_option maxRecDepth 20000 in
theorem wq_514 : Cond.instanceMethod yR_act ∈ wT := wT_in 514 rfl rfl
set_option maxRecDepth 20000 in
theorem wq_515 : Cond.selects rR yR_act yR_act ∈ wT := wT_in 515 rfl rfl
set_option maxRecDepth 20000 in
theorem wq_516 : Cond.code yR_act bR_act 3 (some .int) ∈ wT := wT_in 516 rfl rfl
theorem kV_L_55 : mp_V R_law 55 yR_act bR_act 3 (some .int) 1 := ⟨wq_513, wq_514, wq_515, wq_39, wq_516, ⟨by decide, by decide, by decide +kernel⟩⟩
theorem wq_285 : Cond.methodLink "MovingPlacesLaw" 56 yM_rounds ∈ wT := wT_in 285 rfl rfl
theorem wq_286 : Cond.instanceMethod yM_rounds ∈ wT := wT_in 286 rfl rfl
theorem wq_287 : Cond.selects rM yM_rounds yM_rounds ∈ wT := wT_in 287 rfl rfl
theorem wq_288 : Cond.code yM_rounds bM_rounds 5 (some .int) ∈ wT := wT_in 288 rfl rfl
theorem kV_L_56 : mp_V R_law 56 yM_rounds bM_rounds 5 (some .int) 1 := ⟨wq_285, wq_286, wq_287, wq_37, wq_288, ⟨by decide, by decide, by decide +kernel⟩⟩
set_option maxRecDepth 20000 in
theorem wq_525 : Cond.methodLink "MovingPlacesLaw" 59 yR_rounds ∈ wT := wT_in 525 rfl rfl
set_option maxRecDepth 20000 in
theorem wq_526 : Cond.instanceMethod yR_rounds ∈ wT := wT_in 526 rfl rfl
set_option maxRecDepth 20000 in
theorem wq_527 : Cond.selects rR yR_rounds yR_rounds ∈ wT := wT_in 527 rfl rfl
set_option maxRecDepth 20000 in
theorem wq_528 : Cond.code yR_rounds bR_rounds 6 (some .int) ∈ wT := wT_in 528 rfl rfl
theorem kV_L_59 : mp_V R_law 59 yR_rounds bR_rounds 6 (some .int) 1 := ⟨wq_525, wq_526, wq_527, wq_39, wq_528, ⟨by decide, by decide, by decide +kernel⟩⟩
theorem wq_294 : Cond.methodLink "MovingPlacesLaw" 60 yM_rows ∈ wT := wT_in 294 rfl rfl
theorem wq_295 : Cond.instanceMethod yM_rows ∈ wT := wT_in 295 rfl rfl
theorem wq_296 : Cond.selects rM yM_rows yM_rows ∈ wT := wT_in 296 rfl rfl
theorem wq_297 : Cond.code yM_rows bM_rows 2 (some .int) ∈ wT := wT_in 297 rfl rfl
theorem kV_L_60 : mp_V R_law 60 yM_rows bM_rows 2 (some .int) 1 := ⟨wq_294, wq_295, wq_296, wq_37, wq_297, ⟨by decide, by decide, by decide +kernel⟩⟩
set_option maxRecDepth 20000 in
theorem wq_529 : Cond.methodLink "MovingPlacesLaw" 63 yR_rows ∈ wT := wT_in 529 rfl rfl
set_option maxRecDepth 20000 in
theorem wq_530 : Cond.instanceMethod yR_rows ∈ wT := wT_in 530 rfl rfl
set_option maxRecDepth 20000 in
theorem wq_531 : Cond.selects rR yR_rows yR_rows ∈ wT := wT_in 531 rfl rfl
set_option maxRecDepth 20000 in
theorem wq_532 : Cond.code yR_rows bR_rows 5 (some .int) ∈ wT := wT_in 532 rfl rfl
theorem kV_L_63 : mp_V R_law 63 yR_rows bR_rows 5 (some .int) 1 := ⟨wq_529, wq_530, wq_531, wq_39, wq_532, ⟨by decide, by decide, by decide +kernel⟩⟩
theorem wq_320 : Cond.methodLink "MovingPlacesLaw" 64 yM_soonest ∈ wT := wT_in 320 rfl rfl
theorem wq_321 : Cond.instanceMethod yM_soonest ∈ wT := wT_in 321 rfl rfl
theorem wq_322 : Cond.selects rM yM_soonest yM_soonest ∈ wT := wT_in 322 rfl rfl
theorem wq_323 : Cond.code yM_soonest bM_soonest 5 (some .int) ∈ wT := wT_in 323 rfl rfl
theorem kV_L_64 : mp_V R_law 64 yM_soonest bM_soonest 5 (some .int) 3 := ⟨wq_320, wq_321, wq_322, wq_37, wq_323, ⟨by decide, by decide, by decide +kernel⟩⟩
set_option maxRecDepth 20000 in
theorem wq_553 : Cond.methodLink "MovingPlacesLaw" 68 yR_soonest ∈ wT := wT_in 553 rfl rfl
set_option maxRecDepth 20000 in
theorem wq_554 : Cond.instanceMethod yR_soonest ∈ wT := wT_in 554 rfl rfl
set_option maxRecDepth 20000 in
theorem wq_555 : Cond.selects rR yR_soonest yR_soonest ∈ wT := wT_in 555 rfl rfl
set_option maxRecDepth 20000 in
theorem wq_556 : Cond.code yR_soonest bR_soonest 5 (some .int) ∈ wT := wT_in 556 rfl rfl
theorem kV_L_68 : mp_V R_law 68 yR_soonest bR_soonest 5 (some .int) 3 := ⟨wq_553, wq_554, wq_555, wq_39, wq_556, ⟨by decide, by decide, by decide +kernel⟩⟩
theorem wq_332 : Cond.methodLink "MovingPlacesLaw" 69 yM_said ∈ wT := wT_in 332 rfl rfl
theorem wq_333 : Cond.instanceMethod yM_said ∈ wT := wT_in 333 rfl rfl
theorem wq_334 : Cond.selects rM yM_said yM_said ∈ wT := wT_in 334 rfl rfl
theorem wq_335 : Cond.code yM_said bM_said 1 (some .int) ∈ wT := wT_in 335 rfl rfl
theorem kV_L_69 : mp_V R_law 69 yM_said bM_said 1 (some .int) 0 := ⟨wq_332, wq_333, wq_334, wq_37, wq_335, ⟨by decide, by decide, by decide +kernel⟩⟩
set_option maxRecDepth 20000 in
theorem wq_561 : Cond.methodLink "MovingPlacesLaw" 72 yR_said ∈ wT := wT_in 561 rfl rfl
set_option maxRecDepth 20000 in
theorem wq_562 : Cond.instanceMethod yR_said ∈ wT := wT_in 562 rfl rfl
set_option maxRecDepth 20000 in
theorem wq_563 : Cond.selects rR yR_said yR_said ∈ wT := wT_in 563 rfl rfl
set_option maxRecDepth 20000 in
theorem wq_564 : Cond.code yR_said bR_said 1 (some .int) ∈ wT := wT_in 564 rfl rfl
theorem kV_L_72 : mp_V R_law 72 yR_said bR_said 1 (some .int) 0 := ⟨wq_561, wq_562, wq_563, wq_39, wq_564, ⟨by decide, by decide, by decide +kernel⟩⟩
theorem wq_349 : Cond.methodLink "MovingPlacesLaw" 73 yM_moves ∈ wT := wT_in 349 rfl rfl
theorem wq_350 : Cond.instanceMethod yM_moves ∈ wT := wT_in 350 rfl rfl
theorem wq_351 : Cond.selects rM yM_moves yM_moves ∈ wT := wT_in 351 rfl rfl
theorem wq_352 : Cond.code yM_moves bM_moves 1 (some .int) ∈ wT := wT_in 352 rfl rfl
theorem kV_L_73 : mp_V R_law 73 yM_moves bM_moves 1 (some .int) 0 := ⟨wq_349, wq_350, wq_351, wq_37, wq_352, ⟨by decide, by decide, by decide +kernel⟩⟩
set_option maxRecDepth 20000 in
theorem wq_569 : Cond.methodLink "MovingPlacesLaw" 76 yR_moves ∈ wT := wT_in 569 rfl rfl
set_option maxRecDepth 20000 in
theorem wq_570 : Cond.instanceMethod yR_moves ∈ wT := wT_in 570 rfl rfl
set_option maxRecDepth 20000 in
theorem wq_571 : Cond.selects rR yR_moves yR_moves ∈ wT := wT_in 571 rfl rfl
set_option maxRecDepth 20000 in
theorem wq_572 : Cond.code yR_moves bR_moves 7 (some .int) ∈ wT := wT_in 572 rfl rfl
theorem kV_L_76 : mp_V R_law 76 yR_moves bR_moves 7 (some .int) 0 := ⟨wq_569, wq_570, wq_571, wq_39, wq_572, ⟨by decide, by decide, by decide +kernel⟩⟩
theorem wq_366 : Cond.methodLink "MovingPlacesLaw" 77 yM_keep ∈ wT := wT_in 366 rfl rfl
theorem wq_367 : Cond.instanceMethod yM_keep ∈ wT := wT_in 367 rfl rfl
theorem wq_368 : Cond.selects rM yM_keep yM_keep ∈ wT := wT_in 368 rfl rfl
theorem wq_369 : Cond.code yM_keep bM_keep 1 (some .int) ∈ wT := wT_in 369 rfl rfl
theorem kV_L_77 : mp_V R_law 77 yM_keep bM_keep 1 (some .int) 0 := ⟨wq_366, wq_367, wq_368, wq_37, wq_369, ⟨by decide, by decide, by decide +kernel⟩⟩
set_option maxRecDepth 20000 in
theorem wq_576 : Cond.methodLink "MovingPlacesLaw" 80 yR_keep ∈ wT := wT_in 576 rfl rfl
set_option maxRecDepth 20000 in
theorem wq_577 : Cond.instanceMethod yR_keep ∈ wT := wT_in 577 rfl rfl
set_option maxRecDepth 20000 in
theorem wq_578 : Cond.selects rR yR_keep yR_keep ∈ wT := wT_in 578 rfl rfl
set_option maxRecDepth 20000 in
theorem wq_579 : Cond.code yR_keep bR_keep 2 (some .int) ∈ wT := wT_in 579 rfl rfl
theorem kV_L_80 : mp_V R_law 80 yR_keep bR_keep 2 (some .int) 0 := ⟨wq_576, wq_577, wq_578, wq_39, wq_579, ⟨by decide, by decide, by decide +kernel⟩⟩
theorem wq_370 : Cond.methodLink "MovingPlacesLaw" 81 yM_restore ∈ wT := wT_in 370 rfl rfl
theorem wq_371 : Cond.instanceMethod yM_restore ∈ wT := wT_in 371 rfl rfl
theorem wq_372 : Cond.selects rM yM_restore yM_restore ∈ wT := wT_in 372 rfl rfl
theorem wq_373 : Cond.code yM_restore bM_restore 1 (some .int) ∈ wT := wT_in 373 rfl rfl
theorem kV_L_81 : mp_V R_law 81 yM_restore bM_restore 1 (some .int) 0 := ⟨wq_370, wq_371, wq_372, wq_37, wq_373, ⟨by decide, by decide, by decide +kernel⟩⟩
set_option maxRecDepth 20000 in
theorem wq_580 : Cond.methodLink "MovingPlacesLaw" 84 yR_restore ∈ wT := wT_in 580 rfl rfl
set_option maxRecDepth 20000 in
theorem wq_581 : Cond.instanceMethod yR_restore ∈ wT := wT_in 581 rfl rfl
set_option maxRecDepth 20000 in
theorem wq_582 : Cond.selects rR yR_restore yR_restore ∈ wT := wT_in 582 rfl rfl
set_option maxRecDepth 20000 in
theorem wq_583 : Cond.code yR_restore bR_restore 2 (some .int) ∈ wT := wT_in 583 rfl rfl
theorem kV_L_84 : mp_V R_law 84 yR_restore bR_restore 2 (some .int) 0 := ⟨wq_580, wq_581, wq_582, wq_39, wq_583, ⟨by decide, by decide, by decide +kernel⟩⟩
theorem wq_374 : Cond.methodLink "MovingPlacesLaw" 85 yM_many ∈ wT := wT_in 374 rfl rfl
theorem wq_375 : Cond.instanceMethod yM_many ∈ wT := wT_in 375 rfl rfl
theorem wq_376 : Cond.selects rM yM_many yM_many ∈ wT := wT_in 376 rfl rfl
theorem wq_377 : Cond.code yM_many bM_many 2 (some .int) ∈ wT := wT_in 377 rfl rfl
theorem kV_L_85 : mp_V R_law 85 yM_many bM_many 2 (some .int) 1 := ⟨wq_374, wq_375, wq_376, wq_37, wq_377, ⟨by decide, by decide, by decide +kernel⟩⟩
set_option maxRecDepth 20000 in
theorem wq_584 : Cond.methodLink "MovingPlacesLaw" 88 yR_many ∈ wT := wT_in 584 rfl rfl
set_option maxRecDepth 20000 in
theorem wq_585 : Cond.instanceMethod yR_many ∈ wT := wT_in 585 rfl rfl
set_option maxRecDepth 20000 in
theorem wq_586 : Cond.selects rR yR_many yR_many ∈ wT := wT_in 586 rfl rfl
set_option maxRecDepth 20000 in
theorem wq_587 : Cond.code yR_many bR_many 2 (some .int) ∈ wT := wT_in 587 rfl rfl
theorem kV_L_88 : mp_V R_law 88 yR_many bR_many 2 (some .int) 1 := ⟨wq_584, wq_585, wq_586, wq_39, wq_587, ⟨by decide, by decide, by decide +kernel⟩⟩
theorem wq_42 : Cond.classLink "MovingPlacesLaw" 7 rM ∈ wT := wT_in 42 rfl rfl
theorem wq_395 : Cond.classLink "MovingPlacesLaw" 10 rR ∈ wT := wT_in 395 rfl rfl
theorem wq_43 : Cond.instantiable rM 5 ∈ wT := wT_in 43 rfl rfl
theorem wq_396 : Cond.instantiable rR 5 ∈ wT := wT_in 396 rfl rfl
theorem wq_44 : Cond.methodLink "MovingPlacesLaw" 9 yM_init ∈ wT := wT_in 44 rfl rfl
theorem wq_397 : Cond.methodLink "MovingPlacesLaw" 12 yR_init ∈ wT := wT_in 397 rfl rfl
theorem wq_45 : Cond.instanceMethod yM_init ∈ wT := wT_in 45 rfl rfl
theorem wq_398 : Cond.instanceMethod yR_init ∈ wT := wT_in 398 rfl rfl
theorem wq_46 : Cond.code yM_init bM_init 1 none ∈ wT := wT_in 46 rfl rfl
theorem wq_399 : Cond.code yR_init bR_init 1 none ∈ wT := wT_in 399 rfl rfl
