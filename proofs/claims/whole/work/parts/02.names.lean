/-! ===== states and cells ===== -/
abbrev SW : Type := Int32 × Int32 × Int32 × (Nat → Int32) × (Nat → Int32) × (Nat → Int32) × Int32 × (Nat → Int32) × (Nat → Int64) × (Nat → Int32) × (Nat → Int32) × (Nat → Int32)
abbrev SM : Type := SW × SW × Int32 × SW × SW × SW × (Nat → Int32)
abbrev SR : Type := (Nat → Int32) × (Nat → Int32) × (Nat → Int32) × Int32 × (Nat → Int32)
abbrev cW (k : KK) (ad : Nat → Nat) (w : SW) : va_W := [(ad 0, .inr (0, [.int w.1, .int w.2.1, .int w.2.2.1, .ref (ad 1), .ref (ad 2), .ref (ad 3), .int w.2.2.2.2.2.2.1, .ref (ad 4), .ref (ad 5), .ref (ad 6), .ref (ad 7), .ref (ad 8)])),
  (ad 1, .inl (kI k, 12, .inl w.2.2.2.1)), (ad 2, .inl (kI k, 12, .inl w.2.2.2.2.1)), (ad 3, .inl (kI k, 72, .inl w.2.2.2.2.2.1)), (ad 4, .inl (kI k, 12, .inl w.2.2.2.2.2.2.2.1)), (ad 5, .inl (kL k, 12, .inr (.inl w.2.2.2.2.2.2.2.2.1))),
  (ad 6, .inl (kI k, 12, .inl w.2.2.2.2.2.2.2.2.2.1)), (ad 7, .inl (kI k, 12, .inl w.2.2.2.2.2.2.2.2.2.2.1)), (ad 8, .inl (kI k, 12, .inl w.2.2.2.2.2.2.2.2.2.2.2))]
abbrev aW (ad : Nat → Nat) : List Nat := [ad 0, ad 1, ad 2, ad 3, ad 4, ad 5, ad 6, ad 7, ad 8]
abbrev cR (k : KK) (ad : Nat → Nat) (g : SR) : va_W := [(ad 0, .inr (2, [.ref (ad 1), .ref (ad 2), .ref (ad 3), .int g.2.2.2.1, .ref (ad 4)])),
  (ad 1, .inl (kI k, 231, .inl g.1)), (ad 2, .inl (kI k, 231, .inl g.2.1)), (ad 3, .inl (kI k, 693, .inl g.2.2.1)), (ad 4, .inl (kI k, 3, .inl g.2.2.2.2))]
abbrev aR (ad : Nat → Nat) : List Nat := [ad 0, ad 1, ad 2, ad 3, ad 4]
def mp_tr (ad : Nat → Nat) : Nat → Option Nat := va_up (va_up (va_up (fun _ => none) 0 (some (ad 20))) 1 (some (ad 29))) 2 (some (ad 38))
abbrev cM (k : KK) (ad : Nat → Nat) (S : SM) : va_W := [(ad 0, .inr (1, [.ref (ad 1), .ref (ad 10), .int S.2.2.1, .ref (ad 19), .ref (ad 47)]))] ++ cW k (fun i => ad (i + 1)) S.1 ++ cW k (fun i => ad (i + 10)) S.2.1 ++ [(ad 19, .inl (kO k, 3, .inr (.inr (.inr (.inr (mp_tr ad))))))] ++ cW k (fun i => ad (i + 20)) S.2.2.2.1 ++ cW k (fun i => ad (i + 29)) S.2.2.2.2.1 ++ cW k (fun i => ad (i + 38)) S.2.2.2.2.2.1 ++ [(ad 47, .inl (kI k, 3, .inl S.2.2.2.2.2.2))]
abbrev aM (ad : Nat → Nat) : List Nat := (cM (0, fun _ => 0, fun _ _ => 0, 0, 0, 0) ad ((0, 0, 0, fun _ => 0, fun _ => 0, fun _ => 0, 0, fun _ => 0, fun _ => 0, fun _ => 0, fun _ => 0, fun _ => 0), (0, 0, 0, fun _ => 0, fun _ => 0, fun _ => 0, 0, fun _ => 0, fun _ => 0, fun _ => 0, fun _ => 0, fun _ => 0), 0, (0, 0, 0, fun _ => 0, fun _ => 0, fun _ => 0, 0, fun _ => 0, fun _ => 0, fun _ => 0, fun _ => 0, fun _ => 0), (0, 0, 0, fun _ => 0, fun _ => 0, fun _ => 0, 0, fun _ => 0, fun _ => 0, fun _ => 0, fun _ => 0, fun _ => 0), (0, 0, 0, fun _ => 0, fun _ => 0, fun _ => 0, 0, fun _ => 0, fun _ => 0, fun _ => 0, fun _ => 0, fun _ => 0), fun _ => 0)).map (fun q => q.1)
/-- a value gets a name -/
def mp_lt {α β : Type} (a : α) (K : α → Option β) : Option β := K a
theorem mp_lts {α β : Type} {a : α} {K : α → Option β} {z : β} (h : mp_lt a K = some z) : ∃ x, x = a ∧ K x = some z := ⟨a, rfl, h⟩
def mp_nzl {β : Type} (d : Int64) (K : Option β) : Option β := if d = 0 then none else K
theorem mp_nzls {β : Type} {d : Int64} {K : Option β} {z : β} (h : mp_nzl d K = some z) : ¬ d = 0 ∧ K = some z := by
  unfold mp_nzl at h
  by_cases hi : d = 0
  · rw [if_pos hi] at h; cases h
  · rw [if_neg hi] at h; exact ⟨hi, h⟩
theorem mp_ne {x n : Int32} (h : ¬ x = n) : x.toInt ≠ n.toInt := fun e => h (Int32.toInt_inj.mp e)
section MPQ
variable {p : Program} {l : Launch} {e : Env} {R : Room} {s : State} {m : MethodId} {args : Array Value} {below : List Frame} {meth : Method} {c : Code} {H : Heap} {locs : List Loc} {cells slots : Nat} {Q : State → Prop}
variable {cc : ByteArray} {nL : Nat} {ret : Option FieldType} {own : String} {k : KK} {pc : Nat} {ls : Array Slot} {rest st : List Value} {ws ws' : va_W} {a : Nat}
theorem mp_top {x y : Int32} (e1 : x = y) (kk : W p l e R s m args below meth c H locs cells slots Q (F0 m pc ls (.int x :: rest))) : W p l e R s m args below meth c H locs cells slots Q (F0 m pc ls (.int y :: rest)) := e1 ▸ kk
theorem mp_topl {x y : Int64} (e1 : x = y) (kk : W p l e R s m args below meth c H locs cells slots Q (F0 m pc ls (.long x :: rest))) : W p l e R s m args below meth c H locs cells slots Q (F0 m pc ls (.long y :: rest)) := e1 ▸ kk
theorem mp_si {z : Int32} {av : Array Value} (hr : va_Run p l e R s m args below meth c H locs cells slots 0 0 (F0 m pc ls st) rest (mp_Qs (some (.int z)) av) (fun _ => False)) (kk : W p l e R s m args below meth c H locs cells slots Q (F0 m (pc + 3) ls (.int z :: rest))) : W p l e R s m args below meth c H locs cells slots Q (F0 m pc ls st) := mp_callS hr kk
theorem mp_mi {z : Int32} {av : Array Value} {as : List Nat} {A : Nat → Prop} {H0 : Heap} (hr : va_Run p l e R s m args below meth c H locs cells slots 0 0 (F0 m pc ls st) rest (mp_Qm k (some (.int z)) ws' as av) (mp_A as)) (hS : va_S A H0 H locs) (hA : ∀ q, mp_A as q → A q)
    (kk : ∀ (H1 : Heap) (locs1 : List Loc), va_P (kD k) mp_cls ws' H1 → (∀ q : Nat, q < H.size → ¬ mp_A as q → H1[q]? = H[q]?) → va_S A H0 H1 locs1 → W p l e R s m args below meth c H1 locs1 cells slots Q (F0 m (pc + 3) ls (.int z :: rest))) : W p l e R s m args below meth c H locs cells slots Q (F0 m pc ls st) := mp_callM hr hS hA kk
theorem mp_mv {av : Array Value} {as : List Nat} {A : Nat → Prop} {H0 : Heap} (hr : va_Run p l e R s m args below meth c H locs cells slots 0 0 (F0 m pc ls st) rest (mp_Qm k none ws' as av) (mp_A as)) (hS : va_S A H0 H locs) (hA : ∀ q, mp_A as q → A q)
    (kk : ∀ (H1 : Heap) (locs1 : List Loc), va_P (kD k) mp_cls ws' H1 → (∀ q : Nat, q < H.size → ¬ mp_A as q → H1[q]? = H[q]?) → va_S A H0 H1 locs1 → W p l e R s m args below meth c H1 locs1 cells slots Q (F0 m (pc + 3) ls rest)) : W p l e R s m args below meth c H locs cells slots Q (F0 m pc ls st) := mp_callM hr hS hA kk
variable {y : MethodName} {bytes : ByteArray} {maxL idx : Nat} {ry : Option FieldType} {rm : Room} {As : List Value} {b : Nat}
/-- a private static method of the class around -/
theorem mp_runN {host : String} {Qc : Array Value → State → Outcome → State → Prop} {free : Addr → Prop} (cx : mp_C p s m args meth c cc nL ret own) (hl : va_Nw (.methodLinkNest own idx y host) s) (hV : Cond.static y ∈ wT ∧ Cond.initialized y.cls ∈ wT ∧ Cond.code y bytes maxL ry ∈ wT ∧ (y.cls ≠ "java/lang/invoke/MethodHandle" ∧ y.cls ≠ "java/lang/invoke/VarHandle" ∧ (parseMethodDescriptor y.desc).map (fun d => d.parameters.length) = some As.length)) (hM : Met l y (Cond.code y bytes maxL ry :: wT) rm (va_Pc As (mp_P k ws)) Qc 0 0 free) (hR : rm.cells = 0 ∧ rm.slots = 0 ∧ rm.frames + 1 ≤ R.frames ∧ 8 + (maxL + 11) + rm.locals ≤ R.locals) (hf : cells ≤ R.cells ∧ slots ≤ R.slots) (hE : mp_E k s) (hP : va_P (kD k) mp_cls ws H) (hD : va_D (mp_N k) ws) (hS : va_S (mp_N k) s.heap H locs)
    (hsz : ls.size = nL) (hst : st = As.reverse ++ rest) (hrm : (rest.map fun v => v.category).sum ≤ 8) (hdg : decode cc pc = .ok (.invokestatic idx, 3)) :
    va_Run p l e R s m args below meth c H locs cells slots 0 0 (F0 m pc ls st) rest (Qc As.toArray) free := by
  obtain ⟨hx, hb, hr, hml, hown, hts, hlocks⟩ := cx
  obtain ⟨v2, v3, v4, v5⟩ := hV
  exact va_runSN ⟨hx, hb, hml, hown, hts⟩ hM ⟨va_cnB As.length hts (wT_gd v4) rfl hR.1 hR.2.1 hl (hts _ v3) v5 ⟨hR.2.2.1, hR.2.2.2⟩, hts _ v2, trivial⟩ ⟨mp_blind, fun U hU hW => ⟨rfl, by rw [hU]; exact hP, hD, hE.at hS hU hW⟩⟩ rfl rfl hsz hst (lv_room hrm) hdg hf
end MPQ
theorem iW : ∀ w ∈ u_ws rW tW 12, w ∈ wT := wT_by [68, 70, 72, 74, 76, 78, 80, 82, 84, 86, 88, 90] rfl rfl
theorem iM : ∀ w ∈ u_ws rM tM 5, w ∈ wT := wT_by [101, 103, 105, 107, 109] rfl rfl
theorem iR : ∀ w ∈ u_ws rR tR 5, w ∈ wT := wT_by [406, 408, 410, 412, 414] rfl rfl
abbrev bW_init : ByteArray := prog_2_method_1_code
def yW_init : MethodName := ⟨rW, "<init>", "()V"⟩
abbrev bW_become : ByteArray := prog_2_method_2_code
def yW_become : MethodName := ⟨rW, "become", "(LMovingPlaces$World;)V"⟩
abbrev bW_isPlace : ByteArray := prog_2_method_3_code
def yW_isPlace : MethodName := ⟨rW, "isPlace", "(I)Z"⟩
abbrev bW_addPlace : ByteArray := prog_2_method_4_code
def yW_addPlace : MethodName := ⟨rW, "addPlace", "(II)I"⟩
abbrev bW_nameOf : ByteArray := prog_2_method_5_code
def yW_nameOf : MethodName := ⟨rW, "nameOf", "(I)I"⟩
abbrev bW_placeAround : ByteArray := prog_2_method_6_code
def yW_placeAround : MethodName := ⟨rW, "placeAround", "(I)I"⟩
abbrev bW_isSealed : ByteArray := prog_2_method_7_code
def yW_isSealed : MethodName := ⟨rW, "isSealed", "(I)Z"⟩
abbrev bW_turnSeal : ByteArray := prog_2_method_8_code
def yW_turnSeal : MethodName := ⟨rW, "turnSeal", "(I)V"⟩
abbrev bW_messagesOf : ByteArray := prog_2_method_9_code
def yW_messagesOf : MethodName := ⟨rW, "messagesOf", "(II)I"⟩
abbrev bW_addMessages : ByteArray := prog_2_method_10_code
def yW_addMessages : MethodName := ⟨rW, "addMessages", "(III)V"⟩
abbrev bW_placesIn : ByteArray := prog_2_method_11_code
def yW_placesIn : MethodName := ⟨rW, "placesIn", "(I)I"⟩
abbrev bW_threadsIn : ByteArray := prog_2_method_12_code
def yW_threadsIn : MethodName := ⟨rW, "threadsIn", "(I)I"⟩
abbrev bW_depthOf : ByteArray := prog_2_method_13_code
def yW_depthOf : MethodName := ⟨rW, "depthOf", "(I)I"⟩
abbrev bW_isWithin : ByteArray := prog_2_method_14_code
def yW_isWithin : MethodName := ⟨rW, "isWithin", "(II)Z"⟩
abbrev bW_placesThatAre : ByteArray := prog_2_method_15_code
def yW_placesThatAre : MethodName := ⟨rW, "placesThatAre", "()I"⟩
abbrev bW_placesInAll : ByteArray := prog_2_method_16_code
def yW_placesInAll : MethodName := ⟨rW, "placesInAll", "()I"⟩
abbrev bW_messagesInAll : ByteArray := prog_2_method_17_code
def yW_messagesInAll : MethodName := ⟨rW, "messagesInAll", "()I"⟩
abbrev bW_isThread : ByteArray := prog_2_method_18_code
def yW_isThread : MethodName := ⟨rW, "isThread", "(I)Z"⟩
abbrev bW_addThread : ByteArray := prog_2_method_19_code
def yW_addThread : MethodName := ⟨rW, "addThread", "(IJI)I"⟩
abbrev bW_placeOfThread : ByteArray := prog_2_method_20_code
def yW_placeOfThread : MethodName := ⟨rW, "placeOfThread", "(I)I"⟩
abbrev bW_actsDone : ByteArray := prog_2_method_21_code
def yW_actsDone : MethodName := ⟨rW, "actsDone", "(I)I"⟩
abbrev bW_actsInAll : ByteArray := prog_2_method_22_code
def yW_actsInAll : MethodName := ⟨rW, "actsInAll", "(I)I"⟩
abbrev bW_heardBy : ByteArray := prog_2_method_23_code
def yW_heardBy : MethodName := ⟨rW, "heardBy", "(I)I"⟩
abbrev bW_isOver : ByteArray := prog_2_method_24_code
def yW_isOver : MethodName := ⟨rW, "isOver", "(I)Z"⟩
abbrev bW_actOf : ByteArray := prog_2_method_25_code
def yW_actOf : MethodName := ⟨rW, "actOf", "(II)I"⟩
abbrev bW_threadsInAll : ByteArray := prog_2_method_26_code
def yW_threadsInAll : MethodName := ⟨rW, "threadsInAll", "()I"⟩
abbrev bW_threadsOver : ByteArray := prog_2_method_27_code
def yW_threadsOver : MethodName := ⟨rW, "threadsOver", "()I"⟩
abbrev bW_threadsThatCan : ByteArray := prog_2_method_28_code
def yW_threadsThatCan : MethodName := ⟨rW, "threadsThatCan", "()I"⟩
abbrev bW_aimOf : ByteArray := prog_2_method_29_code
def yW_aimOf : MethodName := ⟨rW, "aimOf", "(I)I"⟩
abbrev bW_leastUnsealed : ByteArray := prog_2_method_30_code
def yW_leastUnsealed : MethodName := ⟨rW, "leastUnsealed", "(III)I"⟩
abbrev bW_unsealedAround : ByteArray := prog_2_method_31_code
def yW_unsealedAround : MethodName := ⟨rW, "unsealedAround", "(II)I"⟩
abbrev bW_leastMessage : ByteArray := prog_2_method_32_code
def yW_leastMessage : MethodName := ⟨rW, "leastMessage", "(I)I"⟩
abbrev bW_doNextAct : ByteArray := prog_2_method_33_code
def yW_doNextAct : MethodName := ⟨rW, "doNextAct", "(I)I"⟩
abbrev bW_putInto : ByteArray := prog_2_method_34_code
def yW_putInto : MethodName := ⟨rW, "putInto", "(II)V"⟩
abbrev bW_dissolve : ByteArray := prog_2_method_35_code
def yW_dissolve : MethodName := ⟨rW, "dissolve", "(II)V"⟩
abbrev bW_doRound : ByteArray := prog_2_method_36_code
def yW_doRound : MethodName := ⟨rW, "doRound", "()I"⟩
abbrev bW_namesThatMayBeSaid : ByteArray := prog_2_method_37_code
def yW_namesThatMayBeSaid : MethodName := ⟨rW, "namesThatMayBeSaid", "()I"⟩
abbrev bW_hasMessageAnywhere : ByteArray := prog_2_method_38_code
def yW_hasMessageAnywhere : MethodName := ⟨rW, "hasMessageAnywhere", "(I)Z"⟩
abbrev bW_namesFromThread : ByteArray := prog_2_method_39_code
def yW_namesFromThread : MethodName := ⟨rW, "namesFromThread", "(I)I"⟩
abbrev bW_namesThatMove : ByteArray := prog_2_method_40_code
def yW_namesThatMove : MethodName := ⟨rW, "namesThatMove", "()I"⟩
abbrev bW_namesMovedFrom : ByteArray := prog_2_method_41_code
def yW_namesMovedFrom : MethodName := ⟨rW, "namesMovedFrom", "(II)I"⟩
abbrev bW_bringsMotion : ByteArray := prog_2_method_42_code
def yW_bringsMotion : MethodName := ⟨rW, "bringsMotion", "(III)Z"⟩
abbrev bM_init : ByteArray := prog_1_method_1_code
def yM_init : MethodName := ⟨rM, "<init>", "()V"⟩
abbrev bM_place : ByteArray := prog_1_method_2_code
def yM_place : MethodName := ⟨rM, "place", "(II)I"⟩
abbrev bM_thread : ByteArray := prog_1_method_3_code
def yM_thread : MethodName := ⟨rM, "thread", "(IJ)I"⟩
abbrev bM_seal : ByteArray := prog_1_method_4_code
def yM_seal : MethodName := ⟨rM, "seal", "(IZ)I"⟩
abbrev bM_message : ByteArray := prog_1_method_5_code
def yM_message : MethodName := ⟨rM, "message", "(II)I"⟩
abbrev bM_ofPlace : ByteArray := prog_1_method_6_code
def yM_ofPlace : MethodName := ⟨rM, "ofPlace", "(II)I"⟩
abbrev bM_ofThread : ByteArray := prog_1_method_7_code
def yM_ofThread : MethodName := ⟨rM, "ofThread", "(II)I"⟩
abbrev bM_within : ByteArray := prog_1_method_8_code
def yM_within : MethodName := ⟨rM, "within", "(II)I"⟩
abbrev bM_can : ByteArray := prog_1_method_9_code
def yM_can : MethodName := ⟨rM, "can", "()I"⟩
abbrev bM_act : ByteArray := prog_1_method_10_code
def yM_act : MethodName := ⟨rM, "act", "(I)I"⟩
abbrev bM_rounds : ByteArray := prog_1_method_11_code
def yM_rounds : MethodName := ⟨rM, "rounds", "(I)I"⟩
abbrev bM_rows : ByteArray := prog_1_method_12_code
def yM_rows : MethodName := ⟨rM, "rows", "(I)I"⟩
abbrev bM_soonest : ByteArray := prog_1_method_13_code
def yM_soonest : MethodName := ⟨rM, "soonest", "(III)I"⟩
abbrev bM_said : ByteArray := prog_1_method_14_code
def yM_said : MethodName := ⟨rM, "said", "()I"⟩
abbrev bM_moves : ByteArray := prog_1_method_15_code
def yM_moves : MethodName := ⟨rM, "moves", "()I"⟩
abbrev bM_keep : ByteArray := prog_1_method_16_code
def yM_keep : MethodName := ⟨rM, "keep", "()I"⟩
abbrev bM_restore : ByteArray := prog_1_method_17_code
def yM_restore : MethodName := ⟨rM, "restore", "()I"⟩
abbrev bM_many : ByteArray := prog_1_method_18_code
def yM_many : MethodName := ⟨rM, "many", "(I)I"⟩
abbrev bM_countRows : ByteArray := prog_1_method_19_code
def yM_countRows : MethodName := ⟨rM, "countRows", "(LMovingPlaces$World;II)I"⟩
abbrev bM_threadInRow : ByteArray := prog_1_method_20_code
def yM_threadInRow : MethodName := ⟨rM, "threadInRow", "(II)I"⟩
abbrev bM_findRow : ByteArray := prog_1_method_21_code
def yM_findRow : MethodName := ⟨rM, "findRow", "(LMovingPlaces$World;IIII)Z"⟩
abbrev bM_isName : ByteArray := prog_1_method_22_code
def yM_isName : MethodName := ⟨rM, "isName", "(I)Z"⟩
abbrev bM_countActs : ByteArray := prog_1_method_23_code
def yM_countActs : MethodName := ⟨rM, "countActs", "(J)I"⟩
abbrev bM_isAct : ByteArray := prog_1_method_24_code
def yM_isAct : MethodName := ⟨rM, "isAct", "(I)Z"⟩
abbrev bR_init : ByteArray := prog_4_method_1_code
def yR_init : MethodName := ⟨rR, "<init>", "()V"⟩
abbrev bR_between : ByteArray := prog_4_method_2_code
def yR_between : MethodName := ⟨rR, "between", "(III)Z"⟩
abbrev bR_has : ByteArray := prog_4_method_3_code
def yR_has : MethodName := ⟨rR, "has", "(II)Z"⟩
abbrev bR_isPlace : ByteArray := prog_4_method_4_code
def yR_isPlace : MethodName := ⟨rR, "isPlace", "(I)Z"⟩
abbrev bR_isThread : ByteArray := prog_4_method_5_code
def yR_isThread : MethodName := ⟨rR, "isThread", "(I)Z"⟩
abbrev bR_isName : ByteArray := prog_4_method_6_code
def yR_isName : MethodName := ⟨rR, "isName", "(I)Z"⟩
abbrev bR_place : ByteArray := prog_4_method_7_code
def yR_place : MethodName := ⟨rR, "place", "(II)I"⟩
abbrev bR_isAct : ByteArray := prog_4_method_8_code
def yR_isAct : MethodName := ⟨rR, "isAct", "(I)Z"⟩
abbrev bR_actsIn : ByteArray := prog_4_method_9_code
def yR_actsIn : MethodName := ⟨rR, "actsIn", "(J)I"⟩
abbrev bR_thread : ByteArray := prog_4_method_10_code
def yR_thread : MethodName := ⟨rR, "thread", "(IJ)I"⟩
abbrev bR_seal : ByteArray := prog_4_method_11_code
def yR_seal : MethodName := ⟨rR, "seal", "(IZ)I"⟩
abbrev bR_message : ByteArray := prog_4_method_12_code
def yR_message : MethodName := ⟨rR, "message", "(II)I"⟩
abbrev bR_placesIn : ByteArray := prog_4_method_13_code
def yR_placesIn : MethodName := ⟨rR, "placesIn", "(I)I"⟩
abbrev bR_threadsIn : ByteArray := prog_4_method_14_code
def yR_threadsIn : MethodName := ⟨rR, "threadsIn", "(I)I"⟩
abbrev bR_deepOf : ByteArray := prog_4_method_15_code
def yR_deepOf : MethodName := ⟨rR, "deepOf", "(I)I"⟩
abbrev bR_ofPlace : ByteArray := prog_4_method_16_code
def yR_ofPlace : MethodName := ⟨rR, "ofPlace", "(II)I"⟩
abbrev bR_isOver : ByteArray := prog_4_method_17_code
def yR_isOver : MethodName := ⟨rR, "isOver", "(I)Z"⟩
abbrev bR_nextOf : ByteArray := prog_4_method_18_code
def yR_nextOf : MethodName := ⟨rR, "nextOf", "(I)I"⟩
abbrev bR_ofThread : ByteArray := prog_4_method_19_code
def yR_ofThread : MethodName := ⟨rR, "ofThread", "(II)I"⟩
abbrev bR_isWithin : ByteArray := prog_4_method_20_code
def yR_isWithin : MethodName := ⟨rR, "isWithin", "(II)Z"⟩
abbrev bR_within : ByteArray := prog_4_method_21_code
def yR_within : MethodName := ⟨rR, "within", "(II)I"⟩
abbrev bR_leastIn : ByteArray := prog_4_method_22_code
def yR_leastIn : MethodName := ⟨rR, "leastIn", "(III)I"⟩
abbrev bR_leastMessage : ByteArray := prog_4_method_23_code
def yR_leastMessage : MethodName := ⟨rR, "leastMessage", "(I)I"⟩
abbrev bR_nameOf : ByteArray := prog_4_method_24_code
def yR_nameOf : MethodName := ⟨rR, "nameOf", "(I)I"⟩
abbrev bR_doneWith : ByteArray := prog_4_method_25_code
def yR_doneWith : MethodName := ⟨rR, "doneWith", "(I)I"⟩
abbrev bR_opens : ByteArray := prog_4_method_26_code
def yR_opens : MethodName := ⟨rR, "opens", "(II)V"⟩
abbrev bR_does : ByteArray := prog_4_method_27_code
def yR_does : MethodName := ⟨rR, "does", "(I)Z"⟩
abbrev bR_can : ByteArray := prog_4_method_28_code
def yR_can : MethodName := ⟨rR, "can", "()I"⟩
abbrev bR_act : ByteArray := prog_4_method_29_code
def yR_act : MethodName := ⟨rR, "act", "(I)I"⟩
abbrev bR_rounds : ByteArray := prog_4_method_30_code
def yR_rounds : MethodName := ⟨rR, "rounds", "(I)I"⟩
abbrev bR_keepsAt : ByteArray := prog_4_method_31_code
def yR_keepsAt : MethodName := ⟨rR, "keepsAt", "(I)V"⟩
abbrev bR_putsFrom : ByteArray := prog_4_method_32_code
def yR_putsFrom : MethodName := ⟨rR, "putsFrom", "(I)V"⟩
abbrev bR_threadAt : ByteArray := prog_4_method_33_code
def yR_threadAt : MethodName := ⟨rR, "threadAt", "(III)I"⟩
abbrev bR_actsRow : ByteArray := prog_4_method_34_code
def yR_actsRow : MethodName := ⟨rR, "actsRow", "(II)Z"⟩
abbrev bR_allRows : ByteArray := prog_4_method_35_code
def yR_allRows : MethodName := ⟨rR, "allRows", "(I)I"⟩
abbrev bR_rows : ByteArray := prog_4_method_36_code
def yR_rows : MethodName := ⟨rR, "rows", "(I)I"⟩
abbrev bR_findSoonest : ByteArray := prog_4_method_37_code
def yR_findSoonest : MethodName := ⟨rR, "findSoonest", "(II)I"⟩
abbrev bR_soonest : ByteArray := prog_4_method_38_code
def yR_soonest : MethodName := ⟨rR, "soonest", "(III)I"⟩
abbrev bR_saidNow : ByteArray := prog_4_method_39_code
def yR_saidNow : MethodName := ⟨rR, "saidNow", "()I"⟩
abbrev bR_said : ByteArray := prog_4_method_40_code
def yR_said : MethodName := ⟨rR, "said", "()I"⟩
abbrev bR_isMove : ByteArray := prog_4_method_41_code
def yR_isMove : MethodName := ⟨rR, "isMove", "(III)Z"⟩
abbrev bR_moves : ByteArray := prog_4_method_42_code
def yR_moves : MethodName := ⟨rR, "moves", "()I"⟩
abbrev bR_keep : ByteArray := prog_4_method_43_code
def yR_keep : MethodName := ⟨rR, "keep", "()I"⟩
abbrev bR_restore : ByteArray := prog_4_method_44_code
def yR_restore : MethodName := ⟨rR, "restore", "()I"⟩
abbrev bR_manyPlaces : ByteArray := prog_4_method_45_code
def yR_manyPlaces : MethodName := ⟨rR, "manyPlaces", "()I"⟩
abbrev bR_manyOver : ByteArray := prog_4_method_46_code
def yR_manyOver : MethodName := ⟨rR, "manyOver", "()I"⟩
abbrev bR_manyMessages : ByteArray := prog_4_method_47_code
def yR_manyMessages : MethodName := ⟨rR, "manyMessages", "()I"⟩
abbrev bR_many : ByteArray := prog_4_method_48_code
def yR_many : MethodName := ⟨rR, "many", "(I)I"⟩
abbrev bJ_bitCount : ByteArray := prog_5_method_49_code
def yJ_bitCount : MethodName := ⟨rJ, "bitCount", "(I)I"⟩
