-- ===== PART A: goes FIRST, ahead of the names: the tables' words, and 'selects' of the private methods out of them =====
/-- a private method of a class that the tables say can be made, by its rows of tables_1 -/
def lw_okq (q : MethodName × Nat) : Prop := (q.1.cls ≠ "java/lang/invoke/MethodHandle" ∧ q.1.cls ≠ "java/lang/invoke/VarHandle") ∧ Cond.instantiable q.1.cls q.2 ∈ tables_1 ∧ Cond.privateMethod q.1 ∈ tables_1 ∧ Cond.instanceMethod q.1 ∈ tables_1
theorem lw_p0 : lw_okq (⟨"MovingPlaces$World", "leastUnsealed", "(III)I"⟩, 12) := ⟨⟨by decide +kernel, by decide +kernel⟩, List.mem_of_getElem? (i := 15) (by decide +kernel), List.mem_of_getElem? (i := 218) (by decide +kernel), List.mem_of_getElem? (i := 219) (by decide +kernel)⟩
theorem lw_p1 : lw_okq (⟨"MovingPlaces$World", "unsealedAround", "(II)I"⟩, 12) := ⟨⟨by decide +kernel, by decide +kernel⟩, List.mem_of_getElem? (i := 15) (by decide +kernel), List.mem_of_getElem? (i := 222) (by decide +kernel), List.mem_of_getElem? (i := 223) (by decide +kernel)⟩
theorem lw_p2 : lw_okq (⟨"MovingPlaces$World", "leastMessage", "(I)I"⟩, 12) := ⟨⟨by decide +kernel, by decide +kernel⟩, List.mem_of_getElem? (i := 15) (by decide +kernel), List.mem_of_getElem? (i := 228) (by decide +kernel), List.mem_of_getElem? (i := 229) (by decide +kernel)⟩
theorem lw_p3 : lw_okq (⟨"MovingPlaces$World", "putInto", "(II)V"⟩, 12) := ⟨⟨by decide +kernel, by decide +kernel⟩, List.mem_of_getElem? (i := 15) (by decide +kernel), List.mem_of_getElem? (i := 241) (by decide +kernel), List.mem_of_getElem? (i := 242) (by decide +kernel)⟩
theorem lw_p4 : lw_okq (⟨"MovingPlaces$World", "dissolve", "(II)V"⟩, 12) := ⟨⟨by decide +kernel, by decide +kernel⟩, List.mem_of_getElem? (i := 15) (by decide +kernel), List.mem_of_getElem? (i := 245) (by decide +kernel), List.mem_of_getElem? (i := 246) (by decide +kernel)⟩
theorem lw_p5 : lw_okq (⟨"MovingPlaces", "countRows", "(LMovingPlaces$World;II)I"⟩, 5) := ⟨⟨by decide +kernel, by decide +kernel⟩, List.mem_of_getElem? (i := 7) (by decide +kernel), List.mem_of_getElem? (i := 263) (by decide +kernel), List.mem_of_getElem? (i := 264) (by decide +kernel)⟩
theorem lw_p6 : lw_okq (⟨"MovingPlaces", "findRow", "(LMovingPlaces$World;IIII)Z"⟩, 5) := ⟨⟨by decide +kernel, by decide +kernel⟩, List.mem_of_getElem? (i := 7) (by decide +kernel), List.mem_of_getElem? (i := 289) (by decide +kernel), List.mem_of_getElem? (i := 290) (by decide +kernel)⟩
theorem lw_p7 : lw_okq (⟨"MovingPlaces", "threadInRow", "(II)I"⟩, 5) := ⟨⟨by decide +kernel, by decide +kernel⟩, List.mem_of_getElem? (i := 7) (by decide +kernel), List.mem_of_getElem? (i := 293) (by decide +kernel), List.mem_of_getElem? (i := 294) (by decide +kernel)⟩
theorem lw_p8 : lw_okq (⟨"MovingPlaces$World", "hasMessageAnywhere", "(I)Z"⟩, 12) := ⟨⟨by decide +kernel, by decide +kernel⟩, List.mem_of_getElem? (i := 15) (by decide +kernel), List.mem_of_getElem? (i := 305) (by decide +kernel), List.mem_of_getElem? (i := 306) (by decide +kernel)⟩
theorem lw_p9 : lw_okq (⟨"MovingPlaces$World", "namesFromThread", "(I)I"⟩, 12) := ⟨⟨by decide +kernel, by decide +kernel⟩, List.mem_of_getElem? (i := 15) (by decide +kernel), List.mem_of_getElem? (i := 309) (by decide +kernel), List.mem_of_getElem? (i := 310) (by decide +kernel)⟩
theorem lw_p10 : lw_okq (⟨"MovingPlaces$World", "namesMovedFrom", "(II)I"⟩, 12) := ⟨⟨by decide +kernel, by decide +kernel⟩, List.mem_of_getElem? (i := 15) (by decide +kernel), List.mem_of_getElem? (i := 323) (by decide +kernel), List.mem_of_getElem? (i := 324) (by decide +kernel)⟩
theorem lw_p11 : lw_okq (⟨"MovingPlaces$World", "bringsMotion", "(III)Z"⟩, 12) := ⟨⟨by decide +kernel, by decide +kernel⟩, List.mem_of_getElem? (i := 15) (by decide +kernel), List.mem_of_getElem? (i := 327) (by decide +kernel), List.mem_of_getElem? (i := 328) (by decide +kernel)⟩
theorem lw_p12 : lw_okq (⟨"MovingPlacesModel", "isPlace", "(I)Z"⟩, 5) := ⟨⟨by decide +kernel, by decide +kernel⟩, List.mem_of_getElem? (i := 360) (by decide +kernel), List.mem_of_getElem? (i := 386) (by decide +kernel), List.mem_of_getElem? (i := 387) (by decide +kernel)⟩
theorem lw_p13 : lw_okq (⟨"MovingPlacesModel", "placesIn", "(I)I"⟩, 5) := ⟨⟨by decide +kernel, by decide +kernel⟩, List.mem_of_getElem? (i := 360) (by decide +kernel), List.mem_of_getElem? (i := 422) (by decide +kernel), List.mem_of_getElem? (i := 423) (by decide +kernel)⟩
theorem lw_p14 : lw_okq (⟨"MovingPlacesModel", "threadsIn", "(I)I"⟩, 5) := ⟨⟨by decide +kernel, by decide +kernel⟩, List.mem_of_getElem? (i := 360) (by decide +kernel), List.mem_of_getElem? (i := 426) (by decide +kernel), List.mem_of_getElem? (i := 427) (by decide +kernel)⟩
theorem lw_p15 : lw_okq (⟨"MovingPlacesModel", "deepOf", "(I)I"⟩, 5) := ⟨⟨by decide +kernel, by decide +kernel⟩, List.mem_of_getElem? (i := 360) (by decide +kernel), List.mem_of_getElem? (i := 430) (by decide +kernel), List.mem_of_getElem? (i := 431) (by decide +kernel)⟩
def lw_privs_1 : List (MethodName × Nat) := [(⟨"MovingPlaces$World", "leastUnsealed", "(III)I"⟩, 12), (⟨"MovingPlaces$World", "unsealedAround", "(II)I"⟩, 12), (⟨"MovingPlaces$World", "leastMessage", "(I)I"⟩, 12), (⟨"MovingPlaces$World", "putInto", "(II)V"⟩, 12), (⟨"MovingPlaces$World", "dissolve", "(II)V"⟩, 12), (⟨"MovingPlaces", "countRows", "(LMovingPlaces$World;II)I"⟩, 5), (⟨"MovingPlaces", "findRow", "(LMovingPlaces$World;IIII)Z"⟩, 5), (⟨"MovingPlaces", "threadInRow", "(II)I"⟩, 5), (⟨"MovingPlaces$World", "hasMessageAnywhere", "(I)Z"⟩, 12), (⟨"MovingPlaces$World", "namesFromThread", "(I)I"⟩, 12), (⟨"MovingPlaces$World", "namesMovedFrom", "(II)I"⟩, 12), (⟨"MovingPlaces$World", "bringsMotion", "(III)Z"⟩, 12), (⟨"MovingPlacesModel", "isPlace", "(I)Z"⟩, 5), (⟨"MovingPlacesModel", "placesIn", "(I)I"⟩, 5), (⟨"MovingPlacesModel", "threadsIn", "(I)I"⟩, 5), (⟨"MovingPlacesModel", "deepOf", "(I)I"⟩, 5)]
theorem lw_r1 : ∀ q ∈ lw_privs_1, lw_okq q := List.forall_mem_cons.mpr ⟨lw_p0, List.forall_mem_cons.mpr ⟨lw_p1, List.forall_mem_cons.mpr ⟨lw_p2, List.forall_mem_cons.mpr ⟨lw_p3, List.forall_mem_cons.mpr ⟨lw_p4, List.forall_mem_cons.mpr ⟨lw_p5, List.forall_mem_cons.mpr ⟨lw_p6, List.forall_mem_cons.mpr ⟨lw_p7, List.forall_mem_cons.mpr ⟨lw_p8, List.forall_mem_cons.mpr ⟨lw_p9, List.forall_mem_cons.mpr ⟨lw_p10, List.forall_mem_cons.mpr ⟨lw_p11, List.forall_mem_cons.mpr ⟨lw_p12, List.forall_mem_cons.mpr ⟨lw_p13, List.forall_mem_cons.mpr ⟨lw_p14, List.forall_mem_cons.mpr ⟨lw_p15, fun _ h => absurd h List.not_mem_nil⟩⟩⟩⟩⟩⟩⟩⟩⟩⟩⟩⟩⟩⟩⟩⟩
theorem lw_p16 : lw_okq (⟨"MovingPlacesModel", "isThread", "(I)Z"⟩, 5) := ⟨⟨by decide +kernel, by decide +kernel⟩, List.mem_of_getElem? (i := 360) (by decide +kernel), List.mem_of_getElem? (i := 438) (by decide +kernel), List.mem_of_getElem? (i := 439) (by decide +kernel)⟩
theorem lw_p17 : lw_okq (⟨"MovingPlacesModel", "nextOf", "(I)I"⟩, 5) := ⟨⟨by decide +kernel, by decide +kernel⟩, List.mem_of_getElem? (i := 360) (by decide +kernel), List.mem_of_getElem? (i := 442) (by decide +kernel), List.mem_of_getElem? (i := 443) (by decide +kernel)⟩
theorem lw_p18 : lw_okq (⟨"MovingPlacesModel", "isOver", "(I)Z"⟩, 5) := ⟨⟨by decide +kernel, by decide +kernel⟩, List.mem_of_getElem? (i := 360) (by decide +kernel), List.mem_of_getElem? (i := 446) (by decide +kernel), List.mem_of_getElem? (i := 447) (by decide +kernel)⟩
theorem lw_p19 : lw_okq (⟨"MovingPlacesModel", "isWithin", "(II)Z"⟩, 5) := ⟨⟨by decide +kernel, by decide +kernel⟩, List.mem_of_getElem? (i := 360) (by decide +kernel), List.mem_of_getElem? (i := 454) (by decide +kernel), List.mem_of_getElem? (i := 455) (by decide +kernel)⟩
theorem lw_p20 : lw_okq (⟨"MovingPlacesModel", "doneWith", "(I)I"⟩, 5) := ⟨⟨by decide +kernel, by decide +kernel⟩, List.mem_of_getElem? (i := 360) (by decide +kernel), List.mem_of_getElem? (i := 462) (by decide +kernel), List.mem_of_getElem? (i := 463) (by decide +kernel)⟩
theorem lw_p21 : lw_okq (⟨"MovingPlacesModel", "nameOf", "(I)I"⟩, 5) := ⟨⟨by decide +kernel, by decide +kernel⟩, List.mem_of_getElem? (i := 360) (by decide +kernel), List.mem_of_getElem? (i := 466) (by decide +kernel), List.mem_of_getElem? (i := 467) (by decide +kernel)⟩
theorem lw_p22 : lw_okq (⟨"MovingPlacesModel", "leastIn", "(III)I"⟩, 5) := ⟨⟨by decide +kernel, by decide +kernel⟩, List.mem_of_getElem? (i := 360) (by decide +kernel), List.mem_of_getElem? (i := 470) (by decide +kernel), List.mem_of_getElem? (i := 471) (by decide +kernel)⟩
theorem lw_p23 : lw_okq (⟨"MovingPlacesModel", "leastMessage", "(I)I"⟩, 5) := ⟨⟨by decide +kernel, by decide +kernel⟩, List.mem_of_getElem? (i := 360) (by decide +kernel), List.mem_of_getElem? (i := 474) (by decide +kernel), List.mem_of_getElem? (i := 475) (by decide +kernel)⟩
theorem lw_p24 : lw_okq (⟨"MovingPlacesModel", "does", "(I)Z"⟩, 5) := ⟨⟨by decide +kernel, by decide +kernel⟩, List.mem_of_getElem? (i := 360) (by decide +kernel), List.mem_of_getElem? (i := 482) (by decide +kernel), List.mem_of_getElem? (i := 483) (by decide +kernel)⟩
theorem lw_p25 : lw_okq (⟨"MovingPlacesModel", "opens", "(II)V"⟩, 5) := ⟨⟨by decide +kernel, by decide +kernel⟩, List.mem_of_getElem? (i := 360) (by decide +kernel), List.mem_of_getElem? (i := 486) (by decide +kernel), List.mem_of_getElem? (i := 487) (by decide +kernel)⟩
theorem lw_p26 : lw_okq (⟨"MovingPlacesModel", "allRows", "(I)I"⟩, 5) := ⟨⟨by decide +kernel, by decide +kernel⟩, List.mem_of_getElem? (i := 360) (by decide +kernel), List.mem_of_getElem? (i := 498) (by decide +kernel), List.mem_of_getElem? (i := 499) (by decide +kernel)⟩
theorem lw_p27 : lw_okq (⟨"MovingPlacesModel", "keepsAt", "(I)V"⟩, 5) := ⟨⟨by decide +kernel, by decide +kernel⟩, List.mem_of_getElem? (i := 360) (by decide +kernel), List.mem_of_getElem? (i := 502) (by decide +kernel), List.mem_of_getElem? (i := 503) (by decide +kernel)⟩
theorem lw_p28 : lw_okq (⟨"MovingPlacesModel", "actsRow", "(II)Z"⟩, 5) := ⟨⟨by decide +kernel, by decide +kernel⟩, List.mem_of_getElem? (i := 360) (by decide +kernel), List.mem_of_getElem? (i := 506) (by decide +kernel), List.mem_of_getElem? (i := 507) (by decide +kernel)⟩
theorem lw_p29 : lw_okq (⟨"MovingPlacesModel", "threadAt", "(III)I"⟩, 5) := ⟨⟨by decide +kernel, by decide +kernel⟩, List.mem_of_getElem? (i := 360) (by decide +kernel), List.mem_of_getElem? (i := 510) (by decide +kernel), List.mem_of_getElem? (i := 511) (by decide +kernel)⟩
theorem lw_p30 : lw_okq (⟨"MovingPlacesModel", "putsFrom", "(I)V"⟩, 5) := ⟨⟨by decide +kernel, by decide +kernel⟩, List.mem_of_getElem? (i := 360) (by decide +kernel), List.mem_of_getElem? (i := 514) (by decide +kernel), List.mem_of_getElem? (i := 515) (by decide +kernel)⟩
theorem lw_p31 : lw_okq (⟨"MovingPlacesModel", "findSoonest", "(II)I"⟩, 5) := ⟨⟨by decide +kernel, by decide +kernel⟩, List.mem_of_getElem? (i := 360) (by decide +kernel), List.mem_of_getElem? (i := 522) (by decide +kernel), List.mem_of_getElem? (i := 523) (by decide +kernel)⟩
def lw_privs_2 : List (MethodName × Nat) := [(⟨"MovingPlacesModel", "isThread", "(I)Z"⟩, 5), (⟨"MovingPlacesModel", "nextOf", "(I)I"⟩, 5), (⟨"MovingPlacesModel", "isOver", "(I)Z"⟩, 5), (⟨"MovingPlacesModel", "isWithin", "(II)Z"⟩, 5), (⟨"MovingPlacesModel", "doneWith", "(I)I"⟩, 5), (⟨"MovingPlacesModel", "nameOf", "(I)I"⟩, 5), (⟨"MovingPlacesModel", "leastIn", "(III)I"⟩, 5), (⟨"MovingPlacesModel", "leastMessage", "(I)I"⟩, 5), (⟨"MovingPlacesModel", "does", "(I)Z"⟩, 5), (⟨"MovingPlacesModel", "opens", "(II)V"⟩, 5), (⟨"MovingPlacesModel", "allRows", "(I)I"⟩, 5), (⟨"MovingPlacesModel", "keepsAt", "(I)V"⟩, 5), (⟨"MovingPlacesModel", "actsRow", "(II)Z"⟩, 5), (⟨"MovingPlacesModel", "threadAt", "(III)I"⟩, 5), (⟨"MovingPlacesModel", "putsFrom", "(I)V"⟩, 5), (⟨"MovingPlacesModel", "findSoonest", "(II)I"⟩, 5)]
theorem lw_r2 : ∀ q ∈ lw_privs_2, lw_okq q := List.forall_mem_cons.mpr ⟨lw_p16, List.forall_mem_cons.mpr ⟨lw_p17, List.forall_mem_cons.mpr ⟨lw_p18, List.forall_mem_cons.mpr ⟨lw_p19, List.forall_mem_cons.mpr ⟨lw_p20, List.forall_mem_cons.mpr ⟨lw_p21, List.forall_mem_cons.mpr ⟨lw_p22, List.forall_mem_cons.mpr ⟨lw_p23, List.forall_mem_cons.mpr ⟨lw_p24, List.forall_mem_cons.mpr ⟨lw_p25, List.forall_mem_cons.mpr ⟨lw_p26, List.forall_mem_cons.mpr ⟨lw_p27, List.forall_mem_cons.mpr ⟨lw_p28, List.forall_mem_cons.mpr ⟨lw_p29, List.forall_mem_cons.mpr ⟨lw_p30, List.forall_mem_cons.mpr ⟨lw_p31, fun _ h => absurd h List.not_mem_nil⟩⟩⟩⟩⟩⟩⟩⟩⟩⟩⟩⟩⟩⟩⟩⟩
theorem lw_p32 : lw_okq (⟨"MovingPlacesModel", "saidNow", "()I"⟩, 5) := ⟨⟨by decide +kernel, by decide +kernel⟩, List.mem_of_getElem? (i := 360) (by decide +kernel), List.mem_of_getElem? (i := 530) (by decide +kernel), List.mem_of_getElem? (i := 531) (by decide +kernel)⟩
theorem lw_p33 : lw_okq (⟨"MovingPlacesModel", "manyPlaces", "()I"⟩, 5) := ⟨⟨by decide +kernel, by decide +kernel⟩, List.mem_of_getElem? (i := 360) (by decide +kernel), List.mem_of_getElem? (i := 553) (by decide +kernel), List.mem_of_getElem? (i := 554) (by decide +kernel)⟩
theorem lw_p34 : lw_okq (⟨"MovingPlacesModel", "manyOver", "()I"⟩, 5) := ⟨⟨by decide +kernel, by decide +kernel⟩, List.mem_of_getElem? (i := 360) (by decide +kernel), List.mem_of_getElem? (i := 557) (by decide +kernel), List.mem_of_getElem? (i := 558) (by decide +kernel)⟩
theorem lw_p35 : lw_okq (⟨"MovingPlacesModel", "manyMessages", "()I"⟩, 5) := ⟨⟨by decide +kernel, by decide +kernel⟩, List.mem_of_getElem? (i := 360) (by decide +kernel), List.mem_of_getElem? (i := 561) (by decide +kernel), List.mem_of_getElem? (i := 562) (by decide +kernel)⟩
def lw_privs_3 : List (MethodName × Nat) := [(⟨"MovingPlacesModel", "saidNow", "()I"⟩, 5), (⟨"MovingPlacesModel", "manyPlaces", "()I"⟩, 5), (⟨"MovingPlacesModel", "manyOver", "()I"⟩, 5), (⟨"MovingPlacesModel", "manyMessages", "()I"⟩, 5)]
theorem lw_r3 : ∀ q ∈ lw_privs_3, lw_okq q := List.forall_mem_cons.mpr ⟨lw_p32, List.forall_mem_cons.mpr ⟨lw_p33, List.forall_mem_cons.mpr ⟨lw_p34, List.forall_mem_cons.mpr ⟨lw_p35, fun _ h => absurd h List.not_mem_nil⟩⟩⟩⟩
def lw_privs : List (MethodName × Nat) := lw_privs_1 ++ (lw_privs_2 ++ (lw_privs_3))
def lw_tbl : List Cond := k2_sels lw_privs ++ tables_1
theorem lw_privs_ok : ∀ q ∈ lw_privs, lw_okq q := by
  show ∀ q ∈ lw_privs_1 ++ (lw_privs_2 ++ (lw_privs_3)), lw_okq q
  exact List.forall_mem_append.mpr ⟨lw_r1, List.forall_mem_append.mpr ⟨lw_r2, lw_r3⟩⟩
/-! ===== the claim's own names, the words of its tables, contracts and calls ===== -/
def rW : String := "MovingPlaces$World"
def rM : String := "MovingPlaces"
def rR : String := "MovingPlacesModel"
def rJ : String := "java/lang/Integer"
def tW : u_T := fun k => match k with
  | 0 => ("MovingPlaces$World", "placeCount", "I", false)
  | 1 => ("MovingPlaces$World", "goneSet", "I", false)
  | 2 => ("MovingPlaces$World", "sealedSet", "I", false)
  | 3 => ("MovingPlaces$World", "names", "[I", true)
  | 4 => ("MovingPlaces$World", "around", "[I", true)
  | 5 => ("MovingPlaces$World", "messages", "[I", true)
  | 6 => ("MovingPlaces$World", "threadCount", "I", false)
  | 7 => ("MovingPlaces$World", "spots", "[I", true)
  | 8 => ("MovingPlaces$World", "acts", "[J", true)
  | 9 => ("MovingPlaces$World", "actCounts", "[I", true)
  | 10 => ("MovingPlaces$World", "doneCounts", "[I", true)
  | _ => ("MovingPlaces$World", "heard", "[I", true)
def gW : Nat → FieldType := fun k => match k with
  | 0 => .int
  | 1 => .int
  | 2 => .int
  | 3 => .array .int
  | 4 => .array .int
  | 5 => .array .int
  | 6 => .int
  | 7 => .array .int
  | 8 => .array .long
  | 9 => .array .int
  | 10 => .array .int
  | _ => .array .int
def tM : u_T := fun k => match k with
  | 0 => ("MovingPlaces", "now", "LMovingPlaces$World;", true)
  | 1 => ("MovingPlaces", "image", "LMovingPlaces$World;", true)
  | 2 => ("MovingPlaces", "hasImage", "Z", false)
  | 3 => ("MovingPlaces", "tries", "[LMovingPlaces$World;", true)
  | _ => ("MovingPlaces", "row", "[I", true)
def gM : Nat → FieldType := fun k => match k with
  | 0 => .object "MovingPlaces$World"
  | 1 => .object "MovingPlaces$World"
  | 2 => .boolean
  | 3 => .array (.object "MovingPlaces$World")
  | _ => .array .int
def tR : u_T := fun k => match k with
  | 0 => ("MovingPlacesModel", "now", "[I", true)
  | 1 => ("MovingPlacesModel", "image", "[I", true)
  | 2 => ("MovingPlacesModel", "kept", "[I", true)
  | 3 => ("MovingPlacesModel", "isImage", "Z", false)
  | _ => ("MovingPlacesModel", "row", "[I", true)
def gR : Nat → FieldType := fun k => match k with
  | 0 => .array .int
  | 1 => .array .int
  | 2 => .array .int
  | 3 => .boolean
  | _ => .array .int
theorem nW : ∀ a, a < 12 → ∀ b, b < 12 → a ≠ b → (tW a).2.1 ≠ (tW b).2.1 := by decide +kernel
theorem gW_ok : ∀ k, k < 12 → parseFieldDescriptor (tW k).2.2.1 = some (gW k) := by decide +kernel
theorem nM : ∀ a, a < 5 → ∀ b, b < 5 → a ≠ b → (tM a).2.1 ≠ (tM b).2.1 := by decide +kernel
theorem gM_ok : ∀ k, k < 5 → parseFieldDescriptor (tM k).2.2.1 = some (gM k) := by decide +kernel
theorem nR : ∀ a, a < 5 → ∀ b, b < 5 → a ≠ b → (tR a).2.1 ≠ (tR b).2.1 := by decide +kernel
theorem gR_ok : ∀ k, k < 5 → parseFieldDescriptor (tR k).2.2.1 = some (gR k) := by decide +kernel
abbrev mp_cls : List vw_C := [(rW, tW, 12), (rM, tM, 5), (rR, tR, 5)]
/-- all the good words of the tables: the same list for every method -/
def wT : List Cond := lw_tbl.filter goodWord
theorem wT_in {w : Cond} (i : Nat) (h : lw_tbl[i]? = some w) (hg : goodWord w = true) : w ∈ wT := List.mem_filter.mpr ⟨List.mem_of_getElem? h, hg⟩
theorem wT_good {w : Cond} (h : w ∈ wT) : (w.onTables && w.keeps) = true ∨ ∃ ty, w = .arrayClass ty := good_of_word (List.mem_filter.mp h).2
theorem wT_by {ws : List Cond} (ps : List Nat) (h : ws = ps.filterMap (fun i => lw_tbl[i]?)) (hg : ws.all goodWord = true) : ∀ w ∈ ws, w ∈ wT := by
  intro w hw
  have h1 := List.all_eq_true.mp hg w hw
  rw [h] at hw
  obtain ⟨i, -, hi⟩ := List.mem_filterMap.mp hw
  exact wT_in i hi h1
theorem wT_gd {x : Cond} (hc : x ∈ wT) : GoodIn wT (x :: wT) := by
  intro w h
  rcases List.mem_cons.mp h with rfl | h
  · exact ⟨hc, wT_good hc⟩
  · exact ⟨h, wT_good h⟩
/-! the classes' numbers, the array classes, the first new address -/
abbrev KK : Type := Nat × (Nat → ClassId) × (Nat → Nat → Nat) × ClassId × ClassId × ClassId
abbrev kD (k : KK) : va_G := (k.2.1, k.2.2.1)
abbrev kI (k : KK) : ClassId := k.2.2.2.1
abbrev kL (k : KK) : ClassId := k.2.2.2.2.1
abbrev kO (k : KK) : ClassId := k.2.2.2.2.2
abbrev kT (k : KK) : List (ClassId × FieldType) := [(kI k, .int), (kL k, .long), (kO k, .object rW)]
def mp_wt : Nat → Int64 := fun j => if j = 0 then 1 else if j = 1 then 100 else if j = 2 then 10000 else if j = 3 then 1000000 else if j = 4 then 100000000 else 10000000000
def mp_N (k : KK) : Nat → Prop := fun q => k.1 ≤ q
def mp_GW (k : KK) (U : State) (H : Heap) : Prop := ∃ t : Nat, va_Z "MovingPlaces" "WEIGHTS" "[J" (.ref t) (mp_N k) U H ∧ va_T .long t 6 (fun j => .long (mp_wt j)) (mp_N k) U H
abbrev mp_nm : Cond := .methodLinkNest rW 60 ⟨rM, "isName", "(I)Z"⟩ "MovingPlaces"
abbrev mp_nf : Cond := .fieldLinkNest rW 85 "MovingPlaces" "WEIGHTS" "[J" "MovingPlaces"
def mp_E (k : KK) (U : State) : Prop := va_K (kD k) mp_cls (kT k) U ∧ va_Nw mp_nm U ∧ va_Nw mp_nf U ∧ mp_GW k U U.heap
theorem mp_E.call {k : KK} {U : State} (h : mp_E k U) (g : JFrame) (mk : MethodId) (a : Array Value) : mp_E k (U.calling g mk a) := by
  obtain ⟨h1, h2, h3, t, h4, h5⟩ := h
  exact ⟨va_K.moved (u := U) (U := U.calling g mk a) (Vm.Alike.refl U.vm) h1, va_Nw.same (u := U) (U := U.calling g mk a) rfl rfl h2, va_Nw.same (u := U) (U := U.calling g mk a) rfl rfl h3, t, va_Z.moved (u := U) (U := U.calling g mk a) (Vm.Alike.refl U.vm) h4, va_T.moved (u := U) (U := U.calling g mk a) (Vm.Alike.refl U.vm) h5⟩
theorem mp_E.at {k : KK} {s U : State} {H : Heap} {locs : List Loc} (h : mp_E k s) (hS : va_S (mp_N k) s.heap H locs) (hU : U.heap = H) (hW : s.WarmedH U.vm) : mp_E k U := by
  obtain ⟨h1, h2, h3, t, h4, h5⟩ := h
  refine ⟨va_K.moved hW.alike h1, va_Nw.warmM hW h2, va_Nw.warmF hW h3, t, ?_, ?_⟩
  · rw [hU]; exact (h4.moved hW.alike).kept (fun a ha hn => hS.2.1 a ha hn)
  · rw [hU]; exact (h5.moved hW.alike).kept (fun a ha hn => hS.2.1 a ha hn)
/-- a method's world: its cells, apart, all new; and what stays -/
def mp_P (k : KK) (ws : va_W) (U : State) : Prop := va_P (kD k) mp_cls ws U.heap ∧ va_D (mp_N k) ws ∧ mp_E k U
theorem mp_blind {k : KK} {av : List Value} {ws : va_W} : FrameBlind (va_Pc av (mp_P k ws)) := fun a U g mk q => ⟨q.1, q.2.1, q.2.2.1, q.2.2.2.call g mk a⟩
def mp_A (as : List Nat) : Nat → Prop := fun q => q ∈ as
theorem mp_own {A : Nat → Prop} {ws : va_W} {as : List Nat} (h : va_D A ws) (e : ws.map (fun q => q.1) = as) : va_D (mp_A as) ws := ⟨h.1, fun k q hk => by
  show q.1 ∈ as
  rw [← e]
  exact List.mem_map.mpr ⟨q, List.mem_of_getElem? hk, rfl⟩⟩
theorem mp_new {A : Nat → Prop} {ws : va_W} {as : List Nat} (h : va_D A ws) (e : ws.map (fun q => q.1) = as) : ∀ q, mp_A as q → A q := fun q hq => by
  have hq : q ∈ as := hq
  rw [← e] at hq
  obtain ⟨x, hx, rfl⟩ := List.mem_map.mp hq
  obtain ⟨i, hi⟩ := List.getElem?_of_mem hx
  exact h.2 i x hi
theorem mp_S {A B : Nat → Prop} {H0 H : Heap} {locs : List Loc} (hS : va_S A H0 H locs) (h : ∀ q, A q → B q) : va_S B H0 H locs := ⟨hS.1, fun q h1 h2 => hS.2.1 q h1 (fun z => h2 (h q z)), fun q hq => h _ (hS.2.2 q hq)⟩
theorem mp_Dw {A B : Nat → Prop} {ws : va_W} (hD : va_D A ws) (h : ∀ q, A q → B q) : va_D B ws := ⟨hD.1, fun k q hk => h _ (hD.2 k q hk)⟩
theorem mp_Ds {A : Nat → Prop} {ws ws' : va_W} (hD : va_D A ws) (e : ws'.map (fun q => q.1) = ws.map (fun q => q.1)) : va_D A ws' := by
  have key : ∀ (k : Nat) (q : Nat × va_E), ws'[k]? = some q → ∃ q0, ws[k]? = some q0 ∧ q0.1 = q.1 := by
    intro k q hk
    have h1 : (ws'.map (fun q => q.1))[k]? = some q.1 := by rw [List.getElem?_map, hk]; rfl
    rw [e, List.getElem?_map] at h1
    cases h2 : ws[k]? with
    | none => rw [h2] at h1; cases h1
    | some x => rw [h2] at h1; exact ⟨x, rfl, Option.some.inj h1⟩
  refine ⟨fun i j x y hi hj hxy => ?_, fun k q hk => ?_⟩
  · obtain ⟨x0, h1, h2⟩ := key i x hi
    obtain ⟨y0, h3, h4⟩ := key j y hj
    exact hD.1 i j x0 y0 h1 h3 (h2.trans (hxy.trans h4.symm))
  · obtain ⟨q0, h1, h2⟩ := key k q hk
    rw [← h2]
    exact hD.2 k q0 h1
/-- ends: the heap is as it was; the cells of the world have new contents -/
def mp_Qs (rv : Option Value) : Array Value → State → Outcome → State → Prop := fun _ st o t => o = .returned rv ∧ t.heap = st.heap
def mp_Qm (k : KK) (rv : Option Value) (ws : va_W) (as : List Nat) : Array Value → State → Outcome → State → Prop := fun _ st o t => o = .returned rv ∧ va_P (kD k) mp_cls ws t.heap ∧ va_F (mp_A as) st t
abbrev mp_CS (l : Launch) (k : KK) (y : MethodName) (bytes : ByteArray) (maxL : Nat) (ret : Option FieldType) (rm : Room) (av : List Value) (ws : va_W) (rv : Option Value) : Prop := Met l y (Cond.code y bytes maxL ret :: wT) rm (va_Pc av (mp_P k ws)) (mp_Qs rv) 0 0 (fun _ => False)
abbrev mp_CM (l : Launch) (k : KK) (y : MethodName) (bytes : ByteArray) (maxL : Nat) (ret : Option FieldType) (rm : Room) (av : List Value) (ws ws' : va_W) (as : List Nat) (rv : Option Value) : Prop := Met l y (Cond.code y bytes maxL ret :: wT) rm (va_Pc av (mp_P k ws)) (mp_Qm k rv ws' as) 0 0 (mp_A as)
/-- what holds in a method's body -/
def mp_C (p : Program) (s : State) (m : MethodId) (args : Array Value) (meth : Method) (c : Code) (cc : ByteArray) (nL : Nat) (ret : Option FieldType) (own : String) : Prop :=
  p.tables.exec = Jvm.exec ∧ c.code = cc ∧ meth.sig.returnType = ret ∧ c.maxLocals = nL ∧ s.vm.findClass own = some m.cls ∧ (∀ w ∈ wT, w.before args s = true) ∧ meth.locks = false
theorem mp_C.of {p : Program} {l : Launch} {y : MethodName} {rm : Room} {cc : ByteArray} {maxL : Nat} {ret : Option FieldType} {e : Env} {s : State} {m : MethodId} {args : Array Value} {below : List Frame} {meth : Method} {c : Code} {s₁ : State} (B : BodyLoose p l y (headSpec (Cond.code y cc maxL ret :: wT) rm) cc maxL ret e s m args below meth c s₁) (hml : c.maxLocals = maxL) : mp_C p s m args meth c cc maxL ret y.cls :=
  ⟨B.exec, B.bytes, B.returns, hml, findClass_of_methodNamed B.named, fun w hw => atoms_spec (ws := Cond.code y cc maxL ret :: wT) B.pre w (List.mem_cons_of_mem _ hw), B.notSynchronized⟩
/-- the facts of a call, by the caller's class and the link's number -/
def mp_V (own : String) (idx : Nat) (y : MethodName) (bytes : ByteArray) (maxL : Nat) (ret : Option FieldType) (n : Nat) : Prop :=
  Cond.methodLink own idx y ∈ wT ∧ Cond.instanceMethod y ∈ wT ∧ Cond.selects y.cls y y ∈ wT ∧ Cond.initialized y.cls ∈ wT ∧ Cond.code y bytes maxL ret ∈ wT ∧ (y.cls ≠ "java/lang/invoke/MethodHandle" ∧ y.cls ≠ "java/lang/invoke/VarHandle" ∧ (parseMethodDescriptor y.desc).map (fun d => d.parameters.length) = some n)
def mp_T (own : String) (idx : Nat) (y : MethodName) (bytes : ByteArray) (maxL : Nat) (ret : Option FieldType) (n : Nat) : Prop :=
  Cond.methodLink own idx y ∈ wT ∧ Cond.static y ∈ wT ∧ Cond.initialized y.cls ∈ wT ∧ Cond.code y bytes maxL ret ∈ wT ∧ (y.cls ≠ "java/lang/invoke/MethodHandle" ∧ y.cls ≠ "java/lang/invoke/VarHandle" ∧ (parseMethodDescriptor y.desc).map (fun d => d.parameters.length) = some n)
/-! the program's own functions: a place that isn't there, a divisor 0, a number that is no boolean: none -/
def mp_ix (i : Int32) (n : Nat) : Bool := decide (0 ≤ i.toInt) && decide (i.toInt < (n : Int))
theorem mp_ix_in {i : Int32} {n : Nat} (h : mp_ix i n = true) : vp_in i n := by
  simp only [mp_ix, Bool.and_eq_true, decide_eq_true_eq] at h
  exact vp_in_iff.mpr h
def mp_ld {α β : Type} (f : Nat → α) (n : Nat) (i : Int32) (K : α → Option β) : Option β := if mp_ix i n = true then K (f i.toNatClampNeg) else none
def mp_st {β : Type} (n : Nat) (i : Int32) (K : Option β) : Option β := if mp_ix i n = true then K else none
def mp_nz {β : Type} (d : Int32) (K : Option β) : Option β := if d = 0 then none else K
def mp_zb {β : Type} (v : Int32) (K : Option β) : Option β := if v &&& 1 = v then K else none
theorem mp_lds {α β : Type} {f : Nat → α} {n : Nat} {i : Int32} {K : α → Option β} {z : β} (h : mp_ld f n i K = some z) : vp_in i n ∧ ∃ x, x = f i.toNatClampNeg ∧ K x = some z := by
  unfold mp_ld at h
  by_cases hi : mp_ix i n = true
  · rw [if_pos hi] at h; exact ⟨mp_ix_in hi, _, rfl, h⟩
  · rw [if_neg hi] at h; cases h
theorem mp_sts {β : Type} {n : Nat} {i : Int32} {K : Option β} {z : β} (h : mp_st n i K = some z) : vp_in i n ∧ K = some z := by
  unfold mp_st at h
  by_cases hi : mp_ix i n = true
  · rw [if_pos hi] at h; exact ⟨mp_ix_in hi, h⟩
  · rw [if_neg hi] at h; cases h
theorem mp_nzs {β : Type} {d : Int32} {K : Option β} {z : β} (h : mp_nz d K = some z) : ¬ d = 0 ∧ K = some z := by
  unfold mp_nz at h
  by_cases hi : d = 0
  · rw [if_pos hi] at h; cases h
  · rw [if_neg hi] at h; exact ⟨hi, h⟩
theorem mp_zbs {β : Type} {v : Int32} {K : Option β} {z : β} (h : mp_zb v K = some z) : narrow .boolean (.int v) = .int v ∧ K = some z := by
  unfold mp_zb at h
  by_cases hi : v &&& 1 = v
  · rw [if_pos hi] at h; exact ⟨congrArg Value.int hi, h⟩
  · rw [if_neg hi] at h; cases h
theorem mp_bs {α β : Type} {o : Option α} {K : α → Option β} {z : β} (h : o.bind K = some z) : ∃ x, o = some x ∧ K x = some z := by
  cases o with
  | none => cases h
  | some x => exact ⟨x, rfl, h⟩
theorem mp_t {c : Prop} [Decidable c] {α : Type} {a b : Option α} {z : α} (hc : c) (h : (if c then a else b) = some z) : a = some z := by rw [if_pos hc] at h; exact h
theorem mp_f {c : Prop} [Decidable c] {α : Type} {a b : Option α} {z : α} (hc : ¬ c) (h : (if c then a else b) = some z) : b = some z := by rw [if_neg hc] at h; exact h
section MPR
variable {p : Program} {l : Launch} {e : Env} {R : Room} {s : State} {m : MethodId} {args : Array Value} {below : List Frame} {meth : Method} {c : Code} {H : Heap} {locs : List Loc} {cells slots : Nat} {Q : State → Prop}
variable {cc : ByteArray} {nL : Nat} {ret : Option FieldType} {own : String} {k : KK} {pc : Nat} {ls : Array Slot} {rest st : List Value} {ws ws' : va_W} {a : Nat}
/-! returns -/
theorem mp_ri {v z : Int32} (cx : mp_C p s m args meth c cc nL (some .int) own) (h : some v = some z) (hdg : decode cc pc = .ok (.ireturn, 1)) : W p l e R s m args below meth c s.heap [] 0 0 (MQ below (mp_Qs (some (.int z))) args s 0 0 (fun _ => False)) (F0 m pc ls [.int v]) := by
  obtain ⟨hx, hb, hr, -, -, -, hlocks⟩ := cx
  cases h
  exact W.iret hx hb hr (fun t ht hW => ⟨rfl, ht⟩) (fun q hq => by cases hq) hdg
theorem mp_rz {v z : Int32} (cx : mp_C p s m args meth c cc nL (some .boolean) own) (hn : narrow .boolean (.int v) = .int v) (h : some v = some z) (hdg : decode cc pc = .ok (.ireturn, 1)) : W p l e R s m args below meth c s.heap [] 0 0 (MQ below (mp_Qs (some (.int z))) args s 0 0 (fun _ => False)) (F0 m pc ls [.int v]) := by
  obtain ⟨hx, hb, hr, -, -, -, hlocks⟩ := cx
  cases h
  exact W.zret hx hb hr hn (fun t ht hW => ⟨rfl, ht⟩) (fun q hq => by cases hq) hdg
theorem mp_rim {S : Type} {v : Int32} {u : S} {z : Int32 × S} {cf : S → va_W} {as : List Nat} (cx : mp_C p s m args meth c cc nL (some .int) own) (h : some (v, u) = some z) (hP : va_P (kD k) mp_cls (cf u) H) (hS : va_S (mp_A as) s.heap H locs) (hdg : decode cc pc = .ok (.ireturn, 1)) : W p l e R s m args below meth c H locs 0 0 (MQ below (mp_Qm k (some (.int z.1)) (cf z.2) as) args s 0 0 (mp_A as)) (F0 m pc ls [.int v]) := by
  obtain ⟨hx, hb, hr, -, -, -, hlocks⟩ := cx
  cases h
  exact W.iret hx hb hr (fun t ht hW => ⟨rfl, by rw [ht]; exact hP, hS.F ht⟩) hS.2.2 hdg
theorem mp_rzm {S : Type} {v : Int32} {u : S} {z : Int32 × S} {cf : S → va_W} {as : List Nat} (cx : mp_C p s m args meth c cc nL (some .boolean) own) (hn : narrow .boolean (.int v) = .int v) (h : some (v, u) = some z) (hP : va_P (kD k) mp_cls (cf u) H) (hS : va_S (mp_A as) s.heap H locs) (hdg : decode cc pc = .ok (.ireturn, 1)) : W p l e R s m args below meth c H locs 0 0 (MQ below (mp_Qm k (some (.int z.1)) (cf z.2) as) args s 0 0 (mp_A as)) (F0 m pc ls [.int v]) := by
  obtain ⟨hx, hb, hr, -, -, -, hlocks⟩ := cx
  cases h
  exact W.zret hx hb hr hn (fun t ht hW => ⟨rfl, by rw [ht]; exact hP, hS.F ht⟩) hS.2.2 hdg
theorem mp_rvm {S : Type} {u z : S} {cf : S → va_W} {as : List Nat} (cx : mp_C p s m args meth c cc nL none own) (h : some u = some z) (hP : va_P (kD k) mp_cls (cf u) H) (hS : va_S (mp_A as) s.heap H locs) (hdg : decode cc pc = .ok (.return_, 1)) : W p l e R s m args below meth c H locs 0 0 (MQ below (mp_Qm k none (cf z) as) args s 0 0 (mp_A as)) (F0 m pc ls []) := by
  obtain ⟨hx, hb, hr, -, -, -, hlocks⟩ := cx
  cases h
  exact W.vret hx hb hr (fun t ht hW => ⟨rfl, by rw [ht]; exact hP, hS.F ht⟩) hS.2.2 hdg
/-! fields -/
theorem mp_gW (cx : mp_C p s m args meth c cc nL ret own) (hE : mp_E k s) (hP : va_P (kD k) mp_cls ws H) (iW : ∀ w ∈ u_ws rW tW 12, w ∈ wT) (q0 : Nat) {fs : List Value} (he : ws[q0]? = some (a, .inr (0, fs))) (j : Nat) (hj : j < 12) {idx : Nat} (hq : Cond.fieldLink own idx rW (tW j).2.1 (tW j).2.2.1 ∈ wT) (hsame : (tW j).1 = rW) {v : Value} (hv : fs[j]? = some v) (hdg : decode cc pc = .ok (.getfield idx, 3))
    (kk : W p l e R s m args below meth c H locs cells slots Q (F0 m (pc + 3) ls (v :: rest))) : W p l e R s m args below meth c H locs cells slots Q (F0 m pc ls (.ref a :: rest)) := by
  obtain ⟨hx, hb, hr, hml, hown, hts, hlocks⟩ := cx
  exact va_get (D := kD k) (ci := 0) (v := v) (C := rW) (T := tW) (N := 12) hx hb hts iW hown hE.1 hP q0 he rfl j hj (hts _ hq) (fun _ h9 => by rw [hsame] at h9; exact h9) hv hdg kk
theorem mp_gM (cx : mp_C p s m args meth c cc nL ret own) (hE : mp_E k s) (hP : va_P (kD k) mp_cls ws H) (iM : ∀ w ∈ u_ws rM tM 5, w ∈ wT) (q0 : Nat) {fs : List Value} (he : ws[q0]? = some (a, .inr (1, fs))) (j : Nat) (hj : j < 5) {idx : Nat} (hq : Cond.fieldLink own idx rM (tM j).2.1 (tM j).2.2.1 ∈ wT) (hsame : (tM j).1 = rM) {v : Value} (hv : fs[j]? = some v) (hdg : decode cc pc = .ok (.getfield idx, 3))
    (kk : W p l e R s m args below meth c H locs cells slots Q (F0 m (pc + 3) ls (v :: rest))) : W p l e R s m args below meth c H locs cells slots Q (F0 m pc ls (.ref a :: rest)) := by
  obtain ⟨hx, hb, hr, hml, hown, hts, hlocks⟩ := cx
  exact va_get (D := kD k) (ci := 1) (v := v) (C := rM) (T := tM) (N := 5) hx hb hts iM hown hE.1 hP q0 he rfl j hj (hts _ hq) (fun _ h9 => by rw [hsame] at h9; exact h9) hv hdg kk
theorem mp_gR (cx : mp_C p s m args meth c cc nL ret own) (hE : mp_E k s) (hP : va_P (kD k) mp_cls ws H) (iR : ∀ w ∈ u_ws rR tR 5, w ∈ wT) (q0 : Nat) {fs : List Value} (he : ws[q0]? = some (a, .inr (2, fs))) (j : Nat) (hj : j < 5) {idx : Nat} (hq : Cond.fieldLink own idx rR (tR j).2.1 (tR j).2.2.1 ∈ wT) (hsame : (tR j).1 = rR) {v : Value} (hv : fs[j]? = some v) (hdg : decode cc pc = .ok (.getfield idx, 3))
    (kk : W p l e R s m args below meth c H locs cells slots Q (F0 m (pc + 3) ls (v :: rest))) : W p l e R s m args below meth c H locs cells slots Q (F0 m pc ls (.ref a :: rest)) := by
  obtain ⟨hx, hb, hr, hml, hown, hts, hlocks⟩ := cx
  exact va_get (D := kD k) (ci := 2) (v := v) (C := rR) (T := tR) (N := 5) hx hb hts iR hown hE.1 hP q0 he rfl j hj (hts _ hq) (fun _ h9 => by rw [hsame] at h9; exact h9) hv hdg kk
/-! calls that leave the heap as it is -/
theorem mp_callS {rv : Option Value} {av : Array Value} (hr : va_Run p l e R s m args below meth c H locs cells slots 0 0 (F0 m pc ls st) rest (mp_Qs rv av) (fun _ => False)) (kk : W p l e R s m args below meth c H locs cells slots Q (F0 m (pc + 3) ls (rv.toList ++ rest))) : W p l e R s m args below meth c H locs cells slots Q (F0 m pc ls st) := by
  intro T hT X
  obtain ⟨v, st₀, t, T', L, h0, X', hL, e1, e2, ⟨hv, hh⟩, st⟩ := hr T hT X
  cases hv
  obtain ⟨t2, a1, b1⟩ := kk T' (by rw [e1, hh, h0]) (Stand.forget X' (fun q h => (hL q h).elim))
  exact ⟨t2, st t2 a1, b1⟩
theorem mp_callM {rv : Option Value} {av : Array Value} {as : List Nat} {A : Nat → Prop} {H0 : Heap} (hr : va_Run p l e R s m args below meth c H locs cells slots 0 0 (F0 m pc ls st) rest (mp_Qm k rv ws' as av) (mp_A as)) (hS : va_S A H0 H locs) (hA : ∀ q, mp_A as q → A q)
    (kk : ∀ (H1 : Heap) (locs1 : List Loc), va_P (kD k) mp_cls ws' H1 → (∀ q : Nat, q < H.size → ¬ mp_A as q → H1[q]? = H[q]?) → va_S A H0 H1 locs1 → W p l e R s m args below meth c H1 locs1 cells slots Q (F0 m (pc + 3) ls (rv.toList ++ rest))) : W p l e R s m args below meth c H locs cells slots Q (F0 m pc ls st) := by
  intro T hT X
  obtain ⟨v, st₀, t, T', L, h0, X', hL, e1, e2, ⟨hv, hp, hz, hk⟩, st⟩ := hr T hT X
  cases hv
  rw [h0] at hz hk
  obtain ⟨t2, a1, b1⟩ := kk T'.heap (locs ++ L) (by rw [e1]; exact hp) (fun q h1 h2 => by rw [e1]; exact hk q h1 h2)
    ⟨Nat.le_trans hS.1 (by rw [e1]; exact hz), fun q h1 h2 => by rw [e1, hk q (Nat.lt_of_lt_of_le h1 hS.1) (fun z => h2 (hA q z))]; exact hS.2.1 q h1 h2, fun q hq => by
      rcases List.mem_append.mp hq with h | h
      · exact hS.2.2 q h
      · exact hA _ (hL q h)⟩ T' rfl X'
  exact ⟨t2, st t2 a1, b1⟩
variable {y : MethodName} {bytes : ByteArray} {maxL idx : Nat} {ry : Option FieldType} {rm : Room} {As : List Value} {b : Nat}
theorem mp_runV {Qc : Array Value → State → Outcome → State → Prop} {free : Addr → Prop} (cx : mp_C p s m args meth c cc nL ret own) (hV : mp_V own idx y bytes maxL ry As.length) (hM : Met l y (Cond.code y bytes maxL ry :: wT) rm (va_Pc (.ref b :: As) (mp_P k ws)) Qc 0 0 free) (hR : rm.cells = 0 ∧ rm.slots = 0 ∧ rm.frames + 1 ≤ R.frames ∧ 8 + (maxL + 11) + rm.locals ≤ R.locals) (hf : cells ≤ R.cells ∧ slots ≤ R.slots) (hE : mp_E k s) (hP : va_P (kD k) mp_cls ws H) (hD : va_D (mp_N k) ws) (hS : va_S (mp_N k) s.heap H locs)
    (q0 : Nat) {ci N : Nat} {C : String} {T : u_T} {fs : List Value} (hcl : mp_cls[ci]? = some (C, T, N)) (hC : y.cls = C) (he : ws[q0]? = some (b, .inr (ci, fs))) (hsz : ls.size = nL) (hst : st = As.reverse ++ .ref b :: rest) (hrm : (rest.map fun v => v.category).sum ≤ 8) (hdg : decode cc pc = .ok (.invokevirtual idx, 3)) :
    va_Run p l e R s m args below meth c H locs cells slots 0 0 (F0 m pc ls st) rest (Qc (Value.ref b :: As).toArray) free := by
  obtain ⟨hx, hb, hr, hml, hown, hts, hlocks⟩ := cx
  obtain ⟨v1, v2, v3, v4, v5, v6⟩ := hV
  subst hC
  have cw : CallW R s args own y.cls idx y bytes maxL ry (Cond.code y bytes maxL ry :: wT) rm 0 0 As.length := ⟨callB_of As.length hts (wT_gd v5) rfl hR.1 hR.2.1 (hts _ v4) (hts _ v1) v6 ⟨hR.2.2.1, hR.2.2.2⟩, hts _ v2, hts _ v3⟩
  exact va_runV ⟨hx, hb, hml, hown, hts⟩ hM cw ⟨mp_blind, va_recv hE.1 hP hcl he, fun U hU hW => ⟨rfl, by rw [hU]; exact hP, hD, hE.at hS hU hW⟩⟩ rfl rfl hsz hst (lv_room hrm) hdg hf
theorem mp_runT {Qc : Array Value → State → Outcome → State → Prop} {free : Addr → Prop} (cx : mp_C p s m args meth c cc nL ret own) (hV : mp_T own idx y bytes maxL ry As.length) (hM : Met l y (Cond.code y bytes maxL ry :: wT) rm (va_Pc As (mp_P k ws)) Qc 0 0 free) (hR : rm.cells = 0 ∧ rm.slots = 0 ∧ rm.frames + 1 ≤ R.frames ∧ 8 + (maxL + 11) + rm.locals ≤ R.locals) (hf : cells ≤ R.cells ∧ slots ≤ R.slots) (hE : mp_E k s) (hP : va_P (kD k) mp_cls ws H) (hD : va_D (mp_N k) ws) (hS : va_S (mp_N k) s.heap H locs)
    (hsz : ls.size = nL) (hst : st = As.reverse ++ rest) (hrm : (rest.map fun v => v.category).sum ≤ 8) (hdg : decode cc pc = .ok (.invokestatic idx, 3)) :
    va_Run p l e R s m args below meth c H locs cells slots 0 0 (F0 m pc ls st) rest (Qc As.toArray) free := by
  obtain ⟨hx, hb, hr, hml, hown, hts, hlocks⟩ := cx
  obtain ⟨v1, v2, v3, v4, v5⟩ := hV
  exact va_runS ⟨hx, hb, hml, hown, hts⟩ hM ⟨callB_of As.length hts (wT_gd v4) rfl hR.1 hR.2.1 (hts _ v3) (hts _ v1) v5 ⟨hR.2.2.1, hR.2.2.2⟩, hts _ v2⟩ ⟨mp_blind, fun U hU hW => ⟨rfl, by rw [hU]; exact hP, hD, hE.at hS hU hW⟩⟩ rfl rfl hsz hst (lv_room hrm) hdg hf
end MPR
theorem mp_P0 {k : KK} {H : Heap} : va_P (kD k) mp_cls [] H := fun k q h => by simp at h
theorem mp_D0 {A : Nat → Prop} : va_D A [] := ⟨fun i j p q h => by simp at h, fun k q h => by simp at h⟩
