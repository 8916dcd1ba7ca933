section
-- ===== PART A: goes FIRST, ahead of the names: the tables' words, and 'selects' of the private methods out of them =====
/-- a private method of a class that the tables say can be made, by its rows of tables_1 -/
def lw_okq (q : MethodName × Nat) : Prop := (q.1.cls ≠ "java/lang/invoke/MethodHandle" ∧ q.1.cls ≠ "java/lang/invoke/VarHandle") ∧ Cond.instantiable q.1.cls q.2 ∈ tables_1 ∧ Cond.privateMethod q.1 ∈ tables_1 ∧ Cond.instanceMethod q.1 ∈ tables_1
theorem lw_p0 : lw_okq (⟨"MovingPlaces$World", "leastUnsealed", "(III)I"⟩, 12) := ⟨⟨by decide +kernel, by decide +kernel⟩, List.mem_of_getElem? (i := 15) (by decide +kernel), List.mem_of_getElem? (i := 218) (by decide +kernel), List.mem_of_getElem? (i := 219) (by decide +kernel)⟩
theorem lw_p1 : lw_okq (⟨"MovingPlaces$World", "unsealedAround", "(II)I"⟩, 12) := ⟨⟨by decide +kernel, by decide +kernel⟩, List.mem_of_getElem? (i := 15) (by decide +kernel), List.mem_of_getElem? (i := 222) (by decide +kernel), List.mem_of_getElem? (i := 223) (by decide +kernel)⟩
theorem lw_p2 : lw_okq (⟨"MovingPlaces$World", "leastMessage", "(I)I"⟩, 12) := ⟨⟨by decide +kernel, by decide +kernel⟩, List.mem_of_getElem? (i := 15) (by decide +kernel), List.mem_of_getElem? (i := 228) (by decide +kernel), List.mem_of_getElem? (i := 229) (by decide +kernel)⟩
theorem lw_p3 : lw_okq (⟨"MovingPlaces$World", "putInto", "(II)V"⟩, 12) := ⟨⟨by decide +kernel, by decide +kernel⟩, List.mem_of_getElem? (i := 15) (by decide +kernel), List.mem_of_getElem? (i := 241) (by decide +kernel), List.mem_of_getElem? (i := 242) (by decide +kernel)⟩
theorem lw_p4 : lw_okq (⟨"MovingPlaces$World", "dissolve", "(II)V"⟩, 12) := ⟨⟨by decide +kernel, by decide +kernel⟩, List.mem_of_getElem? (i := 15) (by decide +kernel), List.mem_of_getElem? (i := 245) (by decide +kernel), List.mem_of_getElem? (i := 246) (by decide +kernel)⟩
theorem lw_p5 : lw_okq (⟨"MovingPlaces", "countRows", "(LMovingPlaces$World;II)I"⟩, 5) := ⟨⟨by decide +kernel, by decide +kernel⟩, List.mem_of_getElem? (i := 7) (by decide +kernel), List.mem_of_getElem? (i := 263) (by decide +kernel), List.mem_of_getElem? (i := 264) (by decide +kernel)⟩
theorem lw_p6 : lw_okq (⟨"MovingPlaces", "findRow", "(LMovingPlaces$World;IIII)Z"⟩, 5) := ⟨⟨by decide +kernel, by decide +kernel⟩, List.mem_of_getElem? (i := 7) (by decide +kernel), List.mem_of_getElem? (i := 289) (by decide +kernel), List.mem_of_getElem? (i := 290) (by decide +kernel)⟩
theorem lw_p7 : lw_okq (⟨"MovingPlaces", "threadInRow", "(II)I"⟩, 5) := ⟨⟨by decide +kernel, by decide +kernel⟩, List.mem_of_getElem? (i := 7) (by decide +kernel), List.mem_of_getElem? (i := 293) (by decide +kernel), List.mem_of_getElem? (i := 294) (by decide +kernel)⟩
theorem lw_p8 : lw_okq (⟨"MovingPlaces$World", "hasMessageAnywhere", "(I)Z"⟩, 12) := ⟨⟨by decide +kernel, by decide +kernel⟩, List.mem_of_getElem? (i := 15) (by decide +kernel), List.mem_of_getElem? (i := 305) (by decide +kernel), List.mem_of_getElem? (i := 306) (by decide +kernel)⟩
theorem lw_p9 : lw_okq (⟨"MovingPlaces$World", "namesFromThread", "(I)I"⟩, 12) := ⟨⟨by decide +kernel, by decide +kernel⟩, List.mem_of_getElem? (i := 15) (by decide +kernel), List.mem_of_getElem? (i := 309) (by decide +kernel), List.mem_of_getElem? (i := 310) (by decide +kernel)⟩
theorem lw_p10 : lw_okq (⟨"MovingPlaces$World", "namesMovedFrom", "(II)I"⟩, 12) := ⟨⟨by decide +kernel, by decide +kernel⟩, List.mem_of_getElem? (i := 15) (by decide +kernel), List.mem_of_getElem? (i := 323) (by decide +kernel), List.mem_of_getElem? (i := 324) (by decide +kernel)⟩
theorem lw_p11 : lw_okq (⟨"MovingPlaces$World", "bringsMotion", "(III)Z"⟩, 12) := ⟨⟨by decide +kernel, by decide +kernel⟩, List.mem_of_getElem? (i := 15) (by decide +kernel), List.mem_of_getElem? (i := 327) (by decide +kernel), List.mem_of_getElem? (i := 328) (by decide +kernel)⟩
theorem lw_p12 : lw_okq (⟨"MovingPlacesModel", "isPlace", "(I)Z"⟩, 5) := ⟨⟨by decide +kernel, by decide +kernel⟩, List.mem_of_getElem? (i := 360) (by decide +kernel), List.mem_of_getElem? (i := 386) (by decide +kernel), List.mem_of_getElem? (i := 387) (by decide +kernel)⟩
theorem lw_p13 : lw_okq (⟨"MovingPlacesModel", "placesIn", "(I)I"⟩, 5) := ⟨⟨by decide +kernel, by decide +kernel⟩, List.mem_of_getElem? (i := 360) (by decide +kernel), List.mem_of_getElem? (i := 422) (by decide +kernel), List.mem_of_getElem? (i := 423) (by decide +kernel)⟩
theorem lw_p14 : lw_okq (⟨"MovingPlacesModel", "threadsIn", "(I)I"⟩, 5) := ⟨⟨by decide +kernel, by decide +kernel⟩, List.mem_of_getElem? (i := 360) (by decide +kernel), List.mem_of_getElem? (i := 426) (by decide +kernel), List.mem_of_getElem? (i := 427) (by decide +kernel)⟩
theorem lw_p15 : lw_okq (⟨"MovingPlacesModel", "deepOf", "(I)I"⟩, 5) := ⟨⟨by decide +kernel, by decide +kernel⟩, List.mem_of_getElem? (i := 360) (by decide +kernel), List.mem_of_getElem? (i := 430) (by decide +kernel), List.mem_of_getElem? (i := 431) (by decide +kernel)⟩
def lw_privs_1 : List (MethodName × Nat) := [(⟨"MovingPlaces$World", "leastUnsealed", "(III)I"⟩, 12), (⟨"MovingPlaces$World", "unsealedAround", "(II)I"⟩, 12), (⟨"MovingPlaces$World", "leastMessage", "(I)I"⟩, 12), (⟨"MovingPlaces$World", "putInto", "(II)V"⟩, 12), (⟨"MovingPlaces$World", "dissolve", "(II)V"⟩, 12), (⟨"MovingPlaces", "countRows", "(LMovingPlaces$World;II)I"⟩, 5), (⟨"MovingPlaces", "findRow", "(LMovingPlaces$World;IIII)Z"⟩, 5), (⟨"MovingPlaces", "threadInRow", "(II)I"⟩, 5), (⟨"MovingPlaces$World", "hasMessageAnywhere", "(I)Z"⟩, 12), (⟨"MovingPlaces$World", "namesFromThread", "(I)I"⟩, 12), (⟨"MovingPlaces$World", "namesMovedFrom", "(II)I"⟩, 12), (⟨"MovingPlaces$World", "bringsMotion", "(III)Z"⟩, 12), (⟨"MovingPlacesModel", "isPlace", "(I)Z"⟩, 5), (⟨"MovingPlacesModel", "placesIn", "(I)I"⟩, 5), (⟨"MovingPlacesModel", "threadsIn", "(I)I"⟩, 5), (⟨"MovingPlacesModel", "deepOf", "(I)I"⟩, 5)]
theorem lw_r1 : ∀ q ∈ lw_privs_1, lw_okq q := List.forall_mem_cons.mpr ⟨lw_p0, List.forall_mem_cons.mpr ⟨lw_p1, List.forall_mem_cons.mpr ⟨lw_p2, List.forall_mem_cons.mpr ⟨lw_p3, List.forall_mem_cons.mpr ⟨lw_p4, List.forall_mem_cons.mpr ⟨lw_p5, List.forall_mem_cons.mpr ⟨lw_p6, List.forall_mem_cons.mpr ⟨lw_p7, List.forall_mem_cons.mpr ⟨lw_p8, List.forall_mem_cons.mpr ⟨lw_p9, List.forall_mem_cons.mpr ⟨lw_p10, List.forall_mem_cons.mpr ⟨lw_p11, List.forall_mem_cons.mpr ⟨lw_p12, List.forall_mem_cons.mpr ⟨lw_p13, List.forall_mem_cons.mpr ⟨lw_p14, List.forall_mem_cons.mpr ⟨lw_p15, fun _ h => absurd h List.not_mem_nil⟩⟩⟩⟩⟩⟩⟩⟩⟩⟩⟩⟩⟩⟩⟩⟩
theorem lw_p16 : lw_okq (⟨"MovingPlacesModel", "isThread", "(I)Z"⟩, 5) := ⟨⟨by decide +kernel, by decide +kernel⟩, List.mem_of_getElem? (i := 360) (by decide +kernel), List.mem_of_getElem? (i := 438) (by decide +kernel), List.mem_of_getElem? (i := 439) (by decide +kernel)⟩
theorem lw_p17 : lw_okq (⟨"MovingPlacesModel", "nextOf", "(I)I"⟩, 5) := ⟨⟨by decide +kernel, by decide +kernel⟩, List.mem_of_getElem? (i := 360) (by decide +kernel), List.mem_of_getElem? (i := 442) (by decide +kernel), List.mem_of_getElem? (i := 443) (by decide +kernel)⟩
theorem lw_p18 : lw_okq (⟨"MovingPlacesModel", "isOver", "(I)Z"⟩, 5) := ⟨⟨by decide +kernel, by decide +kernel⟩, List.mem_of_getElem? (i := 360) (by decide +kernel), List.mem_of_getElem? (i := 446) (by decide +kernel), List.mem_of_getElem? (i := 447) (by decide +kernel)⟩
theorem lw_p19 : lw_okq (⟨"MovingPlacesModel", "isWithin", "(II)Z"⟩, 5) := ⟨⟨by decide +kernel, by decide +kernel⟩, List.mem_of_getElem? (i := 360) (by decide +kernel), List.mem_of_getElem? (i := 454) (by decide +kernel), List.mem_of_getElem? (i := 455) (by decide +kernel)⟩
theorem lw_p20 : lw_okq (⟨"MovingPlacesModel", "doneWith", "(I)I"⟩, 5) := ⟨⟨by decide +kernel, by decide +kernel⟩, List.mem_of_getElem? (i := 360) (by decide +kernel), List.mem_of_getElem? (i := 462) (by decide +kernel), List.mem_of_getElem? (i := 463) (by decide +kernel)⟩
theorem lw_p21 : lw_okq (⟨"MovingPlacesModel", "nameOf", "(I)I"⟩, 5) := ⟨⟨by decide +kernel, by decide +kernel⟩, List.mem_of_getElem? (i := 360) (by decide +kernel), List.mem_of_getElem? (i := 466) (by decide +kernel), List.mem_of_getElem? (i := 467) (by decide +kernel)⟩
theorem lw_p22 : lw_okq (⟨"MovingPlacesModel", "leastIn", "(III)I"⟩, 5) := ⟨⟨by decide +kernel, by decide +kernel⟩, List.mem_of_getElem? (i := 360) (by decide +kernel), List.mem_of_getElem? (i := 470) (by decide +kernel), List.mem_of_getElem? (i := 471) (by decide +kernel)⟩
theorem lw_p23 : lw_okq (⟨"MovingPlacesModel", "leastMessage", "(I)I"⟩, 5) := ⟨⟨by decide +kernel, by decide +kernel⟩, List.mem_of_getElem? (i := 360) (by decide +kernel), List.mem_of_getElem? (i := 474) (by decide +kernel), List.mem_of_getElem? (i := 475) (by decide +kernel)⟩
theorem lw_p24 : lw_okq (⟨"MovingPlacesModel", "does", "(I)Z"⟩, 5) := ⟨⟨by decide +kernel, by decide +kernel⟩, List.mem_of_getElem? (i := 360) (by decide +kernel), List.mem_of_getElem? (i := 482) (by decide +kernel), List.mem_of_getElem? (i := 483) (by decide +kernel)⟩
theorem lw_p25 : lw_okq (⟨"MovingPlacesModel", "opens", "(II)V"⟩, 5) := ⟨⟨by decide +kernel, by decide +kernel⟩, List.mem_of_getElem? (i := 360) (by decide +kernel), List.mem_of_getElem? (i := 486) (by decide +kernel), List.mem_of_getElem? (i := 487) (by decide +kernel)⟩
theorem lw_p26 : lw_okq (⟨"MovingPlacesModel", "allRows", "(I)I"⟩, 5) := ⟨⟨by decide +kernel, by decide +kernel⟩, List.mem_of_getElem? (i := 360) (by decide +kernel), List.mem_of_getElem? (i := 498) (by decide +kernel), List.mem_of_getElem? (i := 499) (by decide +kernel)⟩
theorem lw_p27 : lw_okq (⟨"MovingPlacesModel", "keepsAt", "(I)V"⟩, 5) := ⟨⟨by decide +kernel, by decide +kernel⟩, List.mem_of_getElem? (i := 360) (by decide +kernel), List.mem_of_getElem? (i := 502) (by decide +kernel), List.mem_of_getElem? (i := 503) (by decide +kernel)⟩
theorem lw_p28 : lw_okq (⟨"MovingPlacesModel", "actsRow", "(II)Z"⟩, 5) := ⟨⟨by decide +kernel, by decide +kernel⟩, List.mem_of_getElem? (i := 360) (by decide +kernel), List.mem_of_getElem? (i := 506) (by decide +kernel), List.mem_of_getElem? (i := 507) (by decide +kernel)⟩
theorem lw_p29 : lw_okq (⟨"MovingPlacesModel", "threadAt", "(III)I"⟩, 5) := ⟨⟨by decide +kernel, by decide +kernel⟩, List.mem_of_getElem? (i := 360) (by decide +kernel), List.mem_of_getElem? (i := 510) (by decide +kernel), List.mem_of_getElem? (i := 511) (by decide +kernel)⟩
theorem lw_p30 : lw_okq (⟨"MovingPlacesModel", "putsFrom", "(I)V"⟩, 5) := ⟨⟨by decide +kernel, by decide +kernel⟩, List.mem_of_getElem? (i := 360) (by decide +kernel), List.mem_of_getElem? (i := 514) (by decide +kernel), List.mem_of_getElem? (i := 515) (by decide +kernel)⟩
theorem lw_p31 : lw_okq (⟨"MovingPlacesModel", "findSoonest", "(II)I"⟩, 5) := ⟨⟨by decide +kernel, by decide +kernel⟩, List.mem_of_getElem? (i := 360) (by decide +kernel), List.mem_of_getElem? (i := 522) (by decide +kernel), List.mem_of_getElem? (i := 523) (by decide +kernel)⟩
def lw_privs_2 : List (MethodName × Nat) := [(⟨"MovingPlacesModel", "isThread", "(I)Z"⟩, 5), (⟨"MovingPlacesModel", "nextOf", "(I)I"⟩, 5), (⟨"MovingPlacesModel", "isOver", "(I)Z"⟩, 5), (⟨"MovingPlacesModel", "isWithin", "(II)Z"⟩, 5), (⟨"MovingPlacesModel", "doneWith", "(I)I"⟩, 5), (⟨"MovingPlacesModel", "nameOf", "(I)I"⟩, 5), (⟨"MovingPlacesModel", "leastIn", "(III)I"⟩, 5), (⟨"MovingPlacesModel", "leastMessage", "(I)I"⟩, 5), (⟨"MovingPlacesModel", "does", "(I)Z"⟩, 5), (⟨"MovingPlacesModel", "opens", "(II)V"⟩, 5), (⟨"MovingPlacesModel", "allRows", "(I)I"⟩, 5), (⟨"MovingPlacesModel", "keepsAt", "(I)V"⟩, 5), (⟨"MovingPlacesModel", "actsRow", "(II)Z"⟩, 5), (⟨"MovingPlacesModel", "threadAt", "(III)I"⟩, 5), (⟨"MovingPlacesModel", "putsFrom", "(I)V"⟩, 5), (⟨"MovingPlacesModel", "findSoonest", "(II)I"⟩, 5)]
theorem lw_r2 : ∀ q ∈ lw_privs_2, lw_okq q := List.forall_mem_cons.mpr ⟨lw_p16, List.forall_mem_cons.mpr ⟨lw_p17, List.forall_mem_cons.mpr ⟨lw_p18, List.forall_mem_cons.mpr ⟨lw_p19, List.forall_mem_cons.mpr ⟨lw_p20, List.forall_mem_cons.mpr ⟨lw_p21, List.forall_mem_cons.mpr ⟨lw_p22, List.forall_mem_cons.mpr ⟨lw_p23, List.forall_mem_cons.mpr ⟨lw_p24, List.forall_mem_cons.mpr ⟨lw_p25, List.forall_mem_cons.mpr ⟨lw_p26, List.forall_mem_cons.mpr ⟨lw_p27, List.forall_mem_cons.mpr ⟨lw_p28, List.forall_mem_cons.mpr ⟨lw_p29, List.forall_mem_cons.mpr ⟨lw_p30, List.forall_mem_cons.mpr ⟨lw_p31, fun _ h => absurd h List.not_mem_nil⟩⟩⟩⟩⟩⟩⟩⟩⟩⟩⟩⟩⟩⟩⟩⟩
theorem lw_p32 : lw_okq (⟨"MovingPlacesModel", "saidNow", "()I"⟩, 5) := ⟨⟨by decide +kernel, by decide +kernel⟩, List.mem_of_getElem? (i := 360) (by decide +kernel), List.mem_of_getElem? (i := 530) (by decide +kernel), List.mem_of_getElem? (i := 531) (by decide +kernel)⟩
theorem lw_p33 : lw_okq (⟨"MovingPlacesModel", "manyPlaces", "()I"⟩, 5) := ⟨⟨by decide +kernel, by decide +kernel⟩, List.mem_of_getElem? (i := 360) (by decide +kernel), List.mem_of_getElem? (i := 553) (by decide +kernel), List.mem_of_getElem? (i := 554) (by decide +kernel)⟩
theorem lw_p34 : lw_okq (⟨"MovingPlacesModel", "manyOver", "()I"⟩, 5) := ⟨⟨by decide +kernel, by decide +kernel⟩, List.mem_of_getElem? (i := 360) (by decide +kernel), List.mem_of_getElem? (i := 557) (by decide +kernel), List.mem_of_getElem? (i := 558) (by decide +kernel)⟩
theorem lw_p35 : lw_okq (⟨"MovingPlacesModel", "manyMessages", "()I"⟩, 5) := ⟨⟨by decide +kernel, by decide +kernel⟩, List.mem_of_getElem? (i := 360) (by decide +kernel), List.mem_of_getElem? (i := 561) (by decide +kernel), List.mem_of_getElem? (i := 562) (by decide +kernel)⟩
def lw_privs_3 : List (MethodName × Nat) := [(⟨"MovingPlacesModel", "saidNow", "()I"⟩, 5), (⟨"MovingPlacesModel", "manyPlaces", "()I"⟩, 5), (⟨"MovingPlacesModel", "manyOver", "()I"⟩, 5), (⟨"MovingPlacesModel", "manyMessages", "()I"⟩, 5)]
theorem lw_r3 : ∀ q ∈ lw_privs_3, lw_okq q := List.forall_mem_cons.mpr ⟨lw_p32, List.forall_mem_cons.mpr ⟨lw_p33, List.forall_mem_cons.mpr ⟨lw_p34, List.forall_mem_cons.mpr ⟨lw_p35, fun _ h => absurd h List.not_mem_nil⟩⟩⟩⟩
def lw_privs : List (MethodName × Nat) := lw_privs_1 ++ (lw_privs_2 ++ (lw_privs_3))
def lw_tbl : List Cond := k2_sels lw_privs ++ tables_1
theorem lw_privs_ok : ∀ q ∈ lw_privs, lw_okq q := by
  show ∀ q ∈ lw_privs_1 ++ (lw_privs_2 ++ (lw_privs_3)), lw_okq q
  exact List.forall_mem_append.mpr ⟨lw_r1, List.forall_mem_append.mpr ⟨lw_r2, lw_r3⟩⟩
/-! ===== the claim's own names, the words of its tables, contracts and calls ===== -/
def rW : String := "MovingPlaces$World"
def rM : String := "MovingPlaces"
def rR : String := "MovingPlacesModel"
def rJ : String := "java/lang/Integer"
def tW : u_T := fun k => match k with
  | 0 => ("MovingPlaces$World", "placeCount", "I", false)
  | 1 => ("MovingPlaces$World", "goneSet", "I", false)
  | 2 => ("MovingPlaces$World", "sealedSet", "I", false)
  | 3 => ("MovingPlaces$World", "names", "[I", true)
  | 4 => ("MovingPlaces$World", "around", "[I", true)
  | 5 => ("MovingPlaces$World", "messages", "[I", true)
  | 6 => ("MovingPlaces$World", "threadCount", "I", false)
  | 7 => ("MovingPlaces$World", "spots", "[I", true)
  | 8 => ("MovingPlaces$World", "acts", "[J", true)
  | 9 => ("MovingPlaces$World", "actCounts", "[I", true)
  | 10 => ("MovingPlaces$World", "doneCounts", "[I", true)
  | _ => ("MovingPlaces$World", "heard", "[I", true)
def gW : Nat → FieldType := fun k => match k with
  | 0 => .int
  | 1 => .int
  | 2 => .int
  | 3 => .array .int
  | 4 => .array .int
  | 5 => .array .int
  | 6 => .int
  | 7 => .array .int
  | 8 => .array .long
  | 9 => .array .int
  | 10 => .array .int
  | _ => .array .int
def tM : u_T := fun k => match k with
  | 0 => ("MovingPlaces", "now", "LMovingPlaces$World;", true)
  | 1 => ("MovingPlaces", "image", "LMovingPlaces$World;", true)
  | 2 => ("MovingPlaces", "hasImage", "Z", false)
  | 3 => ("MovingPlaces", "tries", "[LMovingPlaces$World;", true)
  | _ => ("MovingPlaces", "row", "[I", true)
def gM : Nat → FieldType := fun k => match k with
  | 0 => .object "MovingPlaces$World"
  | 1 => .object "MovingPlaces$World"
  | 2 => .boolean
  | 3 => .array (.object "MovingPlaces$World")
  | _ => .array .int
def tR : u_T := fun k => match k with
  | 0 => ("MovingPlacesModel", "now", "[I", true)
  | 1 => ("MovingPlacesModel", "image", "[I", true)
  | 2 => ("MovingPlacesModel", "kept", "[I", true)
  | 3 => ("MovingPlacesModel", "isImage", "Z", false)
  | _ => ("MovingPlacesModel", "row", "[I", true)
def gR : Nat → FieldType := fun k => match k with
  | 0 => .array .int
  | 1 => .array .int
  | 2 => .array .int
  | 3 => .boolean
  | _ => .array .int
theorem nW : ∀ a, a < 12 → ∀ b, b < 12 → a ≠ b → (tW a).2.1 ≠ (tW b).2.1 := by decide +kernel
theorem gW_ok : ∀ k, k < 12 → parseFieldDescriptor (tW k).2.2.1 = some (gW k) := by decide +kernel
theorem nM : ∀ a, a < 5 → ∀ b, b < 5 → a ≠ b → (tM a).2.1 ≠ (tM b).2.1 := by decide +kernel
theorem gM_ok : ∀ k, k < 5 → parseFieldDescriptor (tM k).2.2.1 = some (gM k) := by decide +kernel
theorem nR : ∀ a, a < 5 → ∀ b, b < 5 → a ≠ b → (tR a).2.1 ≠ (tR b).2.1 := by decide +kernel
theorem gR_ok : ∀ k, k < 5 → parseFieldDescriptor (tR k).2.2.1 = some (gR k) := by decide +kernel
abbrev mp_cls : List vw_C := [(rW, tW, 12), (rM, tM, 5), (rR, tR, 5)]
/-- all the good words of the tables: the same list for every method -/
def wT : List Cond := lw_tbl.filter goodWord
theorem wT_in {w : Cond} (i : Nat) (h : lw_tbl[i]? = some w) (hg : goodWord w = true) : w ∈ wT := List.mem_filter.mpr ⟨List.mem_of_getElem? h, hg⟩
theorem wT_good {w : Cond} (h : w ∈ wT) : (w.onTables && w.keeps) = true ∨ ∃ ty, w = .arrayClass ty := good_of_word (List.mem_filter.mp h).2
theorem wT_by {ws : List Cond} (ps : List Nat) (h : ws = ps.filterMap (fun i => lw_tbl[i]?)) (hg : ws.all goodWord = true) : ∀ w ∈ ws, w ∈ wT := by
  intro w hw
  have h1 := List.all_eq_true.mp hg w hw
  rw [h] at hw
  obtain ⟨i, -, hi⟩ := List.mem_filterMap.mp hw
  exact wT_in i hi h1
theorem wT_gd {x : Cond} (hc : x ∈ wT) : GoodIn wT (x :: wT) := by
  intro w h
  rcases List.mem_cons.mp h with rfl | h
  · exact ⟨hc, wT_good hc⟩
  · exact ⟨h, wT_good h⟩
/-! the classes' numbers, the array classes, the first new address -/
abbrev KK : Type := Nat × (Nat → ClassId) × (Nat → Nat → Nat) × ClassId × ClassId × ClassId
abbrev kD (k : KK) : va_G := (k.2.1, k.2.2.1)
abbrev kI (k : KK) : ClassId := k.2.2.2.1
abbrev kL (k : KK) : ClassId := k.2.2.2.2.1
abbrev kO (k : KK) : ClassId := k.2.2.2.2.2
abbrev kT (k : KK) : List (ClassId × FieldType) := [(kI k, .int), (kL k, .long), (kO k, .object rW)]
def mp_wt : Nat → Int64 := fun j => if j = 0 then 1 else if j = 1 then 100 else if j = 2 then 10000 else if j = 3 then 1000000 else if j = 4 then 100000000 else 10000000000
def mp_N (k : KK) : Nat → Prop := fun q => k.1 ≤ q
def mp_GW (k : KK) (U : State) (H : Heap) : Prop := ∃ t : Nat, va_Z "MovingPlaces" "WEIGHTS" "[J" (.ref t) (mp_N k) U H ∧ va_T .long t 6 (fun j => .long (mp_wt j)) (mp_N k) U H
abbrev mp_nm : Cond := .methodLinkNest rW 60 ⟨rM, "isName", "(I)Z"⟩ "MovingPlaces"
abbrev mp_nf : Cond := .fieldLinkNest rW 85 "MovingPlaces" "WEIGHTS" "[J" "MovingPlaces"
def mp_E (k : KK) (U : State) : Prop := va_K (kD k) mp_cls (kT k) U ∧ va_Nw mp_nm U ∧ va_Nw mp_nf U ∧ mp_GW k U U.heap
theorem mp_E.call {k : KK} {U : State} (h : mp_E k U) (g : JFrame) (mk : MethodId) (a : Array Value) : mp_E k (U.calling g mk a) := by
  obtain ⟨h1, h2, h3, t, h4, h5⟩ := h
  exact ⟨va_K.moved (u := U) (U := U.calling g mk a) (Vm.Alike.refl U.vm) h1, va_Nw.same (u := U) (U := U.calling g mk a) rfl rfl h2, va_Nw.same (u := U) (U := U.calling g mk a) rfl rfl h3, t, va_Z.moved (u := U) (U := U.calling g mk a) (Vm.Alike.refl U.vm) h4, va_T.moved (u := U) (U := U.calling g mk a) (Vm.Alike.refl U.vm) h5⟩
theorem mp_E.at {k : KK} {s U : State} {H : Heap} {locs : List Loc} (h : mp_E k s) (hS : va_S (mp_N k) s.heap H locs) (hU : U.heap = H) (hW : s.WarmedH U.vm) : mp_E k U := by
  obtain ⟨h1, h2, h3, t, h4, h5⟩ := h
  refine ⟨va_K.moved hW.alike h1, va_Nw.warmM hW h2, va_Nw.warmF hW h3, t, ?_, ?_⟩
  · rw [hU]; exact (h4.moved hW.alike).kept (fun a ha hn => hS.2.1 a ha hn)
  · rw [hU]; exact (h5.moved hW.alike).kept (fun a ha hn => hS.2.1 a ha hn)
/-- a method's world: its cells, apart, all new; and what stays -/
def mp_P (k : KK) (ws : va_W) (U : State) : Prop := va_P (kD k) mp_cls ws U.heap ∧ va_D (mp_N k) ws ∧ mp_E k U
theorem mp_blind {k : KK} {av : List Value} {ws : va_W} : FrameBlind (va_Pc av (mp_P k ws)) := fun a U g mk q => ⟨q.1, q.2.1, q.2.2.1, q.2.2.2.call g mk a⟩
def mp_A (as : List Nat) : Nat → Prop := fun q => q ∈ as
theorem mp_own {A : Nat → Prop} {ws : va_W} {as : List Nat} (h : va_D A ws) (e : ws.map (fun q => q.1) = as) : va_D (mp_A as) ws := ⟨h.1, fun k q hk => by
  show q.1 ∈ as
  rw [← e]
  exact List.mem_map.mpr ⟨q, List.mem_of_getElem? hk, rfl⟩⟩
theorem mp_new {A : Nat → Prop} {ws : va_W} {as : List Nat} (h : va_D A ws) (e : ws.map (fun q => q.1) = as) : ∀ q, mp_A as q → A q := fun q hq => by
  have hq : q ∈ as := hq
  rw [← e] at hq
  obtain ⟨x, hx, rfl⟩ := List.mem_map.mp hq
  obtain ⟨i, hi⟩ := List.getElem?_of_mem hx
  exact h.2 i x hi
theorem mp_S {A B : Nat → Prop} {H0 H : Heap} {locs : List Loc} (hS : va_S A H0 H locs) (h : ∀ q, A q → B q) : va_S B H0 H locs := ⟨hS.1, fun q h1 h2 => hS.2.1 q h1 (fun z => h2 (h q z)), fun q hq => h _ (hS.2.2 q hq)⟩
theorem mp_Dw {A B : Nat → Prop} {ws : va_W} (hD : va_D A ws) (h : ∀ q, A q → B q) : va_D B ws := ⟨hD.1, fun k q hk => h _ (hD.2 k q hk)⟩
theorem mp_Ds {A : Nat → Prop} {ws ws' : va_W} (hD : va_D A ws) (e : ws'.map (fun q => q.1) = ws.map (fun q => q.1)) : va_D A ws' := by
  have key : ∀ (k : Nat) (q : Nat × va_E), ws'[k]? = some q → ∃ q0, ws[k]? = some q0 ∧ q0.1 = q.1 := by
    intro k q hk
    have h1 : (ws'.map (fun q => q.1))[k]? = some q.1 := by rw [List.getElem?_map, hk]; rfl
    rw [e, List.getElem?_map] at h1
    cases h2 : ws[k]? with
    | none => rw [h2] at h1; cases h1
    | some x => rw [h2] at h1; exact ⟨x, rfl, Option.some.inj h1⟩
  refine ⟨fun i j x y hi hj hxy => ?_, fun k q hk => ?_⟩
  · obtain ⟨x0, h1, h2⟩ := key i x hi
    obtain ⟨y0, h3, h4⟩ := key j y hj
    exact hD.1 i j x0 y0 h1 h3 (h2.trans (hxy.trans h4.symm))
  · obtain ⟨q0, h1, h2⟩ := key k q hk
    rw [← h2]
    exact hD.2 k q0 h1
/-- ends: the heap is as it was; the cells of the world have new contents -/
def mp_Qs (rv : Option Value) : Array Value → State → Outcome → State → Prop := fun _ st o t => o = .returned rv ∧ t.heap = st.heap
def mp_Qm (k : KK) (rv : Option Value) (ws : va_W) (as : List Nat) : Array Value → State → Outcome → State → Prop := fun _ st o t => o = .returned rv ∧ va_P (kD k) mp_cls ws t.heap ∧ va_F (mp_A as) st t
abbrev mp_CS (l : Launch) (k : KK) (y : MethodName) (bytes : ByteArray) (maxL : Nat) (ret : Option FieldType) (rm : Room) (av : List Value) (ws : va_W) (rv : Option Value) : Prop := Met l y (Cond.code y bytes maxL ret :: wT) rm (va_Pc av (mp_P k ws)) (mp_Qs rv) 0 0 (fun _ => False)
abbrev mp_CM (l : Launch) (k : KK) (y : MethodName) (bytes : ByteArray) (maxL : Nat) (ret : Option FieldType) (rm : Room) (av : List Value) (ws ws' : va_W) (as : List Nat) (rv : Option Value) : Prop := Met l y (Cond.code y bytes maxL ret :: wT) rm (va_Pc av (mp_P k ws)) (mp_Qm k rv ws' as) 0 0 (mp_A as)
/-- what holds in a method's body -/
def mp_C (p : Program) (s : State) (m : MethodId) (args : Array Value) (meth : Method) (c : Code) (cc : ByteArray) (nL : Nat) (ret : Option FieldType) (own : String) : Prop :=
  p.tables.exec = Jvm.exec ∧ c.code = cc ∧ meth.sig.returnType = ret ∧ c.maxLocals = nL ∧ s.vm.findClass own = some m.cls ∧ (∀ w ∈ wT, w.before args s = true) ∧ meth.locks = false
theorem mp_C.of {p : Program} {l : Launch} {y : MethodName} {rm : Room} {cc : ByteArray} {maxL : Nat} {ret : Option FieldType} {e : Env} {s : State} {m : MethodId} {args : Array Value} {below : List Frame} {meth : Method} {c : Code} {s₁ : State} (B : BodyLoose p l y (headSpec (Cond.code y cc maxL ret :: wT) rm) cc maxL ret e s m args below meth c s₁) (hml : c.maxLocals = maxL) : mp_C p s m args meth c cc maxL ret y.cls :=
  ⟨B.exec, B.bytes, B.returns, hml, findClass_of_methodNamed B.named, fun w hw => atoms_spec (ws := Cond.code y cc maxL ret :: wT) B.pre w (List.mem_cons_of_mem _ hw), B.notSynchronized⟩
/-- the facts of a call, by the caller's class and the link's number -/
def mp_V (own : String) (idx : Nat) (y : MethodName) (bytes : ByteArray) (maxL : Nat) (ret : Option FieldType) (n : Nat) : Prop :=
  Cond.methodLink own idx y ∈ wT ∧ Cond.instanceMethod y ∈ wT ∧ Cond.selects y.cls y y ∈ wT ∧ Cond.initialized y.cls ∈ wT ∧ Cond.code y bytes maxL ret ∈ wT ∧ (y.cls ≠ "java/lang/invoke/MethodHandle" ∧ y.cls ≠ "java/lang/invoke/VarHandle" ∧ (parseMethodDescriptor y.desc).map (fun d => d.parameters.length) = some n)
def mp_T (own : String) (idx : Nat) (y : MethodName) (bytes : ByteArray) (maxL : Nat) (ret : Option FieldType) (n : Nat) : Prop :=
  Cond.methodLink own idx y ∈ wT ∧ Cond.static y ∈ wT ∧ Cond.initialized y.cls ∈ wT ∧ Cond.code y bytes maxL ret ∈ wT ∧ (y.cls ≠ "java/lang/invoke/MethodHandle" ∧ y.cls ≠ "java/lang/invoke/VarHandle" ∧ (parseMethodDescriptor y.desc).map (fun d => d.parameters.length) = some n)
/-! the program's own functions: a place that isn't there, a divisor 0, a number that is no boolean: none -/
def mp_ix (i : Int32) (n : Nat) : Bool := decide (0 ≤ i.toInt) && decide (i.toInt < (n : Int))
theorem mp_ix_in {i : Int32} {n : Nat} (h : mp_ix i n = true) : vp_in i n := by
  simp only [mp_ix, Bool.and_eq_true, decide_eq_true_eq] at h
  exact vp_in_iff.mpr h
def mp_ld {α β : Type} (f : Nat → α) (n : Nat) (i : Int32) (K : α → Option β) : Option β := if mp_ix i n = true then K (f i.toNatClampNeg) else none
def mp_st {β : Type} (n : Nat) (i : Int32) (K : Option β) : Option β := if mp_ix i n = true then K else none
def mp_nz {β : Type} (d : Int32) (K : Option β) : Option β := if d = 0 then none else K
def mp_zb {β : Type} (v : Int32) (K : Option β) : Option β := if v &&& 1 = v then K else none
theorem mp_lds {α β : Type} {f : Nat → α} {n : Nat} {i : Int32} {K : α → Option β} {z : β} (h : mp_ld f n i K = some z) : vp_in i n ∧ ∃ x, x = f i.toNatClampNeg ∧ K x = some z := by
  unfold mp_ld at h
  by_cases hi : mp_ix i n = true
  · rw [if_pos hi] at h; exact ⟨mp_ix_in hi, _, rfl, h⟩
  · rw [if_neg hi] at h; cases h
theorem mp_sts {β : Type} {n : Nat} {i : Int32} {K : Option β} {z : β} (h : mp_st n i K = some z) : vp_in i n ∧ K = some z := by
  unfold mp_st at h
  by_cases hi : mp_ix i n = true
  · rw [if_pos hi] at h; exact ⟨mp_ix_in hi, h⟩
  · rw [if_neg hi] at h; cases h
theorem mp_nzs {β : Type} {d : Int32} {K : Option β} {z : β} (h : mp_nz d K = some z) : ¬ d = 0 ∧ K = some z := by
  unfold mp_nz at h
  by_cases hi : d = 0
  · rw [if_pos hi] at h; cases h
  · rw [if_neg hi] at h; exact ⟨hi, h⟩
theorem mp_zbs {β : Type} {v : Int32} {K : Option β} {z : β} (h : mp_zb v K = some z) : narrow .boolean (.int v) = .int v ∧ K = some z := by
  unfold mp_zb at h
  by_cases hi : v &&& 1 = v
  · rw [if_pos hi] at h; exact ⟨congrArg Value.int hi, h⟩
  · rw [if_neg hi] at h; cases h
theorem mp_bs {α β : Type} {o : Option α} {K : α → Option β} {z : β} (h : o.bind K = some z) : ∃ x, o = some x ∧ K x = some z := by
  cases o with
  | none => cases h
  | some x => exact ⟨x, rfl, h⟩
theorem mp_t {c : Prop} [Decidable c] {α : Type} {a b : Option α} {z : α} (hc : c) (h : (if c then a else b) = some z) : a = some z := by rw [if_pos hc] at h; exact h
theorem mp_f {c : Prop} [Decidable c] {α : Type} {a b : Option α} {z : α} (hc : ¬ c) (h : (if c then a else b) = some z) : b = some z := by rw [if_neg hc] at h; exact h
section MPR
variable {p : Program} {l : Launch} {e : Env} {R : Room} {s : State} {m : MethodId} {args : Array Value} {below : List Frame} {meth : Method} {c : Code} {H : Heap} {locs : List Loc} {cells slots : Nat} {Q : State → Prop}
variable {cc : ByteArray} {nL : Nat} {ret : Option FieldType} {own : String} {k : KK} {pc : Nat} {ls : Array Slot} {rest st : List Value} {ws ws' : va_W} {a : Nat}
/-! returns -/
theorem mp_ri {v z : Int32} (cx : mp_C p s m args meth c cc nL (some .int) own) (h : some v = some z) (hdg : decode cc pc = .ok (.ireturn, 1)) : W p l e R s m args below meth c s.heap [] 0 0 (MQ below (mp_Qs (some (.int z))) args s 0 0 (fun _ => False)) (F0 m pc ls [.int v]) := by
  obtain ⟨hx, hb, hr, -, -, -, hlocks⟩ := cx
  cases h
  exact W.iret hx hb hr (fun t ht hW => ⟨rfl, ht⟩) (fun q hq => by cases hq) hdg
theorem mp_rz {v z : Int32} (cx : mp_C p s m args meth c cc nL (some .boolean) own) (hn : narrow .boolean (.int v) = .int v) (h : some v = some z) (hdg : decode cc pc = .ok (.ireturn, 1)) : W p l e R s m args below meth c s.heap [] 0 0 (MQ below (mp_Qs (some (.int z))) args s 0 0 (fun _ => False)) (F0 m pc ls [.int v]) := by
  obtain ⟨hx, hb, hr, -, -, -, hlocks⟩ := cx
  cases h
  exact W.zret hx hb hr hn (fun t ht hW => ⟨rfl, ht⟩) (fun q hq => by cases hq) hdg
theorem mp_rim {S : Type} {v : Int32} {u : S} {z : Int32 × S} {cf : S → va_W} {as : List Nat} (cx : mp_C p s m args meth c cc nL (some .int) own) (h : some (v, u) = some z) (hP : va_P (kD k) mp_cls (cf u) H) (hS : va_S (mp_A as) s.heap H locs) (hdg : decode cc pc = .ok (.ireturn, 1)) : W p l e R s m args below meth c H locs 0 0 (MQ below (mp_Qm k (some (.int z.1)) (cf z.2) as) args s 0 0 (mp_A as)) (F0 m pc ls [.int v]) := by
  obtain ⟨hx, hb, hr, -, -, -, hlocks⟩ := cx
  cases h
  exact W.iret hx hb hr (fun t ht hW => ⟨rfl, by rw [ht]; exact hP, hS.F ht⟩) hS.2.2 hdg
theorem mp_rzm {S : Type} {v : Int32} {u : S} {z : Int32 × S} {cf : S → va_W} {as : List Nat} (cx : mp_C p s m args meth c cc nL (some .boolean) own) (hn : narrow .boolean (.int v) = .int v) (h : some (v, u) = some z) (hP : va_P (kD k) mp_cls (cf u) H) (hS : va_S (mp_A as) s.heap H locs) (hdg : decode cc pc = .ok (.ireturn, 1)) : W p l e R s m args below meth c H locs 0 0 (MQ below (mp_Qm k (some (.int z.1)) (cf z.2) as) args s 0 0 (mp_A as)) (F0 m pc ls [.int v]) := by
  obtain ⟨hx, hb, hr, -, -, -, hlocks⟩ := cx
  cases h
  exact W.zret hx hb hr hn (fun t ht hW => ⟨rfl, by rw [ht]; exact hP, hS.F ht⟩) hS.2.2 hdg
theorem mp_rvm {S : Type} {u z : S} {cf : S → va_W} {as : List Nat} (cx : mp_C p s m args meth c cc nL none own) (h : some u = some z) (hP : va_P (kD k) mp_cls (cf u) H) (hS : va_S (mp_A as) s.heap H locs) (hdg : decode cc pc = .ok (.return_, 1)) : W p l e R s m args below meth c H locs 0 0 (MQ below (mp_Qm k none (cf z) as) args s 0 0 (mp_A as)) (F0 m pc ls []) := by
  obtain ⟨hx, hb, hr, -, -, -, hlocks⟩ := cx
  cases h
  exact W.vret hx hb hr (fun t ht hW => ⟨rfl, by rw [ht]; exact hP, hS.F ht⟩) hS.2.2 hdg
/-! fields -/
theorem mp_gW (cx : mp_C p s m args meth c cc nL ret own) (hE : mp_E k s) (hP : va_P (kD k) mp_cls ws H) (iW : ∀ w ∈ u_ws rW tW 12, w ∈ wT) (q0 : Nat) {fs : List Value} (he : ws[q0]? = some (a, .inr (0, fs))) (j : Nat) (hj : j < 12) {idx : Nat} (hq : Cond.fieldLink own idx rW (tW j).2.1 (tW j).2.2.1 ∈ wT) (hsame : (tW j).1 = rW) {v : Value} (hv : fs[j]? = some v) (hdg : decode cc pc = .ok (.getfield idx, 3))
    (kk : W p l e R s m args below meth c H locs cells slots Q (F0 m (pc + 3) ls (v :: rest))) : W p l e R s m args below meth c H locs cells slots Q (F0 m pc ls (.ref a :: rest)) := by
  obtain ⟨hx, hb, hr, hml, hown, hts, hlocks⟩ := cx
  exact va_get (D := kD k) (ci := 0) (v := v) (C := rW) (T := tW) (N := 12) hx hb hts iW hown hE.1 hP q0 he rfl j hj (hts _ hq) (fun _ h9 => by rw [hsame] at h9; exact h9) hv hdg kk
theorem mp_gM (cx : mp_C p s m args meth c cc nL ret own) (hE : mp_E k s) (hP : va_P (kD k) mp_cls ws H) (iM : ∀ w ∈ u_ws rM tM 5, w ∈ wT) (q0 : Nat) {fs : List Value} (he : ws[q0]? = some (a, .inr (1, fs))) (j : Nat) (hj : j < 5) {idx : Nat} (hq : Cond.fieldLink own idx rM (tM j).2.1 (tM j).2.2.1 ∈ wT) (hsame : (tM j).1 = rM) {v : Value} (hv : fs[j]? = some v) (hdg : decode cc pc = .ok (.getfield idx, 3))
    (kk : W p l e R s m args below meth c H locs cells slots Q (F0 m (pc + 3) ls (v :: rest))) : W p l e R s m args below meth c H locs cells slots Q (F0 m pc ls (.ref a :: rest)) := by
  obtain ⟨hx, hb, hr, hml, hown, hts, hlocks⟩ := cx
  exact va_get (D := kD k) (ci := 1) (v := v) (C := rM) (T := tM) (N := 5) hx hb hts iM hown hE.1 hP q0 he rfl j hj (hts _ hq) (fun _ h9 => by rw [hsame] at h9; exact h9) hv hdg kk
theorem mp_gR (cx : mp_C p s m args meth c cc nL ret own) (hE : mp_E k s) (hP : va_P (kD k) mp_cls ws H) (iR : ∀ w ∈ u_ws rR tR 5, w ∈ wT) (q0 : Nat) {fs : List Value} (he : ws[q0]? = some (a, .inr (2, fs))) (j : Nat) (hj : j < 5) {idx : Nat} (hq : Cond.fieldLink own idx rR (tR j).2.1 (tR j).2.2.1 ∈ wT) (hsame : (tR j).1 = rR) {v : Value} (hv : fs[j]? = some v) (hdg : decode cc pc = .ok (.getfield idx, 3))
    (kk : W p l e R s m args below meth c H locs cells slots Q (F0 m (pc + 3) ls (v :: rest))) : W p l e R s m args below meth c H locs cells slots Q (F0 m pc ls (.ref a :: rest)) := by
  obtain ⟨hx, hb, hr, hml, hown, hts, hlocks⟩ := cx
  exact va_get (D := kD k) (ci := 2) (v := v) (C := rR) (T := tR) (N := 5) hx hb hts iR hown hE.1 hP q0 he rfl j hj (hts _ hq) (fun _ h9 => by rw [hsame] at h9; exact h9) hv hdg kk
/-! calls that leave the heap as it is -/
theorem mp_callS {rv : Option Value} {av : Array Value} (hr : va_Run p l e R s m args below meth c H locs cells slots 0 0 (F0 m pc ls st) rest (mp_Qs rv av) (fun _ => False)) (kk : W p l e R s m args below meth c H locs cells slots Q (F0 m (pc + 3) ls (rv.toList ++ rest))) : W p l e R s m args below meth c H locs cells slots Q (F0 m pc ls st) := by
  intro T hT X
  obtain ⟨v, st₀, t, T', L, h0, X', hL, e1, e2, ⟨hv, hh⟩, st⟩ := hr T hT X
  cases hv
  obtain ⟨t2, a1, b1⟩ := kk T' (by rw [e1, hh, h0]) (Stand.forget X' (fun q h => (hL q h).elim))
  exact ⟨t2, st t2 a1, b1⟩
theorem mp_callM {rv : Option Value} {av : Array Value} {as : List Nat} {A : Nat → Prop} {H0 : Heap} (hr : va_Run p l e R s m args below meth c H locs cells slots 0 0 (F0 m pc ls st) rest (mp_Qm k rv ws' as av) (mp_A as)) (hS : va_S A H0 H locs) (hA : ∀ q, mp_A as q → A q)
    (kk : ∀ (H1 : Heap) (locs1 : List Loc), va_P (kD k) mp_cls ws' H1 → (∀ q : Nat, q < H.size → ¬ mp_A as q → H1[q]? = H[q]?) → va_S A H0 H1 locs1 → W p l e R s m args below meth c H1 locs1 cells slots Q (F0 m (pc + 3) ls (rv.toList ++ rest))) : W p l e R s m args below meth c H locs cells slots Q (F0 m pc ls st) := by
  intro T hT X
  obtain ⟨v, st₀, t, T', L, h0, X', hL, e1, e2, ⟨hv, hp, hz, hk⟩, st⟩ := hr T hT X
  cases hv
  rw [h0] at hz hk
  obtain ⟨t2, a1, b1⟩ := kk T'.heap (locs ++ L) (by rw [e1]; exact hp) (fun q h1 h2 => by rw [e1]; exact hk q h1 h2)
    ⟨Nat.le_trans hS.1 (by rw [e1]; exact hz), fun q h1 h2 => by rw [e1, hk q (Nat.lt_of_lt_of_le h1 hS.1) (fun z => h2 (hA q z))]; exact hS.2.1 q h1 h2, fun q hq => by
      rcases List.mem_append.mp hq with h | h
      · exact hS.2.2 q h
      · exact hA _ (hL q h)⟩ T' rfl X'
  exact ⟨t2, st t2 a1, b1⟩
variable {y : MethodName} {bytes : ByteArray} {maxL idx : Nat} {ry : Option FieldType} {rm : Room} {As : List Value} {b : Nat}
theorem mp_runV {Qc : Array Value → State → Outcome → State → Prop} {free : Addr → Prop} (cx : mp_C p s m args meth c cc nL ret own) (hV : mp_V own idx y bytes maxL ry As.length) (hM : Met l y (Cond.code y bytes maxL ry :: wT) rm (va_Pc (.ref b :: As) (mp_P k ws)) Qc 0 0 free) (hR : rm.cells = 0 ∧ rm.slots = 0 ∧ rm.frames + 1 ≤ R.frames ∧ 8 + (maxL + 11) + rm.locals ≤ R.locals) (hf : cells ≤ R.cells ∧ slots ≤ R.slots) (hE : mp_E k s) (hP : va_P (kD k) mp_cls ws H) (hD : va_D (mp_N k) ws) (hS : va_S (mp_N k) s.heap H locs)
    (q0 : Nat) {ci N : Nat} {C : String} {T : u_T} {fs : List Value} (hcl : mp_cls[ci]? = some (C, T, N)) (hC : y.cls = C) (he : ws[q0]? = some (b, .inr (ci, fs))) (hsz : ls.size = nL) (hst : st = As.reverse ++ .ref b :: rest) (hrm : (rest.map fun v => v.category).sum ≤ 8) (hdg : decode cc pc = .ok (.invokevirtual idx, 3)) :
    va_Run p l e R s m args below meth c H locs cells slots 0 0 (F0 m pc ls st) rest (Qc (Value.ref b :: As).toArray) free := by
  obtain ⟨hx, hb, hr, hml, hown, hts, hlocks⟩ := cx
  obtain ⟨v1, v2, v3, v4, v5, v6⟩ := hV
  subst hC
  have cw : CallW R s args own y.cls idx y bytes maxL ry (Cond.code y bytes maxL ry :: wT) rm 0 0 As.length := ⟨callB_of As.length hts (wT_gd v5) rfl hR.1 hR.2.1 (hts _ v4) (hts _ v1) v6 ⟨hR.2.2.1, hR.2.2.2⟩, hts _ v2, hts _ v3⟩
  exact va_runV ⟨hx, hb, hml, hown, hts⟩ hM cw ⟨mp_blind, va_recv hE.1 hP hcl he, fun U hU hW => ⟨rfl, by rw [hU]; exact hP, hD, hE.at hS hU hW⟩⟩ rfl rfl hsz hst (lv_room hrm) hdg hf
theorem mp_runT {Qc : Array Value → State → Outcome → State → Prop} {free : Addr → Prop} (cx : mp_C p s m args meth c cc nL ret own) (hV : mp_T own idx y bytes maxL ry As.length) (hM : Met l y (Cond.code y bytes maxL ry :: wT) rm (va_Pc As (mp_P k ws)) Qc 0 0 free) (hR : rm.cells = 0 ∧ rm.slots = 0 ∧ rm.frames + 1 ≤ R.frames ∧ 8 + (maxL + 11) + rm.locals ≤ R.locals) (hf : cells ≤ R.cells ∧ slots ≤ R.slots) (hE : mp_E k s) (hP : va_P (kD k) mp_cls ws H) (hD : va_D (mp_N k) ws) (hS : va_S (mp_N k) s.heap H locs)
    (hsz : ls.size = nL) (hst : st = As.reverse ++ rest) (hrm : (rest.map fun v => v.category).sum ≤ 8) (hdg : decode cc pc = .ok (.invokestatic idx, 3)) :
    va_Run p l e R s m args below meth c H locs cells slots 0 0 (F0 m pc ls st) rest (Qc As.toArray) free := by
  obtain ⟨hx, hb, hr, hml, hown, hts, hlocks⟩ := cx
  obtain ⟨v1, v2, v3, v4, v5⟩ := hV
  exact va_runS ⟨hx, hb, hml, hown, hts⟩ hM ⟨callB_of As.length hts (wT_gd v4) rfl hR.1 hR.2.1 (hts _ v3) (hts _ v1) v5 ⟨hR.2.2.1, hR.2.2.2⟩, hts _ v2⟩ ⟨mp_blind, fun U hU hW => ⟨rfl, by rw [hU]; exact hP, hD, hE.at hS hU hW⟩⟩ rfl rfl hsz hst (lv_room hrm) hdg hf
end MPR
theorem mp_P0 {k : KK} {H : Heap} : va_P (kD k) mp_cls [] H := fun k q h => by simp at h
theorem mp_D0 {A : Nat → Prop} : va_D A [] := ⟨fun i j p q h => by simp at h, fun k q h => by simp at h⟩
end
section
/-! ===== states and cells ===== -/
abbrev SW : Type := Int32 × Int32 × Int32 × (Nat → Int32) × (Nat → Int32) × (Nat → Int32) × Int32 × (Nat → Int32) × (Nat → Int64) × (Nat → Int32) × (Nat → Int32) × (Nat → Int32)
abbrev SM : Type := SW × SW × Int32 × SW × SW × SW × (Nat → Int32)
abbrev SR : Type := (Nat → Int32) × (Nat → Int32) × (Nat → Int32) × Int32 × (Nat → Int32)
abbrev cW (k : KK) (ad : Nat → Nat) (w : SW) : va_W := [(ad 0, .inr (0, [.int w.1, .int w.2.1, .int w.2.2.1, .ref (ad 1), .ref (ad 2), .ref (ad 3), .int w.2.2.2.2.2.2.1, .ref (ad 4), .ref (ad 5), .ref (ad 6), .ref (ad 7), .ref (ad 8)])),
  (ad 1, .inl (kI k, 12, .inl w.2.2.2.1)), (ad 2, .inl (kI k, 12, .inl w.2.2.2.2.1)), (ad 3, .inl (kI k, 72, .inl w.2.2.2.2.2.1)), (ad 4, .inl (kI k, 12, .inl w.2.2.2.2.2.2.2.1)), (ad 5, .inl (kL k, 12, .inr (.inl w.2.2.2.2.2.2.2.2.1))),
  (ad 6, .inl (kI k, 12, .inl w.2.2.2.2.2.2.2.2.2.1)), (ad 7, .inl (kI k, 12, .inl w.2.2.2.2.2.2.2.2.2.2.1)), (ad 8, .inl (kI k, 12, .inl w.2.2.2.2.2.2.2.2.2.2.2))]
abbrev aW (ad : Nat → Nat) : List Nat := [ad 0, ad 1, ad 2, ad 3, ad 4, ad 5, ad 6, ad 7, ad 8]
abbrev cR (k : KK) (ad : Nat → Nat) (g : SR) : va_W := [(ad 0, .inr (2, [.ref (ad 1), .ref (ad 2), .ref (ad 3), .int g.2.2.2.1, .ref (ad 4)])),
  (ad 1, .inl (kI k, 231, .inl g.1)), (ad 2, .inl (kI k, 231, .inl g.2.1)), (ad 3, .inl (kI k, 693, .inl g.2.2.1)), (ad 4, .inl (kI k, 3, .inl g.2.2.2.2))]
abbrev aR (ad : Nat → Nat) : List Nat := [ad 0, ad 1, ad 2, ad 3, ad 4]
def mp_tr (ad : Nat → Nat) : Nat → Option Nat := va_up (va_up (va_up (fun _ => none) 0 (some (ad 20))) 1 (some (ad 29))) 2 (some (ad 38))
abbrev cM (k : KK) (ad : Nat → Nat) (S : SM) : va_W := [(ad 0, .inr (1, [.ref (ad 1), .ref (ad 10), .int S.2.2.1, .ref (ad 19), .ref (ad 47)]))] ++ cW k (fun i => ad (i + 1)) S.1 ++ cW k (fun i => ad (i + 10)) S.2.1 ++ [(ad 19, .inl (kO k, 3, .inr (.inr (.inr (.inr (mp_tr ad))))))] ++ cW k (fun i => ad (i + 20)) S.2.2.2.1 ++ cW k (fun i => ad (i + 29)) S.2.2.2.2.1 ++ cW k (fun i => ad (i + 38)) S.2.2.2.2.2.1 ++ [(ad 47, .inl (kI k, 3, .inl S.2.2.2.2.2.2))]
abbrev aM (ad : Nat → Nat) : List Nat := (cM (0, fun _ => 0, fun _ _ => 0, 0, 0, 0) ad ((0, 0, 0, fun _ => 0, fun _ => 0, fun _ => 0, 0, fun _ => 0, fun _ => 0, fun _ => 0, fun _ => 0, fun _ => 0), (0, 0, 0, fun _ => 0, fun _ => 0, fun _ => 0, 0, fun _ => 0, fun _ => 0, fun _ => 0, fun _ => 0, fun _ => 0), 0, (0, 0, 0, fun _ => 0, fun _ => 0, fun _ => 0, 0, fun _ => 0, fun _ => 0, fun _ => 0, fun _ => 0, fun _ => 0), (0, 0, 0, fun _ => 0, fun _ => 0, fun _ => 0, 0, fun _ => 0, fun _ => 0, fun _ => 0, fun _ => 0, fun _ => 0), (0, 0, 0, fun _ => 0, fun _ => 0, fun _ => 0, 0, fun _ => 0, fun _ => 0, fun _ => 0, fun _ => 0, fun _ => 0), fun _ => 0)).map (fun q => q.1)
/-- a value gets a name -/
def mp_lt {α β : Type} (a : α) (K : α → Option β) : Option β := K a
theorem mp_lts {α β : Type} {a : α} {K : α → Option β} {z : β} (h : mp_lt a K = some z) : ∃ x, x = a ∧ K x = some z := ⟨a, rfl, h⟩
def mp_nzl {β : Type} (d : Int64) (K : Option β) : Option β := if d = 0 then none else K
theorem mp_nzls {β : Type} {d : Int64} {K : Option β} {z : β} (h : mp_nzl d K = some z) : ¬ d = 0 ∧ K = some z := by
  unfold mp_nzl at h
  by_cases hi : d = 0
  · rw [if_pos hi] at h; cases h
  · rw [if_neg hi] at h; exact ⟨hi, h⟩
theorem mp_ne {x n : Int32} (h : ¬ x = n) : x.toInt ≠ n.toInt := fun e => h (Int32.toInt_inj.mp e)
section MPQ
variable {p : Program} {l : Launch} {e : Env} {R : Room} {s : State} {m : MethodId} {args : Array Value} {below : List Frame} {meth : Method} {c : Code} {H : Heap} {locs : List Loc} {cells slots : Nat} {Q : State → Prop}
variable {cc : ByteArray} {nL : Nat} {ret : Option FieldType} {own : String} {k : KK} {pc : Nat} {ls : Array Slot} {rest st : List Value} {ws ws' : va_W} {a : Nat}
theorem mp_top {x y : Int32} (e1 : x = y) (kk : W p l e R s m args below meth c H locs cells slots Q (F0 m pc ls (.int x :: rest))) : W p l e R s m args below meth c H locs cells slots Q (F0 m pc ls (.int y :: rest)) := e1 ▸ kk
theorem mp_topl {x y : Int64} (e1 : x = y) (kk : W p l e R s m args below meth c H locs cells slots Q (F0 m pc ls (.long x :: rest))) : W p l e R s m args below meth c H locs cells slots Q (F0 m pc ls (.long y :: rest)) := e1 ▸ kk
theorem mp_si {z : Int32} {av : Array Value} (hr : va_Run p l e R s m args below meth c H locs cells slots 0 0 (F0 m pc ls st) rest (mp_Qs (some (.int z)) av) (fun _ => False)) (kk : W p l e R s m args below meth c H locs cells slots Q (F0 m (pc + 3) ls (.int z :: rest))) : W p l e R s m args below meth c H locs cells slots Q (F0 m pc ls st) := mp_callS hr kk
theorem mp_mi {z : Int32} {av : Array Value} {as : List Nat} {A : Nat → Prop} {H0 : Heap} (hr : va_Run p l e R s m args below meth c H locs cells slots 0 0 (F0 m pc ls st) rest (mp_Qm k (some (.int z)) ws' as av) (mp_A as)) (hS : va_S A H0 H locs) (hA : ∀ q, mp_A as q → A q)
    (kk : ∀ (H1 : Heap) (locs1 : List Loc), va_P (kD k) mp_cls ws' H1 → (∀ q : Nat, q < H.size → ¬ mp_A as q → H1[q]? = H[q]?) → va_S A H0 H1 locs1 → W p l e R s m args below meth c H1 locs1 cells slots Q (F0 m (pc + 3) ls (.int z :: rest))) : W p l e R s m args below meth c H locs cells slots Q (F0 m pc ls st) := mp_callM hr hS hA kk
theorem mp_mv {av : Array Value} {as : List Nat} {A : Nat → Prop} {H0 : Heap} (hr : va_Run p l e R s m args below meth c H locs cells slots 0 0 (F0 m pc ls st) rest (mp_Qm k none ws' as av) (mp_A as)) (hS : va_S A H0 H locs) (hA : ∀ q, mp_A as q → A q)
    (kk : ∀ (H1 : Heap) (locs1 : List Loc), va_P (kD k) mp_cls ws' H1 → (∀ q : Nat, q < H.size → ¬ mp_A as q → H1[q]? = H[q]?) → va_S A H0 H1 locs1 → W p l e R s m args below meth c H1 locs1 cells slots Q (F0 m (pc + 3) ls rest)) : W p l e R s m args below meth c H locs cells slots Q (F0 m pc ls st) := mp_callM hr hS hA kk
variable {y : MethodName} {bytes : ByteArray} {maxL idx : Nat} {ry : Option FieldType} {rm : Room} {As : List Value} {b : Nat}
/-- a private static method of the class around -/
theorem mp_runN {host : String} {Qc : Array Value → State → Outcome → State → Prop} {free : Addr → Prop} (cx : mp_C p s m args meth c cc nL ret own) (hl : va_Nw (.methodLinkNest own idx y host) s) (hV : Cond.static y ∈ wT ∧ Cond.initialized y.cls ∈ wT ∧ Cond.code y bytes maxL ry ∈ wT ∧ (y.cls ≠ "java/lang/invoke/MethodHandle" ∧ y.cls ≠ "java/lang/invoke/VarHandle" ∧ (parseMethodDescriptor y.desc).map (fun d => d.parameters.length) = some As.length)) (hM : Met l y (Cond.code y bytes maxL ry :: wT) rm (va_Pc As (mp_P k ws)) Qc 0 0 free) (hR : rm.cells = 0 ∧ rm.slots = 0 ∧ rm.frames + 1 ≤ R.frames ∧ 8 + (maxL + 11) + rm.locals ≤ R.locals) (hf : cells ≤ R.cells ∧ slots ≤ R.slots) (hE : mp_E k s) (hP : va_P (kD k) mp_cls ws H) (hD : va_D (mp_N k) ws) (hS : va_S (mp_N k) s.heap H locs)
    (hsz : ls.size = nL) (hst : st = As.reverse ++ rest) (hrm : (rest.map fun v => v.category).sum ≤ 8) (hdg : decode cc pc = .ok (.invokestatic idx, 3)) :
    va_Run p l e R s m args below meth c H locs cells slots 0 0 (F0 m pc ls st) rest (Qc As.toArray) free := by
  obtain ⟨hx, hb, hr, hml, hown, hts, hlocks⟩ := cx
  obtain ⟨v2, v3, v4, v5⟩ := hV
  exact va_runSN ⟨hx, hb, hml, hown, hts⟩ hM ⟨va_cnB As.length hts (wT_gd v4) rfl hR.1 hR.2.1 hl (hts _ v3) v5 ⟨hR.2.2.1, hR.2.2.2⟩, hts _ v2, trivial⟩ ⟨mp_blind, fun U hU hW => ⟨rfl, by rw [hU]; exact hP, hD, hE.at hS hU hW⟩⟩ rfl rfl hsz hst (lv_room hrm) hdg hf
end MPQ
theorem iW : ∀ w ∈ u_ws rW tW 12, w ∈ wT := wT_by [68, 70, 72, 74, 76, 78, 80, 82, 84, 86, 88, 90] rfl rfl
theorem iM : ∀ w ∈ u_ws rM tM 5, w ∈ wT := wT_by [101, 103, 105, 107, 109] rfl rfl
theorem iR : ∀ w ∈ u_ws rR tR 5, w ∈ wT := wT_by [406, 408, 410, 412, 414] rfl rfl
abbrev bW_init : ByteArray := prog_2_method_1_code
def yW_init : MethodName := ⟨rW, "<init>", "()V"⟩
abbrev bW_become : ByteArray := prog_2_method_2_code
def yW_become : MethodName := ⟨rW, "become", "(LMovingPlaces$World;)V"⟩
abbrev bW_isPlace : ByteArray := prog_2_method_3_code
def yW_isPlace : MethodName := ⟨rW, "isPlace", "(I)Z"⟩
abbrev bW_addPlace : ByteArray := prog_2_method_4_code
def yW_addPlace : MethodName := ⟨rW, "addPlace", "(II)I"⟩
abbrev bW_nameOf : ByteArray := prog_2_method_5_code
def yW_nameOf : MethodName := ⟨rW, "nameOf", "(I)I"⟩
abbrev bW_placeAround : ByteArray := prog_2_method_6_code
def yW_placeAround : MethodName := ⟨rW, "placeAround", "(I)I"⟩
abbrev bW_isSealed : ByteArray := prog_2_method_7_code
def yW_isSealed : MethodName := ⟨rW, "isSealed", "(I)Z"⟩
abbrev bW_turnSeal : ByteArray := prog_2_method_8_code
def yW_turnSeal : MethodName := ⟨rW, "turnSeal", "(I)V"⟩
abbrev bW_messagesOf : ByteArray := prog_2_method_9_code
def yW_messagesOf : MethodName := ⟨rW, "messagesOf", "(II)I"⟩
abbrev bW_addMessages : ByteArray := prog_2_method_10_code
def yW_addMessages : MethodName := ⟨rW, "addMessages", "(III)V"⟩
abbrev bW_placesIn : ByteArray := prog_2_method_11_code
def yW_placesIn : MethodName := ⟨rW, "placesIn", "(I)I"⟩
abbrev bW_threadsIn : ByteArray := prog_2_method_12_code
def yW_threadsIn : MethodName := ⟨rW, "threadsIn", "(I)I"⟩
abbrev bW_depthOf : ByteArray := prog_2_method_13_code
def yW_depthOf : MethodName := ⟨rW, "depthOf", "(I)I"⟩
abbrev bW_isWithin : ByteArray := prog_2_method_14_code
def yW_isWithin : MethodName := ⟨rW, "isWithin", "(II)Z"⟩
abbrev bW_placesThatAre : ByteArray := prog_2_method_15_code
def yW_placesThatAre : MethodName := ⟨rW, "placesThatAre", "()I"⟩
abbrev bW_placesInAll : ByteArray := prog_2_method_16_code
def yW_placesInAll : MethodName := ⟨rW, "placesInAll", "()I"⟩
abbrev bW_messagesInAll : ByteArray := prog_2_method_17_code
def yW_messagesInAll : MethodName := ⟨rW, "messagesInAll", "()I"⟩
abbrev bW_isThread : ByteArray := prog_2_method_18_code
def yW_isThread : MethodName := ⟨rW, "isThread", "(I)Z"⟩
abbrev bW_addThread : ByteArray := prog_2_method_19_code
def yW_addThread : MethodName := ⟨rW, "addThread", "(IJI)I"⟩
abbrev bW_placeOfThread : ByteArray := prog_2_method_20_code
def yW_placeOfThread : MethodName := ⟨rW, "placeOfThread", "(I)I"⟩
abbrev bW_actsDone : ByteArray := prog_2_method_21_code
def yW_actsDone : MethodName := ⟨rW, "actsDone", "(I)I"⟩
abbrev bW_actsInAll : ByteArray := prog_2_method_22_code
def yW_actsInAll : MethodName := ⟨rW, "actsInAll", "(I)I"⟩
abbrev bW_heardBy : ByteArray := prog_2_method_23_code
def yW_heardBy : MethodName := ⟨rW, "heardBy", "(I)I"⟩
abbrev bW_isOver : ByteArray := prog_2_method_24_code
def yW_isOver : MethodName := ⟨rW, "isOver", "(I)Z"⟩
abbrev bW_actOf : ByteArray := prog_2_method_25_code
def yW_actOf : MethodName := ⟨rW, "actOf", "(II)I"⟩
abbrev bW_threadsInAll : ByteArray := prog_2_method_26_code
def yW_threadsInAll : MethodName := ⟨rW, "threadsInAll", "()I"⟩
abbrev bW_threadsOver : ByteArray := prog_2_method_27_code
def yW_threadsOver : MethodName := ⟨rW, "threadsOver", "()I"⟩
abbrev bW_threadsThatCan : ByteArray := prog_2_method_28_code
def yW_threadsThatCan : MethodName := ⟨rW, "threadsThatCan", "()I"⟩
abbrev bW_aimOf : ByteArray := prog_2_method_29_code
def yW_aimOf : MethodName := ⟨rW, "aimOf", "(I)I"⟩
abbrev bW_leastUnsealed : ByteArray := prog_2_method_30_code
def yW_leastUnsealed : MethodName := ⟨rW, "leastUnsealed", "(III)I"⟩
abbrev bW_unsealedAround : ByteArray := prog_2_method_31_code
def yW_unsealedAround : MethodName := ⟨rW, "unsealedAround", "(II)I"⟩
abbrev bW_leastMessage : ByteArray := prog_2_method_32_code
def yW_leastMessage : MethodName := ⟨rW, "leastMessage", "(I)I"⟩
abbrev bW_doNextAct : ByteArray := prog_2_method_33_code
def yW_doNextAct : MethodName := ⟨rW, "doNextAct", "(I)I"⟩
abbrev bW_putInto : ByteArray := prog_2_method_34_code
def yW_putInto : MethodName := ⟨rW, "putInto", "(II)V"⟩
abbrev bW_dissolve : ByteArray := prog_2_method_35_code
def yW_dissolve : MethodName := ⟨rW, "dissolve", "(II)V"⟩
abbrev bW_doRound : ByteArray := prog_2_method_36_code
def yW_doRound : MethodName := ⟨rW, "doRound", "()I"⟩
abbrev bW_namesThatMayBeSaid : ByteArray := prog_2_method_37_code
def yW_namesThatMayBeSaid : MethodName := ⟨rW, "namesThatMayBeSaid", "()I"⟩
abbrev bW_hasMessageAnywhere : ByteArray := prog_2_method_38_code
def yW_hasMessageAnywhere : MethodName := ⟨rW, "hasMessageAnywhere", "(I)Z"⟩
abbrev bW_namesFromThread : ByteArray := prog_2_method_39_code
def yW_namesFromThread : MethodName := ⟨rW, "namesFromThread", "(I)I"⟩
abbrev bW_namesThatMove : ByteArray := prog_2_method_40_code
def yW_namesThatMove : MethodName := ⟨rW, "namesThatMove", "()I"⟩
abbrev bW_namesMovedFrom : ByteArray := prog_2_method_41_code
def yW_namesMovedFrom : MethodName := ⟨rW, "namesMovedFrom", "(II)I"⟩
abbrev bW_bringsMotion : ByteArray := prog_2_method_42_code
def yW_bringsMotion : MethodName := ⟨rW, "bringsMotion", "(III)Z"⟩
abbrev bM_init : ByteArray := prog_1_method_1_code
def yM_init : MethodName := ⟨rM, "<init>", "()V"⟩
abbrev bM_place : ByteArray := prog_1_method_2_code
def yM_place : MethodName := ⟨rM, "place", "(II)I"⟩
abbrev bM_thread : ByteArray := prog_1_method_3_code
def yM_thread : MethodName := ⟨rM, "thread", "(IJ)I"⟩
abbrev bM_seal : ByteArray := prog_1_method_4_code
def yM_seal : MethodName := ⟨rM, "seal", "(IZ)I"⟩
abbrev bM_message : ByteArray := prog_1_method_5_code
def yM_message : MethodName := ⟨rM, "message", "(II)I"⟩
abbrev bM_ofPlace : ByteArray := prog_1_method_6_code
def yM_ofPlace : MethodName := ⟨rM, "ofPlace", "(II)I"⟩
abbrev bM_ofThread : ByteArray := prog_1_method_7_code
def yM_ofThread : MethodName := ⟨rM, "ofThread", "(II)I"⟩
abbrev bM_within : ByteArray := prog_1_method_8_code
def yM_within : MethodName := ⟨rM, "within", "(II)I"⟩
abbrev bM_can : ByteArray := prog_1_method_9_code
def yM_can : MethodName := ⟨rM, "can", "()I"⟩
abbrev bM_act : ByteArray := prog_1_method_10_code
def yM_act : MethodName := ⟨rM, "act", "(I)I"⟩
abbrev bM_rounds : ByteArray := prog_1_method_11_code
def yM_rounds : MethodName := ⟨rM, "rounds", "(I)I"⟩
abbrev bM_rows : ByteArray := prog_1_method_12_code
def yM_rows : MethodName := ⟨rM, "rows", "(I)I"⟩
abbrev bM_soonest : ByteArray := prog_1_method_13_code
def yM_soonest : MethodName := ⟨rM, "soonest", "(III)I"⟩
abbrev bM_said : ByteArray := prog_1_method_14_code
def yM_said : MethodName := ⟨rM, "said", "()I"⟩
abbrev bM_moves : ByteArray := prog_1_method_15_code
def yM_moves : MethodName := ⟨rM, "moves", "()I"⟩
abbrev bM_keep : ByteArray := prog_1_method_16_code
def yM_keep : MethodName := ⟨rM, "keep", "()I"⟩
abbrev bM_restore : ByteArray := prog_1_method_17_code
def yM_restore : MethodName := ⟨rM, "restore", "()I"⟩
abbrev bM_many : ByteArray := prog_1_method_18_code
def yM_many : MethodName := ⟨rM, "many", "(I)I"⟩
abbrev bM_countRows : ByteArray := prog_1_method_19_code
def yM_countRows : MethodName := ⟨rM, "countRows", "(LMovingPlaces$World;II)I"⟩
abbrev bM_threadInRow : ByteArray := prog_1_method_20_code
def yM_threadInRow : MethodName := ⟨rM, "threadInRow", "(II)I"⟩
abbrev bM_findRow : ByteArray := prog_1_method_21_code
def yM_findRow : MethodName := ⟨rM, "findRow", "(LMovingPlaces$World;IIII)Z"⟩
abbrev bM_isName : ByteArray := prog_1_method_22_code
def yM_isName : MethodName := ⟨rM, "isName", "(I)Z"⟩
abbrev bM_countActs : ByteArray := prog_1_method_23_code
def yM_countActs : MethodName := ⟨rM, "countActs", "(J)I"⟩
abbrev bM_isAct : ByteArray := prog_1_method_24_code
def yM_isAct : MethodName := ⟨rM, "isAct", "(I)Z"⟩
abbrev bR_init : ByteArray := prog_4_method_1_code
def yR_init : MethodName := ⟨rR, "<init>", "()V"⟩
abbrev bR_between : ByteArray := prog_4_method_2_code
def yR_between : MethodName := ⟨rR, "between", "(III)Z"⟩
abbrev bR_has : ByteArray := prog_4_method_3_code
def yR_has : MethodName := ⟨rR, "has", "(II)Z"⟩
abbrev bR_isPlace : ByteArray := prog_4_method_4_code
def yR_isPlace : MethodName := ⟨rR, "isPlace", "(I)Z"⟩
abbrev bR_isThread : ByteArray := prog_4_method_5_code
def yR_isThread : MethodName := ⟨rR, "isThread", "(I)Z"⟩
abbrev bR_isName : ByteArray := prog_4_method_6_code
def yR_isName : MethodName := ⟨rR, "isName", "(I)Z"⟩
abbrev bR_place : ByteArray := prog_4_method_7_code
def yR_place : MethodName := ⟨rR, "place", "(II)I"⟩
abbrev bR_isAct : ByteArray := prog_4_method_8_code
def yR_isAct : MethodName := ⟨rR, "isAct", "(I)Z"⟩
abbrev bR_actsIn : ByteArray := prog_4_method_9_code
def yR_actsIn : MethodName := ⟨rR, "actsIn", "(J)I"⟩
abbrev bR_thread : ByteArray := prog_4_method_10_code
def yR_thread : MethodName := ⟨rR, "thread", "(IJ)I"⟩
abbrev bR_seal : ByteArray := prog_4_method_11_code
def yR_seal : MethodName := ⟨rR, "seal", "(IZ)I"⟩
abbrev bR_message : ByteArray := prog_4_method_12_code
def yR_message : MethodName := ⟨rR, "message", "(II)I"⟩
abbrev bR_placesIn : ByteArray := prog_4_method_13_code
def yR_placesIn : MethodName := ⟨rR, "placesIn", "(I)I"⟩
abbrev bR_threadsIn : ByteArray := prog_4_method_14_code
def yR_threadsIn : MethodName := ⟨rR, "threadsIn", "(I)I"⟩
abbrev bR_deepOf : ByteArray := prog_4_method_15_code
def yR_deepOf : MethodName := ⟨rR, "deepOf", "(I)I"⟩
abbrev bR_ofPlace : ByteArray := prog_4_method_16_code
def yR_ofPlace : MethodName := ⟨rR, "ofPlace", "(II)I"⟩
abbrev bR_isOver : ByteArray := prog_4_method_17_code
def yR_isOver : MethodName := ⟨rR, "isOver", "(I)Z"⟩
abbrev bR_nextOf : ByteArray := prog_4_method_18_code
def yR_nextOf : MethodName := ⟨rR, "nextOf", "(I)I"⟩
abbrev bR_ofThread : ByteArray := prog_4_method_19_code
def yR_ofThread : MethodName := ⟨rR, "ofThread", "(II)I"⟩
abbrev bR_isWithin : ByteArray := prog_4_method_20_code
def yR_isWithin : MethodName := ⟨rR, "isWithin", "(II)Z"⟩
abbrev bR_within : ByteArray := prog_4_method_21_code
def yR_within : MethodName := ⟨rR, "within", "(II)I"⟩
abbrev bR_leastIn : ByteArray := prog_4_method_22_code
def yR_leastIn : MethodName := ⟨rR, "leastIn", "(III)I"⟩
abbrev bR_leastMessage : ByteArray := prog_4_method_23_code
def yR_leastMessage : MethodName := ⟨rR, "leastMessage", "(I)I"⟩
abbrev bR_nameOf : ByteArray := prog_4_method_24_code
def yR_nameOf : MethodName := ⟨rR, "nameOf", "(I)I"⟩
abbrev bR_doneWith : ByteArray := prog_4_method_25_code
def yR_doneWith : MethodName := ⟨rR, "doneWith", "(I)I"⟩
abbrev bR_opens : ByteArray := prog_4_method_26_code
def yR_opens : MethodName := ⟨rR, "opens", "(II)V"⟩
abbrev bR_does : ByteArray := prog_4_method_27_code
def yR_does : MethodName := ⟨rR, "does", "(I)Z"⟩
abbrev bR_can : ByteArray := prog_4_method_28_code
def yR_can : MethodName := ⟨rR, "can", "()I"⟩
abbrev bR_act : ByteArray := prog_4_method_29_code
def yR_act : MethodName := ⟨rR, "act", "(I)I"⟩
abbrev bR_rounds : ByteArray := prog_4_method_30_code
def yR_rounds : MethodName := ⟨rR, "rounds", "(I)I"⟩
abbrev bR_keepsAt : ByteArray := prog_4_method_31_code
def yR_keepsAt : MethodName := ⟨rR, "keepsAt", "(I)V"⟩
abbrev bR_putsFrom : ByteArray := prog_4_method_32_code
def yR_putsFrom : MethodName := ⟨rR, "putsFrom", "(I)V"⟩
abbrev bR_threadAt : ByteArray := prog_4_method_33_code
def yR_threadAt : MethodName := ⟨rR, "threadAt", "(III)I"⟩
abbrev bR_actsRow : ByteArray := prog_4_method_34_code
def yR_actsRow : MethodName := ⟨rR, "actsRow", "(II)Z"⟩
abbrev bR_allRows : ByteArray := prog_4_method_35_code
def yR_allRows : MethodName := ⟨rR, "allRows", "(I)I"⟩
abbrev bR_rows : ByteArray := prog_4_method_36_code
def yR_rows : MethodName := ⟨rR, "rows", "(I)I"⟩
abbrev bR_findSoonest : ByteArray := prog_4_method_37_code
def yR_findSoonest : MethodName := ⟨rR, "findSoonest", "(II)I"⟩
abbrev bR_soonest : ByteArray := prog_4_method_38_code
def yR_soonest : MethodName := ⟨rR, "soonest", "(III)I"⟩
abbrev bR_saidNow : ByteArray := prog_4_method_39_code
def yR_saidNow : MethodName := ⟨rR, "saidNow", "()I"⟩
abbrev bR_said : ByteArray := prog_4_method_40_code
def yR_said : MethodName := ⟨rR, "said", "()I"⟩
abbrev bR_isMove : ByteArray := prog_4_method_41_code
def yR_isMove : MethodName := ⟨rR, "isMove", "(III)Z"⟩
abbrev bR_moves : ByteArray := prog_4_method_42_code
def yR_moves : MethodName := ⟨rR, "moves", "()I"⟩
abbrev bR_keep : ByteArray := prog_4_method_43_code
def yR_keep : MethodName := ⟨rR, "keep", "()I"⟩
abbrev bR_restore : ByteArray := prog_4_method_44_code
def yR_restore : MethodName := ⟨rR, "restore", "()I"⟩
abbrev bR_manyPlaces : ByteArray := prog_4_method_45_code
def yR_manyPlaces : MethodName := ⟨rR, "manyPlaces", "()I"⟩
abbrev bR_manyOver : ByteArray := prog_4_method_46_code
def yR_manyOver : MethodName := ⟨rR, "manyOver", "()I"⟩
abbrev bR_manyMessages : ByteArray := prog_4_method_47_code
def yR_manyMessages : MethodName := ⟨rR, "manyMessages", "()I"⟩
abbrev bR_many : ByteArray := prog_4_method_48_code
def yR_many : MethodName := ⟨rR, "many", "(I)I"⟩
abbrev bJ_bitCount : ByteArray := prog_5_method_49_code
def yJ_bitCount : MethodName := ⟨rJ, "bitCount", "(I)I"⟩
end
section
theorem dM_isName_0 : decode bM_isName 0 = .ok (.iload_n 0, 1) := by decide +kernel
theorem dM_isName_1 : decode bM_isName 1 = .ok (.ifCond .lt 13, 3) := by decide +kernel
theorem dM_isName_4 : decode bM_isName 4 = .ok (.iload_n 0, 1) := by decide +kernel
theorem dM_isName_5 : decode bM_isName 5 = .ok (.bipush 6, 2) := by decide +kernel
theorem dM_isName_7 : decode bM_isName 7 = .ok (.if_icmp .ge 7, 3) := by decide +kernel
theorem dM_isName_10 : decode bM_isName 10 = .ok (.iconst 1, 1) := by decide +kernel
theorem dM_isName_11 : decode bM_isName 11 = .ok (.goto 4, 3) := by decide +kernel
theorem dM_isName_14 : decode bM_isName 14 = .ok (.iconst 0, 1) := by decide +kernel
theorem dM_isName_15 : decode bM_isName 15 = .ok (.ireturn, 1) := by decide +kernel
theorem dM_isAct_0 : decode bM_isAct 0 = .ok (.iload_n 0, 1) := by decide +kernel
theorem dM_isAct_1 : decode bM_isAct 1 = .ok (.bipush 10, 2) := by decide +kernel
theorem dM_isAct_3 : decode bM_isAct 3 = .ok (.idiv, 1) := by decide +kernel
theorem dM_isAct_4 : decode bM_isAct 4 = .ok (.istore_n 1, 1) := by decide +kernel
theorem dM_isAct_5 : decode bM_isAct 5 = .ok (.iload_n 0, 1) := by decide +kernel
theorem dM_isAct_6 : decode bM_isAct 6 = .ok (.bipush 10, 2) := by decide +kernel
theorem dM_isAct_8 : decode bM_isAct 8 = .ok (.irem, 1) := by decide +kernel
theorem dM_isAct_9 : decode bM_isAct 9 = .ok (.istore_n 2, 1) := by decide +kernel
theorem dM_isAct_10 : decode bM_isAct 10 = .ok (.iload_n 1, 1) := by decide +kernel
theorem dM_isAct_11 : decode bM_isAct 11 = .ok (.iconst 5, 1) := by decide +kernel
theorem dM_isAct_12 : decode bM_isAct 12 = .ok (.if_icmp .ne 13, 3) := by decide +kernel
theorem dM_isAct_15 : decode bM_isAct 15 = .ok (.iload_n 2, 1) := by decide +kernel
theorem dM_isAct_16 : decode bM_isAct 16 = .ok (.ifCond .ne 7, 3) := by decide +kernel
theorem dM_isAct_19 : decode bM_isAct 19 = .ok (.iconst 1, 1) := by decide +kernel
theorem dM_isAct_20 : decode bM_isAct 20 = .ok (.goto 4, 3) := by decide +kernel
theorem dM_isAct_23 : decode bM_isAct 23 = .ok (.iconst 0, 1) := by decide +kernel
theorem dM_isAct_24 : decode bM_isAct 24 = .ok (.ireturn, 1) := by decide +kernel
theorem dM_isAct_25 : decode bM_isAct 25 = .ok (.iload_n 1, 1) := by decide +kernel
theorem dM_isAct_26 : decode bM_isAct 26 = .ok (.iconst 1, 1) := by decide +kernel
theorem dM_isAct_27 : decode bM_isAct 27 = .ok (.if_icmp .lt 25, 3) := by decide +kernel
theorem dM_isAct_30 : decode bM_isAct 30 = .ok (.iload_n 1, 1) := by decide +kernel
theorem dM_isAct_31 : decode bM_isAct 31 = .ok (.iconst 4, 1) := by decide +kernel
theorem dM_isAct_32 : decode bM_isAct 32 = .ok (.if_icmp .gt 20, 3) := by decide +kernel
theorem dM_isAct_35 : decode bM_isAct 35 = .ok (.iload_n 2, 1) := by decide +kernel
theorem dM_isAct_36 : decode bM_isAct 36 = .ok (.invokestatic 35, 3) := by decide +kernel
theorem dM_isAct_39 : decode bM_isAct 39 = .ok (.ifCond .ne 9, 3) := by decide +kernel
theorem dM_isAct_42 : decode bM_isAct 42 = .ok (.iload_n 2, 1) := by decide +kernel
theorem dM_isAct_43 : decode bM_isAct 43 = .ok (.bipush 9, 2) := by decide +kernel
theorem dM_isAct_45 : decode bM_isAct 45 = .ok (.if_icmp .ne 7, 3) := by decide +kernel
theorem dM_isAct_48 : decode bM_isAct 48 = .ok (.iconst 1, 1) := by decide +kernel
theorem dM_isAct_49 : decode bM_isAct 49 = .ok (.goto 4, 3) := by decide +kernel
theorem dM_isAct_52 : decode bM_isAct 52 = .ok (.iconst 0, 1) := by decide +kernel
theorem dM_isAct_53 : decode bM_isAct 53 = .ok (.ireturn, 1) := by decide +kernel
theorem dM_countActs_0 : decode bM_countActs 0 = .ok (.lload_n 0, 1) := by decide +kernel
theorem dM_countActs_1 : decode bM_countActs 1 = .ok (.lconst 0, 1) := by decide +kernel
theorem dM_countActs_2 : decode bM_countActs 2 = .ok (.lcmp, 1) := by decide +kernel
theorem dM_countActs_3 : decode bM_countActs 3 = .ok (.ifCond .gt 5, 3) := by decide +kernel
theorem dM_countActs_6 : decode bM_countActs 6 = .ok (.iconst 0, 1) := by decide +kernel
theorem dM_countActs_7 : decode bM_countActs 7 = .ok (.ireturn, 1) := by decide +kernel
theorem dM_countActs_8 : decode bM_countActs 8 = .ok (.lload_n 0, 1) := by decide +kernel
theorem dM_countActs_9 : decode bM_countActs 9 = .ok (.lstore_n 2, 1) := by decide +kernel
theorem dM_countActs_10 : decode bM_countActs 10 = .ok (.iconst 1, 1) := by decide +kernel
theorem dM_countActs_11 : decode bM_countActs 11 = .ok (.istore 4, 2) := by decide +kernel
theorem dM_countActs_13 : decode bM_countActs 13 = .ok (.iload 4, 2) := by decide +kernel
theorem dM_countActs_15 : decode bM_countActs 15 = .ok (.bipush 6, 2) := by decide +kernel
theorem dM_countActs_17 : decode bM_countActs 17 = .ok (.if_icmp .gt 38, 3) := by decide +kernel
theorem dM_countActs_20 : decode bM_countActs 20 = .ok (.lload_n 2, 1) := by decide +kernel
theorem dM_countActs_21 : decode bM_countActs 21 = .ok (.ldc2_w 159, 3) := by decide +kernel
theorem dM_countActs_24 : decode bM_countActs 24 = .ok (.lrem, 1) := by decide +kernel
theorem dM_countActs_25 : decode bM_countActs 25 = .ok (.l2i, 1) := by decide +kernel
theorem dM_countActs_26 : decode bM_countActs 26 = .ok (.invokestatic 161, 3) := by decide +kernel
theorem dM_countActs_29 : decode bM_countActs 29 = .ok (.ifCond .ne 5, 3) := by decide +kernel
theorem dM_countActs_32 : decode bM_countActs 32 = .ok (.iconst 0, 1) := by decide +kernel
theorem dM_countActs_33 : decode bM_countActs 33 = .ok (.ireturn, 1) := by decide +kernel
theorem dM_countActs_34 : decode bM_countActs 34 = .ok (.lload_n 2, 1) := by decide +kernel
theorem dM_countActs_35 : decode bM_countActs 35 = .ok (.ldc2_w 159, 3) := by decide +kernel
theorem dM_countActs_38 : decode bM_countActs 38 = .ok (.ldiv, 1) := by decide +kernel
theorem dM_countActs_39 : decode bM_countActs 39 = .ok (.lstore_n 2, 1) := by decide +kernel
theorem dM_countActs_40 : decode bM_countActs 40 = .ok (.lload_n 2, 1) := by decide +kernel
theorem dM_countActs_41 : decode bM_countActs 41 = .ok (.lconst 0, 1) := by decide +kernel
theorem dM_countActs_42 : decode bM_countActs 42 = .ok (.lcmp, 1) := by decide +kernel
theorem dM_countActs_43 : decode bM_countActs 43 = .ok (.ifCond .ne 6, 3) := by decide +kernel
theorem dM_countActs_46 : decode bM_countActs 46 = .ok (.iload 4, 2) := by decide +kernel
theorem dM_countActs_48 : decode bM_countActs 48 = .ok (.ireturn, 1) := by decide +kernel
theorem dM_countActs_49 : decode bM_countActs 49 = .ok (.iinc 4 1, 3) := by decide +kernel
theorem dM_countActs_52 : decode bM_countActs 52 = .ok (.goto (-39), 3) := by decide +kernel
theorem dM_countActs_55 : decode bM_countActs 55 = .ok (.iconst 0, 1) := by decide +kernel
theorem dM_countActs_56 : decode bM_countActs 56 = .ok (.ireturn, 1) := by decide +kernel
theorem dJ_bitCount_0 : decode bJ_bitCount 0 = .ok (.iload_n 0, 1) := by decide +kernel
theorem dJ_bitCount_1 : decode bJ_bitCount 1 = .ok (.iload_n 0, 1) := by decide +kernel
theorem dJ_bitCount_2 : decode bJ_bitCount 2 = .ok (.iconst 1, 1) := by decide +kernel
theorem dJ_bitCount_3 : decode bJ_bitCount 3 = .ok (.iushr, 1) := by decide +kernel
theorem dJ_bitCount_4 : decode bJ_bitCount 4 = .ok (.ldc_w 265, 3) := by decide +kernel
theorem dJ_bitCount_7 : decode bJ_bitCount 7 = .ok (.iand, 1) := by decide +kernel
theorem dJ_bitCount_8 : decode bJ_bitCount 8 = .ok (.isub, 1) := by decide +kernel
theorem dJ_bitCount_9 : decode bJ_bitCount 9 = .ok (.istore_n 0, 1) := by decide +kernel
theorem dJ_bitCount_10 : decode bJ_bitCount 10 = .ok (.iload_n 0, 1) := by decide +kernel
theorem dJ_bitCount_11 : decode bJ_bitCount 11 = .ok (.ldc_w 266, 3) := by decide +kernel
theorem dJ_bitCount_14 : decode bJ_bitCount 14 = .ok (.iand, 1) := by decide +kernel
theorem dJ_bitCount_15 : decode bJ_bitCount 15 = .ok (.iload_n 0, 1) := by decide +kernel
theorem dJ_bitCount_16 : decode bJ_bitCount 16 = .ok (.iconst 2, 1) := by decide +kernel
theorem dJ_bitCount_17 : decode bJ_bitCount 17 = .ok (.iushr, 1) := by decide +kernel
theorem dJ_bitCount_18 : decode bJ_bitCount 18 = .ok (.ldc_w 266, 3) := by decide +kernel
theorem dJ_bitCount_21 : decode bJ_bitCount 21 = .ok (.iand, 1) := by decide +kernel
theorem dJ_bitCount_22 : decode bJ_bitCount 22 = .ok (.iadd, 1) := by decide +kernel
theorem dJ_bitCount_23 : decode bJ_bitCount 23 = .ok (.istore_n 0, 1) := by decide +kernel
theorem dJ_bitCount_24 : decode bJ_bitCount 24 = .ok (.iload_n 0, 1) := by decide +kernel
theorem dJ_bitCount_25 : decode bJ_bitCount 25 = .ok (.iload_n 0, 1) := by decide +kernel
theorem dJ_bitCount_26 : decode bJ_bitCount 26 = .ok (.iconst 4, 1) := by decide +kernel
theorem dJ_bitCount_27 : decode bJ_bitCount 27 = .ok (.iushr, 1) := by decide +kernel
theorem dJ_bitCount_28 : decode bJ_bitCount 28 = .ok (.iadd, 1) := by decide +kernel
theorem dJ_bitCount_29 : decode bJ_bitCount 29 = .ok (.ldc_w 267, 3) := by decide +kernel
theorem dJ_bitCount_32 : decode bJ_bitCount 32 = .ok (.iand, 1) := by decide +kernel
theorem dJ_bitCount_33 : decode bJ_bitCount 33 = .ok (.istore_n 0, 1) := by decide +kernel
theorem dJ_bitCount_34 : decode bJ_bitCount 34 = .ok (.iload_n 0, 1) := by decide +kernel
theorem dJ_bitCount_35 : decode bJ_bitCount 35 = .ok (.iload_n 0, 1) := by decide +kernel
theorem dJ_bitCount_36 : decode bJ_bitCount 36 = .ok (.bipush 8, 2) := by decide +kernel
theorem dJ_bitCount_38 : decode bJ_bitCount 38 = .ok (.iushr, 1) := by decide +kernel
theorem dJ_bitCount_39 : decode bJ_bitCount 39 = .ok (.iadd, 1) := by decide +kernel
theorem dJ_bitCount_40 : decode bJ_bitCount 40 = .ok (.istore_n 0, 1) := by decide +kernel
theorem dJ_bitCount_41 : decode bJ_bitCount 41 = .ok (.iload_n 0, 1) := by decide +kernel
theorem dJ_bitCount_42 : decode bJ_bitCount 42 = .ok (.iload_n 0, 1) := by decide +kernel
theorem dJ_bitCount_43 : decode bJ_bitCount 43 = .ok (.bipush 16, 2) := by decide +kernel
theorem dJ_bitCount_45 : decode bJ_bitCount 45 = .ok (.iushr, 1) := by decide +kernel
theorem dJ_bitCount_46 : decode bJ_bitCount 46 = .ok (.iadd, 1) := by decide +kernel
theorem dJ_bitCount_47 : decode bJ_bitCount 47 = .ok (.istore_n 0, 1) := by decide +kernel
theorem dJ_bitCount_48 : decode bJ_bitCount 48 = .ok (.iload_n 0, 1) := by decide +kernel
theorem dJ_bitCount_49 : decode bJ_bitCount 49 = .ok (.bipush 63, 2) := by decide +kernel
theorem dJ_bitCount_51 : decode bJ_bitCount 51 = .ok (.iand, 1) := by decide +kernel
theorem dJ_bitCount_52 : decode bJ_bitCount 52 = .ok (.ireturn, 1) := by decide +kernel
theorem dW_isPlace_0 : decode bW_isPlace 0 = .ok (.iload_n 1, 1) := by decide +kernel
theorem dW_isPlace_1 : decode bW_isPlace 1 = .ok (.ifCond .lt 26, 3) := by decide +kernel
theorem dW_isPlace_4 : decode bW_isPlace 4 = .ok (.iload_n 1, 1) := by decide +kernel
theorem dW_isPlace_5 : decode bW_isPlace 5 = .ok (.aload_n 0, 1) := by decide +kernel
theorem dW_isPlace_6 : decode bW_isPlace 6 = .ok (.getfield 9, 3) := by decide +kernel
theorem dW_isPlace_9 : decode bW_isPlace 9 = .ok (.if_icmp .ge 18, 3) := by decide +kernel
theorem dW_isPlace_12 : decode bW_isPlace 12 = .ok (.aload_n 0, 1) := by decide +kernel
theorem dW_isPlace_13 : decode bW_isPlace 13 = .ok (.getfield 15, 3) := by decide +kernel
theorem dW_isPlace_16 : decode bW_isPlace 16 = .ok (.iload_n 1, 1) := by decide +kernel
theorem dW_isPlace_17 : decode bW_isPlace 17 = .ok (.ishr, 1) := by decide +kernel
theorem dW_isPlace_18 : decode bW_isPlace 18 = .ok (.iconst 1, 1) := by decide +kernel
theorem dW_isPlace_19 : decode bW_isPlace 19 = .ok (.iand, 1) := by decide +kernel
theorem dW_isPlace_20 : decode bW_isPlace 20 = .ok (.ifCond .ne 7, 3) := by decide +kernel
theorem dW_isPlace_23 : decode bW_isPlace 23 = .ok (.iconst 1, 1) := by decide +kernel
theorem dW_isPlace_24 : decode bW_isPlace 24 = .ok (.goto 4, 3) := by decide +kernel
theorem dW_isPlace_27 : decode bW_isPlace 27 = .ok (.iconst 0, 1) := by decide +kernel
theorem dW_isPlace_28 : decode bW_isPlace 28 = .ok (.ireturn, 1) := by decide +kernel
theorem dW_addPlace_0 : decode bW_addPlace 0 = .ok (.aload_n 0, 1) := by decide +kernel
theorem dW_addPlace_1 : decode bW_addPlace 1 = .ok (.getfield 9, 3) := by decide +kernel
theorem dW_addPlace_4 : decode bW_addPlace 4 = .ok (.bipush 12, 2) := by decide +kernel
theorem dW_addPlace_6 : decode bW_addPlace 6 = .ok (.if_icmp .lt 6, 3) := by decide +kernel
theorem dW_addPlace_9 : decode bW_addPlace 9 = .ok (.bipush (-4), 2) := by decide +kernel
theorem dW_addPlace_11 : decode bW_addPlace 11 = .ok (.ireturn, 1) := by decide +kernel
theorem dW_addPlace_12 : decode bW_addPlace 12 = .ok (.aload_n 0, 1) := by decide +kernel
theorem dW_addPlace_13 : decode bW_addPlace 13 = .ok (.getfield 9, 3) := by decide +kernel
theorem dW_addPlace_16 : decode bW_addPlace 16 = .ok (.istore_n 3, 1) := by decide +kernel
theorem dW_addPlace_17 : decode bW_addPlace 17 = .ok (.aload_n 0, 1) := by decide +kernel
theorem dW_addPlace_18 : decode bW_addPlace 18 = .ok (.iload_n 3, 1) := by decide +kernel
theorem dW_addPlace_19 : decode bW_addPlace 19 = .ok (.iconst 1, 1) := by decide +kernel
theorem dW_addPlace_20 : decode bW_addPlace 20 = .ok (.iadd, 1) := by decide +kernel
theorem dW_addPlace_21 : decode bW_addPlace 21 = .ok (.putfield 9, 3) := by decide +kernel
theorem dW_addPlace_24 : decode bW_addPlace 24 = .ok (.aload_n 0, 1) := by decide +kernel
theorem dW_addPlace_25 : decode bW_addPlace 25 = .ok (.getfield 21, 3) := by decide +kernel
theorem dW_addPlace_28 : decode bW_addPlace 28 = .ok (.iload_n 3, 1) := by decide +kernel
theorem dW_addPlace_29 : decode bW_addPlace 29 = .ok (.iload_n 2, 1) := by decide +kernel
theorem dW_addPlace_30 : decode bW_addPlace 30 = .ok (.iastore, 1) := by decide +kernel
theorem dW_addPlace_31 : decode bW_addPlace 31 = .ok (.aload_n 0, 1) := by decide +kernel
theorem dW_addPlace_32 : decode bW_addPlace 32 = .ok (.getfield 25, 3) := by decide +kernel
theorem dW_addPlace_35 : decode bW_addPlace 35 = .ok (.iload_n 3, 1) := by decide +kernel
theorem dW_addPlace_36 : decode bW_addPlace 36 = .ok (.iload_n 1, 1) := by decide +kernel
theorem dW_addPlace_37 : decode bW_addPlace 37 = .ok (.iastore, 1) := by decide +kernel
theorem dW_addPlace_38 : decode bW_addPlace 38 = .ok (.aload_n 0, 1) := by decide +kernel
theorem dW_addPlace_39 : decode bW_addPlace 39 = .ok (.aload_n 0, 1) := by decide +kernel
theorem dW_addPlace_40 : decode bW_addPlace 40 = .ok (.getfield 18, 3) := by decide +kernel
theorem dW_addPlace_43 : decode bW_addPlace 43 = .ok (.iconst 1, 1) := by decide +kernel
theorem dW_addPlace_44 : decode bW_addPlace 44 = .ok (.iload_n 3, 1) := by decide +kernel
theorem dW_addPlace_45 : decode bW_addPlace 45 = .ok (.ishl, 1) := by decide +kernel
theorem dW_addPlace_46 : decode bW_addPlace 46 = .ok (.iconst (-1), 1) := by decide +kernel
theorem dW_addPlace_47 : decode bW_addPlace 47 = .ok (.ixor, 1) := by decide +kernel
theorem dW_addPlace_48 : decode bW_addPlace 48 = .ok (.iand, 1) := by decide +kernel
theorem dW_addPlace_49 : decode bW_addPlace 49 = .ok (.putfield 18, 3) := by decide +kernel
theorem dW_addPlace_52 : decode bW_addPlace 52 = .ok (.iconst 0, 1) := by decide +kernel
theorem dW_addPlace_53 : decode bW_addPlace 53 = .ok (.istore 4, 2) := by decide +kernel
theorem dW_addPlace_55 : decode bW_addPlace 55 = .ok (.iload 4, 2) := by decide +kernel
theorem dW_addPlace_57 : decode bW_addPlace 57 = .ok (.bipush 6, 2) := by decide +kernel
theorem dW_addPlace_59 : decode bW_addPlace 59 = .ok (.if_icmp .ge 22, 3) := by decide +kernel
theorem dW_addPlace_62 : decode bW_addPlace 62 = .ok (.aload_n 0, 1) := by decide +kernel
theorem dW_addPlace_63 : decode bW_addPlace 63 = .ok (.getfield 28, 3) := by decide +kernel
theorem dW_addPlace_66 : decode bW_addPlace 66 = .ok (.iload_n 3, 1) := by decide +kernel
theorem dW_addPlace_67 : decode bW_addPlace 67 = .ok (.bipush 6, 2) := by decide +kernel
theorem dW_addPlace_69 : decode bW_addPlace 69 = .ok (.imul, 1) := by decide +kernel
theorem dW_addPlace_70 : decode bW_addPlace 70 = .ok (.iload 4, 2) := by decide +kernel
theorem dW_addPlace_72 : decode bW_addPlace 72 = .ok (.iadd, 1) := by decide +kernel
theorem dW_addPlace_73 : decode bW_addPlace 73 = .ok (.iconst 0, 1) := by decide +kernel
theorem dW_addPlace_74 : decode bW_addPlace 74 = .ok (.iastore, 1) := by decide +kernel
theorem dW_addPlace_75 : decode bW_addPlace 75 = .ok (.iinc 4 1, 3) := by decide +kernel
theorem dW_addPlace_78 : decode bW_addPlace 78 = .ok (.goto (-23), 3) := by decide +kernel
theorem dW_addPlace_81 : decode bW_addPlace 81 = .ok (.iload_n 3, 1) := by decide +kernel
theorem dW_addPlace_82 : decode bW_addPlace 82 = .ok (.ireturn, 1) := by decide +kernel
theorem dW_nameOf_0 : decode bW_nameOf 0 = .ok (.aload_n 0, 1) := by decide +kernel
theorem dW_nameOf_1 : decode bW_nameOf 1 = .ok (.iload_n 1, 1) := by decide +kernel
theorem dW_nameOf_2 : decode bW_nameOf 2 = .ok (.invokevirtual 56, 3) := by decide +kernel
theorem dW_nameOf_5 : decode bW_nameOf 5 = .ok (.ifCond .eq 12, 3) := by decide +kernel
theorem dW_nameOf_8 : decode bW_nameOf 8 = .ok (.aload_n 0, 1) := by decide +kernel
theorem dW_nameOf_9 : decode bW_nameOf 9 = .ok (.getfield 21, 3) := by decide +kernel
theorem dW_nameOf_12 : decode bW_nameOf 12 = .ok (.iload_n 1, 1) := by decide +kernel
theorem dW_nameOf_13 : decode bW_nameOf 13 = .ok (.iaload, 1) := by decide +kernel
theorem dW_nameOf_14 : decode bW_nameOf 14 = .ok (.goto 5, 3) := by decide +kernel
theorem dW_nameOf_17 : decode bW_nameOf 17 = .ok (.bipush (-9), 2) := by decide +kernel
theorem dW_nameOf_19 : decode bW_nameOf 19 = .ok (.ireturn, 1) := by decide +kernel
theorem dW_placeAround_0 : decode bW_placeAround 0 = .ok (.aload_n 0, 1) := by decide +kernel
theorem dW_placeAround_1 : decode bW_placeAround 1 = .ok (.iload_n 1, 1) := by decide +kernel
theorem dW_placeAround_2 : decode bW_placeAround 2 = .ok (.invokevirtual 56, 3) := by decide +kernel
theorem dW_placeAround_5 : decode bW_placeAround 5 = .ok (.ifCond .eq 12, 3) := by decide +kernel
theorem dW_placeAround_8 : decode bW_placeAround 8 = .ok (.aload_n 0, 1) := by decide +kernel
theorem dW_placeAround_9 : decode bW_placeAround 9 = .ok (.getfield 25, 3) := by decide +kernel
theorem dW_placeAround_12 : decode bW_placeAround 12 = .ok (.iload_n 1, 1) := by decide +kernel
theorem dW_placeAround_13 : decode bW_placeAround 13 = .ok (.iaload, 1) := by decide +kernel
theorem dW_placeAround_14 : decode bW_placeAround 14 = .ok (.goto 5, 3) := by decide +kernel
theorem dW_placeAround_17 : decode bW_placeAround 17 = .ok (.bipush (-9), 2) := by decide +kernel
theorem dW_placeAround_19 : decode bW_placeAround 19 = .ok (.ireturn, 1) := by decide +kernel
theorem dW_isSealed_0 : decode bW_isSealed 0 = .ok (.aload_n 0, 1) := by decide +kernel
theorem dW_isSealed_1 : decode bW_isSealed 1 = .ok (.iload_n 1, 1) := by decide +kernel
theorem dW_isSealed_2 : decode bW_isSealed 2 = .ok (.invokevirtual 56, 3) := by decide +kernel
theorem dW_isSealed_5 : decode bW_isSealed 5 = .ok (.ifCond .eq 19, 3) := by decide +kernel
theorem dW_isSealed_8 : decode bW_isSealed 8 = .ok (.aload_n 0, 1) := by decide +kernel
theorem dW_isSealed_9 : decode bW_isSealed 9 = .ok (.getfield 18, 3) := by decide +kernel
theorem dW_isSealed_12 : decode bW_isSealed 12 = .ok (.iload_n 1, 1) := by decide +kernel
theorem dW_isSealed_13 : decode bW_isSealed 13 = .ok (.ishr, 1) := by decide +kernel
theorem dW_isSealed_14 : decode bW_isSealed 14 = .ok (.iconst 1, 1) := by decide +kernel
theorem dW_isSealed_15 : decode bW_isSealed 15 = .ok (.iand, 1) := by decide +kernel
theorem dW_isSealed_16 : decode bW_isSealed 16 = .ok (.iconst 1, 1) := by decide +kernel
theorem dW_isSealed_17 : decode bW_isSealed 17 = .ok (.if_icmp .ne 7, 3) := by decide +kernel
theorem dW_isSealed_20 : decode bW_isSealed 20 = .ok (.iconst 1, 1) := by decide +kernel
theorem dW_isSealed_21 : decode bW_isSealed 21 = .ok (.goto 4, 3) := by decide +kernel
theorem dW_isSealed_24 : decode bW_isSealed 24 = .ok (.iconst 0, 1) := by decide +kernel
theorem dW_isSealed_25 : decode bW_isSealed 25 = .ok (.ireturn, 1) := by decide +kernel
theorem dW_turnSeal_0 : decode bW_turnSeal 0 = .ok (.aload_n 0, 1) := by decide +kernel
theorem dW_turnSeal_1 : decode bW_turnSeal 1 = .ok (.iload_n 1, 1) := by decide +kernel
theorem dW_turnSeal_2 : decode bW_turnSeal 2 = .ok (.invokevirtual 56, 3) := by decide +kernel
theorem dW_turnSeal_5 : decode bW_turnSeal 5 = .ok (.ifCond .eq 15, 3) := by decide +kernel
theorem dW_turnSeal_8 : decode bW_turnSeal 8 = .ok (.aload_n 0, 1) := by decide +kernel
theorem dW_turnSeal_9 : decode bW_turnSeal 9 = .ok (.aload_n 0, 1) := by decide +kernel
theorem dW_turnSeal_10 : decode bW_turnSeal 10 = .ok (.getfield 18, 3) := by decide +kernel
theorem dW_turnSeal_13 : decode bW_turnSeal 13 = .ok (.iconst 1, 1) := by decide +kernel
theorem dW_turnSeal_14 : decode bW_turnSeal 14 = .ok (.iload_n 1, 1) := by decide +kernel
theorem dW_turnSeal_15 : decode bW_turnSeal 15 = .ok (.ishl, 1) := by decide +kernel
theorem dW_turnSeal_16 : decode bW_turnSeal 16 = .ok (.ixor, 1) := by decide +kernel
theorem dW_turnSeal_17 : decode bW_turnSeal 17 = .ok (.putfield 18, 3) := by decide +kernel
theorem dW_turnSeal_20 : decode bW_turnSeal 20 = .ok (.return_, 1) := by decide +kernel
theorem dW_messagesOf_0 : decode bW_messagesOf 0 = .ok (.aload_n 0, 1) := by decide +kernel
theorem dW_messagesOf_1 : decode bW_messagesOf 1 = .ok (.iload_n 1, 1) := by decide +kernel
theorem dW_messagesOf_2 : decode bW_messagesOf 2 = .ok (.invokevirtual 56, 3) := by decide +kernel
theorem dW_messagesOf_5 : decode bW_messagesOf 5 = .ok (.ifCond .eq 24, 3) := by decide +kernel
theorem dW_messagesOf_8 : decode bW_messagesOf 8 = .ok (.iload_n 2, 1) := by decide +kernel
theorem dW_messagesOf_9 : decode bW_messagesOf 9 = .ok (.invokestatic 60, 3) := by decide +kernel
theorem dW_messagesOf_12 : decode bW_messagesOf 12 = .ok (.ifCond .eq 17, 3) := by decide +kernel
theorem dW_messagesOf_15 : decode bW_messagesOf 15 = .ok (.aload_n 0, 1) := by decide +kernel
theorem dW_messagesOf_16 : decode bW_messagesOf 16 = .ok (.getfield 28, 3) := by decide +kernel
theorem dW_messagesOf_19 : decode bW_messagesOf 19 = .ok (.iload_n 1, 1) := by decide +kernel
theorem dW_messagesOf_20 : decode bW_messagesOf 20 = .ok (.bipush 6, 2) := by decide +kernel
theorem dW_messagesOf_22 : decode bW_messagesOf 22 = .ok (.imul, 1) := by decide +kernel
theorem dW_messagesOf_23 : decode bW_messagesOf 23 = .ok (.iload_n 2, 1) := by decide +kernel
theorem dW_messagesOf_24 : decode bW_messagesOf 24 = .ok (.iadd, 1) := by decide +kernel
theorem dW_messagesOf_25 : decode bW_messagesOf 25 = .ok (.iaload, 1) := by decide +kernel
theorem dW_messagesOf_26 : decode bW_messagesOf 26 = .ok (.goto 4, 3) := by decide +kernel
theorem dW_messagesOf_29 : decode bW_messagesOf 29 = .ok (.iconst 0, 1) := by decide +kernel
theorem dW_messagesOf_30 : decode bW_messagesOf 30 = .ok (.ireturn, 1) := by decide +kernel
theorem dW_addMessages_0 : decode bW_addMessages 0 = .ok (.aload_n 0, 1) := by decide +kernel
theorem dW_addMessages_1 : decode bW_addMessages 1 = .ok (.iload_n 1, 1) := by decide +kernel
theorem dW_addMessages_2 : decode bW_addMessages 2 = .ok (.invokevirtual 56, 3) := by decide +kernel
theorem dW_addMessages_5 : decode bW_addMessages 5 = .ok (.ifCond .eq 25, 3) := by decide +kernel
theorem dW_addMessages_8 : decode bW_addMessages 8 = .ok (.iload_n 2, 1) := by decide +kernel
theorem dW_addMessages_9 : decode bW_addMessages 9 = .ok (.invokestatic 60, 3) := by decide +kernel
theorem dW_addMessages_12 : decode bW_addMessages 12 = .ok (.ifCond .eq 18, 3) := by decide +kernel
theorem dW_addMessages_15 : decode bW_addMessages 15 = .ok (.aload_n 0, 1) := by decide +kernel
theorem dW_addMessages_16 : decode bW_addMessages 16 = .ok (.getfield 28, 3) := by decide +kernel
theorem dW_addMessages_19 : decode bW_addMessages 19 = .ok (.iload_n 1, 1) := by decide +kernel
theorem dW_addMessages_20 : decode bW_addMessages 20 = .ok (.bipush 6, 2) := by decide +kernel
theorem dW_addMessages_22 : decode bW_addMessages 22 = .ok (.imul, 1) := by decide +kernel
theorem dW_addMessages_23 : decode bW_addMessages 23 = .ok (.iload_n 2, 1) := by decide +kernel
theorem dW_addMessages_24 : decode bW_addMessages 24 = .ok (.iadd, 1) := by decide +kernel
theorem dW_addMessages_25 : decode bW_addMessages 25 = .ok (.dup2, 1) := by decide +kernel
theorem dW_addMessages_26 : decode bW_addMessages 26 = .ok (.iaload, 1) := by decide +kernel
theorem dW_addMessages_27 : decode bW_addMessages 27 = .ok (.iload_n 3, 1) := by decide +kernel
theorem dW_addMessages_28 : decode bW_addMessages 28 = .ok (.iadd, 1) := by decide +kernel
theorem dW_addMessages_29 : decode bW_addMessages 29 = .ok (.iastore, 1) := by decide +kernel
theorem dW_addMessages_30 : decode bW_addMessages 30 = .ok (.return_, 1) := by decide +kernel
theorem dW_placesIn_0 : decode bW_placesIn 0 = .ok (.iconst 0, 1) := by decide +kernel
theorem dW_placesIn_1 : decode bW_placesIn 1 = .ok (.istore_n 2, 1) := by decide +kernel
theorem dW_placesIn_2 : decode bW_placesIn 2 = .ok (.iconst 0, 1) := by decide +kernel
theorem dW_placesIn_3 : decode bW_placesIn 3 = .ok (.istore_n 3, 1) := by decide +kernel
theorem dW_placesIn_4 : decode bW_placesIn 4 = .ok (.iload_n 3, 1) := by decide +kernel
theorem dW_placesIn_5 : decode bW_placesIn 5 = .ok (.aload_n 0, 1) := by decide +kernel
theorem dW_placesIn_6 : decode bW_placesIn 6 = .ok (.getfield 9, 3) := by decide +kernel
theorem dW_placesIn_9 : decode bW_placesIn 9 = .ok (.if_icmp .ge 25, 3) := by decide +kernel
theorem dW_placesIn_12 : decode bW_placesIn 12 = .ok (.aload_n 0, 1) := by decide +kernel
theorem dW_placesIn_13 : decode bW_placesIn 13 = .ok (.getfield 25, 3) := by decide +kernel
theorem dW_placesIn_16 : decode bW_placesIn 16 = .ok (.iload_n 3, 1) := by decide +kernel
theorem dW_placesIn_17 : decode bW_placesIn 17 = .ok (.iaload, 1) := by decide +kernel
theorem dW_placesIn_18 : decode bW_placesIn 18 = .ok (.iload_n 1, 1) := by decide +kernel
theorem dW_placesIn_19 : decode bW_placesIn 19 = .ok (.if_icmp .ne 9, 3) := by decide +kernel
theorem dW_placesIn_22 : decode bW_placesIn 22 = .ok (.iload_n 2, 1) := by decide +kernel
theorem dW_placesIn_23 : decode bW_placesIn 23 = .ok (.iconst 1, 1) := by decide +kernel
theorem dW_placesIn_24 : decode bW_placesIn 24 = .ok (.iload_n 3, 1) := by decide +kernel
theorem dW_placesIn_25 : decode bW_placesIn 25 = .ok (.ishl, 1) := by decide +kernel
theorem dW_placesIn_26 : decode bW_placesIn 26 = .ok (.ior, 1) := by decide +kernel
theorem dW_placesIn_27 : decode bW_placesIn 27 = .ok (.istore_n 2, 1) := by decide +kernel
theorem dW_placesIn_28 : decode bW_placesIn 28 = .ok (.iinc 3 1, 3) := by decide +kernel
theorem dW_placesIn_31 : decode bW_placesIn 31 = .ok (.goto (-27), 3) := by decide +kernel
theorem dW_placesIn_34 : decode bW_placesIn 34 = .ok (.iload_n 2, 1) := by decide +kernel
theorem dW_placesIn_35 : decode bW_placesIn 35 = .ok (.ireturn, 1) := by decide +kernel
theorem dW_threadsIn_0 : decode bW_threadsIn 0 = .ok (.iconst 0, 1) := by decide +kernel
theorem dW_threadsIn_1 : decode bW_threadsIn 1 = .ok (.istore_n 2, 1) := by decide +kernel
theorem dW_threadsIn_2 : decode bW_threadsIn 2 = .ok (.iconst 0, 1) := by decide +kernel
theorem dW_threadsIn_3 : decode bW_threadsIn 3 = .ok (.istore_n 3, 1) := by decide +kernel
theorem dW_threadsIn_4 : decode bW_threadsIn 4 = .ok (.iload_n 3, 1) := by decide +kernel
theorem dW_threadsIn_5 : decode bW_threadsIn 5 = .ok (.aload_n 0, 1) := by decide +kernel
theorem dW_threadsIn_6 : decode bW_threadsIn 6 = .ok (.getfield 31, 3) := by decide +kernel
theorem dW_threadsIn_9 : decode bW_threadsIn 9 = .ok (.if_icmp .ge 25, 3) := by decide +kernel
theorem dW_threadsIn_12 : decode bW_threadsIn 12 = .ok (.aload_n 0, 1) := by decide +kernel
theorem dW_threadsIn_13 : decode bW_threadsIn 13 = .ok (.getfield 34, 3) := by decide +kernel
theorem dW_threadsIn_16 : decode bW_threadsIn 16 = .ok (.iload_n 3, 1) := by decide +kernel
theorem dW_threadsIn_17 : decode bW_threadsIn 17 = .ok (.iaload, 1) := by decide +kernel
theorem dW_threadsIn_18 : decode bW_threadsIn 18 = .ok (.iload_n 1, 1) := by decide +kernel
theorem dW_threadsIn_19 : decode bW_threadsIn 19 = .ok (.if_icmp .ne 9, 3) := by decide +kernel
theorem dW_threadsIn_22 : decode bW_threadsIn 22 = .ok (.iload_n 2, 1) := by decide +kernel
theorem dW_threadsIn_23 : decode bW_threadsIn 23 = .ok (.iconst 1, 1) := by decide +kernel
theorem dW_threadsIn_24 : decode bW_threadsIn 24 = .ok (.iload_n 3, 1) := by decide +kernel
theorem dW_threadsIn_25 : decode bW_threadsIn 25 = .ok (.ishl, 1) := by decide +kernel
theorem dW_threadsIn_26 : decode bW_threadsIn 26 = .ok (.ior, 1) := by decide +kernel
theorem dW_threadsIn_27 : decode bW_threadsIn 27 = .ok (.istore_n 2, 1) := by decide +kernel
theorem dW_threadsIn_28 : decode bW_threadsIn 28 = .ok (.iinc 3 1, 3) := by decide +kernel
theorem dW_threadsIn_31 : decode bW_threadsIn 31 = .ok (.goto (-27), 3) := by decide +kernel
theorem dW_threadsIn_34 : decode bW_threadsIn 34 = .ok (.iload_n 2, 1) := by decide +kernel
theorem dW_threadsIn_35 : decode bW_threadsIn 35 = .ok (.ireturn, 1) := by decide +kernel
theorem dW_depthOf_0 : decode bW_depthOf 0 = .ok (.iconst 0, 1) := by decide +kernel
theorem dW_depthOf_1 : decode bW_depthOf 1 = .ok (.istore_n 2, 1) := by decide +kernel
theorem dW_depthOf_2 : decode bW_depthOf 2 = .ok (.aload_n 0, 1) := by decide +kernel
theorem dW_depthOf_3 : decode bW_depthOf 3 = .ok (.iload_n 1, 1) := by decide +kernel
theorem dW_depthOf_4 : decode bW_depthOf 4 = .ok (.invokevirtual 63, 3) := by decide +kernel
theorem dW_depthOf_7 : decode bW_depthOf 7 = .ok (.istore_n 3, 1) := by decide +kernel
theorem dW_depthOf_8 : decode bW_depthOf 8 = .ok (.iload_n 3, 1) := by decide +kernel
theorem dW_depthOf_9 : decode bW_depthOf 9 = .ok (.bipush (-9), 2) := by decide +kernel
theorem dW_depthOf_11 : decode bW_depthOf 11 = .ok (.if_icmp .eq 21, 3) := by decide +kernel
theorem dW_depthOf_14 : decode bW_depthOf 14 = .ok (.iload_n 2, 1) := by decide +kernel
theorem dW_depthOf_15 : decode bW_depthOf 15 = .ok (.bipush 12, 2) := by decide +kernel
theorem dW_depthOf_17 : decode bW_depthOf 17 = .ok (.if_icmp .ge 15, 3) := by decide +kernel
theorem dW_depthOf_20 : decode bW_depthOf 20 = .ok (.iinc 2 1, 3) := by decide +kernel
theorem dW_depthOf_23 : decode bW_depthOf 23 = .ok (.aload_n 0, 1) := by decide +kernel
theorem dW_depthOf_24 : decode bW_depthOf 24 = .ok (.iload_n 3, 1) := by decide +kernel
theorem dW_depthOf_25 : decode bW_depthOf 25 = .ok (.invokevirtual 63, 3) := by decide +kernel
theorem dW_depthOf_28 : decode bW_depthOf 28 = .ok (.istore_n 3, 1) := by decide +kernel
theorem dW_depthOf_29 : decode bW_depthOf 29 = .ok (.goto (-21), 3) := by decide +kernel
theorem dW_depthOf_32 : decode bW_depthOf 32 = .ok (.iload_n 2, 1) := by decide +kernel
theorem dW_depthOf_33 : decode bW_depthOf 33 = .ok (.ireturn, 1) := by decide +kernel
theorem dW_isWithin_0 : decode bW_isWithin 0 = .ok (.aload_n 0, 1) := by decide +kernel
theorem dW_isWithin_1 : decode bW_isWithin 1 = .ok (.iload_n 1, 1) := by decide +kernel
theorem dW_isWithin_2 : decode bW_isWithin 2 = .ok (.invokevirtual 63, 3) := by decide +kernel
theorem dW_isWithin_5 : decode bW_isWithin 5 = .ok (.istore_n 3, 1) := by decide +kernel
theorem dW_isWithin_6 : decode bW_isWithin 6 = .ok (.iconst 0, 1) := by decide +kernel
theorem dW_isWithin_7 : decode bW_isWithin 7 = .ok (.istore 4, 2) := by decide +kernel
theorem dW_isWithin_9 : decode bW_isWithin 9 = .ok (.iload 4, 2) := by decide +kernel
theorem dW_isWithin_11 : decode bW_isWithin 11 = .ok (.bipush 12, 2) := by decide +kernel
theorem dW_isWithin_13 : decode bW_isWithin 13 = .ok (.if_icmp .ge 28, 3) := by decide +kernel
theorem dW_isWithin_16 : decode bW_isWithin 16 = .ok (.iload_n 3, 1) := by decide +kernel
theorem dW_isWithin_17 : decode bW_isWithin 17 = .ok (.bipush (-9), 2) := by decide +kernel
theorem dW_isWithin_19 : decode bW_isWithin 19 = .ok (.if_icmp .eq 22, 3) := by decide +kernel
theorem dW_isWithin_22 : decode bW_isWithin 22 = .ok (.iload_n 3, 1) := by decide +kernel
theorem dW_isWithin_23 : decode bW_isWithin 23 = .ok (.iload_n 2, 1) := by decide +kernel
theorem dW_isWithin_24 : decode bW_isWithin 24 = .ok (.if_icmp .ne 5, 3) := by decide +kernel
theorem dW_isWithin_27 : decode bW_isWithin 27 = .ok (.iconst 1, 1) := by decide +kernel
theorem dW_isWithin_28 : decode bW_isWithin 28 = .ok (.ireturn, 1) := by decide +kernel
theorem dW_isWithin_29 : decode bW_isWithin 29 = .ok (.aload_n 0, 1) := by decide +kernel
theorem dW_isWithin_30 : decode bW_isWithin 30 = .ok (.iload_n 3, 1) := by decide +kernel
theorem dW_isWithin_31 : decode bW_isWithin 31 = .ok (.invokevirtual 63, 3) := by decide +kernel
theorem dW_isWithin_34 : decode bW_isWithin 34 = .ok (.istore_n 3, 1) := by decide +kernel
theorem dW_isWithin_35 : decode bW_isWithin 35 = .ok (.iinc 4 1, 3) := by decide +kernel
theorem dW_isWithin_38 : decode bW_isWithin 38 = .ok (.goto (-29), 3) := by decide +kernel
theorem dW_isWithin_41 : decode bW_isWithin 41 = .ok (.iconst 0, 1) := by decide +kernel
theorem dW_isWithin_42 : decode bW_isWithin 42 = .ok (.ireturn, 1) := by decide +kernel
theorem dW_placesThatAre_0 : decode bW_placesThatAre 0 = .ok (.aload_n 0, 1) := by decide +kernel
theorem dW_placesThatAre_1 : decode bW_placesThatAre 1 = .ok (.getfield 9, 3) := by decide +kernel
theorem dW_placesThatAre_4 : decode bW_placesThatAre 4 = .ok (.aload_n 0, 1) := by decide +kernel
theorem dW_placesThatAre_5 : decode bW_placesThatAre 5 = .ok (.getfield 15, 3) := by decide +kernel
theorem dW_placesThatAre_8 : decode bW_placesThatAre 8 = .ok (.invokestatic 67, 3) := by decide +kernel
theorem dW_placesThatAre_11 : decode bW_placesThatAre 11 = .ok (.isub, 1) := by decide +kernel
theorem dW_placesThatAre_12 : decode bW_placesThatAre 12 = .ok (.ireturn, 1) := by decide +kernel
theorem dW_placesInAll_0 : decode bW_placesInAll 0 = .ok (.aload_n 0, 1) := by decide +kernel
theorem dW_placesInAll_1 : decode bW_placesInAll 1 = .ok (.getfield 9, 3) := by decide +kernel
theorem dW_placesInAll_4 : decode bW_placesInAll 4 = .ok (.ireturn, 1) := by decide +kernel
theorem dW_messagesInAll_0 : decode bW_messagesInAll 0 = .ok (.iconst 0, 1) := by decide +kernel
theorem dW_messagesInAll_1 : decode bW_messagesInAll 1 = .ok (.istore_n 1, 1) := by decide +kernel
theorem dW_messagesInAll_2 : decode bW_messagesInAll 2 = .ok (.iconst 0, 1) := by decide +kernel
theorem dW_messagesInAll_3 : decode bW_messagesInAll 3 = .ok (.istore_n 2, 1) := by decide +kernel
theorem dW_messagesInAll_4 : decode bW_messagesInAll 4 = .ok (.iload_n 2, 1) := by decide +kernel
theorem dW_messagesInAll_5 : decode bW_messagesInAll 5 = .ok (.aload_n 0, 1) := by decide +kernel
theorem dW_messagesInAll_6 : decode bW_messagesInAll 6 = .ok (.getfield 9, 3) := by decide +kernel
theorem dW_messagesInAll_9 : decode bW_messagesInAll 9 = .ok (.if_icmp .ge 32, 3) := by decide +kernel
theorem dW_messagesInAll_12 : decode bW_messagesInAll 12 = .ok (.iconst 0, 1) := by decide +kernel
theorem dW_messagesInAll_13 : decode bW_messagesInAll 13 = .ok (.istore_n 3, 1) := by decide +kernel
theorem dW_messagesInAll_14 : decode bW_messagesInAll 14 = .ok (.iload_n 3, 1) := by decide +kernel
theorem dW_messagesInAll_15 : decode bW_messagesInAll 15 = .ok (.bipush 6, 2) := by decide +kernel
theorem dW_messagesInAll_17 : decode bW_messagesInAll 17 = .ok (.if_icmp .ge 18, 3) := by decide +kernel
theorem dW_messagesInAll_20 : decode bW_messagesInAll 20 = .ok (.iload_n 1, 1) := by decide +kernel
theorem dW_messagesInAll_21 : decode bW_messagesInAll 21 = .ok (.aload_n 0, 1) := by decide +kernel
theorem dW_messagesInAll_22 : decode bW_messagesInAll 22 = .ok (.iload_n 2, 1) := by decide +kernel
theorem dW_messagesInAll_23 : decode bW_messagesInAll 23 = .ok (.iload_n 3, 1) := by decide +kernel
theorem dW_messagesInAll_24 : decode bW_messagesInAll 24 = .ok (.invokevirtual 72, 3) := by decide +kernel
theorem dW_messagesInAll_27 : decode bW_messagesInAll 27 = .ok (.iadd, 1) := by decide +kernel
theorem dW_messagesInAll_28 : decode bW_messagesInAll 28 = .ok (.istore_n 1, 1) := by decide +kernel
theorem dW_messagesInAll_29 : decode bW_messagesInAll 29 = .ok (.iinc 3 1, 3) := by decide +kernel
theorem dW_messagesInAll_32 : decode bW_messagesInAll 32 = .ok (.goto (-18), 3) := by decide +kernel
theorem dW_messagesInAll_35 : decode bW_messagesInAll 35 = .ok (.iinc 2 1, 3) := by decide +kernel
theorem dW_messagesInAll_38 : decode bW_messagesInAll 38 = .ok (.goto (-34), 3) := by decide +kernel
theorem dW_messagesInAll_41 : decode bW_messagesInAll 41 = .ok (.iload_n 1, 1) := by decide +kernel
theorem dW_messagesInAll_42 : decode bW_messagesInAll 42 = .ok (.ireturn, 1) := by decide +kernel
theorem dW_isThread_0 : decode bW_isThread 0 = .ok (.iload_n 1, 1) := by decide +kernel
theorem dW_isThread_1 : decode bW_isThread 1 = .ok (.ifCond .lt 15, 3) := by decide +kernel
theorem dW_isThread_4 : decode bW_isThread 4 = .ok (.iload_n 1, 1) := by decide +kernel
theorem dW_isThread_5 : decode bW_isThread 5 = .ok (.aload_n 0, 1) := by decide +kernel
theorem dW_isThread_6 : decode bW_isThread 6 = .ok (.getfield 31, 3) := by decide +kernel
theorem dW_isThread_9 : decode bW_isThread 9 = .ok (.if_icmp .ge 7, 3) := by decide +kernel
theorem dW_isThread_12 : decode bW_isThread 12 = .ok (.iconst 1, 1) := by decide +kernel
theorem dW_isThread_13 : decode bW_isThread 13 = .ok (.goto 4, 3) := by decide +kernel
theorem dW_isThread_16 : decode bW_isThread 16 = .ok (.iconst 0, 1) := by decide +kernel
theorem dW_isThread_17 : decode bW_isThread 17 = .ok (.ireturn, 1) := by decide +kernel
theorem dW_addThread_0 : decode bW_addThread 0 = .ok (.aload_n 0, 1) := by decide +kernel
theorem dW_addThread_1 : decode bW_addThread 1 = .ok (.getfield 31, 3) := by decide +kernel
theorem dW_addThread_4 : decode bW_addThread 4 = .ok (.bipush 12, 2) := by decide +kernel
theorem dW_addThread_6 : decode bW_addThread 6 = .ok (.if_icmp .lt 6, 3) := by decide +kernel
theorem dW_addThread_9 : decode bW_addThread 9 = .ok (.bipush (-4), 2) := by decide +kernel
theorem dW_addThread_11 : decode bW_addThread 11 = .ok (.ireturn, 1) := by decide +kernel
theorem dW_addThread_12 : decode bW_addThread 12 = .ok (.aload_n 0, 1) := by decide +kernel
theorem dW_addThread_13 : decode bW_addThread 13 = .ok (.getfield 31, 3) := by decide +kernel
theorem dW_addThread_16 : decode bW_addThread 16 = .ok (.istore 5, 2) := by decide +kernel
theorem dW_addThread_18 : decode bW_addThread 18 = .ok (.aload_n 0, 1) := by decide +kernel
theorem dW_addThread_19 : decode bW_addThread 19 = .ok (.iload 5, 2) := by decide +kernel
theorem dW_addThread_21 : decode bW_addThread 21 = .ok (.iconst 1, 1) := by decide +kernel
theorem dW_addThread_22 : decode bW_addThread 22 = .ok (.iadd, 1) := by decide +kernel
theorem dW_addThread_23 : decode bW_addThread 23 = .ok (.putfield 31, 3) := by decide +kernel
theorem dW_addThread_26 : decode bW_addThread 26 = .ok (.aload_n 0, 1) := by decide +kernel
theorem dW_addThread_27 : decode bW_addThread 27 = .ok (.getfield 34, 3) := by decide +kernel
theorem dW_addThread_30 : decode bW_addThread 30 = .ok (.iload 5, 2) := by decide +kernel
theorem dW_addThread_32 : decode bW_addThread 32 = .ok (.iload_n 1, 1) := by decide +kernel
theorem dW_addThread_33 : decode bW_addThread 33 = .ok (.iastore, 1) := by decide +kernel
theorem dW_addThread_34 : decode bW_addThread 34 = .ok (.aload_n 0, 1) := by decide +kernel
theorem dW_addThread_35 : decode bW_addThread 35 = .ok (.getfield 37, 3) := by decide +kernel
theorem dW_addThread_38 : decode bW_addThread 38 = .ok (.iload 5, 2) := by decide +kernel
theorem dW_addThread_40 : decode bW_addThread 40 = .ok (.lload_n 2, 1) := by decide +kernel
theorem dW_addThread_41 : decode bW_addThread 41 = .ok (.lastore, 1) := by decide +kernel
theorem dW_addThread_42 : decode bW_addThread 42 = .ok (.aload_n 0, 1) := by decide +kernel
theorem dW_addThread_43 : decode bW_addThread 43 = .ok (.getfield 41, 3) := by decide +kernel
theorem dW_addThread_46 : decode bW_addThread 46 = .ok (.iload 5, 2) := by decide +kernel
theorem dW_addThread_48 : decode bW_addThread 48 = .ok (.iload 4, 2) := by decide +kernel
theorem dW_addThread_50 : decode bW_addThread 50 = .ok (.iastore, 1) := by decide +kernel
theorem dW_addThread_51 : decode bW_addThread 51 = .ok (.aload_n 0, 1) := by decide +kernel
theorem dW_addThread_52 : decode bW_addThread 52 = .ok (.getfield 44, 3) := by decide +kernel
theorem dW_addThread_55 : decode bW_addThread 55 = .ok (.iload 5, 2) := by decide +kernel
theorem dW_addThread_57 : decode bW_addThread 57 = .ok (.iconst 0, 1) := by decide +kernel
theorem dW_addThread_58 : decode bW_addThread 58 = .ok (.iastore, 1) := by decide +kernel
theorem dW_addThread_59 : decode bW_addThread 59 = .ok (.aload_n 0, 1) := by decide +kernel
theorem dW_addThread_60 : decode bW_addThread 60 = .ok (.getfield 47, 3) := by decide +kernel
theorem dW_addThread_63 : decode bW_addThread 63 = .ok (.iload 5, 2) := by decide +kernel
theorem dW_addThread_65 : decode bW_addThread 65 = .ok (.bipush (-9), 2) := by decide +kernel
theorem dW_addThread_67 : decode bW_addThread 67 = .ok (.iastore, 1) := by decide +kernel
theorem dW_addThread_68 : decode bW_addThread 68 = .ok (.iload 5, 2) := by decide +kernel
theorem dW_addThread_70 : decode bW_addThread 70 = .ok (.ireturn, 1) := by decide +kernel
theorem dW_placeOfThread_0 : decode bW_placeOfThread 0 = .ok (.aload_n 0, 1) := by decide +kernel
theorem dW_placeOfThread_1 : decode bW_placeOfThread 1 = .ok (.iload_n 1, 1) := by decide +kernel
theorem dW_placeOfThread_2 : decode bW_placeOfThread 2 = .ok (.invokevirtual 76, 3) := by decide +kernel
theorem dW_placeOfThread_5 : decode bW_placeOfThread 5 = .ok (.ifCond .eq 12, 3) := by decide +kernel
theorem dW_placeOfThread_8 : decode bW_placeOfThread 8 = .ok (.aload_n 0, 1) := by decide +kernel
theorem dW_placeOfThread_9 : decode bW_placeOfThread 9 = .ok (.getfield 34, 3) := by decide +kernel
theorem dW_placeOfThread_12 : decode bW_placeOfThread 12 = .ok (.iload_n 1, 1) := by decide +kernel
theorem dW_placeOfThread_13 : decode bW_placeOfThread 13 = .ok (.iaload, 1) := by decide +kernel
theorem dW_placeOfThread_14 : decode bW_placeOfThread 14 = .ok (.goto 5, 3) := by decide +kernel
theorem dW_placeOfThread_17 : decode bW_placeOfThread 17 = .ok (.bipush (-9), 2) := by decide +kernel
theorem dW_placeOfThread_19 : decode bW_placeOfThread 19 = .ok (.ireturn, 1) := by decide +kernel
theorem dW_actsDone_0 : decode bW_actsDone 0 = .ok (.aload_n 0, 1) := by decide +kernel
theorem dW_actsDone_1 : decode bW_actsDone 1 = .ok (.iload_n 1, 1) := by decide +kernel
theorem dW_actsDone_2 : decode bW_actsDone 2 = .ok (.invokevirtual 76, 3) := by decide +kernel
theorem dW_actsDone_5 : decode bW_actsDone 5 = .ok (.ifCond .eq 12, 3) := by decide +kernel
theorem dW_actsDone_8 : decode bW_actsDone 8 = .ok (.aload_n 0, 1) := by decide +kernel
theorem dW_actsDone_9 : decode bW_actsDone 9 = .ok (.getfield 44, 3) := by decide +kernel
theorem dW_actsDone_12 : decode bW_actsDone 12 = .ok (.iload_n 1, 1) := by decide +kernel
theorem dW_actsDone_13 : decode bW_actsDone 13 = .ok (.iaload, 1) := by decide +kernel
theorem dW_actsDone_14 : decode bW_actsDone 14 = .ok (.goto 4, 3) := by decide +kernel
theorem dW_actsDone_17 : decode bW_actsDone 17 = .ok (.iconst 0, 1) := by decide +kernel
theorem dW_actsDone_18 : decode bW_actsDone 18 = .ok (.ireturn, 1) := by decide +kernel
theorem dW_actsInAll_0 : decode bW_actsInAll 0 = .ok (.aload_n 0, 1) := by decide +kernel
theorem dW_actsInAll_1 : decode bW_actsInAll 1 = .ok (.iload_n 1, 1) := by decide +kernel
theorem dW_actsInAll_2 : decode bW_actsInAll 2 = .ok (.invokevirtual 76, 3) := by decide +kernel
theorem dW_actsInAll_5 : decode bW_actsInAll 5 = .ok (.ifCond .eq 12, 3) := by decide +kernel
theorem dW_actsInAll_8 : decode bW_actsInAll 8 = .ok (.aload_n 0, 1) := by decide +kernel
theorem dW_actsInAll_9 : decode bW_actsInAll 9 = .ok (.getfield 41, 3) := by decide +kernel
theorem dW_actsInAll_12 : decode bW_actsInAll 12 = .ok (.iload_n 1, 1) := by decide +kernel
theorem dW_actsInAll_13 : decode bW_actsInAll 13 = .ok (.iaload, 1) := by decide +kernel
theorem dW_actsInAll_14 : decode bW_actsInAll 14 = .ok (.goto 4, 3) := by decide +kernel
theorem dW_actsInAll_17 : decode bW_actsInAll 17 = .ok (.iconst 0, 1) := by decide +kernel
theorem dW_actsInAll_18 : decode bW_actsInAll 18 = .ok (.ireturn, 1) := by decide +kernel
theorem wq_120 : Cond.methodLink rM 35 yM_isName ∈ wT := wT_in 120 rfl rfl
theorem wq_121 : Cond.static yM_isName ∈ wT := wT_in 121 rfl rfl
theorem wq_37 : Cond.initialized rM ∈ wT := wT_in 37 rfl rfl
theorem wq_122 : Cond.code yM_isName bM_isName 1 (some .boolean) ∈ wT := wT_in 122 rfl rfl
theorem kT_M_35 : mp_T rM 35 yM_isName bM_isName 1 (some .boolean) 1 := ⟨wq_120, wq_121, wq_37, wq_122, ⟨by decide, by decide, by decide +kernel⟩⟩
theorem wq_134 : Cond.constantLong rM 159 100 ∈ wT := wT_in 134 rfl rfl
theorem wq_135 : Cond.methodLink rM 161 yM_isAct ∈ wT := wT_in 135 rfl rfl
theorem wq_136 : Cond.static yM_isAct ∈ wT := wT_in 136 rfl rfl
theorem wq_137 : Cond.code yM_isAct bM_isAct 3 (some .boolean) ∈ wT := wT_in 137 rfl rfl
theorem kT_M_161 : mp_T rM 161 yM_isAct bM_isAct 3 (some .boolean) 1 := ⟨wq_135, wq_136, wq_37, wq_137, ⟨by decide, by decide, by decide +kernel⟩⟩
theorem wq_305 : Cond.constant rJ 265 1431655765 ∈ wT := wT_in 305 rfl rfl
theorem wq_306 : Cond.constant rJ 266 858993459 ∈ wT := wT_in 306 rfl rfl
theorem wq_307 : Cond.constant rJ 267 252645135 ∈ wT := wT_in 307 rfl rfl
theorem wq_56 : Cond.fieldLink rW 9 rW "placeCount" "I" ∈ wT := wT_in 56 rfl rfl
theorem wq_57 : Cond.fieldLink rW 15 rW "goneSet" "I" ∈ wT := wT_in 57 rfl rfl
theorem wq_59 : Cond.fieldLink rW 21 rW "names" "[I" ∈ wT := wT_in 59 rfl rfl
theorem wq_60 : Cond.fieldLink rW 25 rW "around" "[I" ∈ wT := wT_in 60 rfl rfl
theorem wq_58 : Cond.fieldLink rW 18 rW "sealedSet" "I" ∈ wT := wT_in 58 rfl rfl
theorem wq_61 : Cond.fieldLink rW 28 rW "messages" "[I" ∈ wT := wT_in 61 rfl rfl
theorem wq_150 : Cond.methodLink rW 56 yW_isPlace ∈ wT := wT_in 150 rfl rfl
theorem wq_117 : Cond.instanceMethod yW_isPlace ∈ wT := wT_in 117 rfl rfl
theorem wq_118 : Cond.selects rW yW_isPlace yW_isPlace ∈ wT := wT_in 118 rfl rfl
theorem wq_38 : Cond.initialized rW ∈ wT := wT_in 38 rfl rfl
theorem wq_119 : Cond.code yW_isPlace bW_isPlace 2 (some .boolean) ∈ wT := wT_in 119 rfl rfl
theorem kV_W_56 : mp_V rW 56 yW_isPlace bW_isPlace 2 (some .boolean) 1 := ⟨wq_150, wq_117, wq_118, wq_38, wq_119, ⟨by decide, by decide, by decide +kernel⟩⟩
theorem kN_M_isName : Cond.static yM_isName ∈ wT ∧ Cond.initialized yM_isName.cls ∈ wT ∧ Cond.code yM_isName bM_isName 1 (some .boolean) ∈ wT ∧ (yM_isName.cls ≠ "java/lang/invoke/MethodHandle" ∧ yM_isName.cls ≠ "java/lang/invoke/VarHandle" ∧ (parseMethodDescriptor yM_isName.desc).map (fun d => d.parameters.length) = some 1) := ⟨wq_121, wq_37, wq_122, by decide, by decide, by decide +kernel⟩
theorem wq_62 : Cond.fieldLink rW 31 rW "threadCount" "I" ∈ wT := wT_in 62 rfl rfl
theorem wq_63 : Cond.fieldLink rW 34 rW "spots" "[I" ∈ wT := wT_in 63 rfl rfl
theorem wq_192 : Cond.methodLink rW 63 yW_placeAround ∈ wT := wT_in 192 rfl rfl
theorem wq_177 : Cond.instanceMethod yW_placeAround ∈ wT := wT_in 177 rfl rfl
theorem wq_178 : Cond.selects rW yW_placeAround yW_placeAround ∈ wT := wT_in 178 rfl rfl
theorem wq_179 : Cond.code yW_placeAround bW_placeAround 2 (some .int) ∈ wT := wT_in 179 rfl rfl
theorem kV_W_63 : mp_V rW 63 yW_placeAround bW_placeAround 2 (some .int) 1 := ⟨wq_192, wq_177, wq_178, wq_38, wq_179, ⟨by decide, by decide, by decide +kernel⟩⟩
theorem wq_382 : Cond.methodLink rW 67 yJ_bitCount ∈ wT := wT_in 382 rfl rfl
theorem wq_303 : Cond.static yJ_bitCount ∈ wT := wT_in 303 rfl rfl
theorem wq_40 : Cond.initialized rJ ∈ wT := wT_in 40 rfl rfl
theorem wq_304 : Cond.code yJ_bitCount bJ_bitCount 1 (some .int) ∈ wT := wT_in 304 rfl rfl
theorem kT_W_67 : mp_T rW 67 yJ_bitCount bJ_bitCount 1 (some .int) 1 := ⟨wq_382, wq_303, wq_40, wq_304, ⟨by decide, by decide, by decide +kernel⟩⟩
theorem wq_267 : Cond.methodLink rW 72 yW_messagesOf ∈ wT := wT_in 267 rfl rfl
theorem wq_160 : Cond.instanceMethod yW_messagesOf ∈ wT := wT_in 160 rfl rfl
theorem wq_161 : Cond.selects rW yW_messagesOf yW_messagesOf ∈ wT := wT_in 161 rfl rfl
theorem wq_162 : Cond.code yW_messagesOf bW_messagesOf 3 (some .int) ∈ wT := wT_in 162 rfl rfl
theorem kV_W_72 : mp_V rW 72 yW_messagesOf bW_messagesOf 3 (some .int) 2 := ⟨wq_267, wq_160, wq_161, wq_38, wq_162, ⟨by decide, by decide, by decide +kernel⟩⟩
theorem wq_64 : Cond.fieldLink rW 37 rW "acts" "[J" ∈ wT := wT_in 64 rfl rfl
theorem wq_65 : Cond.fieldLink rW 41 rW "actCounts" "[I" ∈ wT := wT_in 65 rfl rfl
theorem wq_66 : Cond.fieldLink rW 44 rW "doneCounts" "[I" ∈ wT := wT_in 66 rfl rfl
theorem wq_67 : Cond.fieldLink rW 47 rW "heard" "[I" ∈ wT := wT_in 67 rfl rfl
theorem wq_205 : Cond.methodLink rW 76 yW_isThread ∈ wT := wT_in 205 rfl rfl
theorem wq_198 : Cond.instanceMethod yW_isThread ∈ wT := wT_in 198 rfl rfl
theorem wq_199 : Cond.selects rW yW_isThread yW_isThread ∈ wT := wT_in 199 rfl rfl
theorem wq_200 : Cond.code yW_isThread bW_isThread 2 (some .boolean) ∈ wT := wT_in 200 rfl rfl
theorem kV_W_76 : mp_V rW 76 yW_isThread bW_isThread 2 (some .boolean) 1 := ⟨wq_205, wq_198, wq_199, wq_38, wq_200, ⟨by decide, by decide, by decide +kernel⟩⟩
-- MovingPlaces.isName
abbrev rmM_isName : Room := { frames := 0, cells := 0, slots := 0, locals := 0 }
def fM_isName (a0 : Int32) : Option Int32 := (if a0 < 0 then some 0 else (if 6 ≤ a0 then some 0 else some 1))
set_option maxHeartbeats 4000000 in
set_option maxRecDepth 100000 in
theorem wM_isName {p : Program} {l : Launch} {e : Env} {s : State} {m : MethodId} {args : Array Value} {below : List Frame} {meth : Method} {c : Code} (cx : mp_C p s m args meth c bM_isName 1 (some .boolean) rM) (k : KK) (a0 : Int32) (z : Int32) (hE : mp_E k s) (h : fM_isName a0 = some z) (ls : Array Slot) (hl : lv_has ls 1 [(0, .int a0)]) : W p l e rmM_isName s m args below meth c s.heap [] 0 0 (MQ below (mp_Qs (some (.int z))) args s 0 0 (fun _ => False)) (F0 m 0 ls []) := by
  obtain ⟨hx, hb, -, hml, hown, hts, -⟩ := id cx
  unfold fM_isName at h
  refine lv_iload_n hx hb dM_isName_0 rfl (lv_at hl 0 rfl) ?_
  refine lv_if_lt (tgt := 14) hx hb dM_isName_1 (by decide) (fun c1 => ?_) (fun c1 => ?_)
  · have h := mp_t c1 h
    refine lv_iconst (v := 0) hx hb dM_isName_14 (by decide) ?_
    exact mp_rz cx rfl h dM_isName_15
  · have h := mp_f c1 h
    refine lv_iload_n hx hb dM_isName_4 rfl (lv_at hl 0 rfl) ?_
    refine lv_bipush (v := 6) hx hb dM_isName_5 (by decide) ?_
    refine lv_icmp_ge (tgt := 14) hx hb dM_isName_7 (by decide) (fun c2 => ?_) (fun c2 => ?_)
    · have h := mp_t c2 h
      refine lv_iconst (v := 0) hx hb dM_isName_14 (by decide) ?_
      exact mp_rz cx rfl h dM_isName_15
    · have h := mp_f c2 h
      refine lv_iconst (v := 1) hx hb dM_isName_10 (by decide) ?_
      refine lv_goto (tgt := 15) hx hb dM_isName_11 (by decide) ?_
      exact mp_rz cx rfl h dM_isName_15
theorem cM_isName (l : Launch) (k : KK) (a0 : Int32) (z : Int32) (h : fM_isName a0 = some z) : mp_CS l k yM_isName bM_isName 1 (some .boolean) rmM_isName [.int a0] [] (some (.int z)) := by
  refine Met.ofW (cc := bM_isName) (maxL := 1) (ret := (some .boolean)) (by decide) rfl ?_
  intro p e s m args below meth c s₁ B hml hv
  obtain ⟨rfl, hP, hD, hE⟩ := hv
  have hl := lv_entry ([.int a0]) (n := 1) (Nat.le_of_ble_eq_true rfl)
  rw [lg_entry_eq]
  generalize (lg_sl ([.int a0]) ++ List.replicate (1 - (lg_sl ([.int a0])).length) Slot.unset).toArray = ls at hl ⊢
  exact wM_isName (mp_C.of B hml) k a0 z hE h ls hl
-- MovingPlaces.isAct
abbrev rmM_isAct : Room := { frames := 1, cells := 0, slots := 0, locals := 20 }
def fM_isAct (a0 : Int32) : Option Int32 := (if (a0 / 10) = 5 then (if (a0 - a0 / 10 * 10) = 0 then some 1 else some 0) else (if (a0 / 10) < 1 then some 0 else (if 4 < (a0 / 10) then some 0 else (fM_isName (a0 - a0 / 10 * 10)).bind fun x4 => (if x4 = 0 then (if (a0 - a0 / 10 * 10) = 9 then some 1 else some 0) else some 1))))
set_option maxHeartbeats 4000000 in
set_option maxRecDepth 100000 in
theorem wM_isAct {p : Program} {l : Launch} {e : Env} {s : State} {m : MethodId} {args : Array Value} {below : List Frame} {meth : Method} {c : Code} (cx : mp_C p s m args meth c bM_isAct 3 (some .boolean) rM) (k : KK) (a0 : Int32) (z : Int32) (hE : mp_E k s) (h : fM_isAct a0 = some z) (ls : Array Slot) (hl : lv_has ls 3 [(0, .int a0)]) : W p l e rmM_isAct s m args below meth c s.heap [] 0 0 (MQ below (mp_Qs (some (.int z))) args s 0 0 (fun _ => False)) (F0 m 0 ls []) := by
  obtain ⟨hx, hb, -, hml, hown, hts, -⟩ := id cx
  unfold fM_isAct at h
  refine lv_iload_n hx hb dM_isAct_0 rfl (lv_at hl 0 rfl) ?_
  refine lv_bipush (v := 10) hx hb dM_isAct_1 (by decide) ?_
  refine lv_idiv hx hb dM_isAct_3 (by decide) ?_
  refine lv_istore_n (lv' := [(1, .int (a0 / 10)), (0, .int a0)]) hx hb dM_isAct_4 rfl hl (by decide) rfl (fun ls hl => ?_)
  refine lv_iload_n hx hb dM_isAct_5 rfl (lv_at hl 1 rfl) ?_
  refine lv_bipush (v := 10) hx hb dM_isAct_6 (by decide) ?_
  refine lv_irem hx hb dM_isAct_8 (by decide) ?_
  refine lv_istore_n (lv' := [(2, .int (a0 - a0 / 10 * 10)), (1, .int (a0 / 10)), (0, .int a0)]) hx hb dM_isAct_9 rfl hl (by decide) rfl (fun ls hl => ?_)
  refine lv_iload_n hx hb dM_isAct_10 rfl (lv_at hl 1 rfl) ?_
  refine lv_iconst (v := 5) hx hb dM_isAct_11 (by decide) ?_
  refine lv_icmp_ne (tgt := 25) hx hb dM_isAct_12 (by decide) (fun c1 => ?_) (fun c1 => ?_)
  · have h := mp_f c1 h
    refine lv_iload_n hx hb dM_isAct_25 rfl (lv_at hl 1 rfl) ?_
    refine lv_iconst (v := 1) hx hb dM_isAct_26 (by decide) ?_
    refine lv_icmp_lt (tgt := 52) hx hb dM_isAct_27 (by decide) (fun c2 => ?_) (fun c2 => ?_)
    · have h := mp_t c2 h
      refine lv_iconst (v := 0) hx hb dM_isAct_52 (by decide) ?_
      exact mp_rz cx rfl h dM_isAct_53
    · have h := mp_f c2 h
      refine lv_iload_n hx hb dM_isAct_30 rfl (lv_at hl 1 rfl) ?_
      refine lv_iconst (v := 4) hx hb dM_isAct_31 (by decide) ?_
      refine lv_icmp_gt (tgt := 52) hx hb dM_isAct_32 (by decide) (fun c3 => ?_) (fun c3 => ?_)
      · have h := mp_t c3 h
        refine lv_iconst (v := 0) hx hb dM_isAct_52 (by decide) ?_
        exact mp_rz cx rfl h dM_isAct_53
      · have h := mp_f c3 h
        refine lv_iload_n hx hb dM_isAct_35 rfl (lv_at hl 0 rfl) ?_
        obtain ⟨x4, ex4, h⟩ := mp_bs h
        refine mp_si (mp_runT (As := [.int (a0 - a0 / 10 * 10)]) (rest := []) cx kT_M_35 (cM_isName l k (a0 - a0 / 10 * 10) x4 ex4) ⟨rfl, rfl, Nat.le_of_ble_eq_true rfl, Nat.le_of_ble_eq_true rfl⟩ ⟨Nat.zero_le _, Nat.zero_le _⟩ hE mp_P0 mp_D0 va_S.rf hl.1 rfl (Nat.le_of_ble_eq_true rfl) dM_isAct_36) ?_
        refine lv_if_ne (tgt := 48) hx hb dM_isAct_39 (by decide) (fun c5 => ?_) (fun c5 => ?_)
        · have h := mp_f c5 h
          refine lv_iconst (v := 1) hx hb dM_isAct_48 (by decide) ?_
          refine lv_goto (tgt := 53) hx hb dM_isAct_49 (by decide) ?_
          exact mp_rz cx rfl h dM_isAct_53
        · have h := mp_t c5 h
          refine lv_iload_n hx hb dM_isAct_42 rfl (lv_at hl 0 rfl) ?_
          refine lv_bipush (v := 9) hx hb dM_isAct_43 (by decide) ?_
          refine lv_icmp_ne (tgt := 52) hx hb dM_isAct_45 (by decide) (fun c6 => ?_) (fun c6 => ?_)
          · have h := mp_f c6 h
            refine lv_iconst (v := 0) hx hb dM_isAct_52 (by decide) ?_
            exact mp_rz cx rfl h dM_isAct_53
          · have h := mp_t c6 h
            refine lv_iconst (v := 1) hx hb dM_isAct_48 (by decide) ?_
            refine lv_goto (tgt := 53) hx hb dM_isAct_49 (by decide) ?_
            exact mp_rz cx rfl h dM_isAct_53
  · have h := mp_t c1 h
    refine lv_iload_n hx hb dM_isAct_15 rfl (lv_at hl 0 rfl) ?_
    refine lv_if_ne (tgt := 23) hx hb dM_isAct_16 (by decide) (fun c7 => ?_) (fun c7 => ?_)
    · have h := mp_f c7 h
      refine lv_iconst (v := 0) hx hb dM_isAct_23 (by decide) ?_
      exact mp_rz cx rfl h dM_isAct_24
    · have h := mp_t c7 h
      refine lv_iconst (v := 1) hx hb dM_isAct_19 (by decide) ?_
      refine lv_goto (tgt := 24) hx hb dM_isAct_20 (by decide) ?_
      exact mp_rz cx rfl h dM_isAct_24
theorem cM_isAct (l : Launch) (k : KK) (a0 : Int32) (z : Int32) (h : fM_isAct a0 = some z) : mp_CS l k yM_isAct bM_isAct 3 (some .boolean) rmM_isAct [.int a0] [] (some (.int z)) := by
  refine Met.ofW (cc := bM_isAct) (maxL := 3) (ret := (some .boolean)) (by decide) rfl ?_
  intro p e s m args below meth c s₁ B hml hv
  obtain ⟨rfl, hP, hD, hE⟩ := hv
  have hl := lv_entry ([.int a0]) (n := 3) (Nat.le_of_ble_eq_true rfl)
  rw [lg_entry_eq]
  generalize (lg_sl ([.int a0]) ++ List.replicate (3 - (lg_sl ([.int a0])).length) Slot.unset).toArray = ls at hl ⊢
  exact wM_isAct (mp_C.of B hml) k a0 z hE h ls hl
-- MovingPlaces.countActs
abbrev rmM_countActs : Room := { frames := 2, cells := 0, slots := 0, locals := 42 }
def fM_countActs_13  : Nat → Int64 → Int32 → Option Int32
  | 0, _, _ => none
  | n + 1, a2, a4 => (if 6 < a4 then some 0 else (fM_isAct (Int64.toInt32 (a2 - a2 / 100 * 100))).bind fun x2 => (if x2 = 0 then some 0 else (if (lg_cmp (a2 / 100) 0) = 0 then some a4 else fM_countActs_13  n (a2 / 100) (a4 + 1))))
theorem fM_countActs_13_s (n : Nat) (a2 : Int64) (a4 : Int32) : fM_countActs_13  (n + 1) a2 a4 = (if 6 < a4 then some 0 else (fM_isAct (Int64.toInt32 (a2 - a2 / 100 * 100))).bind fun x2 => (if x2 = 0 then some 0 else (if (lg_cmp (a2 / 100) 0) = 0 then some a4 else fM_countActs_13  n (a2 / 100) (a4 + 1)))) := rfl
set_option maxHeartbeats 4000000 in
set_option maxRecDepth 100000 in
theorem lM_countActs_13 {p : Program} {l : Launch} {e : Env} {s : State} {m : MethodId} {args : Array Value} {below : List Frame} {meth : Method} {c : Code} (cx : mp_C p s m args meth c bM_countActs 5 (some .int) rM) (k : KK)  (z : Int32) (hE : mp_E k s) : ∀ (n : Nat) (a2 : Int64) (a4 : Int32), fM_countActs_13  n a2 a4 = some z → ∀ (ls : Array Slot), lv_has ls 5 [(2, .long a2), (4, .int a4)] → W p l e rmM_countActs s m args below meth c s.heap [] 0 0 (MQ below (mp_Qs (some (.int z))) args s 0 0 (fun _ => False)) (F0 m 13 ls []) := by
  obtain ⟨hx, hb, -, hml, hown, hts, -⟩ := id cx
  intro n
  induction n with
  | zero =>
    intro a2 a4 h
    have h : (none : Option Int32) = some z := h
    cases h
  | succ n ih =>
    intro a2 a4 h ls hl
    rw [fM_countActs_13_s] at h
    refine lv_iload hx hb dM_countActs_13 (lv_at hl 1 rfl) ?_
    refine lv_bipush (v := 6) hx hb dM_countActs_15 (by decide) ?_
    refine lv_icmp_gt (tgt := 55) hx hb dM_countActs_17 (by decide) (fun c1 => ?_) (fun c1 => ?_)
    · have h := mp_t c1 h
      refine lv_iconst (v := 0) hx hb dM_countActs_55 (by decide) ?_
      exact mp_ri cx h dM_countActs_56
    · have h := mp_f c1 h
      refine lv_lload_n hx hb dM_countActs_20 rfl (lv_at hl 0 rfl) ?_
      refine lv_ldc2 (v := 100) hx hb hown (hts _ wq_134) dM_countActs_21 ?_
      refine lv_lrem hx hb dM_countActs_24 (by decide) ?_
      refine lv_l2i hx hb dM_countActs_25 rfl ?_
      obtain ⟨x2, ex2, h⟩ := mp_bs h
      refine mp_si (mp_runT (As := [.int (Int64.toInt32 (a2 - a2 / 100 * 100))]) (rest := []) cx kT_M_161 (cM_isAct l k (Int64.toInt32 (a2 - a2 / 100 * 100)) x2 ex2) ⟨rfl, rfl, Nat.le_of_ble_eq_true rfl, Nat.le_of_ble_eq_true rfl⟩ ⟨Nat.zero_le _, Nat.zero_le _⟩ hE mp_P0 mp_D0 va_S.rf hl.1 rfl (Nat.le_of_ble_eq_true rfl) dM_countActs_26) ?_
      refine lv_if_ne (tgt := 34) hx hb dM_countActs_29 (by decide) (fun c3 => ?_) (fun c3 => ?_)
      · have h := mp_f c3 h
        refine lv_lload_n hx hb dM_countActs_34 rfl (lv_at hl 0 rfl) ?_
        refine lv_ldc2 (v := 100) hx hb hown (hts _ wq_134) dM_countActs_35 ?_
        refine lv_ldiv hx hb dM_countActs_38 (by decide) ?_
        refine lv_lstore_n (lv' := [(2, .long (a2 / 100)), (4, .int a4)]) hx hb dM_countActs_39 rfl hl (by decide) rfl (fun ls hl => ?_)
        refine lv_lload_n hx hb dM_countActs_40 rfl (lv_at hl 0 rfl) ?_
        refine lv_lconst (v := 0) hx hb dM_countActs_41 (by decide) ?_
        refine W.lcmp hx hb dM_countActs_42 ?_
        refine lv_if_ne (tgt := 49) hx hb dM_countActs_43 (by decide) (fun c4 => ?_) (fun c4 => ?_)
        · have h := mp_f c4 h
          refine lv_iinc (v := (a4 + 1)) (lv' := [(4, .int (a4 + 1)), (2, .long (a2 / 100))]) hx hb dM_countActs_49 hl (k := 1) rfl rfl (by decide) rfl (fun ls hl => ?_)
          refine lv_goto (tgt := 13) hx hb dM_countActs_52 (by decide) ?_
          exact ih (a2 / 100) (a4 + 1) h ls (lv_sub hl [1, 0] rfl)
        · have h := mp_t c4 h
          refine lv_iload hx hb dM_countActs_46 (lv_at hl 1 rfl) ?_
          exact mp_ri cx h dM_countActs_48
      · have h := mp_t c3 h
        refine lv_iconst (v := 0) hx hb dM_countActs_32 (by decide) ?_
        exact mp_ri cx h dM_countActs_33
def fM_countActs (a0 : Int64) : Option Int32 := (if 0 < (lg_cmp a0 0) then fM_countActs_13  2000 a0 1 else some 0)
set_option maxHeartbeats 4000000 in
set_option maxRecDepth 100000 in
theorem wM_countActs {p : Program} {l : Launch} {e : Env} {s : State} {m : MethodId} {args : Array Value} {below : List Frame} {meth : Method} {c : Code} (cx : mp_C p s m args meth c bM_countActs 5 (some .int) rM) (k : KK) (a0 : Int64) (z : Int32) (hE : mp_E k s) (h : fM_countActs a0 = some z) (ls : Array Slot) (hl : lv_has ls 5 [(0, .long a0)]) : W p l e rmM_countActs s m args below meth c s.heap [] 0 0 (MQ below (mp_Qs (some (.int z))) args s 0 0 (fun _ => False)) (F0 m 0 ls []) := by
  obtain ⟨hx, hb, -, hml, hown, hts, -⟩ := id cx
  unfold fM_countActs at h
  refine lv_lload_n hx hb dM_countActs_0 rfl (lv_at hl 0 rfl) ?_
  refine lv_lconst (v := 0) hx hb dM_countActs_1 (by decide) ?_
  refine W.lcmp hx hb dM_countActs_2 ?_
  refine lv_if_gt (tgt := 8) hx hb dM_countActs_3 (by decide) (fun c1 => ?_) (fun c1 => ?_)
  · have h := mp_t c1 h
    refine lv_lload_n hx hb dM_countActs_8 rfl (lv_at hl 0 rfl) ?_
    refine lv_lstore_n (lv' := [(2, .long a0), (0, .long a0)]) hx hb dM_countActs_9 rfl hl (by decide) rfl (fun ls hl => ?_)
    refine lv_iconst (v := 1) hx hb dM_countActs_10 (by decide) ?_
    refine lv_istore (lv' := [(4, .int 1), (2, .long a0), (0, .long a0)]) hx hb dM_countActs_11 hl (by decide) rfl (fun ls hl => ?_)
    exact lM_countActs_13 cx k  z hE _ a0 1 h ls (lv_sub hl [1, 0] rfl)
  · have h := mp_f c1 h
    refine lv_iconst (v := 0) hx hb dM_countActs_6 (by decide) ?_
    exact mp_ri cx h dM_countActs_7
theorem cM_countActs (l : Launch) (k : KK) (a0 : Int64) (z : Int32) (h : fM_countActs a0 = some z) : mp_CS l k yM_countActs bM_countActs 5 (some .int) rmM_countActs [.long a0] [] (some (.int z)) := by
  refine Met.ofW (cc := bM_countActs) (maxL := 5) (ret := (some .int)) (by decide) rfl ?_
  intro p e s m args below meth c s₁ B hml hv
  obtain ⟨rfl, hP, hD, hE⟩ := hv
  have hl := lv_entry ([.long a0]) (n := 5) (Nat.le_of_ble_eq_true rfl)
  rw [lg_entry_eq]
  generalize (lg_sl ([.long a0]) ++ List.replicate (5 - (lg_sl ([.long a0])).length) Slot.unset).toArray = ls at hl ⊢
  exact wM_countActs (mp_C.of B hml) k a0 z hE h ls hl
-- java/lang/Integer.bitCount
abbrev rmJ_bitCount : Room := { frames := 0, cells := 0, slots := 0, locals := 0 }
def fJ_bitCount (a0 : Int32) : Option Int32 := mp_lt (a0 - ((Int32.toUInt32 a0 >>> (Int32.toUInt32 1 &&& Int32.toUInt32 31)).toInt32 &&& 1431655765)) fun x1 => mp_lt ((x1 &&& 858993459) + ((Int32.toUInt32 x1 >>> (Int32.toUInt32 2 &&& Int32.toUInt32 31)).toInt32 &&& 858993459)) fun x2 => mp_lt ((x2 + (Int32.toUInt32 x2 >>> (Int32.toUInt32 4 &&& Int32.toUInt32 31)).toInt32) &&& 252645135) fun x3 => mp_lt (x3 + (Int32.toUInt32 x3 >>> (Int32.toUInt32 8 &&& Int32.toUInt32 31)).toInt32) fun x4 => mp_lt (x4 + (Int32.toUInt32 x4 >>> (Int32.toUInt32 16 &&& Int32.toUInt32 31)).toInt32) fun x5 => some (x5 &&& 63)
set_option maxHeartbeats 4000000 in
set_option maxRecDepth 100000 in
theorem wJ_bitCount {p : Program} {l : Launch} {e : Env} {s : State} {m : MethodId} {args : Array Value} {below : List Frame} {meth : Method} {c : Code} (cx : mp_C p s m args meth c bJ_bitCount 1 (some .int) rJ) (k : KK) (a0 : Int32) (z : Int32) (hE : mp_E k s) (h : fJ_bitCount a0 = some z) (ls : Array Slot) (hl : lv_has ls 1 [(0, .int a0)]) : W p l e rmJ_bitCount s m args below meth c s.heap [] 0 0 (MQ below (mp_Qs (some (.int z))) args s 0 0 (fun _ => False)) (F0 m 0 ls []) := by
  obtain ⟨hx, hb, -, hml, hown, hts, -⟩ := id cx
  unfold fJ_bitCount at h
  refine lv_iload_n hx hb dJ_bitCount_0 rfl (lv_at hl 0 rfl) ?_
  refine lv_iload_n hx hb dJ_bitCount_1 rfl (lv_at hl 0 rfl) ?_
  refine lv_iconst (v := 1) hx hb dJ_bitCount_2 (by decide) ?_
  refine lv_iushr (v := (Int32.toUInt32 a0 >>> (Int32.toUInt32 1 &&& Int32.toUInt32 31)).toInt32) hx hb dJ_bitCount_3 rfl ?_
  refine lv_ldcw (v := 1431655765) hx hb hown (hts _ wq_305) dJ_bitCount_4 ?_
  refine lv_iand hx hb dJ_bitCount_7 ?_
  refine lv_isub hx hb dJ_bitCount_8 ?_
  obtain ⟨x1, ex1, h⟩ := mp_lts h
  refine mp_top ex1 ?_
  refine lv_istore_n (lv' := [(0, .int x1)]) hx hb dJ_bitCount_9 rfl hl (by decide) rfl (fun ls hl => ?_)
  refine lv_iload_n hx hb dJ_bitCount_10 rfl (lv_at hl 0 rfl) ?_
  refine lv_ldcw (v := 858993459) hx hb hown (hts _ wq_306) dJ_bitCount_11 ?_
  refine lv_iand hx hb dJ_bitCount_14 ?_
  refine lv_iload_n hx hb dJ_bitCount_15 rfl (lv_at hl 0 rfl) ?_
  refine lv_iconst (v := 2) hx hb dJ_bitCount_16 (by decide) ?_
  refine lv_iushr (v := (Int32.toUInt32 x1 >>> (Int32.toUInt32 2 &&& Int32.toUInt32 31)).toInt32) hx hb dJ_bitCount_17 rfl ?_
  refine lv_ldcw (v := 858993459) hx hb hown (hts _ wq_306) dJ_bitCount_18 ?_
  refine lv_iand hx hb dJ_bitCount_21 ?_
  refine lv_iadd hx hb dJ_bitCount_22 ?_
  obtain ⟨x2, ex2, h⟩ := mp_lts h
  refine mp_top ex2 ?_
  refine lv_istore_n (lv' := [(0, .int x2)]) hx hb dJ_bitCount_23 rfl hl (by decide) rfl (fun ls hl => ?_)
  refine lv_iload_n hx hb dJ_bitCount_24 rfl (lv_at hl 0 rfl) ?_
  refine lv_iload_n hx hb dJ_bitCount_25 rfl (lv_at hl 0 rfl) ?_
  refine lv_iconst (v := 4) hx hb dJ_bitCount_26 (by decide) ?_
  refine lv_iushr (v := (Int32.toUInt32 x2 >>> (Int32.toUInt32 4 &&& Int32.toUInt32 31)).toInt32) hx hb dJ_bitCount_27 rfl ?_
  refine lv_iadd hx hb dJ_bitCount_28 ?_
  refine lv_ldcw (v := 252645135) hx hb hown (hts _ wq_307) dJ_bitCount_29 ?_
  refine lv_iand hx hb dJ_bitCount_32 ?_
  obtain ⟨x3, ex3, h⟩ := mp_lts h
  refine mp_top ex3 ?_
  refine lv_istore_n (lv' := [(0, .int x3)]) hx hb dJ_bitCount_33 rfl hl (by decide) rfl (fun ls hl => ?_)
  refine lv_iload_n hx hb dJ_bitCount_34 rfl (lv_at hl 0 rfl) ?_
  refine lv_iload_n hx hb dJ_bitCount_35 rfl (lv_at hl 0 rfl) ?_
  refine lv_bipush (v := 8) hx hb dJ_bitCount_36 (by decide) ?_
  refine lv_iushr (v := (Int32.toUInt32 x3 >>> (Int32.toUInt32 8 &&& Int32.toUInt32 31)).toInt32) hx hb dJ_bitCount_38 rfl ?_
  refine lv_iadd hx hb dJ_bitCount_39 ?_
  obtain ⟨x4, ex4, h⟩ := mp_lts h
  refine mp_top ex4 ?_
  refine lv_istore_n (lv' := [(0, .int x4)]) hx hb dJ_bitCount_40 rfl hl (by decide) rfl (fun ls hl => ?_)
  refine lv_iload_n hx hb dJ_bitCount_41 rfl (lv_at hl 0 rfl) ?_
  refine lv_iload_n hx hb dJ_bitCount_42 rfl (lv_at hl 0 rfl) ?_
  refine lv_bipush (v := 16) hx hb dJ_bitCount_43 (by decide) ?_
  refine lv_iushr (v := (Int32.toUInt32 x4 >>> (Int32.toUInt32 16 &&& Int32.toUInt32 31)).toInt32) hx hb dJ_bitCount_45 rfl ?_
  refine lv_iadd hx hb dJ_bitCount_46 ?_
  obtain ⟨x5, ex5, h⟩ := mp_lts h
  refine mp_top ex5 ?_
  refine lv_istore_n (lv' := [(0, .int x5)]) hx hb dJ_bitCount_47 rfl hl (by decide) rfl (fun ls hl => ?_)
  refine lv_iload_n hx hb dJ_bitCount_48 rfl (lv_at hl 0 rfl) ?_
  refine lv_bipush (v := 63) hx hb dJ_bitCount_49 (by decide) ?_
  refine lv_iand hx hb dJ_bitCount_51 ?_
  exact mp_ri cx h dJ_bitCount_52
theorem cJ_bitCount (l : Launch) (k : KK) (a0 : Int32) (z : Int32) (h : fJ_bitCount a0 = some z) : mp_CS l k yJ_bitCount bJ_bitCount 1 (some .int) rmJ_bitCount [.int a0] [] (some (.int z)) := by
  refine Met.ofW (cc := bJ_bitCount) (maxL := 1) (ret := (some .int)) (by decide) rfl ?_
  intro p e s m args below meth c s₁ B hml hv
  obtain ⟨rfl, hP, hD, hE⟩ := hv
  have hl := lv_entry ([.int a0]) (n := 1) (Nat.le_of_ble_eq_true rfl)
  rw [lg_entry_eq]
  generalize (lg_sl ([.int a0]) ++ List.replicate (1 - (lg_sl ([.int a0])).length) Slot.unset).toArray = ls at hl ⊢
  exact wJ_bitCount (mp_C.of B hml) k a0 z hE h ls hl
-- MovingPlaces$World.isPlace
abbrev rmW_isPlace : Room := { frames := 0, cells := 0, slots := 0, locals := 0 }
def fW_isPlace (w : SW) (a1 : Int32) : Option Int32 := (if a1 < 0 then some 0 else (if w.1 ≤ a1 then some 0 else (if ((w.2.1 >>> (a1 &&& 31)) &&& 1) = 0 then some 1 else some 0)))
set_option maxHeartbeats 4000000 in
set_option maxRecDepth 100000 in
theorem wW_isPlace {p : Program} {l : Launch} {e : Env} {s : State} {m : MethodId} {args : Array Value} {below : List Frame} {meth : Method} {c : Code} (cx : mp_C p s m args meth c bW_isPlace 2 (some .boolean) rW) (k : KK) (ad : Nat → Nat) (w : SW) (a1 : Int32) (z : Int32) (hE : mp_E k s) (hP : va_P (kD k) mp_cls (cW k ad w) s.heap) (hD : va_D (mp_N k) (cW k ad w)) (h : fW_isPlace w a1 = some z) (ls : Array Slot) (hl : lv_has ls 2 [(0, .ref (ad 0)), (1, .int a1)]) : W p l e rmW_isPlace s m args below meth c s.heap [] 0 0 (MQ below (mp_Qs (some (.int z))) args s 0 0 (fun _ => False)) (F0 m 0 ls []) := by
  obtain ⟨hx, hb, -, hml, hown, hts, -⟩ := id cx
  unfold fW_isPlace at h
  refine lv_iload_n hx hb dW_isPlace_0 rfl (lv_at hl 1 rfl) ?_
  refine lv_if_lt (tgt := 27) hx hb dW_isPlace_1 (by decide) (fun c1 => ?_) (fun c1 => ?_)
  · have h := mp_t c1 h
    refine lv_iconst (v := 0) hx hb dW_isPlace_27 (by decide) ?_
    exact mp_rz cx rfl h dW_isPlace_28
  · have h := mp_f c1 h
    refine lv_iload_n hx hb dW_isPlace_4 rfl (lv_at hl 1 rfl) ?_
    refine lv_aload_n hx hb dW_isPlace_5 rfl (lv_at hl 0 rfl) ?_
    refine mp_gW cx hE hP iW 0 rfl 0 (by decide) wq_56 rfl (v := .int w.1) rfl dW_isPlace_6 ?_
    refine lv_icmp_ge (tgt := 27) hx hb dW_isPlace_9 (by decide) (fun c2 => ?_) (fun c2 => ?_)
    · have h := mp_t c2 h
      refine lv_iconst (v := 0) hx hb dW_isPlace_27 (by decide) ?_
      exact mp_rz cx rfl h dW_isPlace_28
    · have h := mp_f c2 h
      refine lv_aload_n hx hb dW_isPlace_12 rfl (lv_at hl 0 rfl) ?_
      refine mp_gW cx hE hP iW 0 rfl 1 (by decide) wq_57 rfl (v := .int w.2.1) rfl dW_isPlace_13 ?_
      refine lv_iload_n hx hb dW_isPlace_16 rfl (lv_at hl 1 rfl) ?_
      refine lv_ishr hx hb dW_isPlace_17 ?_
      refine lv_iconst (v := 1) hx hb dW_isPlace_18 (by decide) ?_
      refine lv_iand hx hb dW_isPlace_19 ?_
      refine lv_if_ne (tgt := 27) hx hb dW_isPlace_20 (by decide) (fun c3 => ?_) (fun c3 => ?_)
      · have h := mp_f c3 h
        refine lv_iconst (v := 0) hx hb dW_isPlace_27 (by decide) ?_
        exact mp_rz cx rfl h dW_isPlace_28
      · have h := mp_t c3 h
        refine lv_iconst (v := 1) hx hb dW_isPlace_23 (by decide) ?_
        refine lv_goto (tgt := 28) hx hb dW_isPlace_24 (by decide) ?_
        exact mp_rz cx rfl h dW_isPlace_28
theorem cW_isPlace (l : Launch) (k : KK) (ad : Nat → Nat) (w : SW) (a1 : Int32) (z : Int32) (h : fW_isPlace w a1 = some z) : mp_CS l k yW_isPlace bW_isPlace 2 (some .boolean) rmW_isPlace [.ref (ad 0), .int a1] (cW k ad w) (some (.int z)) := by
  refine Met.ofW (cc := bW_isPlace) (maxL := 2) (ret := (some .boolean)) (by decide) rfl ?_
  intro p e s m args below meth c s₁ B hml hv
  obtain ⟨rfl, hP, hD, hE⟩ := hv
  have hl := lv_entry ([.ref (ad 0), .int a1]) (n := 2) (Nat.le_of_ble_eq_true rfl)
  rw [lg_entry_eq]
  generalize (lg_sl ([.ref (ad 0), .int a1]) ++ List.replicate (2 - (lg_sl ([.ref (ad 0), .int a1])).length) Slot.unset).toArray = ls at hl ⊢
  exact wW_isPlace (mp_C.of B hml) k ad w a1 z hE hP hD h ls hl
-- MovingPlaces$World.addPlace
abbrev rmW_addPlace : Room := { frames := 0, cells := 0, slots := 0, locals := 0 }
def fW_addPlace_55 (a3 : Int32) : Nat → SW → Int32 → Option (Int32 × SW)
  | 0, _, _ => none
  | n + 1, w, a4 => (if 6 ≤ a4 then some (a3, w) else mp_st 72 ((a3 * 6) + a4) (fW_addPlace_55 a3 n (w.1, w.2.1, w.2.2.1, w.2.2.2.1, w.2.2.2.2.1, (upd w.2.2.2.2.2.1 (Int32.toNatClampNeg ((a3 * 6) + a4)) 0), w.2.2.2.2.2.2.1, w.2.2.2.2.2.2.2.1, w.2.2.2.2.2.2.2.2.1, w.2.2.2.2.2.2.2.2.2.1, w.2.2.2.2.2.2.2.2.2.2.1, w.2.2.2.2.2.2.2.2.2.2.2) (a4 + 1)))
theorem fW_addPlace_55_s (a3 : Int32) (n : Nat) (w : SW) (a4 : Int32) : fW_addPlace_55 a3 (n + 1) w a4 = (if 6 ≤ a4 then some (a3, w) else mp_st 72 ((a3 * 6) + a4) (fW_addPlace_55 a3 n (w.1, w.2.1, w.2.2.1, w.2.2.2.1, w.2.2.2.2.1, (upd w.2.2.2.2.2.1 (Int32.toNatClampNeg ((a3 * 6) + a4)) 0), w.2.2.2.2.2.2.1, w.2.2.2.2.2.2.2.1, w.2.2.2.2.2.2.2.2.1, w.2.2.2.2.2.2.2.2.2.1, w.2.2.2.2.2.2.2.2.2.2.1, w.2.2.2.2.2.2.2.2.2.2.2) (a4 + 1))) := rfl
set_option maxHeartbeats 4000000 in
set_option maxRecDepth 100000 in
theorem lW_addPlace_55 {p : Program} {l : Launch} {e : Env} {s : State} {m : MethodId} {args : Array Value} {below : List Frame} {meth : Method} {c : Code} (cx : mp_C p s m args meth c bW_addPlace 5 (some .int) rW) (k : KK) (ad : Nat → Nat) (a3 : Int32) (z : (Int32 × SW)) (hE : mp_E k s) (hAN : ∀ q, mp_A (aW ad) q → mp_N k q) : ∀ (n : Nat) (w : SW) (a4 : Int32), fW_addPlace_55 a3 n w a4 = some z → ∀ (H : Heap) (locs : List Loc), va_P (kD k) mp_cls (cW k ad w) H → va_D (mp_A (aW ad)) (cW k ad w) → va_S (mp_A (aW ad)) s.heap H locs → ∀ (ls : Array Slot), lv_has ls 5 [(0, .ref (ad 0)), (3, .int a3), (4, .int a4)] → W p l e rmW_addPlace s m args below meth c H locs 0 0 (MQ below (mp_Qm k (some (.int z.1)) (cW k ad z.2) (aW ad)) args s 0 0 (mp_A (aW ad))) (F0 m 55 ls []) := by
  obtain ⟨hx, hb, -, hml, hown, hts, -⟩ := id cx
  intro n
  induction n with
  | zero =>
    intro w a4 h
    have h : (none : Option (Int32 × SW)) = some z := h
    cases h
  | succ n ih =>
    intro w a4 h H locs hP hD hS ls hl
    rw [fW_addPlace_55_s] at h
    refine lv_iload hx hb dW_addPlace_55 (lv_at hl 2 rfl) ?_
    refine lv_bipush (v := 6) hx hb dW_addPlace_57 (by decide) ?_
    refine lv_icmp_ge (tgt := 81) hx hb dW_addPlace_59 (by decide) (fun c1 => ?_) (fun c1 => ?_)
    · have h := mp_t c1 h
      refine lv_iload_n hx hb dW_addPlace_81 rfl (lv_at hl 1 rfl) ?_
      exact mp_rim (cf := cW k ad) cx h hP hS dW_addPlace_82
    · have h := mp_f c1 h
      refine lv_aload_n hx hb dW_addPlace_62 rfl (lv_at hl 0 rfl) ?_
      refine mp_gW cx hE hP iW 0 rfl 5 (by decide) wq_61 rfl (v := .ref (ad 3)) rfl dW_addPlace_63 ?_
      refine lv_iload_n hx hb dW_addPlace_66 rfl (lv_at hl 1 rfl) ?_
      refine lv_bipush (v := 6) hx hb dW_addPlace_67 (by decide) ?_
      refine lv_imul hx hb dW_addPlace_69 ?_
      refine lv_iload hx hb dW_addPlace_70 (lv_at hl 2 rfl) ?_
      refine lv_iadd hx hb dW_addPlace_72 ?_
      refine lv_iconst (v := 0) hx hb dW_addPlace_73 (by decide) ?_
      obtain ⟨hi, h⟩ := mp_sts h
      refine va_iast hx hb hE.1 hP hD hS 3 0 (f := w.2.2.2.2.2.1) (n := 72) rfl rfl hi dW_addPlace_74 (fun H locs hP hD hS => ?_)
      have hP : va_P (kD k) mp_cls (cW k ad (w.1, w.2.1, w.2.2.1, w.2.2.2.1, w.2.2.2.2.1, (upd w.2.2.2.2.2.1 (Int32.toNatClampNeg ((a3 * 6) + a4)) 0), w.2.2.2.2.2.2.1, w.2.2.2.2.2.2.2.1, w.2.2.2.2.2.2.2.2.1, w.2.2.2.2.2.2.2.2.2.1, w.2.2.2.2.2.2.2.2.2.2.1, w.2.2.2.2.2.2.2.2.2.2.2)) H := hP
      have hD : va_D (mp_A (aW ad)) (cW k ad (w.1, w.2.1, w.2.2.1, w.2.2.2.1, w.2.2.2.2.1, (upd w.2.2.2.2.2.1 (Int32.toNatClampNeg ((a3 * 6) + a4)) 0), w.2.2.2.2.2.2.1, w.2.2.2.2.2.2.2.1, w.2.2.2.2.2.2.2.2.1, w.2.2.2.2.2.2.2.2.2.1, w.2.2.2.2.2.2.2.2.2.2.1, w.2.2.2.2.2.2.2.2.2.2.2)) := hD
      refine lv_iinc (v := (a4 + 1)) (lv' := [(4, .int (a4 + 1)), (0, .ref (ad 0)), (3, .int a3)]) hx hb dW_addPlace_75 hl (k := 2) rfl rfl (by decide) rfl (fun ls hl => ?_)
      refine lv_goto (tgt := 55) hx hb dW_addPlace_78 (by decide) ?_
      exact ih (w.1, w.2.1, w.2.2.1, w.2.2.2.1, w.2.2.2.2.1, (upd w.2.2.2.2.2.1 (Int32.toNatClampNeg ((a3 * 6) + a4)) 0), w.2.2.2.2.2.2.1, w.2.2.2.2.2.2.2.1, w.2.2.2.2.2.2.2.2.1, w.2.2.2.2.2.2.2.2.2.1, w.2.2.2.2.2.2.2.2.2.2.1, w.2.2.2.2.2.2.2.2.2.2.2) (a4 + 1) h _ _ hP hD hS ls (lv_sub hl [1, 2, 0] rfl)
def fW_addPlace (w : SW) (a1 : Int32) (a2 : Int32) : Option (Int32 × SW) := (if w.1 < 12 then mp_st 12 w.1 (mp_st 12 w.1 (fW_addPlace_55 w.1 2000 ((w.1 + 1), w.2.1, (w.2.2.1 &&& ((1 <<< (w.1 &&& 31)) ^^^ (-1))), (upd w.2.2.2.1 (Int32.toNatClampNeg w.1) a2), (upd w.2.2.2.2.1 (Int32.toNatClampNeg w.1) a1), w.2.2.2.2.2.1, w.2.2.2.2.2.2.1, w.2.2.2.2.2.2.2.1, w.2.2.2.2.2.2.2.2.1, w.2.2.2.2.2.2.2.2.2.1, w.2.2.2.2.2.2.2.2.2.2.1, w.2.2.2.2.2.2.2.2.2.2.2) 0)) else some ((-4), w))
set_option maxHeartbeats 4000000 in
set_option maxRecDepth 100000 in
theorem wW_addPlace {p : Program} {l : Launch} {e : Env} {s : State} {m : MethodId} {args : Array Value} {below : List Frame} {meth : Method} {c : Code} (cx : mp_C p s m args meth c bW_addPlace 5 (some .int) rW) (k : KK) (ad : Nat → Nat) (w : SW) (a1 : Int32) (a2 : Int32) (z : (Int32 × SW)) (hE : mp_E k s) (hAN : ∀ q, mp_A (aW ad) q → mp_N k q) {H : Heap} {locs : List Loc} (hP : va_P (kD k) mp_cls (cW k ad w) H) (hD : va_D (mp_A (aW ad)) (cW k ad w)) (hS : va_S (mp_A (aW ad)) s.heap H locs) (h : fW_addPlace w a1 a2 = some z) (ls : Array Slot) (hl : lv_has ls 5 [(0, .ref (ad 0)), (1, .int a1), (2, .int a2)]) : W p l e rmW_addPlace s m args below meth c H locs 0 0 (MQ below (mp_Qm k (some (.int z.1)) (cW k ad z.2) (aW ad)) args s 0 0 (mp_A (aW ad))) (F0 m 0 ls []) := by
  obtain ⟨hx, hb, -, hml, hown, hts, -⟩ := id cx
  unfold fW_addPlace at h
  refine lv_aload_n hx hb dW_addPlace_0 rfl (lv_at hl 0 rfl) ?_
  refine mp_gW cx hE hP iW 0 rfl 0 (by decide) wq_56 rfl (v := .int w.1) rfl dW_addPlace_1 ?_
  refine lv_bipush (v := 12) hx hb dW_addPlace_4 (by decide) ?_
  refine lv_icmp_lt (tgt := 12) hx hb dW_addPlace_6 (by decide) (fun c1 => ?_) (fun c1 => ?_)
  · have h := mp_t c1 h
    refine lv_aload_n hx hb dW_addPlace_12 rfl (lv_at hl 0 rfl) ?_
    refine mp_gW cx hE hP iW 0 rfl 0 (by decide) wq_56 rfl (v := .int w.1) rfl dW_addPlace_13 ?_
    refine lv_istore_n (lv' := [(3, .int w.1), (0, .ref (ad 0)), (1, .int a1), (2, .int a2)]) hx hb dW_addPlace_16 rfl hl (by decide) rfl (fun ls hl => ?_)
    refine lv_aload_n hx hb dW_addPlace_17 rfl (lv_at hl 1 rfl) ?_
    refine lv_iload_n hx hb dW_addPlace_18 rfl (lv_at hl 0 rfl) ?_
    refine lv_iconst (v := 1) hx hb dW_addPlace_19 (by decide) ?_
    refine lv_iadd hx hb dW_addPlace_20 ?_
    refine va_put (D := kD k) (ci := 0) (v := .int (w.1 + 1)) (ty := .int) (C := rW) (T := tW) (N := 12) hx hb hts iW gW gW_ok nW hown hE.1 hP hD hS 0 rfl rfl 0 (by decide) (hts _ wq_56) (fun _ h9 => h9) rfl (by decide +kernel) rfl rfl (Nat.le_of_ble_eq_true rfl) dW_addPlace_21 (fun H locs hP hD hS => ?_)
    have hP : va_P (kD k) mp_cls (cW k ad ((w.1 + 1), w.2.1, w.2.2.1, w.2.2.2.1, w.2.2.2.2.1, w.2.2.2.2.2.1, w.2.2.2.2.2.2.1, w.2.2.2.2.2.2.2.1, w.2.2.2.2.2.2.2.2.1, w.2.2.2.2.2.2.2.2.2.1, w.2.2.2.2.2.2.2.2.2.2.1, w.2.2.2.2.2.2.2.2.2.2.2)) H := hP
    have hD : va_D (mp_A (aW ad)) (cW k ad ((w.1 + 1), w.2.1, w.2.2.1, w.2.2.2.1, w.2.2.2.2.1, w.2.2.2.2.2.1, w.2.2.2.2.2.2.1, w.2.2.2.2.2.2.2.1, w.2.2.2.2.2.2.2.2.1, w.2.2.2.2.2.2.2.2.2.1, w.2.2.2.2.2.2.2.2.2.2.1, w.2.2.2.2.2.2.2.2.2.2.2)) := hD
    refine lv_aload_n hx hb dW_addPlace_24 rfl (lv_at hl 1 rfl) ?_
    refine mp_gW cx hE hP iW 0 rfl 3 (by decide) wq_59 rfl (v := .ref (ad 1)) rfl dW_addPlace_25 ?_
    refine lv_iload_n hx hb dW_addPlace_28 rfl (lv_at hl 0 rfl) ?_
    refine lv_iload_n hx hb dW_addPlace_29 rfl (lv_at hl 3 rfl) ?_
    obtain ⟨hi, h⟩ := mp_sts h
    refine va_iast hx hb hE.1 hP hD hS 1 0 (f := w.2.2.2.1) (n := 12) rfl rfl hi dW_addPlace_30 (fun H locs hP hD hS => ?_)
    have hP : va_P (kD k) mp_cls (cW k ad ((w.1 + 1), w.2.1, w.2.2.1, (upd w.2.2.2.1 (Int32.toNatClampNeg w.1) a2), w.2.2.2.2.1, w.2.2.2.2.2.1, w.2.2.2.2.2.2.1, w.2.2.2.2.2.2.2.1, w.2.2.2.2.2.2.2.2.1, w.2.2.2.2.2.2.2.2.2.1, w.2.2.2.2.2.2.2.2.2.2.1, w.2.2.2.2.2.2.2.2.2.2.2)) H := hP
    have hD : va_D (mp_A (aW ad)) (cW k ad ((w.1 + 1), w.2.1, w.2.2.1, (upd w.2.2.2.1 (Int32.toNatClampNeg w.1) a2), w.2.2.2.2.1, w.2.2.2.2.2.1, w.2.2.2.2.2.2.1, w.2.2.2.2.2.2.2.1, w.2.2.2.2.2.2.2.2.1, w.2.2.2.2.2.2.2.2.2.1, w.2.2.2.2.2.2.2.2.2.2.1, w.2.2.2.2.2.2.2.2.2.2.2)) := hD
    refine lv_aload_n hx hb dW_addPlace_31 rfl (lv_at hl 1 rfl) ?_
    refine mp_gW cx hE hP iW 0 rfl 4 (by decide) wq_60 rfl (v := .ref (ad 2)) rfl dW_addPlace_32 ?_
    refine lv_iload_n hx hb dW_addPlace_35 rfl (lv_at hl 0 rfl) ?_
    refine lv_iload_n hx hb dW_addPlace_36 rfl (lv_at hl 2 rfl) ?_
    obtain ⟨hi, h⟩ := mp_sts h
    refine va_iast hx hb hE.1 hP hD hS 2 0 (f := w.2.2.2.2.1) (n := 12) rfl rfl hi dW_addPlace_37 (fun H locs hP hD hS => ?_)
    have hP : va_P (kD k) mp_cls (cW k ad ((w.1 + 1), w.2.1, w.2.2.1, (upd w.2.2.2.1 (Int32.toNatClampNeg w.1) a2), (upd w.2.2.2.2.1 (Int32.toNatClampNeg w.1) a1), w.2.2.2.2.2.1, w.2.2.2.2.2.2.1, w.2.2.2.2.2.2.2.1, w.2.2.2.2.2.2.2.2.1, w.2.2.2.2.2.2.2.2.2.1, w.2.2.2.2.2.2.2.2.2.2.1, w.2.2.2.2.2.2.2.2.2.2.2)) H := hP
    have hD : va_D (mp_A (aW ad)) (cW k ad ((w.1 + 1), w.2.1, w.2.2.1, (upd w.2.2.2.1 (Int32.toNatClampNeg w.1) a2), (upd w.2.2.2.2.1 (Int32.toNatClampNeg w.1) a1), w.2.2.2.2.2.1, w.2.2.2.2.2.2.1, w.2.2.2.2.2.2.2.1, w.2.2.2.2.2.2.2.2.1, w.2.2.2.2.2.2.2.2.2.1, w.2.2.2.2.2.2.2.2.2.2.1, w.2.2.2.2.2.2.2.2.2.2.2)) := hD
    refine lv_aload_n hx hb dW_addPlace_38 rfl (lv_at hl 1 rfl) ?_
    refine lv_aload_n hx hb dW_addPlace_39 rfl (lv_at hl 1 rfl) ?_
    refine mp_gW cx hE hP iW 0 rfl 2 (by decide) wq_58 rfl (v := .int w.2.2.1) rfl dW_addPlace_40 ?_
    refine lv_iconst (v := 1) hx hb dW_addPlace_43 (by decide) ?_
    refine lv_iload_n hx hb dW_addPlace_44 rfl (lv_at hl 0 rfl) ?_
    refine lv_ishl hx hb dW_addPlace_45 ?_
    refine lv_iconst (v := (-1)) hx hb dW_addPlace_46 (by decide) ?_
    refine lv_ixor hx hb dW_addPlace_47 ?_
    refine lv_iand hx hb dW_addPlace_48 ?_
    refine va_put (D := kD k) (ci := 0) (v := .int (w.2.2.1 &&& ((1 <<< (w.1 &&& 31)) ^^^ (-1)))) (ty := .int) (C := rW) (T := tW) (N := 12) hx hb hts iW gW gW_ok nW hown hE.1 hP hD hS 0 rfl rfl 2 (by decide) (hts _ wq_58) (fun _ h9 => h9) rfl (by decide +kernel) rfl rfl (Nat.le_of_ble_eq_true rfl) dW_addPlace_49 (fun H locs hP hD hS => ?_)
    have hP : va_P (kD k) mp_cls (cW k ad ((w.1 + 1), w.2.1, (w.2.2.1 &&& ((1 <<< (w.1 &&& 31)) ^^^ (-1))), (upd w.2.2.2.1 (Int32.toNatClampNeg w.1) a2), (upd w.2.2.2.2.1 (Int32.toNatClampNeg w.1) a1), w.2.2.2.2.2.1, w.2.2.2.2.2.2.1, w.2.2.2.2.2.2.2.1, w.2.2.2.2.2.2.2.2.1, w.2.2.2.2.2.2.2.2.2.1, w.2.2.2.2.2.2.2.2.2.2.1, w.2.2.2.2.2.2.2.2.2.2.2)) H := hP
    have hD : va_D (mp_A (aW ad)) (cW k ad ((w.1 + 1), w.2.1, (w.2.2.1 &&& ((1 <<< (w.1 &&& 31)) ^^^ (-1))), (upd w.2.2.2.1 (Int32.toNatClampNeg w.1) a2), (upd w.2.2.2.2.1 (Int32.toNatClampNeg w.1) a1), w.2.2.2.2.2.1, w.2.2.2.2.2.2.1, w.2.2.2.2.2.2.2.1, w.2.2.2.2.2.2.2.2.1, w.2.2.2.2.2.2.2.2.2.1, w.2.2.2.2.2.2.2.2.2.2.1, w.2.2.2.2.2.2.2.2.2.2.2)) := hD
    refine lv_iconst (v := 0) hx hb dW_addPlace_52 (by decide) ?_
    refine lv_istore (lv' := [(4, .int 0), (3, .int w.1), (0, .ref (ad 0)), (1, .int a1), (2, .int a2)]) hx hb dW_addPlace_53 hl (by decide) rfl (fun ls hl => ?_)
    exact lW_addPlace_55 cx k ad w.1 z hE hAN _ ((w.1 + 1), w.2.1, (w.2.2.1 &&& ((1 <<< (w.1 &&& 31)) ^^^ (-1))), (upd w.2.2.2.1 (Int32.toNatClampNeg w.1) a2), (upd w.2.2.2.2.1 (Int32.toNatClampNeg w.1) a1), w.2.2.2.2.2.1, w.2.2.2.2.2.2.1, w.2.2.2.2.2.2.2.1, w.2.2.2.2.2.2.2.2.1, w.2.2.2.2.2.2.2.2.2.1, w.2.2.2.2.2.2.2.2.2.2.1, w.2.2.2.2.2.2.2.2.2.2.2) 0 h _ _ hP hD hS ls (lv_sub hl [2, 1, 0] rfl)
  · have h := mp_f c1 h
    refine lv_bipush (v := (-4)) hx hb dW_addPlace_9 (by decide) ?_
    exact mp_rim (cf := cW k ad) cx h hP hS dW_addPlace_11
theorem cW_addPlace (l : Launch) (k : KK) (ad : Nat → Nat) (w : SW) (a1 : Int32) (a2 : Int32) (z : (Int32 × SW)) (h : fW_addPlace w a1 a2 = some z) : mp_CM l k yW_addPlace bW_addPlace 5 (some .int) rmW_addPlace [.ref (ad 0), .int a1, .int a2] (cW k ad w) (cW k ad z.2) (aW ad) (some (.int z.1)) := by
  refine Met.ofW (cc := bW_addPlace) (maxL := 5) (ret := (some .int)) (by decide) rfl ?_
  intro p e s m args below meth c s₁ B hml hv
  obtain ⟨rfl, hP, hD, hE⟩ := hv
  have hl := lv_entry ([.ref (ad 0), .int a1, .int a2]) (n := 5) (Nat.le_of_ble_eq_true rfl)
  rw [lg_entry_eq]
  generalize (lg_sl ([.ref (ad 0), .int a1, .int a2]) ++ List.replicate (5 - (lg_sl ([.ref (ad 0), .int a1, .int a2])).length) Slot.unset).toArray = ls at hl ⊢
  exact wW_addPlace (mp_C.of B hml) k ad w a1 a2 z hE (mp_new hD rfl) hP (mp_own hD rfl) va_S.rf h ls hl
-- MovingPlaces$World.nameOf
abbrev rmW_nameOf : Room := { frames := 1, cells := 0, slots := 0, locals := 21 }
def fW_nameOf (w : SW) (a1 : Int32) : Option Int32 := (fW_isPlace w a1).bind fun x1 => (if x1 = 0 then some (-9) else mp_ld w.2.2.2.1 12 a1 fun x3 => some x3)
set_option maxHeartbeats 4000000 in
set_option maxRecDepth 100000 in
theorem wW_nameOf {p : Program} {l : Launch} {e : Env} {s : State} {m : MethodId} {args : Array Value} {below : List Frame} {meth : Method} {c : Code} (cx : mp_C p s m args meth c bW_nameOf 2 (some .int) rW) (k : KK) (ad : Nat → Nat) (w : SW) (a1 : Int32) (z : Int32) (hE : mp_E k s) (hP : va_P (kD k) mp_cls (cW k ad w) s.heap) (hD : va_D (mp_N k) (cW k ad w)) (h : fW_nameOf w a1 = some z) (ls : Array Slot) (hl : lv_has ls 2 [(0, .ref (ad 0)), (1, .int a1)]) : W p l e rmW_nameOf s m args below meth c s.heap [] 0 0 (MQ below (mp_Qs (some (.int z))) args s 0 0 (fun _ => False)) (F0 m 0 ls []) := by
  obtain ⟨hx, hb, -, hml, hown, hts, -⟩ := id cx
  unfold fW_nameOf at h
  refine lv_aload_n hx hb dW_nameOf_0 rfl (lv_at hl 0 rfl) ?_
  refine lv_iload_n hx hb dW_nameOf_1 rfl (lv_at hl 1 rfl) ?_
  obtain ⟨x1, ex1, h⟩ := mp_bs h
  refine mp_si (mp_runV (As := [.int a1]) (rest := []) cx kV_W_56 (cW_isPlace l k ad w a1 x1 ex1) ⟨rfl, rfl, Nat.le_of_ble_eq_true rfl, Nat.le_of_ble_eq_true rfl⟩ ⟨Nat.zero_le _, Nat.zero_le _⟩ hE hP hD va_S.rf 0 rfl rfl rfl hl.1 rfl (Nat.le_of_ble_eq_true rfl) dW_nameOf_2) ?_
  refine lv_if_eq (tgt := 17) hx hb dW_nameOf_5 (by decide) (fun c2 => ?_) (fun c2 => ?_)
  · have h := mp_t c2 h
    refine lv_bipush (v := (-9)) hx hb dW_nameOf_17 (by decide) ?_
    exact mp_ri cx h dW_nameOf_19
  · have h := mp_f c2 h
    refine lv_aload_n hx hb dW_nameOf_8 rfl (lv_at hl 0 rfl) ?_
    refine mp_gW cx hE hP iW 0 rfl 3 (by decide) wq_59 rfl (v := .ref (ad 1)) rfl dW_nameOf_9 ?_
    refine lv_iload_n hx hb dW_nameOf_12 rfl (lv_at hl 1 rfl) ?_
    obtain ⟨hi, x3, ex3, h⟩ := mp_lds h
    refine va_iald hx hb hE.1 hP 1 0 (f := w.2.2.2.1) (n := 12) rfl rfl hi dW_nameOf_13 ?_
    refine mp_top ex3 ?_
    refine lv_goto (tgt := 19) hx hb dW_nameOf_14 (by decide) ?_
    exact mp_ri cx h dW_nameOf_19
theorem cW_nameOf (l : Launch) (k : KK) (ad : Nat → Nat) (w : SW) (a1 : Int32) (z : Int32) (h : fW_nameOf w a1 = some z) : mp_CS l k yW_nameOf bW_nameOf 2 (some .int) rmW_nameOf [.ref (ad 0), .int a1] (cW k ad w) (some (.int z)) := by
  refine Met.ofW (cc := bW_nameOf) (maxL := 2) (ret := (some .int)) (by decide) rfl ?_
  intro p e s m args below meth c s₁ B hml hv
  obtain ⟨rfl, hP, hD, hE⟩ := hv
  have hl := lv_entry ([.ref (ad 0), .int a1]) (n := 2) (Nat.le_of_ble_eq_true rfl)
  rw [lg_entry_eq]
  generalize (lg_sl ([.ref (ad 0), .int a1]) ++ List.replicate (2 - (lg_sl ([.ref (ad 0), .int a1])).length) Slot.unset).toArray = ls at hl ⊢
  exact wW_nameOf (mp_C.of B hml) k ad w a1 z hE hP hD h ls hl
-- MovingPlaces$World.placeAround
abbrev rmW_placeAround : Room := { frames := 1, cells := 0, slots := 0, locals := 21 }
def fW_placeAround (w : SW) (a1 : Int32) : Option Int32 := (fW_isPlace w a1).bind fun x1 => (if x1 = 0 then some (-9) else mp_ld w.2.2.2.2.1 12 a1 fun x3 => some x3)
set_option maxHeartbeats 4000000 in
set_option maxRecDepth 100000 in
theorem wW_placeAround {p : Program} {l : Launch} {e : Env} {s : State} {m : MethodId} {args : Array Value} {below : List Frame} {meth : Method} {c : Code} (cx : mp_C p s m args meth c bW_placeAround 2 (some .int) rW) (k : KK) (ad : Nat → Nat) (w : SW) (a1 : Int32) (z : Int32) (hE : mp_E k s) (hP : va_P (kD k) mp_cls (cW k ad w) s.heap) (hD : va_D (mp_N k) (cW k ad w)) (h : fW_placeAround w a1 = some z) (ls : Array Slot) (hl : lv_has ls 2 [(0, .ref (ad 0)), (1, .int a1)]) : W p l e rmW_placeAround s m args below meth c s.heap [] 0 0 (MQ below (mp_Qs (some (.int z))) args s 0 0 (fun _ => False)) (F0 m 0 ls []) := by
  obtain ⟨hx, hb, -, hml, hown, hts, -⟩ := id cx
  unfold fW_placeAround at h
  refine lv_aload_n hx hb dW_placeAround_0 rfl (lv_at hl 0 rfl) ?_
  refine lv_iload_n hx hb dW_placeAround_1 rfl (lv_at hl 1 rfl) ?_
  obtain ⟨x1, ex1, h⟩ := mp_bs h
  refine mp_si (mp_runV (As := [.int a1]) (rest := []) cx kV_W_56 (cW_isPlace l k ad w a1 x1 ex1) ⟨rfl, rfl, Nat.le_of_ble_eq_true rfl, Nat.le_of_ble_eq_true rfl⟩ ⟨Nat.zero_le _, Nat.zero_le _⟩ hE hP hD va_S.rf 0 rfl rfl rfl hl.1 rfl (Nat.le_of_ble_eq_true rfl) dW_placeAround_2) ?_
  refine lv_if_eq (tgt := 17) hx hb dW_placeAround_5 (by decide) (fun c2 => ?_) (fun c2 => ?_)
  · have h := mp_t c2 h
    refine lv_bipush (v := (-9)) hx hb dW_placeAround_17 (by decide) ?_
    exact mp_ri cx h dW_placeAround_19
  · have h := mp_f c2 h
    refine lv_aload_n hx hb dW_placeAround_8 rfl (lv_at hl 0 rfl) ?_
    refine mp_gW cx hE hP iW 0 rfl 4 (by decide) wq_60 rfl (v := .ref (ad 2)) rfl dW_placeAround_9 ?_
    refine lv_iload_n hx hb dW_placeAround_12 rfl (lv_at hl 1 rfl) ?_
    obtain ⟨hi, x3, ex3, h⟩ := mp_lds h
    refine va_iald hx hb hE.1 hP 2 0 (f := w.2.2.2.2.1) (n := 12) rfl rfl hi dW_placeAround_13 ?_
    refine mp_top ex3 ?_
    refine lv_goto (tgt := 19) hx hb dW_placeAround_14 (by decide) ?_
    exact mp_ri cx h dW_placeAround_19
theorem cW_placeAround (l : Launch) (k : KK) (ad : Nat → Nat) (w : SW) (a1 : Int32) (z : Int32) (h : fW_placeAround w a1 = some z) : mp_CS l k yW_placeAround bW_placeAround 2 (some .int) rmW_placeAround [.ref (ad 0), .int a1] (cW k ad w) (some (.int z)) := by
  refine Met.ofW (cc := bW_placeAround) (maxL := 2) (ret := (some .int)) (by decide) rfl ?_
  intro p e s m args below meth c s₁ B hml hv
  obtain ⟨rfl, hP, hD, hE⟩ := hv
  have hl := lv_entry ([.ref (ad 0), .int a1]) (n := 2) (Nat.le_of_ble_eq_true rfl)
  rw [lg_entry_eq]
  generalize (lg_sl ([.ref (ad 0), .int a1]) ++ List.replicate (2 - (lg_sl ([.ref (ad 0), .int a1])).length) Slot.unset).toArray = ls at hl ⊢
  exact wW_placeAround (mp_C.of B hml) k ad w a1 z hE hP hD h ls hl
-- MovingPlaces$World.isSealed
abbrev rmW_isSealed : Room := { frames := 1, cells := 0, slots := 0, locals := 21 }
def fW_isSealed (w : SW) (a1 : Int32) : Option Int32 := (fW_isPlace w a1).bind fun x1 => (if x1 = 0 then some 0 else (if ((w.2.2.1 >>> (a1 &&& 31)) &&& 1) = 1 then some 1 else some 0))
set_option maxHeartbeats 4000000 in
set_option maxRecDepth 100000 in
theorem wW_isSealed {p : Program} {l : Launch} {e : Env} {s : State} {m : MethodId} {args : Array Value} {below : List Frame} {meth : Method} {c : Code} (cx : mp_C p s m args meth c bW_isSealed 2 (some .boolean) rW) (k : KK) (ad : Nat → Nat) (w : SW) (a1 : Int32) (z : Int32) (hE : mp_E k s) (hP : va_P (kD k) mp_cls (cW k ad w) s.heap) (hD : va_D (mp_N k) (cW k ad w)) (h : fW_isSealed w a1 = some z) (ls : Array Slot) (hl : lv_has ls 2 [(0, .ref (ad 0)), (1, .int a1)]) : W p l e rmW_isSealed s m args below meth c s.heap [] 0 0 (MQ below (mp_Qs (some (.int z))) args s 0 0 (fun _ => False)) (F0 m 0 ls []) := by
  obtain ⟨hx, hb, -, hml, hown, hts, -⟩ := id cx
  unfold fW_isSealed at h
  refine lv_aload_n hx hb dW_isSealed_0 rfl (lv_at hl 0 rfl) ?_
  refine lv_iload_n hx hb dW_isSealed_1 rfl (lv_at hl 1 rfl) ?_
  obtain ⟨x1, ex1, h⟩ := mp_bs h
  refine mp_si (mp_runV (As := [.int a1]) (rest := []) cx kV_W_56 (cW_isPlace l k ad w a1 x1 ex1) ⟨rfl, rfl, Nat.le_of_ble_eq_true rfl, Nat.le_of_ble_eq_true rfl⟩ ⟨Nat.zero_le _, Nat.zero_le _⟩ hE hP hD va_S.rf 0 rfl rfl rfl hl.1 rfl (Nat.le_of_ble_eq_true rfl) dW_isSealed_2) ?_
  refine lv_if_eq (tgt := 24) hx hb dW_isSealed_5 (by decide) (fun c2 => ?_) (fun c2 => ?_)
  · have h := mp_t c2 h
    refine lv_iconst (v := 0) hx hb dW_isSealed_24 (by decide) ?_
    exact mp_rz cx rfl h dW_isSealed_25
  · have h := mp_f c2 h
    refine lv_aload_n hx hb dW_isSealed_8 rfl (lv_at hl 0 rfl) ?_
    refine mp_gW cx hE hP iW 0 rfl 2 (by decide) wq_58 rfl (v := .int w.2.2.1) rfl dW_isSealed_9 ?_
    refine lv_iload_n hx hb dW_isSealed_12 rfl (lv_at hl 1 rfl) ?_
    refine lv_ishr hx hb dW_isSealed_13 ?_
    refine lv_iconst (v := 1) hx hb dW_isSealed_14 (by decide) ?_
    refine lv_iand hx hb dW_isSealed_15 ?_
    refine lv_iconst (v := 1) hx hb dW_isSealed_16 (by decide) ?_
    refine lv_icmp_ne (tgt := 24) hx hb dW_isSealed_17 (by decide) (fun c3 => ?_) (fun c3 => ?_)
    · have h := mp_f c3 h
      refine lv_iconst (v := 0) hx hb dW_isSealed_24 (by decide) ?_
      exact mp_rz cx rfl h dW_isSealed_25
    · have h := mp_t c3 h
      refine lv_iconst (v := 1) hx hb dW_isSealed_20 (by decide) ?_
      refine lv_goto (tgt := 25) hx hb dW_isSealed_21 (by decide) ?_
      exact mp_rz cx rfl h dW_isSealed_25
theorem cW_isSealed (l : Launch) (k : KK) (ad : Nat → Nat) (w : SW) (a1 : Int32) (z : Int32) (h : fW_isSealed w a1 = some z) : mp_CS l k yW_isSealed bW_isSealed 2 (some .boolean) rmW_isSealed [.ref (ad 0), .int a1] (cW k ad w) (some (.int z)) := by
  refine Met.ofW (cc := bW_isSealed) (maxL := 2) (ret := (some .boolean)) (by decide) rfl ?_
  intro p e s m args below meth c s₁ B hml hv
  obtain ⟨rfl, hP, hD, hE⟩ := hv
  have hl := lv_entry ([.ref (ad 0), .int a1]) (n := 2) (Nat.le_of_ble_eq_true rfl)
  rw [lg_entry_eq]
  generalize (lg_sl ([.ref (ad 0), .int a1]) ++ List.replicate (2 - (lg_sl ([.ref (ad 0), .int a1])).length) Slot.unset).toArray = ls at hl ⊢
  exact wW_isSealed (mp_C.of B hml) k ad w a1 z hE hP hD h ls hl
-- MovingPlaces$World.turnSeal
abbrev rmW_turnSeal : Room := { frames := 1, cells := 0, slots := 0, locals := 21 }
def fW_turnSeal (w : SW) (a1 : Int32) : Option SW := (fW_isPlace w a1).bind fun x1 => (if x1 = 0 then some w else some (w.1, w.2.1, (w.2.2.1 ^^^ (1 <<< (a1 &&& 31))), w.2.2.2.1, w.2.2.2.2.1, w.2.2.2.2.2.1, w.2.2.2.2.2.2.1, w.2.2.2.2.2.2.2.1, w.2.2.2.2.2.2.2.2.1, w.2.2.2.2.2.2.2.2.2.1, w.2.2.2.2.2.2.2.2.2.2.1, w.2.2.2.2.2.2.2.2.2.2.2))
set_option maxHeartbeats 4000000 in
set_option maxRecDepth 100000 in
theorem wW_turnSeal {p : Program} {l : Launch} {e : Env} {s : State} {m : MethodId} {args : Array Value} {below : List Frame} {meth : Method} {c : Code} (cx : mp_C p s m args meth c bW_turnSeal 2 none rW) (k : KK) (ad : Nat → Nat) (w : SW) (a1 : Int32) (z : SW) (hE : mp_E k s) (hAN : ∀ q, mp_A (aW ad) q → mp_N k q) {H : Heap} {locs : List Loc} (hP : va_P (kD k) mp_cls (cW k ad w) H) (hD : va_D (mp_A (aW ad)) (cW k ad w)) (hS : va_S (mp_A (aW ad)) s.heap H locs) (h : fW_turnSeal w a1 = some z) (ls : Array Slot) (hl : lv_has ls 2 [(0, .ref (ad 0)), (1, .int a1)]) : W p l e rmW_turnSeal s m args below meth c H locs 0 0 (MQ below (mp_Qm k none (cW k ad z) (aW ad)) args s 0 0 (mp_A (aW ad))) (F0 m 0 ls []) := by
  obtain ⟨hx, hb, -, hml, hown, hts, -⟩ := id cx
  unfold fW_turnSeal at h
  refine lv_aload_n hx hb dW_turnSeal_0 rfl (lv_at hl 0 rfl) ?_
  refine lv_iload_n hx hb dW_turnSeal_1 rfl (lv_at hl 1 rfl) ?_
  obtain ⟨x1, ex1, h⟩ := mp_bs h
  refine mp_si (mp_runV (As := [.int a1]) (rest := []) cx kV_W_56 (cW_isPlace l k ad w a1 x1 ex1) ⟨rfl, rfl, Nat.le_of_ble_eq_true rfl, Nat.le_of_ble_eq_true rfl⟩ ⟨Nat.zero_le _, Nat.zero_le _⟩ hE hP (mp_Dw hD hAN) (mp_S hS hAN) 0 rfl rfl rfl hl.1 rfl (Nat.le_of_ble_eq_true rfl) dW_turnSeal_2) ?_
  refine lv_if_eq (tgt := 20) hx hb dW_turnSeal_5 (by decide) (fun c2 => ?_) (fun c2 => ?_)
  · have h := mp_t c2 h
    exact mp_rvm (cf := cW k ad) cx h hP hS dW_turnSeal_20
  · have h := mp_f c2 h
    refine lv_aload_n hx hb dW_turnSeal_8 rfl (lv_at hl 0 rfl) ?_
    refine lv_aload_n hx hb dW_turnSeal_9 rfl (lv_at hl 0 rfl) ?_
    refine mp_gW cx hE hP iW 0 rfl 2 (by decide) wq_58 rfl (v := .int w.2.2.1) rfl dW_turnSeal_10 ?_
    refine lv_iconst (v := 1) hx hb dW_turnSeal_13 (by decide) ?_
    refine lv_iload_n hx hb dW_turnSeal_14 rfl (lv_at hl 1 rfl) ?_
    refine lv_ishl hx hb dW_turnSeal_15 ?_
    refine lv_ixor hx hb dW_turnSeal_16 ?_
    refine va_put (D := kD k) (ci := 0) (v := .int (w.2.2.1 ^^^ (1 <<< (a1 &&& 31)))) (ty := .int) (C := rW) (T := tW) (N := 12) hx hb hts iW gW gW_ok nW hown hE.1 hP hD hS 0 rfl rfl 2 (by decide) (hts _ wq_58) (fun _ h9 => h9) rfl (by decide +kernel) rfl rfl (Nat.le_of_ble_eq_true rfl) dW_turnSeal_17 (fun H locs hP hD hS => ?_)
    have hP : va_P (kD k) mp_cls (cW k ad (w.1, w.2.1, (w.2.2.1 ^^^ (1 <<< (a1 &&& 31))), w.2.2.2.1, w.2.2.2.2.1, w.2.2.2.2.2.1, w.2.2.2.2.2.2.1, w.2.2.2.2.2.2.2.1, w.2.2.2.2.2.2.2.2.1, w.2.2.2.2.2.2.2.2.2.1, w.2.2.2.2.2.2.2.2.2.2.1, w.2.2.2.2.2.2.2.2.2.2.2)) H := hP
    have hD : va_D (mp_A (aW ad)) (cW k ad (w.1, w.2.1, (w.2.2.1 ^^^ (1 <<< (a1 &&& 31))), w.2.2.2.1, w.2.2.2.2.1, w.2.2.2.2.2.1, w.2.2.2.2.2.2.1, w.2.2.2.2.2.2.2.1, w.2.2.2.2.2.2.2.2.1, w.2.2.2.2.2.2.2.2.2.1, w.2.2.2.2.2.2.2.2.2.2.1, w.2.2.2.2.2.2.2.2.2.2.2)) := hD
    exact mp_rvm (cf := cW k ad) cx h hP hS dW_turnSeal_20
theorem cW_turnSeal (l : Launch) (k : KK) (ad : Nat → Nat) (w : SW) (a1 : Int32) (z : SW) (h : fW_turnSeal w a1 = some z) : mp_CM l k yW_turnSeal bW_turnSeal 2 none rmW_turnSeal [.ref (ad 0), .int a1] (cW k ad w) (cW k ad z) (aW ad) (none) := by
  refine Met.ofW (cc := bW_turnSeal) (maxL := 2) (ret := none) (by decide) rfl ?_
  intro p e s m args below meth c s₁ B hml hv
  obtain ⟨rfl, hP, hD, hE⟩ := hv
  have hl := lv_entry ([.ref (ad 0), .int a1]) (n := 2) (Nat.le_of_ble_eq_true rfl)
  rw [lg_entry_eq]
  generalize (lg_sl ([.ref (ad 0), .int a1]) ++ List.replicate (2 - (lg_sl ([.ref (ad 0), .int a1])).length) Slot.unset).toArray = ls at hl ⊢
  exact wW_turnSeal (mp_C.of B hml) k ad w a1 z hE (mp_new hD rfl) hP (mp_own hD rfl) va_S.rf h ls hl
-- MovingPlaces$World.messagesOf
abbrev rmW_messagesOf : Room := { frames := 1, cells := 0, slots := 0, locals := 21 }
def fW_messagesOf (w : SW) (a1 : Int32) (a2 : Int32) : Option Int32 := (fW_isPlace w a1).bind fun x1 => (if x1 = 0 then some 0 else (fM_isName a2).bind fun x3 => (if x3 = 0 then some 0 else mp_ld w.2.2.2.2.2.1 72 ((a1 * 6) + a2) fun x5 => some x5))
set_option maxHeartbeats 4000000 in
set_option maxRecDepth 100000 in
theorem wW_messagesOf {p : Program} {l : Launch} {e : Env} {s : State} {m : MethodId} {args : Array Value} {below : List Frame} {meth : Method} {c : Code} (cx : mp_C p s m args meth c bW_messagesOf 3 (some .int) rW) (k : KK) (ad : Nat → Nat) (w : SW) (a1 : Int32) (a2 : Int32) (z : Int32) (hE : mp_E k s) (hP : va_P (kD k) mp_cls (cW k ad w) s.heap) (hD : va_D (mp_N k) (cW k ad w)) (h : fW_messagesOf w a1 a2 = some z) (ls : Array Slot) (hl : lv_has ls 3 [(0, .ref (ad 0)), (1, .int a1), (2, .int a2)]) : W p l e rmW_messagesOf s m args below meth c s.heap [] 0 0 (MQ below (mp_Qs (some (.int z))) args s 0 0 (fun _ => False)) (F0 m 0 ls []) := by
  obtain ⟨hx, hb, -, hml, hown, hts, -⟩ := id cx
  unfold fW_messagesOf at h
  refine lv_aload_n hx hb dW_messagesOf_0 rfl (lv_at hl 0 rfl) ?_
  refine lv_iload_n hx hb dW_messagesOf_1 rfl (lv_at hl 1 rfl) ?_
  obtain ⟨x1, ex1, h⟩ := mp_bs h
  refine mp_si (mp_runV (As := [.int a1]) (rest := []) cx kV_W_56 (cW_isPlace l k ad w a1 x1 ex1) ⟨rfl, rfl, Nat.le_of_ble_eq_true rfl, Nat.le_of_ble_eq_true rfl⟩ ⟨Nat.zero_le _, Nat.zero_le _⟩ hE hP hD va_S.rf 0 rfl rfl rfl hl.1 rfl (Nat.le_of_ble_eq_true rfl) dW_messagesOf_2) ?_
  refine lv_if_eq (tgt := 29) hx hb dW_messagesOf_5 (by decide) (fun c2 => ?_) (fun c2 => ?_)
  · have h := mp_t c2 h
    refine lv_iconst (v := 0) hx hb dW_messagesOf_29 (by decide) ?_
    exact mp_ri cx h dW_messagesOf_30
  · have h := mp_f c2 h
    refine lv_iload_n hx hb dW_messagesOf_8 rfl (lv_at hl 2 rfl) ?_
    obtain ⟨x3, ex3, h⟩ := mp_bs h
    refine mp_si (mp_runN (As := [.int a2]) (rest := []) cx hE.2.1 kN_M_isName (cM_isName l k a2 x3 ex3) ⟨rfl, rfl, Nat.le_of_ble_eq_true rfl, Nat.le_of_ble_eq_true rfl⟩ ⟨Nat.zero_le _, Nat.zero_le _⟩ hE mp_P0 mp_D0 va_S.rf hl.1 rfl (Nat.le_of_ble_eq_true rfl) dW_messagesOf_9) ?_
    refine lv_if_eq (tgt := 29) hx hb dW_messagesOf_12 (by decide) (fun c4 => ?_) (fun c4 => ?_)
    · have h := mp_t c4 h
      refine lv_iconst (v := 0) hx hb dW_messagesOf_29 (by decide) ?_
      exact mp_ri cx h dW_messagesOf_30
    · have h := mp_f c4 h
      refine lv_aload_n hx hb dW_messagesOf_15 rfl (lv_at hl 0 rfl) ?_
      refine mp_gW cx hE hP iW 0 rfl 5 (by decide) wq_61 rfl (v := .ref (ad 3)) rfl dW_messagesOf_16 ?_
      refine lv_iload_n hx hb dW_messagesOf_19 rfl (lv_at hl 1 rfl) ?_
      refine lv_bipush (v := 6) hx hb dW_messagesOf_20 (by decide) ?_
      refine lv_imul hx hb dW_messagesOf_22 ?_
      refine lv_iload_n hx hb dW_messagesOf_23 rfl (lv_at hl 2 rfl) ?_
      refine lv_iadd hx hb dW_messagesOf_24 ?_
      obtain ⟨hi, x5, ex5, h⟩ := mp_lds h
      refine va_iald hx hb hE.1 hP 3 0 (f := w.2.2.2.2.2.1) (n := 72) rfl rfl hi dW_messagesOf_25 ?_
      refine mp_top ex5 ?_
      refine lv_goto (tgt := 30) hx hb dW_messagesOf_26 (by decide) ?_
      exact mp_ri cx h dW_messagesOf_30
theorem cW_messagesOf (l : Launch) (k : KK) (ad : Nat → Nat) (w : SW) (a1 : Int32) (a2 : Int32) (z : Int32) (h : fW_messagesOf w a1 a2 = some z) : mp_CS l k yW_messagesOf bW_messagesOf 3 (some .int) rmW_messagesOf [.ref (ad 0), .int a1, .int a2] (cW k ad w) (some (.int z)) := by
  refine Met.ofW (cc := bW_messagesOf) (maxL := 3) (ret := (some .int)) (by decide) rfl ?_
  intro p e s m args below meth c s₁ B hml hv
  obtain ⟨rfl, hP, hD, hE⟩ := hv
  have hl := lv_entry ([.ref (ad 0), .int a1, .int a2]) (n := 3) (Nat.le_of_ble_eq_true rfl)
  rw [lg_entry_eq]
  generalize (lg_sl ([.ref (ad 0), .int a1, .int a2]) ++ List.replicate (3 - (lg_sl ([.ref (ad 0), .int a1, .int a2])).length) Slot.unset).toArray = ls at hl ⊢
  exact wW_messagesOf (mp_C.of B hml) k ad w a1 a2 z hE hP hD h ls hl
-- MovingPlaces$World.addMessages
abbrev rmW_addMessages : Room := { frames := 1, cells := 0, slots := 0, locals := 21 }
def fW_addMessages (w : SW) (a1 : Int32) (a2 : Int32) (a3 : Int32) : Option SW := (fW_isPlace w a1).bind fun x1 => (if x1 = 0 then some w else (fM_isName a2).bind fun x3 => (if x3 = 0 then some w else mp_ld w.2.2.2.2.2.1 72 ((a1 * 6) + a2) fun x5 => mp_st 72 ((a1 * 6) + a2) (some (w.1, w.2.1, w.2.2.1, w.2.2.2.1, w.2.2.2.2.1, (upd w.2.2.2.2.2.1 (Int32.toNatClampNeg ((a1 * 6) + a2)) (x5 + a3)), w.2.2.2.2.2.2.1, w.2.2.2.2.2.2.2.1, w.2.2.2.2.2.2.2.2.1, w.2.2.2.2.2.2.2.2.2.1, w.2.2.2.2.2.2.2.2.2.2.1, w.2.2.2.2.2.2.2.2.2.2.2))))
set_option maxHeartbeats 4000000 in
set_option maxRecDepth 100000 in
theorem wW_addMessages {p : Program} {l : Launch} {e : Env} {s : State} {m : MethodId} {args : Array Value} {below : List Frame} {meth : Method} {c : Code} (cx : mp_C p s m args meth c bW_addMessages 4 none rW) (k : KK) (ad : Nat → Nat) (w : SW) (a1 : Int32) (a2 : Int32) (a3 : Int32) (z : SW) (hE : mp_E k s) (hAN : ∀ q, mp_A (aW ad) q → mp_N k q) {H : Heap} {locs : List Loc} (hP : va_P (kD k) mp_cls (cW k ad w) H) (hD : va_D (mp_A (aW ad)) (cW k ad w)) (hS : va_S (mp_A (aW ad)) s.heap H locs) (h : fW_addMessages w a1 a2 a3 = some z) (ls : Array Slot) (hl : lv_has ls 4 [(0, .ref (ad 0)), (1, .int a1), (2, .int a2), (3, .int a3)]) : W p l e rmW_addMessages s m args below meth c H locs 0 0 (MQ below (mp_Qm k none (cW k ad z) (aW ad)) args s 0 0 (mp_A (aW ad))) (F0 m 0 ls []) := by
  obtain ⟨hx, hb, -, hml, hown, hts, -⟩ := id cx
  unfold fW_addMessages at h
  refine lv_aload_n hx hb dW_addMessages_0 rfl (lv_at hl 0 rfl) ?_
  refine lv_iload_n hx hb dW_addMessages_1 rfl (lv_at hl 1 rfl) ?_
  obtain ⟨x1, ex1, h⟩ := mp_bs h
  refine mp_si (mp_runV (As := [.int a1]) (rest := []) cx kV_W_56 (cW_isPlace l k ad w a1 x1 ex1) ⟨rfl, rfl, Nat.le_of_ble_eq_true rfl, Nat.le_of_ble_eq_true rfl⟩ ⟨Nat.zero_le _, Nat.zero_le _⟩ hE hP (mp_Dw hD hAN) (mp_S hS hAN) 0 rfl rfl rfl hl.1 rfl (Nat.le_of_ble_eq_true rfl) dW_addMessages_2) ?_
  refine lv_if_eq (tgt := 30) hx hb dW_addMessages_5 (by decide) (fun c2 => ?_) (fun c2 => ?_)
  · have h := mp_t c2 h
    exact mp_rvm (cf := cW k ad) cx h hP hS dW_addMessages_30
  · have h := mp_f c2 h
    refine lv_iload_n hx hb dW_addMessages_8 rfl (lv_at hl 2 rfl) ?_
    obtain ⟨x3, ex3, h⟩ := mp_bs h
    refine mp_si (mp_runN (As := [.int a2]) (rest := []) cx hE.2.1 kN_M_isName (cM_isName l k a2 x3 ex3) ⟨rfl, rfl, Nat.le_of_ble_eq_true rfl, Nat.le_of_ble_eq_true rfl⟩ ⟨Nat.zero_le _, Nat.zero_le _⟩ hE mp_P0 mp_D0 (mp_S hS hAN) hl.1 rfl (Nat.le_of_ble_eq_true rfl) dW_addMessages_9) ?_
    refine lv_if_eq (tgt := 30) hx hb dW_addMessages_12 (by decide) (fun c4 => ?_) (fun c4 => ?_)
    · have h := mp_t c4 h
      exact mp_rvm (cf := cW k ad) cx h hP hS dW_addMessages_30
    · have h := mp_f c4 h
      refine lv_aload_n hx hb dW_addMessages_15 rfl (lv_at hl 0 rfl) ?_
      refine mp_gW cx hE hP iW 0 rfl 5 (by decide) wq_61 rfl (v := .ref (ad 3)) rfl dW_addMessages_16 ?_
      refine lv_iload_n hx hb dW_addMessages_19 rfl (lv_at hl 1 rfl) ?_
      refine lv_bipush (v := 6) hx hb dW_addMessages_20 (by decide) ?_
      refine lv_imul hx hb dW_addMessages_22 ?_
      refine lv_iload_n hx hb dW_addMessages_23 rfl (lv_at hl 2 rfl) ?_
      refine lv_iadd hx hb dW_addMessages_24 ?_
      refine lv_dup2_11 hx hb dW_addMessages_25 rfl rfl ?_
      obtain ⟨hi, x5, ex5, h⟩ := mp_lds h
      refine va_iald hx hb hE.1 hP 3 0 (f := w.2.2.2.2.2.1) (n := 72) rfl rfl hi dW_addMessages_26 ?_
      refine mp_top ex5 ?_
      refine lv_iload_n hx hb dW_addMessages_27 rfl (lv_at hl 3 rfl) ?_
      refine lv_iadd hx hb dW_addMessages_28 ?_
      obtain ⟨hi, h⟩ := mp_sts h
      refine va_iast hx hb hE.1 hP hD hS 3 0 (f := w.2.2.2.2.2.1) (n := 72) rfl rfl hi dW_addMessages_29 (fun H locs hP hD hS => ?_)
      have hP : va_P (kD k) mp_cls (cW k ad (w.1, w.2.1, w.2.2.1, w.2.2.2.1, w.2.2.2.2.1, (upd w.2.2.2.2.2.1 (Int32.toNatClampNeg ((a1 * 6) + a2)) (x5 + a3)), w.2.2.2.2.2.2.1, w.2.2.2.2.2.2.2.1, w.2.2.2.2.2.2.2.2.1, w.2.2.2.2.2.2.2.2.2.1, w.2.2.2.2.2.2.2.2.2.2.1, w.2.2.2.2.2.2.2.2.2.2.2)) H := hP
      have hD : va_D (mp_A (aW ad)) (cW k ad (w.1, w.2.1, w.2.2.1, w.2.2.2.1, w.2.2.2.2.1, (upd w.2.2.2.2.2.1 (Int32.toNatClampNeg ((a1 * 6) + a2)) (x5 + a3)), w.2.2.2.2.2.2.1, w.2.2.2.2.2.2.2.1, w.2.2.2.2.2.2.2.2.1, w.2.2.2.2.2.2.2.2.2.1, w.2.2.2.2.2.2.2.2.2.2.1, w.2.2.2.2.2.2.2.2.2.2.2)) := hD
      exact mp_rvm (cf := cW k ad) cx h hP hS dW_addMessages_30
theorem cW_addMessages (l : Launch) (k : KK) (ad : Nat → Nat) (w : SW) (a1 : Int32) (a2 : Int32) (a3 : Int32) (z : SW) (h : fW_addMessages w a1 a2 a3 = some z) : mp_CM l k yW_addMessages bW_addMessages 4 none rmW_addMessages [.ref (ad 0), .int a1, .int a2, .int a3] (cW k ad w) (cW k ad z) (aW ad) (none) := by
  refine Met.ofW (cc := bW_addMessages) (maxL := 4) (ret := none) (by decide) rfl ?_
  intro p e s m args below meth c s₁ B hml hv
  obtain ⟨rfl, hP, hD, hE⟩ := hv
  have hl := lv_entry ([.ref (ad 0), .int a1, .int a2, .int a3]) (n := 4) (Nat.le_of_ble_eq_true rfl)
  rw [lg_entry_eq]
  generalize (lg_sl ([.ref (ad 0), .int a1, .int a2, .int a3]) ++ List.replicate (4 - (lg_sl ([.ref (ad 0), .int a1, .int a2, .int a3])).length) Slot.unset).toArray = ls at hl ⊢
  exact wW_addMessages (mp_C.of B hml) k ad w a1 a2 a3 z hE (mp_new hD rfl) hP (mp_own hD rfl) va_S.rf h ls hl
-- MovingPlaces$World.placesIn
abbrev rmW_placesIn : Room := { frames := 0, cells := 0, slots := 0, locals := 0 }
def fW_placesIn_4 (w : SW) (a1 : Int32) : Nat → Int32 → Int32 → Option Int32
  | 0, _, _ => none
  | n + 1, a2, a3 => (if w.1 ≤ a3 then some a2 else mp_ld w.2.2.2.2.1 12 a3 fun x2 => (if x2 = a1 then mp_lt (a2 ||| (1 <<< (a3 &&& 31))) fun x4 => fW_placesIn_4 w a1 n x4 (a3 + 1) else fW_placesIn_4 w a1 n a2 (a3 + 1)))
theorem fW_placesIn_4_s (w : SW) (a1 : Int32) (n : Nat) (a2 : Int32) (a3 : Int32) : fW_placesIn_4 w a1 (n + 1) a2 a3 = (if w.1 ≤ a3 then some a2 else mp_ld w.2.2.2.2.1 12 a3 fun x2 => (if x2 = a1 then mp_lt (a2 ||| (1 <<< (a3 &&& 31))) fun x4 => fW_placesIn_4 w a1 n x4 (a3 + 1) else fW_placesIn_4 w a1 n a2 (a3 + 1))) := rfl
set_option maxHeartbeats 4000000 in
set_option maxRecDepth 100000 in
theorem lW_placesIn_4 {p : Program} {l : Launch} {e : Env} {s : State} {m : MethodId} {args : Array Value} {below : List Frame} {meth : Method} {c : Code} (cx : mp_C p s m args meth c bW_placesIn 4 (some .int) rW) (k : KK) (ad : Nat → Nat) (w : SW) (a1 : Int32) (z : Int32) (hE : mp_E k s) (hP : va_P (kD k) mp_cls (cW k ad w) s.heap) (hD : va_D (mp_N k) (cW k ad w)) : ∀ (n : Nat) (a2 : Int32) (a3 : Int32), fW_placesIn_4 w a1 n a2 a3 = some z → ∀ (ls : Array Slot), lv_has ls 4 [(0, .ref (ad 0)), (1, .int a1), (2, .int a2), (3, .int a3)] → W p l e rmW_placesIn s m args below meth c s.heap [] 0 0 (MQ below (mp_Qs (some (.int z))) args s 0 0 (fun _ => False)) (F0 m 4 ls []) := by
  obtain ⟨hx, hb, -, hml, hown, hts, -⟩ := id cx
  intro n
  induction n with
  | zero =>
    intro a2 a3 h
    have h : (none : Option Int32) = some z := h
    cases h
  | succ n ih =>
    intro a2 a3 h ls hl
    rw [fW_placesIn_4_s] at h
    refine lv_iload_n hx hb dW_placesIn_4 rfl (lv_at hl 3 rfl) ?_
    refine lv_aload_n hx hb dW_placesIn_5 rfl (lv_at hl 0 rfl) ?_
    refine mp_gW cx hE hP iW 0 rfl 0 (by decide) wq_56 rfl (v := .int w.1) rfl dW_placesIn_6 ?_
    refine lv_icmp_ge (tgt := 34) hx hb dW_placesIn_9 (by decide) (fun c1 => ?_) (fun c1 => ?_)
    · have h := mp_t c1 h
      refine lv_iload_n hx hb dW_placesIn_34 rfl (lv_at hl 2 rfl) ?_
      exact mp_ri cx h dW_placesIn_35
    · have h := mp_f c1 h
      refine lv_aload_n hx hb dW_placesIn_12 rfl (lv_at hl 0 rfl) ?_
      refine mp_gW cx hE hP iW 0 rfl 4 (by decide) wq_60 rfl (v := .ref (ad 2)) rfl dW_placesIn_13 ?_
      refine lv_iload_n hx hb dW_placesIn_16 rfl (lv_at hl 3 rfl) ?_
      obtain ⟨hi, x2, ex2, h⟩ := mp_lds h
      refine va_iald hx hb hE.1 hP 2 0 (f := w.2.2.2.2.1) (n := 12) rfl rfl hi dW_placesIn_17 ?_
      refine mp_top ex2 ?_
      refine lv_iload_n hx hb dW_placesIn_18 rfl (lv_at hl 1 rfl) ?_
      refine lv_icmp_ne (tgt := 28) hx hb dW_placesIn_19 (by decide) (fun c3 => ?_) (fun c3 => ?_)
      · have h := mp_f c3 h
        refine lv_iinc (v := (a3 + 1)) (lv' := [(3, .int (a3 + 1)), (0, .ref (ad 0)), (1, .int a1), (2, .int a2)]) hx hb dW_placesIn_28 hl (k := 3) rfl rfl (by decide) rfl (fun ls hl => ?_)
        refine lv_goto (tgt := 4) hx hb dW_placesIn_31 (by decide) ?_
        exact ih a2 (a3 + 1) h ls (lv_sub hl [1, 2, 3, 0] rfl)
      · have h := mp_t c3 h
        refine lv_iload_n hx hb dW_placesIn_22 rfl (lv_at hl 2 rfl) ?_
        refine lv_iconst (v := 1) hx hb dW_placesIn_23 (by decide) ?_
        refine lv_iload_n hx hb dW_placesIn_24 rfl (lv_at hl 3 rfl) ?_
        refine lv_ishl hx hb dW_placesIn_25 ?_
        refine lv_ior hx hb dW_placesIn_26 ?_
        obtain ⟨x4, ex4, h⟩ := mp_lts h
        refine mp_top ex4 ?_
        refine lv_istore_n (lv' := [(2, .int x4), (0, .ref (ad 0)), (1, .int a1), (3, .int a3)]) hx hb dW_placesIn_27 rfl hl (by decide) rfl (fun ls hl => ?_)
        refine lv_iinc (v := (a3 + 1)) (lv' := [(3, .int (a3 + 1)), (2, .int x4), (0, .ref (ad 0)), (1, .int a1)]) hx hb dW_placesIn_28 hl (k := 3) rfl rfl (by decide) rfl (fun ls hl => ?_)
        refine lv_goto (tgt := 4) hx hb dW_placesIn_31 (by decide) ?_
        exact ih x4 (a3 + 1) h ls (lv_sub hl [2, 3, 1, 0] rfl)
def fW_placesIn (w : SW) (a1 : Int32) : Option Int32 := fW_placesIn_4 w a1 2000 0 0
set_option maxHeartbeats 4000000 in
set_option maxRecDepth 100000 in
theorem wW_placesIn {p : Program} {l : Launch} {e : Env} {s : State} {m : MethodId} {args : Array Value} {below : List Frame} {meth : Method} {c : Code} (cx : mp_C p s m args meth c bW_placesIn 4 (some .int) rW) (k : KK) (ad : Nat → Nat) (w : SW) (a1 : Int32) (z : Int32) (hE : mp_E k s) (hP : va_P (kD k) mp_cls (cW k ad w) s.heap) (hD : va_D (mp_N k) (cW k ad w)) (h : fW_placesIn w a1 = some z) (ls : Array Slot) (hl : lv_has ls 4 [(0, .ref (ad 0)), (1, .int a1)]) : W p l e rmW_placesIn s m args below meth c s.heap [] 0 0 (MQ below (mp_Qs (some (.int z))) args s 0 0 (fun _ => False)) (F0 m 0 ls []) := by
  obtain ⟨hx, hb, -, hml, hown, hts, -⟩ := id cx
  unfold fW_placesIn at h
  refine lv_iconst (v := 0) hx hb dW_placesIn_0 (by decide) ?_
  refine lv_istore_n (lv' := [(2, .int 0), (0, .ref (ad 0)), (1, .int a1)]) hx hb dW_placesIn_1 rfl hl (by decide) rfl (fun ls hl => ?_)
  refine lv_iconst (v := 0) hx hb dW_placesIn_2 (by decide) ?_
  refine lv_istore_n (lv' := [(3, .int 0), (2, .int 0), (0, .ref (ad 0)), (1, .int a1)]) hx hb dW_placesIn_3 rfl hl (by decide) rfl (fun ls hl => ?_)
  exact lW_placesIn_4 cx k ad w a1 z hE hP hD _ 0 0 h ls (lv_sub hl [2, 3, 1, 0] rfl)
theorem cW_placesIn (l : Launch) (k : KK) (ad : Nat → Nat) (w : SW) (a1 : Int32) (z : Int32) (h : fW_placesIn w a1 = some z) : mp_CS l k yW_placesIn bW_placesIn 4 (some .int) rmW_placesIn [.ref (ad 0), .int a1] (cW k ad w) (some (.int z)) := by
  refine Met.ofW (cc := bW_placesIn) (maxL := 4) (ret := (some .int)) (by decide) rfl ?_
  intro p e s m args below meth c s₁ B hml hv
  obtain ⟨rfl, hP, hD, hE⟩ := hv
  have hl := lv_entry ([.ref (ad 0), .int a1]) (n := 4) (Nat.le_of_ble_eq_true rfl)
  rw [lg_entry_eq]
  generalize (lg_sl ([.ref (ad 0), .int a1]) ++ List.replicate (4 - (lg_sl ([.ref (ad 0), .int a1])).length) Slot.unset).toArray = ls at hl ⊢
  exact wW_placesIn (mp_C.of B hml) k ad w a1 z hE hP hD h ls hl
-- MovingPlaces$World.threadsIn
abbrev rmW_threadsIn : Room := { frames := 0, cells := 0, slots := 0, locals := 0 }
def fW_threadsIn_4 (w : SW) (a1 : Int32) : Nat → Int32 → Int32 → Option Int32
  | 0, _, _ => none
  | n + 1, a2, a3 => (if w.2.2.2.2.2.2.1 ≤ a3 then some a2 else mp_ld w.2.2.2.2.2.2.2.1 12 a3 fun x2 => (if x2 = a1 then mp_lt (a2 ||| (1 <<< (a3 &&& 31))) fun x4 => fW_threadsIn_4 w a1 n x4 (a3 + 1) else fW_threadsIn_4 w a1 n a2 (a3 + 1)))
theorem fW_threadsIn_4_s (w : SW) (a1 : Int32) (n : Nat) (a2 : Int32) (a3 : Int32) : fW_threadsIn_4 w a1 (n + 1) a2 a3 = (if w.2.2.2.2.2.2.1 ≤ a3 then some a2 else mp_ld w.2.2.2.2.2.2.2.1 12 a3 fun x2 => (if x2 = a1 then mp_lt (a2 ||| (1 <<< (a3 &&& 31))) fun x4 => fW_threadsIn_4 w a1 n x4 (a3 + 1) else fW_threadsIn_4 w a1 n a2 (a3 + 1))) := rfl
set_option maxHeartbeats 4000000 in
set_option maxRecDepth 100000 in
theorem lW_threadsIn_4 {p : Program} {l : Launch} {e : Env} {s : State} {m : MethodId} {args : Array Value} {below : List Frame} {meth : Method} {c : Code} (cx : mp_C p s m args meth c bW_threadsIn 4 (some .int) rW) (k : KK) (ad : Nat → Nat) (w : SW) (a1 : Int32) (z : Int32) (hE : mp_E k s) (hP : va_P (kD k) mp_cls (cW k ad w) s.heap) (hD : va_D (mp_N k) (cW k ad w)) : ∀ (n : Nat) (a2 : Int32) (a3 : Int32), fW_threadsIn_4 w a1 n a2 a3 = some z → ∀ (ls : Array Slot), lv_has ls 4 [(0, .ref (ad 0)), (1, .int a1), (2, .int a2), (3, .int a3)] → W p l e rmW_threadsIn s m args below meth c s.heap [] 0 0 (MQ below (mp_Qs (some (.int z))) args s 0 0 (fun _ => False)) (F0 m 4 ls []) := by
  obtain ⟨hx, hb, -, hml, hown, hts, -⟩ := id cx
  intro n
  induction n with
  | zero =>
    intro a2 a3 h
    have h : (none : Option Int32) = some z := h
    cases h
  | succ n ih =>
    intro a2 a3 h ls hl
    rw [fW_threadsIn_4_s] at h
    refine lv_iload_n hx hb dW_threadsIn_4 rfl (lv_at hl 3 rfl) ?_
    refine lv_aload_n hx hb dW_threadsIn_5 rfl (lv_at hl 0 rfl) ?_
    refine mp_gW cx hE hP iW 0 rfl 6 (by decide) wq_62 rfl (v := .int w.2.2.2.2.2.2.1) rfl dW_threadsIn_6 ?_
    refine lv_icmp_ge (tgt := 34) hx hb dW_threadsIn_9 (by decide) (fun c1 => ?_) (fun c1 => ?_)
    · have h := mp_t c1 h
      refine lv_iload_n hx hb dW_threadsIn_34 rfl (lv_at hl 2 rfl) ?_
      exact mp_ri cx h dW_threadsIn_35
    · have h := mp_f c1 h
      refine lv_aload_n hx hb dW_threadsIn_12 rfl (lv_at hl 0 rfl) ?_
      refine mp_gW cx hE hP iW 0 rfl 7 (by decide) wq_63 rfl (v := .ref (ad 4)) rfl dW_threadsIn_13 ?_
      refine lv_iload_n hx hb dW_threadsIn_16 rfl (lv_at hl 3 rfl) ?_
      obtain ⟨hi, x2, ex2, h⟩ := mp_lds h
      refine va_iald hx hb hE.1 hP 4 0 (f := w.2.2.2.2.2.2.2.1) (n := 12) rfl rfl hi dW_threadsIn_17 ?_
      refine mp_top ex2 ?_
      refine lv_iload_n hx hb dW_threadsIn_18 rfl (lv_at hl 1 rfl) ?_
      refine lv_icmp_ne (tgt := 28) hx hb dW_threadsIn_19 (by decide) (fun c3 => ?_) (fun c3 => ?_)
      · have h := mp_f c3 h
        refine lv_iinc (v := (a3 + 1)) (lv' := [(3, .int (a3 + 1)), (0, .ref (ad 0)), (1, .int a1), (2, .int a2)]) hx hb dW_threadsIn_28 hl (k := 3) rfl rfl (by decide) rfl (fun ls hl => ?_)
        refine lv_goto (tgt := 4) hx hb dW_threadsIn_31 (by decide) ?_
        exact ih a2 (a3 + 1) h ls (lv_sub hl [1, 2, 3, 0] rfl)
      · have h := mp_t c3 h
        refine lv_iload_n hx hb dW_threadsIn_22 rfl (lv_at hl 2 rfl) ?_
        refine lv_iconst (v := 1) hx hb dW_threadsIn_23 (by decide) ?_
        refine lv_iload_n hx hb dW_threadsIn_24 rfl (lv_at hl 3 rfl) ?_
        refine lv_ishl hx hb dW_threadsIn_25 ?_
        refine lv_ior hx hb dW_threadsIn_26 ?_
        obtain ⟨x4, ex4, h⟩ := mp_lts h
        refine mp_top ex4 ?_
        refine lv_istore_n (lv' := [(2, .int x4), (0, .ref (ad 0)), (1, .int a1), (3, .int a3)]) hx hb dW_threadsIn_27 rfl hl (by decide) rfl (fun ls hl => ?_)
        refine lv_iinc (v := (a3 + 1)) (lv' := [(3, .int (a3 + 1)), (2, .int x4), (0, .ref (ad 0)), (1, .int a1)]) hx hb dW_threadsIn_28 hl (k := 3) rfl rfl (by decide) rfl (fun ls hl => ?_)
        refine lv_goto (tgt := 4) hx hb dW_threadsIn_31 (by decide) ?_
        exact ih x4 (a3 + 1) h ls (lv_sub hl [2, 3, 1, 0] rfl)
def fW_threadsIn (w : SW) (a1 : Int32) : Option Int32 := fW_threadsIn_4 w a1 2000 0 0
set_option maxHeartbeats 4000000 in
set_option maxRecDepth 100000 in
theorem wW_threadsIn {p : Program} {l : Launch} {e : Env} {s : State} {m : MethodId} {args : Array Value} {below : List Frame} {meth : Method} {c : Code} (cx : mp_C p s m args meth c bW_threadsIn 4 (some .int) rW) (k : KK) (ad : Nat → Nat) (w : SW) (a1 : Int32) (z : Int32) (hE : mp_E k s) (hP : va_P (kD k) mp_cls (cW k ad w) s.heap) (hD : va_D (mp_N k) (cW k ad w)) (h : fW_threadsIn w a1 = some z) (ls : Array Slot) (hl : lv_has ls 4 [(0, .ref (ad 0)), (1, .int a1)]) : W p l e rmW_threadsIn s m args below meth c s.heap [] 0 0 (MQ below (mp_Qs (some (.int z))) args s 0 0 (fun _ => False)) (F0 m 0 ls []) := by
  obtain ⟨hx, hb, -, hml, hown, hts, -⟩ := id cx
  unfold fW_threadsIn at h
  refine lv_iconst (v := 0) hx hb dW_threadsIn_0 (by decide) ?_
  refine lv_istore_n (lv' := [(2, .int 0), (0, .ref (ad 0)), (1, .int a1)]) hx hb dW_threadsIn_1 rfl hl (by decide) rfl (fun ls hl => ?_)
  refine lv_iconst (v := 0) hx hb dW_threadsIn_2 (by decide) ?_
  refine lv_istore_n (lv' := [(3, .int 0), (2, .int 0), (0, .ref (ad 0)), (1, .int a1)]) hx hb dW_threadsIn_3 rfl hl (by decide) rfl (fun ls hl => ?_)
  exact lW_threadsIn_4 cx k ad w a1 z hE hP hD _ 0 0 h ls (lv_sub hl [2, 3, 1, 0] rfl)
theorem cW_threadsIn (l : Launch) (k : KK) (ad : Nat → Nat) (w : SW) (a1 : Int32) (z : Int32) (h : fW_threadsIn w a1 = some z) : mp_CS l k yW_threadsIn bW_threadsIn 4 (some .int) rmW_threadsIn [.ref (ad 0), .int a1] (cW k ad w) (some (.int z)) := by
  refine Met.ofW (cc := bW_threadsIn) (maxL := 4) (ret := (some .int)) (by decide) rfl ?_
  intro p e s m args below meth c s₁ B hml hv
  obtain ⟨rfl, hP, hD, hE⟩ := hv
  have hl := lv_entry ([.ref (ad 0), .int a1]) (n := 4) (Nat.le_of_ble_eq_true rfl)
  rw [lg_entry_eq]
  generalize (lg_sl ([.ref (ad 0), .int a1]) ++ List.replicate (4 - (lg_sl ([.ref (ad 0), .int a1])).length) Slot.unset).toArray = ls at hl ⊢
  exact wW_threadsIn (mp_C.of B hml) k ad w a1 z hE hP hD h ls hl
-- MovingPlaces$World.depthOf
abbrev rmW_depthOf : Room := { frames := 2, cells := 0, slots := 0, locals := 42 }
def fW_depthOf_8 (w : SW) : Nat → Int32 → Int32 → Option Int32
  | 0, _, _ => none
  | n + 1, a2, a3 => (if a3 = (-9) then some a2 else (if 12 ≤ a2 then some a2 else (fW_placeAround w a3).bind fun x3 => fW_depthOf_8 w n (a2 + 1) x3))
theorem fW_depthOf_8_s (w : SW) (n : Nat) (a2 : Int32) (a3 : Int32) : fW_depthOf_8 w (n + 1) a2 a3 = (if a3 = (-9) then some a2 else (if 12 ≤ a2 then some a2 else (fW_placeAround w a3).bind fun x3 => fW_depthOf_8 w n (a2 + 1) x3)) := rfl
set_option maxHeartbeats 4000000 in
set_option maxRecDepth 100000 in
theorem lW_depthOf_8 {p : Program} {l : Launch} {e : Env} {s : State} {m : MethodId} {args : Array Value} {below : List Frame} {meth : Method} {c : Code} (cx : mp_C p s m args meth c bW_depthOf 4 (some .int) rW) (k : KK) (ad : Nat → Nat) (w : SW) (z : Int32) (hE : mp_E k s) (hP : va_P (kD k) mp_cls (cW k ad w) s.heap) (hD : va_D (mp_N k) (cW k ad w)) : ∀ (n : Nat) (a2 : Int32) (a3 : Int32), fW_depthOf_8 w n a2 a3 = some z → ∀ (ls : Array Slot), lv_has ls 4 [(0, .ref (ad 0)), (2, .int a2), (3, .int a3)] → W p l e rmW_depthOf s m args below meth c s.heap [] 0 0 (MQ below (mp_Qs (some (.int z))) args s 0 0 (fun _ => False)) (F0 m 8 ls []) := by
  obtain ⟨hx, hb, -, hml, hown, hts, -⟩ := id cx
  intro n
  induction n with
  | zero =>
    intro a2 a3 h
    have h : (none : Option Int32) = some z := h
    cases h
  | succ n ih =>
    intro a2 a3 h ls hl
    rw [fW_depthOf_8_s] at h
    refine lv_iload_n hx hb dW_depthOf_8 rfl (lv_at hl 2 rfl) ?_
    refine lv_bipush (v := (-9)) hx hb dW_depthOf_9 (by decide) ?_
    refine lv_icmp_eq (tgt := 32) hx hb dW_depthOf_11 (by decide) (fun c1 => ?_) (fun c1 => ?_)
    · have h := mp_t c1 h
      refine lv_iload_n hx hb dW_depthOf_32 rfl (lv_at hl 1 rfl) ?_
      exact mp_ri cx h dW_depthOf_33
    · have h := mp_f c1 h
      refine lv_iload_n hx hb dW_depthOf_14 rfl (lv_at hl 1 rfl) ?_
      refine lv_bipush (v := 12) hx hb dW_depthOf_15 (by decide) ?_
      refine lv_icmp_ge (tgt := 32) hx hb dW_depthOf_17 (by decide) (fun c2 => ?_) (fun c2 => ?_)
      · have h := mp_t c2 h
        refine lv_iload_n hx hb dW_depthOf_32 rfl (lv_at hl 1 rfl) ?_
        exact mp_ri cx h dW_depthOf_33
      · have h := mp_f c2 h
        refine lv_iinc (v := (a2 + 1)) (lv' := [(2, .int (a2 + 1)), (0, .ref (ad 0)), (3, .int a3)]) hx hb dW_depthOf_20 hl (k := 1) rfl rfl (by decide) rfl (fun ls hl => ?_)
        refine lv_aload_n hx hb dW_depthOf_23 rfl (lv_at hl 1 rfl) ?_
        refine lv_iload_n hx hb dW_depthOf_24 rfl (lv_at hl 2 rfl) ?_
        obtain ⟨x3, ex3, h⟩ := mp_bs h
        refine mp_si (mp_runV (As := [.int a3]) (rest := []) cx kV_W_63 (cW_placeAround l k ad w a3 x3 ex3) ⟨rfl, rfl, Nat.le_of_ble_eq_true rfl, Nat.le_of_ble_eq_true rfl⟩ ⟨Nat.zero_le _, Nat.zero_le _⟩ hE hP hD va_S.rf 0 rfl rfl rfl hl.1 rfl (Nat.le_of_ble_eq_true rfl) dW_depthOf_25) ?_
        refine lv_istore_n (lv' := [(3, .int x3), (2, .int (a2 + 1)), (0, .ref (ad 0))]) hx hb dW_depthOf_28 rfl hl (by decide) rfl (fun ls hl => ?_)
        refine lv_goto (tgt := 8) hx hb dW_depthOf_29 (by decide) ?_
        exact ih (a2 + 1) x3 h ls (lv_sub hl [2, 1, 0] rfl)
def fW_depthOf (w : SW) (a1 : Int32) : Option Int32 := (fW_placeAround w a1).bind fun x1 => fW_depthOf_8 w 2000 0 x1
set_option maxHeartbeats 4000000 in
set_option maxRecDepth 100000 in
theorem wW_depthOf {p : Program} {l : Launch} {e : Env} {s : State} {m : MethodId} {args : Array Value} {below : List Frame} {meth : Method} {c : Code} (cx : mp_C p s m args meth c bW_depthOf 4 (some .int) rW) (k : KK) (ad : Nat → Nat) (w : SW) (a1 : Int32) (z : Int32) (hE : mp_E k s) (hP : va_P (kD k) mp_cls (cW k ad w) s.heap) (hD : va_D (mp_N k) (cW k ad w)) (h : fW_depthOf w a1 = some z) (ls : Array Slot) (hl : lv_has ls 4 [(0, .ref (ad 0)), (1, .int a1)]) : W p l e rmW_depthOf s m args below meth c s.heap [] 0 0 (MQ below (mp_Qs (some (.int z))) args s 0 0 (fun _ => False)) (F0 m 0 ls []) := by
  obtain ⟨hx, hb, -, hml, hown, hts, -⟩ := id cx
  unfold fW_depthOf at h
  refine lv_iconst (v := 0) hx hb dW_depthOf_0 (by decide) ?_
  refine lv_istore_n (lv' := [(2, .int 0), (0, .ref (ad 0)), (1, .int a1)]) hx hb dW_depthOf_1 rfl hl (by decide) rfl (fun ls hl => ?_)
  refine lv_aload_n hx hb dW_depthOf_2 rfl (lv_at hl 1 rfl) ?_
  refine lv_iload_n hx hb dW_depthOf_3 rfl (lv_at hl 2 rfl) ?_
  obtain ⟨x1, ex1, h⟩ := mp_bs h
  refine mp_si (mp_runV (As := [.int a1]) (rest := []) cx kV_W_63 (cW_placeAround l k ad w a1 x1 ex1) ⟨rfl, rfl, Nat.le_of_ble_eq_true rfl, Nat.le_of_ble_eq_true rfl⟩ ⟨Nat.zero_le _, Nat.zero_le _⟩ hE hP hD va_S.rf 0 rfl rfl rfl hl.1 rfl (Nat.le_of_ble_eq_true rfl) dW_depthOf_4) ?_
  refine lv_istore_n (lv' := [(3, .int x1), (2, .int 0), (0, .ref (ad 0)), (1, .int a1)]) hx hb dW_depthOf_7 rfl hl (by decide) rfl (fun ls hl => ?_)
  exact lW_depthOf_8 cx k ad w z hE hP hD _ 0 x1 h ls (lv_sub hl [2, 1, 0] rfl)
theorem cW_depthOf (l : Launch) (k : KK) (ad : Nat → Nat) (w : SW) (a1 : Int32) (z : Int32) (h : fW_depthOf w a1 = some z) : mp_CS l k yW_depthOf bW_depthOf 4 (some .int) rmW_depthOf [.ref (ad 0), .int a1] (cW k ad w) (some (.int z)) := by
  refine Met.ofW (cc := bW_depthOf) (maxL := 4) (ret := (some .int)) (by decide) rfl ?_
  intro p e s m args below meth c s₁ B hml hv
  obtain ⟨rfl, hP, hD, hE⟩ := hv
  have hl := lv_entry ([.ref (ad 0), .int a1]) (n := 4) (Nat.le_of_ble_eq_true rfl)
  rw [lg_entry_eq]
  generalize (lg_sl ([.ref (ad 0), .int a1]) ++ List.replicate (4 - (lg_sl ([.ref (ad 0), .int a1])).length) Slot.unset).toArray = ls at hl ⊢
  exact wW_depthOf (mp_C.of B hml) k ad w a1 z hE hP hD h ls hl
-- MovingPlaces$World.isWithin
abbrev rmW_isWithin : Room := { frames := 2, cells := 0, slots := 0, locals := 42 }
def fW_isWithin_9 (w : SW) (a2 : Int32) : Nat → Int32 → Int32 → Option Int32
  | 0, _, _ => none
  | n + 1, a3, a4 => (if 12 ≤ a4 then some 0 else (if a3 = (-9) then some 0 else (if a3 = a2 then some 1 else (fW_placeAround w a3).bind fun x4 => fW_isWithin_9 w a2 n x4 (a4 + 1))))
theorem fW_isWithin_9_s (w : SW) (a2 : Int32) (n : Nat) (a3 : Int32) (a4 : Int32) : fW_isWithin_9 w a2 (n + 1) a3 a4 = (if 12 ≤ a4 then some 0 else (if a3 = (-9) then some 0 else (if a3 = a2 then some 1 else (fW_placeAround w a3).bind fun x4 => fW_isWithin_9 w a2 n x4 (a4 + 1)))) := rfl
set_option maxHeartbeats 4000000 in
set_option maxRecDepth 100000 in
theorem lW_isWithin_9 {p : Program} {l : Launch} {e : Env} {s : State} {m : MethodId} {args : Array Value} {below : List Frame} {meth : Method} {c : Code} (cx : mp_C p s m args meth c bW_isWithin 5 (some .boolean) rW) (k : KK) (ad : Nat → Nat) (w : SW) (a2 : Int32) (z : Int32) (hE : mp_E k s) (hP : va_P (kD k) mp_cls (cW k ad w) s.heap) (hD : va_D (mp_N k) (cW k ad w)) : ∀ (n : Nat) (a3 : Int32) (a4 : Int32), fW_isWithin_9 w a2 n a3 a4 = some z → ∀ (ls : Array Slot), lv_has ls 5 [(0, .ref (ad 0)), (2, .int a2), (3, .int a3), (4, .int a4)] → W p l e rmW_isWithin s m args below meth c s.heap [] 0 0 (MQ below (mp_Qs (some (.int z))) args s 0 0 (fun _ => False)) (F0 m 9 ls []) := by
  obtain ⟨hx, hb, -, hml, hown, hts, -⟩ := id cx
  intro n
  induction n with
  | zero =>
    intro a3 a4 h
    have h : (none : Option Int32) = some z := h
    cases h
  | succ n ih =>
    intro a3 a4 h ls hl
    rw [fW_isWithin_9_s] at h
    refine lv_iload hx hb dW_isWithin_9 (lv_at hl 3 rfl) ?_
    refine lv_bipush (v := 12) hx hb dW_isWithin_11 (by decide) ?_
    refine lv_icmp_ge (tgt := 41) hx hb dW_isWithin_13 (by decide) (fun c1 => ?_) (fun c1 => ?_)
    · have h := mp_t c1 h
      refine lv_iconst (v := 0) hx hb dW_isWithin_41 (by decide) ?_
      exact mp_rz cx rfl h dW_isWithin_42
    · have h := mp_f c1 h
      refine lv_iload_n hx hb dW_isWithin_16 rfl (lv_at hl 2 rfl) ?_
      refine lv_bipush (v := (-9)) hx hb dW_isWithin_17 (by decide) ?_
      refine lv_icmp_eq (tgt := 41) hx hb dW_isWithin_19 (by decide) (fun c2 => ?_) (fun c2 => ?_)
      · have h := mp_t c2 h
        refine lv_iconst (v := 0) hx hb dW_isWithin_41 (by decide) ?_
        exact mp_rz cx rfl h dW_isWithin_42
      · have h := mp_f c2 h
        refine lv_iload_n hx hb dW_isWithin_22 rfl (lv_at hl 2 rfl) ?_
        refine lv_iload_n hx hb dW_isWithin_23 rfl (lv_at hl 1 rfl) ?_
        refine lv_icmp_ne (tgt := 29) hx hb dW_isWithin_24 (by decide) (fun c3 => ?_) (fun c3 => ?_)
        · have h := mp_f c3 h
          refine lv_aload_n hx hb dW_isWithin_29 rfl (lv_at hl 0 rfl) ?_
          refine lv_iload_n hx hb dW_isWithin_30 rfl (lv_at hl 2 rfl) ?_
          obtain ⟨x4, ex4, h⟩ := mp_bs h
          refine mp_si (mp_runV (As := [.int a3]) (rest := []) cx kV_W_63 (cW_placeAround l k ad w a3 x4 ex4) ⟨rfl, rfl, Nat.le_of_ble_eq_true rfl, Nat.le_of_ble_eq_true rfl⟩ ⟨Nat.zero_le _, Nat.zero_le _⟩ hE hP hD va_S.rf 0 rfl rfl rfl hl.1 rfl (Nat.le_of_ble_eq_true rfl) dW_isWithin_31) ?_
          refine lv_istore_n (lv' := [(3, .int x4), (0, .ref (ad 0)), (2, .int a2), (4, .int a4)]) hx hb dW_isWithin_34 rfl hl (by decide) rfl (fun ls hl => ?_)
          refine lv_iinc (v := (a4 + 1)) (lv' := [(4, .int (a4 + 1)), (3, .int x4), (0, .ref (ad 0)), (2, .int a2)]) hx hb dW_isWithin_35 hl (k := 3) rfl rfl (by decide) rfl (fun ls hl => ?_)
          refine lv_goto (tgt := 9) hx hb dW_isWithin_38 (by decide) ?_
          exact ih x4 (a4 + 1) h ls (lv_sub hl [2, 3, 1, 0] rfl)
        · have h := mp_t c3 h
          refine lv_iconst (v := 1) hx hb dW_isWithin_27 (by decide) ?_
          exact mp_rz cx rfl h dW_isWithin_28
def fW_isWithin (w : SW) (a1 : Int32) (a2 : Int32) : Option Int32 := (fW_placeAround w a1).bind fun x1 => fW_isWithin_9 w a2 2000 x1 0
set_option maxHeartbeats 4000000 in
set_option maxRecDepth 100000 in
theorem wW_isWithin {p : Program} {l : Launch} {e : Env} {s : State} {m : MethodId} {args : Array Value} {below : List Frame} {meth : Method} {c : Code} (cx : mp_C p s m args meth c bW_isWithin 5 (some .boolean) rW) (k : KK) (ad : Nat → Nat) (w : SW) (a1 : Int32) (a2 : Int32) (z : Int32) (hE : mp_E k s) (hP : va_P (kD k) mp_cls (cW k ad w) s.heap) (hD : va_D (mp_N k) (cW k ad w)) (h : fW_isWithin w a1 a2 = some z) (ls : Array Slot) (hl : lv_has ls 5 [(0, .ref (ad 0)), (1, .int a1), (2, .int a2)]) : W p l e rmW_isWithin s m args below meth c s.heap [] 0 0 (MQ below (mp_Qs (some (.int z))) args s 0 0 (fun _ => False)) (F0 m 0 ls []) := by
  obtain ⟨hx, hb, -, hml, hown, hts, -⟩ := id cx
  unfold fW_isWithin at h
  refine lv_aload_n hx hb dW_isWithin_0 rfl (lv_at hl 0 rfl) ?_
  refine lv_iload_n hx hb dW_isWithin_1 rfl (lv_at hl 1 rfl) ?_
  obtain ⟨x1, ex1, h⟩ := mp_bs h
  refine mp_si (mp_runV (As := [.int a1]) (rest := []) cx kV_W_63 (cW_placeAround l k ad w a1 x1 ex1) ⟨rfl, rfl, Nat.le_of_ble_eq_true rfl, Nat.le_of_ble_eq_true rfl⟩ ⟨Nat.zero_le _, Nat.zero_le _⟩ hE hP hD va_S.rf 0 rfl rfl rfl hl.1 rfl (Nat.le_of_ble_eq_true rfl) dW_isWithin_2) ?_
  refine lv_istore_n (lv' := [(3, .int x1), (0, .ref (ad 0)), (1, .int a1), (2, .int a2)]) hx hb dW_isWithin_5 rfl hl (by decide) rfl (fun ls hl => ?_)
  refine lv_iconst (v := 0) hx hb dW_isWithin_6 (by decide) ?_
  refine lv_istore (lv' := [(4, .int 0), (3, .int x1), (0, .ref (ad 0)), (1, .int a1), (2, .int a2)]) hx hb dW_isWithin_7 hl (by decide) rfl (fun ls hl => ?_)
  exact lW_isWithin_9 cx k ad w a2 z hE hP hD _ x1 0 h ls (lv_sub hl [2, 4, 1, 0] rfl)
theorem cW_isWithin (l : Launch) (k : KK) (ad : Nat → Nat) (w : SW) (a1 : Int32) (a2 : Int32) (z : Int32) (h : fW_isWithin w a1 a2 = some z) : mp_CS l k yW_isWithin bW_isWithin 5 (some .boolean) rmW_isWithin [.ref (ad 0), .int a1, .int a2] (cW k ad w) (some (.int z)) := by
  refine Met.ofW (cc := bW_isWithin) (maxL := 5) (ret := (some .boolean)) (by decide) rfl ?_
  intro p e s m args below meth c s₁ B hml hv
  obtain ⟨rfl, hP, hD, hE⟩ := hv
  have hl := lv_entry ([.ref (ad 0), .int a1, .int a2]) (n := 5) (Nat.le_of_ble_eq_true rfl)
  rw [lg_entry_eq]
  generalize (lg_sl ([.ref (ad 0), .int a1, .int a2]) ++ List.replicate (5 - (lg_sl ([.ref (ad 0), .int a1, .int a2])).length) Slot.unset).toArray = ls at hl ⊢
  exact wW_isWithin (mp_C.of B hml) k ad w a1 a2 z hE hP hD h ls hl
-- MovingPlaces$World.placesThatAre
abbrev rmW_placesThatAre : Room := { frames := 1, cells := 0, slots := 0, locals := 20 }
def fW_placesThatAre (w : SW) : Option Int32 := (fJ_bitCount w.2.1).bind fun x1 => some (w.1 - x1)
set_option maxHeartbeats 4000000 in
set_option maxRecDepth 100000 in
theorem wW_placesThatAre {p : Program} {l : Launch} {e : Env} {s : State} {m : MethodId} {args : Array Value} {below : List Frame} {meth : Method} {c : Code} (cx : mp_C p s m args meth c bW_placesThatAre 1 (some .int) rW) (k : KK) (ad : Nat → Nat) (w : SW) (z : Int32) (hE : mp_E k s) (hP : va_P (kD k) mp_cls (cW k ad w) s.heap) (hD : va_D (mp_N k) (cW k ad w)) (h : fW_placesThatAre w = some z) (ls : Array Slot) (hl : lv_has ls 1 [(0, .ref (ad 0))]) : W p l e rmW_placesThatAre s m args below meth c s.heap [] 0 0 (MQ below (mp_Qs (some (.int z))) args s 0 0 (fun _ => False)) (F0 m 0 ls []) := by
  obtain ⟨hx, hb, -, hml, hown, hts, -⟩ := id cx
  unfold fW_placesThatAre at h
  refine lv_aload_n hx hb dW_placesThatAre_0 rfl (lv_at hl 0 rfl) ?_
  refine mp_gW cx hE hP iW 0 rfl 0 (by decide) wq_56 rfl (v := .int w.1) rfl dW_placesThatAre_1 ?_
  refine lv_aload_n hx hb dW_placesThatAre_4 rfl (lv_at hl 0 rfl) ?_
  refine mp_gW cx hE hP iW 0 rfl 1 (by decide) wq_57 rfl (v := .int w.2.1) rfl dW_placesThatAre_5 ?_
  obtain ⟨x1, ex1, h⟩ := mp_bs h
  refine mp_si (mp_runT (As := [.int w.2.1]) (rest := [.int w.1]) cx kT_W_67 (cJ_bitCount l k w.2.1 x1 ex1) ⟨rfl, rfl, Nat.le_of_ble_eq_true rfl, Nat.le_of_ble_eq_true rfl⟩ ⟨Nat.zero_le _, Nat.zero_le _⟩ hE mp_P0 mp_D0 va_S.rf hl.1 rfl (Nat.le_of_ble_eq_true rfl) dW_placesThatAre_8) ?_
  refine lv_isub hx hb dW_placesThatAre_11 ?_
  exact mp_ri cx h dW_placesThatAre_12
theorem cW_placesThatAre (l : Launch) (k : KK) (ad : Nat → Nat) (w : SW) (z : Int32) (h : fW_placesThatAre w = some z) : mp_CS l k yW_placesThatAre bW_placesThatAre 1 (some .int) rmW_placesThatAre [.ref (ad 0)] (cW k ad w) (some (.int z)) := by
  refine Met.ofW (cc := bW_placesThatAre) (maxL := 1) (ret := (some .int)) (by decide) rfl ?_
  intro p e s m args below meth c s₁ B hml hv
  obtain ⟨rfl, hP, hD, hE⟩ := hv
  have hl := lv_entry ([.ref (ad 0)]) (n := 1) (Nat.le_of_ble_eq_true rfl)
  rw [lg_entry_eq]
  generalize (lg_sl ([.ref (ad 0)]) ++ List.replicate (1 - (lg_sl ([.ref (ad 0)])).length) Slot.unset).toArray = ls at hl ⊢
  exact wW_placesThatAre (mp_C.of B hml) k ad w z hE hP hD h ls hl
-- MovingPlaces$World.placesInAll
abbrev rmW_placesInAll : Room := { frames := 0, cells := 0, slots := 0, locals := 0 }
def fW_placesInAll (w : SW) : Option Int32 := some w.1
set_option maxHeartbeats 4000000 in
set_option maxRecDepth 100000 in
theorem wW_placesInAll {p : Program} {l : Launch} {e : Env} {s : State} {m : MethodId} {args : Array Value} {below : List Frame} {meth : Method} {c : Code} (cx : mp_C p s m args meth c bW_placesInAll 1 (some .int) rW) (k : KK) (ad : Nat → Nat) (w : SW) (z : Int32) (hE : mp_E k s) (hP : va_P (kD k) mp_cls (cW k ad w) s.heap) (hD : va_D (mp_N k) (cW k ad w)) (h : fW_placesInAll w = some z) (ls : Array Slot) (hl : lv_has ls 1 [(0, .ref (ad 0))]) : W p l e rmW_placesInAll s m args below meth c s.heap [] 0 0 (MQ below (mp_Qs (some (.int z))) args s 0 0 (fun _ => False)) (F0 m 0 ls []) := by
  obtain ⟨hx, hb, -, hml, hown, hts, -⟩ := id cx
  unfold fW_placesInAll at h
  refine lv_aload_n hx hb dW_placesInAll_0 rfl (lv_at hl 0 rfl) ?_
  refine mp_gW cx hE hP iW 0 rfl 0 (by decide) wq_56 rfl (v := .int w.1) rfl dW_placesInAll_1 ?_
  exact mp_ri cx h dW_placesInAll_4
theorem cW_placesInAll (l : Launch) (k : KK) (ad : Nat → Nat) (w : SW) (z : Int32) (h : fW_placesInAll w = some z) : mp_CS l k yW_placesInAll bW_placesInAll 1 (some .int) rmW_placesInAll [.ref (ad 0)] (cW k ad w) (some (.int z)) := by
  refine Met.ofW (cc := bW_placesInAll) (maxL := 1) (ret := (some .int)) (by decide) rfl ?_
  intro p e s m args below meth c s₁ B hml hv
  obtain ⟨rfl, hP, hD, hE⟩ := hv
  have hl := lv_entry ([.ref (ad 0)]) (n := 1) (Nat.le_of_ble_eq_true rfl)
  rw [lg_entry_eq]
  generalize (lg_sl ([.ref (ad 0)]) ++ List.replicate (1 - (lg_sl ([.ref (ad 0)])).length) Slot.unset).toArray = ls at hl ⊢
  exact wW_placesInAll (mp_C.of B hml) k ad w z hE hP hD h ls hl
-- MovingPlaces$World.messagesInAll
abbrev rmW_messagesInAll : Room := { frames := 2, cells := 0, slots := 0, locals := 43 }
def fW_messagesInAll_14 (w : SW) (a2 : Int32) (kk : Int32 → Option Int32) : Nat → Int32 → Int32 → Option Int32
  | 0, _, _ => none
  | n + 1, a1, a3 => (if 6 ≤ a3 then kk a1 else (fW_messagesOf w a2 a3).bind fun x2 => fW_messagesInAll_14 w a2 kk n (a1 + x2) (a3 + 1))
theorem fW_messagesInAll_14_s (w : SW) (a2 : Int32) (kk : Int32 → Option Int32) (n : Nat) (a1 : Int32) (a3 : Int32) : fW_messagesInAll_14 w a2 kk (n + 1) a1 a3 = (if 6 ≤ a3 then kk a1 else (fW_messagesOf w a2 a3).bind fun x2 => fW_messagesInAll_14 w a2 kk n (a1 + x2) (a3 + 1)) := rfl
set_option maxHeartbeats 4000000 in
set_option maxRecDepth 100000 in
theorem lW_messagesInAll_14 {p : Program} {l : Launch} {e : Env} {s : State} {m : MethodId} {args : Array Value} {below : List Frame} {meth : Method} {c : Code} (cx : mp_C p s m args meth c bW_messagesInAll 4 (some .int) rW) (k : KK) (ad : Nat → Nat) (w : SW) (a2 : Int32) (kk : Int32 → Option Int32) (z : Int32) (hE : mp_E k s) (hP : va_P (kD k) mp_cls (cW k ad w) s.heap) (hD : va_D (mp_N k) (cW k ad w)) (hk : ∀ (a1 : Int32), kk a1 = some z → ∀ (ls : Array Slot), lv_has ls 4 [(0, .ref (ad 0)), (1, .int a1), (2, .int a2)] → W p l e rmW_messagesInAll s m args below meth c s.heap [] 0 0 (MQ below (mp_Qs (some (.int z))) args s 0 0 (fun _ => False)) (F0 m 35 ls [])) : ∀ (n : Nat) (a1 : Int32) (a3 : Int32), fW_messagesInAll_14 w a2 kk n a1 a3 = some z → ∀ (ls : Array Slot), lv_has ls 4 [(0, .ref (ad 0)), (1, .int a1), (2, .int a2), (3, .int a3)] → W p l e rmW_messagesInAll s m args below meth c s.heap [] 0 0 (MQ below (mp_Qs (some (.int z))) args s 0 0 (fun _ => False)) (F0 m 14 ls []) := by
  obtain ⟨hx, hb, -, hml, hown, hts, -⟩ := id cx
  intro n
  induction n with
  | zero =>
    intro a1 a3 h
    have h : (none : Option Int32) = some z := h
    cases h
  | succ n ih =>
    intro a1 a3 h ls hl
    rw [fW_messagesInAll_14_s] at h
    refine lv_iload_n hx hb dW_messagesInAll_14 rfl (lv_at hl 3 rfl) ?_
    refine lv_bipush (v := 6) hx hb dW_messagesInAll_15 (by decide) ?_
    refine lv_icmp_ge (tgt := 35) hx hb dW_messagesInAll_17 (by decide) (fun c1 => ?_) (fun c1 => ?_)
    · have h := mp_t c1 h
      exact hk a1 h ls (lv_sub hl [0, 1, 2] rfl)
    · have h := mp_f c1 h
      refine lv_iload_n hx hb dW_messagesInAll_20 rfl (lv_at hl 1 rfl) ?_
      refine lv_aload_n hx hb dW_messagesInAll_21 rfl (lv_at hl 0 rfl) ?_
      refine lv_iload_n hx hb dW_messagesInAll_22 rfl (lv_at hl 2 rfl) ?_
      refine lv_iload_n hx hb dW_messagesInAll_23 rfl (lv_at hl 3 rfl) ?_
      obtain ⟨x2, ex2, h⟩ := mp_bs h
      refine mp_si (mp_runV (As := [.int a2, .int a3]) (rest := [.int a1]) cx kV_W_72 (cW_messagesOf l k ad w a2 a3 x2 ex2) ⟨rfl, rfl, Nat.le_of_ble_eq_true rfl, Nat.le_of_ble_eq_true rfl⟩ ⟨Nat.zero_le _, Nat.zero_le _⟩ hE hP hD va_S.rf 0 rfl rfl rfl hl.1 rfl (Nat.le_of_ble_eq_true rfl) dW_messagesInAll_24) ?_
      refine lv_iadd hx hb dW_messagesInAll_27 ?_
      refine lv_istore_n (lv' := [(1, .int (a1 + x2)), (0, .ref (ad 0)), (2, .int a2), (3, .int a3)]) hx hb dW_messagesInAll_28 rfl hl (by decide) rfl (fun ls hl => ?_)
      refine lv_iinc (v := (a3 + 1)) (lv' := [(3, .int (a3 + 1)), (1, .int (a1 + x2)), (0, .ref (ad 0)), (2, .int a2)]) hx hb dW_messagesInAll_29 hl (k := 3) rfl rfl (by decide) rfl (fun ls hl => ?_)
      refine lv_goto (tgt := 14) hx hb dW_messagesInAll_32 (by decide) ?_
      exact ih (a1 + x2) (a3 + 1) h ls (lv_sub hl [2, 1, 3, 0] rfl)
def fW_messagesInAll_4 (w : SW) : Nat → Int32 → Int32 → Option Int32
  | 0, _, _ => none
  | n + 1, a1, a2 => (if w.1 ≤ a2 then some a1 else fW_messagesInAll_14 w a2 (fun y2 => fW_messagesInAll_4 w n y2 (a2 + 1)) 2000 a1 0)
theorem fW_messagesInAll_4_s (w : SW) (n : Nat) (a1 : Int32) (a2 : Int32) : fW_messagesInAll_4 w (n + 1) a1 a2 = (if w.1 ≤ a2 then some a1 else fW_messagesInAll_14 w a2 (fun y2 => fW_messagesInAll_4 w n y2 (a2 + 1)) 2000 a1 0) := rfl
set_option maxHeartbeats 4000000 in
set_option maxRecDepth 100000 in
theorem lW_messagesInAll_4 {p : Program} {l : Launch} {e : Env} {s : State} {m : MethodId} {args : Array Value} {below : List Frame} {meth : Method} {c : Code} (cx : mp_C p s m args meth c bW_messagesInAll 4 (some .int) rW) (k : KK) (ad : Nat → Nat) (w : SW) (z : Int32) (hE : mp_E k s) (hP : va_P (kD k) mp_cls (cW k ad w) s.heap) (hD : va_D (mp_N k) (cW k ad w)) : ∀ (n : Nat) (a1 : Int32) (a2 : Int32), fW_messagesInAll_4 w n a1 a2 = some z → ∀ (ls : Array Slot), lv_has ls 4 [(0, .ref (ad 0)), (1, .int a1), (2, .int a2)] → W p l e rmW_messagesInAll s m args below meth c s.heap [] 0 0 (MQ below (mp_Qs (some (.int z))) args s 0 0 (fun _ => False)) (F0 m 4 ls []) := by
  obtain ⟨hx, hb, -, hml, hown, hts, -⟩ := id cx
  intro n
  induction n with
  | zero =>
    intro a1 a2 h
    have h : (none : Option Int32) = some z := h
    cases h
  | succ n ih =>
    intro a1 a2 h ls hl
    rw [fW_messagesInAll_4_s] at h
    refine lv_iload_n hx hb dW_messagesInAll_4 rfl (lv_at hl 2 rfl) ?_
    refine lv_aload_n hx hb dW_messagesInAll_5 rfl (lv_at hl 0 rfl) ?_
    refine mp_gW cx hE hP iW 0 rfl 0 (by decide) wq_56 rfl (v := .int w.1) rfl dW_messagesInAll_6 ?_
    refine lv_icmp_ge (tgt := 41) hx hb dW_messagesInAll_9 (by decide) (fun c1 => ?_) (fun c1 => ?_)
    · have h := mp_t c1 h
      refine lv_iload_n hx hb dW_messagesInAll_41 rfl (lv_at hl 1 rfl) ?_
      exact mp_ri cx h dW_messagesInAll_42
    · have h := mp_f c1 h
      refine lv_iconst (v := 0) hx hb dW_messagesInAll_12 (by decide) ?_
      refine lv_istore_n (lv' := [(3, .int 0), (0, .ref (ad 0)), (1, .int a1), (2, .int a2)]) hx hb dW_messagesInAll_13 rfl hl (by decide) rfl (fun ls hl => ?_)
      refine lW_messagesInAll_14 cx k ad w a2 _ z hE hP hD (fun y2 h ls hl => ?_) _ a1 0 h ls (lv_sub hl [1, 2, 3, 0] rfl)
      refine lv_iinc (v := (a2 + 1)) (lv' := [(2, .int (a2 + 1)), (0, .ref (ad 0)), (1, .int y2)]) hx hb dW_messagesInAll_35 hl (k := 2) rfl rfl (by decide) rfl (fun ls hl => ?_)
      refine lv_goto (tgt := 4) hx hb dW_messagesInAll_38 (by decide) ?_
      exact ih y2 (a2 + 1) h ls (lv_sub hl [1, 2, 0] rfl)
def fW_messagesInAll (w : SW) : Option Int32 := fW_messagesInAll_4 w 2000 0 0
set_option maxHeartbeats 4000000 in
set_option maxRecDepth 100000 in
theorem wW_messagesInAll {p : Program} {l : Launch} {e : Env} {s : State} {m : MethodId} {args : Array Value} {below : List Frame} {meth : Method} {c : Code} (cx : mp_C p s m args meth c bW_messagesInAll 4 (some .int) rW) (k : KK) (ad : Nat → Nat) (w : SW) (z : Int32) (hE : mp_E k s) (hP : va_P (kD k) mp_cls (cW k ad w) s.heap) (hD : va_D (mp_N k) (cW k ad w)) (h : fW_messagesInAll w = some z) (ls : Array Slot) (hl : lv_has ls 4 [(0, .ref (ad 0))]) : W p l e rmW_messagesInAll s m args below meth c s.heap [] 0 0 (MQ below (mp_Qs (some (.int z))) args s 0 0 (fun _ => False)) (F0 m 0 ls []) := by
  obtain ⟨hx, hb, -, hml, hown, hts, -⟩ := id cx
  unfold fW_messagesInAll at h
  refine lv_iconst (v := 0) hx hb dW_messagesInAll_0 (by decide) ?_
  refine lv_istore_n (lv' := [(1, .int 0), (0, .ref (ad 0))]) hx hb dW_messagesInAll_1 rfl hl (by decide) rfl (fun ls hl => ?_)
  refine lv_iconst (v := 0) hx hb dW_messagesInAll_2 (by decide) ?_
  refine lv_istore_n (lv' := [(2, .int 0), (1, .int 0), (0, .ref (ad 0))]) hx hb dW_messagesInAll_3 rfl hl (by decide) rfl (fun ls hl => ?_)
  exact lW_messagesInAll_4 cx k ad w z hE hP hD _ 0 0 h ls (lv_sub hl [2, 1, 0] rfl)
theorem cW_messagesInAll (l : Launch) (k : KK) (ad : Nat → Nat) (w : SW) (z : Int32) (h : fW_messagesInAll w = some z) : mp_CS l k yW_messagesInAll bW_messagesInAll 4 (some .int) rmW_messagesInAll [.ref (ad 0)] (cW k ad w) (some (.int z)) := by
  refine Met.ofW (cc := bW_messagesInAll) (maxL := 4) (ret := (some .int)) (by decide) rfl ?_
  intro p e s m args below meth c s₁ B hml hv
  obtain ⟨rfl, hP, hD, hE⟩ := hv
  have hl := lv_entry ([.ref (ad 0)]) (n := 4) (Nat.le_of_ble_eq_true rfl)
  rw [lg_entry_eq]
  generalize (lg_sl ([.ref (ad 0)]) ++ List.replicate (4 - (lg_sl ([.ref (ad 0)])).length) Slot.unset).toArray = ls at hl ⊢
  exact wW_messagesInAll (mp_C.of B hml) k ad w z hE hP hD h ls hl
-- MovingPlaces$World.isThread
abbrev rmW_isThread : Room := { frames := 0, cells := 0, slots := 0, locals := 0 }
def fW_isThread (w : SW) (a1 : Int32) : Option Int32 := (if a1 < 0 then some 0 else (if w.2.2.2.2.2.2.1 ≤ a1 then some 0 else some 1))
set_option maxHeartbeats 4000000 in
set_option maxRecDepth 100000 in
theorem wW_isThread {p : Program} {l : Launch} {e : Env} {s : State} {m : MethodId} {args : Array Value} {below : List Frame} {meth : Method} {c : Code} (cx : mp_C p s m args meth c bW_isThread 2 (some .boolean) rW) (k : KK) (ad : Nat → Nat) (w : SW) (a1 : Int32) (z : Int32) (hE : mp_E k s) (hP : va_P (kD k) mp_cls (cW k ad w) s.heap) (hD : va_D (mp_N k) (cW k ad w)) (h : fW_isThread w a1 = some z) (ls : Array Slot) (hl : lv_has ls 2 [(0, .ref (ad 0)), (1, .int a1)]) : W p l e rmW_isThread s m args below meth c s.heap [] 0 0 (MQ below (mp_Qs (some (.int z))) args s 0 0 (fun _ => False)) (F0 m 0 ls []) := by
  obtain ⟨hx, hb, -, hml, hown, hts, -⟩ := id cx
  unfold fW_isThread at h
  refine lv_iload_n hx hb dW_isThread_0 rfl (lv_at hl 1 rfl) ?_
  refine lv_if_lt (tgt := 16) hx hb dW_isThread_1 (by decide) (fun c1 => ?_) (fun c1 => ?_)
  · have h := mp_t c1 h
    refine lv_iconst (v := 0) hx hb dW_isThread_16 (by decide) ?_
    exact mp_rz cx rfl h dW_isThread_17
  · have h := mp_f c1 h
    refine lv_iload_n hx hb dW_isThread_4 rfl (lv_at hl 1 rfl) ?_
    refine lv_aload_n hx hb dW_isThread_5 rfl (lv_at hl 0 rfl) ?_
    refine mp_gW cx hE hP iW 0 rfl 6 (by decide) wq_62 rfl (v := .int w.2.2.2.2.2.2.1) rfl dW_isThread_6 ?_
    refine lv_icmp_ge (tgt := 16) hx hb dW_isThread_9 (by decide) (fun c2 => ?_) (fun c2 => ?_)
    · have h := mp_t c2 h
      refine lv_iconst (v := 0) hx hb dW_isThread_16 (by decide) ?_
      exact mp_rz cx rfl h dW_isThread_17
    · have h := mp_f c2 h
      refine lv_iconst (v := 1) hx hb dW_isThread_12 (by decide) ?_
      refine lv_goto (tgt := 17) hx hb dW_isThread_13 (by decide) ?_
      exact mp_rz cx rfl h dW_isThread_17
theorem cW_isThread (l : Launch) (k : KK) (ad : Nat → Nat) (w : SW) (a1 : Int32) (z : Int32) (h : fW_isThread w a1 = some z) : mp_CS l k yW_isThread bW_isThread 2 (some .boolean) rmW_isThread [.ref (ad 0), .int a1] (cW k ad w) (some (.int z)) := by
  refine Met.ofW (cc := bW_isThread) (maxL := 2) (ret := (some .boolean)) (by decide) rfl ?_
  intro p e s m args below meth c s₁ B hml hv
  obtain ⟨rfl, hP, hD, hE⟩ := hv
  have hl := lv_entry ([.ref (ad 0), .int a1]) (n := 2) (Nat.le_of_ble_eq_true rfl)
  rw [lg_entry_eq]
  generalize (lg_sl ([.ref (ad 0), .int a1]) ++ List.replicate (2 - (lg_sl ([.ref (ad 0), .int a1])).length) Slot.unset).toArray = ls at hl ⊢
  exact wW_isThread (mp_C.of B hml) k ad w a1 z hE hP hD h ls hl
-- MovingPlaces$World.addThread
abbrev rmW_addThread : Room := { frames := 0, cells := 0, slots := 0, locals := 0 }
def fW_addThread (w : SW) (a1 : Int32) (a2 : Int64) (a4 : Int32) : Option (Int32 × SW) := (if w.2.2.2.2.2.2.1 < 12 then mp_st 12 w.2.2.2.2.2.2.1 (mp_st 12 w.2.2.2.2.2.2.1 (mp_st 12 w.2.2.2.2.2.2.1 (mp_st 12 w.2.2.2.2.2.2.1 (mp_st 12 w.2.2.2.2.2.2.1 (some (w.2.2.2.2.2.2.1, (w.1, w.2.1, w.2.2.1, w.2.2.2.1, w.2.2.2.2.1, w.2.2.2.2.2.1, (w.2.2.2.2.2.2.1 + 1), (upd w.2.2.2.2.2.2.2.1 (Int32.toNatClampNeg w.2.2.2.2.2.2.1) a1), (vp_updL w.2.2.2.2.2.2.2.2.1 (Int32.toNatClampNeg w.2.2.2.2.2.2.1) a2), (upd w.2.2.2.2.2.2.2.2.2.1 (Int32.toNatClampNeg w.2.2.2.2.2.2.1) a4), (upd w.2.2.2.2.2.2.2.2.2.2.1 (Int32.toNatClampNeg w.2.2.2.2.2.2.1) 0), (upd w.2.2.2.2.2.2.2.2.2.2.2 (Int32.toNatClampNeg w.2.2.2.2.2.2.1) (-9))))))))) else some ((-4), w))
set_option maxHeartbeats 4000000 in
set_option maxRecDepth 100000 in
theorem wW_addThread {p : Program} {l : Launch} {e : Env} {s : State} {m : MethodId} {args : Array Value} {below : List Frame} {meth : Method} {c : Code} (cx : mp_C p s m args meth c bW_addThread 6 (some .int) rW) (k : KK) (ad : Nat → Nat) (w : SW) (a1 : Int32) (a2 : Int64) (a4 : Int32) (z : (Int32 × SW)) (hE : mp_E k s) (hAN : ∀ q, mp_A (aW ad) q → mp_N k q) {H : Heap} {locs : List Loc} (hP : va_P (kD k) mp_cls (cW k ad w) H) (hD : va_D (mp_A (aW ad)) (cW k ad w)) (hS : va_S (mp_A (aW ad)) s.heap H locs) (h : fW_addThread w a1 a2 a4 = some z) (ls : Array Slot) (hl : lv_has ls 6 [(0, .ref (ad 0)), (1, .int a1), (2, .long a2), (4, .int a4)]) : W p l e rmW_addThread s m args below meth c H locs 0 0 (MQ below (mp_Qm k (some (.int z.1)) (cW k ad z.2) (aW ad)) args s 0 0 (mp_A (aW ad))) (F0 m 0 ls []) := by
  obtain ⟨hx, hb, -, hml, hown, hts, -⟩ := id cx
  unfold fW_addThread at h
  refine lv_aload_n hx hb dW_addThread_0 rfl (lv_at hl 0 rfl) ?_
  refine mp_gW cx hE hP iW 0 rfl 6 (by decide) wq_62 rfl (v := .int w.2.2.2.2.2.2.1) rfl dW_addThread_1 ?_
  refine lv_bipush (v := 12) hx hb dW_addThread_4 (by decide) ?_
  refine lv_icmp_lt (tgt := 12) hx hb dW_addThread_6 (by decide) (fun c1 => ?_) (fun c1 => ?_)
  · have h := mp_t c1 h
    refine lv_aload_n hx hb dW_addThread_12 rfl (lv_at hl 0 rfl) ?_
    refine mp_gW cx hE hP iW 0 rfl 6 (by decide) wq_62 rfl (v := .int w.2.2.2.2.2.2.1) rfl dW_addThread_13 ?_
    refine lv_istore (lv' := [(5, .int w.2.2.2.2.2.2.1), (0, .ref (ad 0)), (1, .int a1), (2, .long a2), (4, .int a4)]) hx hb dW_addThread_16 hl (by decide) rfl (fun ls hl => ?_)
    refine lv_aload_n hx hb dW_addThread_18 rfl (lv_at hl 1 rfl) ?_
    refine lv_iload hx hb dW_addThread_19 (lv_at hl 0 rfl) ?_
    refine lv_iconst (v := 1) hx hb dW_addThread_21 (by decide) ?_
    refine lv_iadd hx hb dW_addThread_22 ?_
    refine va_put (D := kD k) (ci := 0) (v := .int (w.2.2.2.2.2.2.1 + 1)) (ty := .int) (C := rW) (T := tW) (N := 12) hx hb hts iW gW gW_ok nW hown hE.1 hP hD hS 0 rfl rfl 6 (by decide) (hts _ wq_62) (fun _ h9 => h9) rfl (by decide +kernel) rfl rfl (Nat.le_of_ble_eq_true rfl) dW_addThread_23 (fun H locs hP hD hS => ?_)
    have hP : va_P (kD k) mp_cls (cW k ad (w.1, w.2.1, w.2.2.1, w.2.2.2.1, w.2.2.2.2.1, w.2.2.2.2.2.1, (w.2.2.2.2.2.2.1 + 1), w.2.2.2.2.2.2.2.1, w.2.2.2.2.2.2.2.2.1, w.2.2.2.2.2.2.2.2.2.1, w.2.2.2.2.2.2.2.2.2.2.1, w.2.2.2.2.2.2.2.2.2.2.2)) H := hP
    have hD : va_D (mp_A (aW ad)) (cW k ad (w.1, w.2.1, w.2.2.1, w.2.2.2.1, w.2.2.2.2.1, w.2.2.2.2.2.1, (w.2.2.2.2.2.2.1 + 1), w.2.2.2.2.2.2.2.1, w.2.2.2.2.2.2.2.2.1, w.2.2.2.2.2.2.2.2.2.1, w.2.2.2.2.2.2.2.2.2.2.1, w.2.2.2.2.2.2.2.2.2.2.2)) := hD
    refine lv_aload_n hx hb dW_addThread_26 rfl (lv_at hl 1 rfl) ?_
    refine mp_gW cx hE hP iW 0 rfl 7 (by decide) wq_63 rfl (v := .ref (ad 4)) rfl dW_addThread_27 ?_
    refine lv_iload hx hb dW_addThread_30 (lv_at hl 0 rfl) ?_
    refine lv_iload_n hx hb dW_addThread_32 rfl (lv_at hl 2 rfl) ?_
    obtain ⟨hi, h⟩ := mp_sts h
    refine va_iast hx hb hE.1 hP hD hS 4 0 (f := w.2.2.2.2.2.2.2.1) (n := 12) rfl rfl hi dW_addThread_33 (fun H locs hP hD hS => ?_)
    have hP : va_P (kD k) mp_cls (cW k ad (w.1, w.2.1, w.2.2.1, w.2.2.2.1, w.2.2.2.2.1, w.2.2.2.2.2.1, (w.2.2.2.2.2.2.1 + 1), (upd w.2.2.2.2.2.2.2.1 (Int32.toNatClampNeg w.2.2.2.2.2.2.1) a1), w.2.2.2.2.2.2.2.2.1, w.2.2.2.2.2.2.2.2.2.1, w.2.2.2.2.2.2.2.2.2.2.1, w.2.2.2.2.2.2.2.2.2.2.2)) H := hP
    have hD : va_D (mp_A (aW ad)) (cW k ad (w.1, w.2.1, w.2.2.1, w.2.2.2.1, w.2.2.2.2.1, w.2.2.2.2.2.1, (w.2.2.2.2.2.2.1 + 1), (upd w.2.2.2.2.2.2.2.1 (Int32.toNatClampNeg w.2.2.2.2.2.2.1) a1), w.2.2.2.2.2.2.2.2.1, w.2.2.2.2.2.2.2.2.2.1, w.2.2.2.2.2.2.2.2.2.2.1, w.2.2.2.2.2.2.2.2.2.2.2)) := hD
    refine lv_aload_n hx hb dW_addThread_34 rfl (lv_at hl 1 rfl) ?_
    refine mp_gW cx hE hP iW 0 rfl 8 (by decide) wq_64 rfl (v := .ref (ad 5)) rfl dW_addThread_35 ?_
    refine lv_iload hx hb dW_addThread_38 (lv_at hl 0 rfl) ?_
    refine lv_lload_n hx hb dW_addThread_40 rfl (lv_at hl 3 rfl) ?_
    obtain ⟨hi, h⟩ := mp_sts h
    refine va_last hx hb hE.1 hP hD hS 5 1 (f := w.2.2.2.2.2.2.2.2.1) (n := 12) rfl rfl hi dW_addThread_41 (fun H locs hP hD hS => ?_)
    have hP : va_P (kD k) mp_cls (cW k ad (w.1, w.2.1, w.2.2.1, w.2.2.2.1, w.2.2.2.2.1, w.2.2.2.2.2.1, (w.2.2.2.2.2.2.1 + 1), (upd w.2.2.2.2.2.2.2.1 (Int32.toNatClampNeg w.2.2.2.2.2.2.1) a1), (vp_updL w.2.2.2.2.2.2.2.2.1 (Int32.toNatClampNeg w.2.2.2.2.2.2.1) a2), w.2.2.2.2.2.2.2.2.2.1, w.2.2.2.2.2.2.2.2.2.2.1, w.2.2.2.2.2.2.2.2.2.2.2)) H := hP
    have hD : va_D (mp_A (aW ad)) (cW k ad (w.1, w.2.1, w.2.2.1, w.2.2.2.1, w.2.2.2.2.1, w.2.2.2.2.2.1, (w.2.2.2.2.2.2.1 + 1), (upd w.2.2.2.2.2.2.2.1 (Int32.toNatClampNeg w.2.2.2.2.2.2.1) a1), (vp_updL w.2.2.2.2.2.2.2.2.1 (Int32.toNatClampNeg w.2.2.2.2.2.2.1) a2), w.2.2.2.2.2.2.2.2.2.1, w.2.2.2.2.2.2.2.2.2.2.1, w.2.2.2.2.2.2.2.2.2.2.2)) := hD
    refine lv_aload_n hx hb dW_addThread_42 rfl (lv_at hl 1 rfl) ?_
    refine mp_gW cx hE hP iW 0 rfl 9 (by decide) wq_65 rfl (v := .ref (ad 6)) rfl dW_addThread_43 ?_
    refine lv_iload hx hb dW_addThread_46 (lv_at hl 0 rfl) ?_
    refine lv_iload hx hb dW_addThread_48 (lv_at hl 4 rfl) ?_
    obtain ⟨hi, h⟩ := mp_sts h
    refine va_iast hx hb hE.1 hP hD hS 6 0 (f := w.2.2.2.2.2.2.2.2.2.1) (n := 12) rfl rfl hi dW_addThread_50 (fun H locs hP hD hS => ?_)
    have hP : va_P (kD k) mp_cls (cW k ad (w.1, w.2.1, w.2.2.1, w.2.2.2.1, w.2.2.2.2.1, w.2.2.2.2.2.1, (w.2.2.2.2.2.2.1 + 1), (upd w.2.2.2.2.2.2.2.1 (Int32.toNatClampNeg w.2.2.2.2.2.2.1) a1), (vp_updL w.2.2.2.2.2.2.2.2.1 (Int32.toNatClampNeg w.2.2.2.2.2.2.1) a2), (upd w.2.2.2.2.2.2.2.2.2.1 (Int32.toNatClampNeg w.2.2.2.2.2.2.1) a4), w.2.2.2.2.2.2.2.2.2.2.1, w.2.2.2.2.2.2.2.2.2.2.2)) H := hP
    have hD : va_D (mp_A (aW ad)) (cW k ad (w.1, w.2.1, w.2.2.1, w.2.2.2.1, w.2.2.2.2.1, w.2.2.2.2.2.1, (w.2.2.2.2.2.2.1 + 1), (upd w.2.2.2.2.2.2.2.1 (Int32.toNatClampNeg w.2.2.2.2.2.2.1) a1), (vp_updL w.2.2.2.2.2.2.2.2.1 (Int32.toNatClampNeg w.2.2.2.2.2.2.1) a2), (upd w.2.2.2.2.2.2.2.2.2.1 (Int32.toNatClampNeg w.2.2.2.2.2.2.1) a4), w.2.2.2.2.2.2.2.2.2.2.1, w.2.2.2.2.2.2.2.2.2.2.2)) := hD
    refine lv_aload_n hx hb dW_addThread_51 rfl (lv_at hl 1 rfl) ?_
    refine mp_gW cx hE hP iW 0 rfl 10 (by decide) wq_66 rfl (v := .ref (ad 7)) rfl dW_addThread_52 ?_
    refine lv_iload hx hb dW_addThread_55 (lv_at hl 0 rfl) ?_
    refine lv_iconst (v := 0) hx hb dW_addThread_57 (by decide) ?_
    obtain ⟨hi, h⟩ := mp_sts h
    refine va_iast hx hb hE.1 hP hD hS 7 0 (f := w.2.2.2.2.2.2.2.2.2.2.1) (n := 12) rfl rfl hi dW_addThread_58 (fun H locs hP hD hS => ?_)
    have hP : va_P (kD k) mp_cls (cW k ad (w.1, w.2.1, w.2.2.1, w.2.2.2.1, w.2.2.2.2.1, w.2.2.2.2.2.1, (w.2.2.2.2.2.2.1 + 1), (upd w.2.2.2.2.2.2.2.1 (Int32.toNatClampNeg w.2.2.2.2.2.2.1) a1), (vp_updL w.2.2.2.2.2.2.2.2.1 (Int32.toNatClampNeg w.2.2.2.2.2.2.1) a2), (upd w.2.2.2.2.2.2.2.2.2.1 (Int32.toNatClampNeg w.2.2.2.2.2.2.1) a4), (upd w.2.2.2.2.2.2.2.2.2.2.1 (Int32.toNatClampNeg w.2.2.2.2.2.2.1) 0), w.2.2.2.2.2.2.2.2.2.2.2)) H := hP
    have hD : va_D (mp_A (aW ad)) (cW k ad (w.1, w.2.1, w.2.2.1, w.2.2.2.1, w.2.2.2.2.1, w.2.2.2.2.2.1, (w.2.2.2.2.2.2.1 + 1), (upd w.2.2.2.2.2.2.2.1 (Int32.toNatClampNeg w.2.2.2.2.2.2.1) a1), (vp_updL w.2.2.2.2.2.2.2.2.1 (Int32.toNatClampNeg w.2.2.2.2.2.2.1) a2), (upd w.2.2.2.2.2.2.2.2.2.1 (Int32.toNatClampNeg w.2.2.2.2.2.2.1) a4), (upd w.2.2.2.2.2.2.2.2.2.2.1 (Int32.toNatClampNeg w.2.2.2.2.2.2.1) 0), w.2.2.2.2.2.2.2.2.2.2.2)) := hD
    refine lv_aload_n hx hb dW_addThread_59 rfl (lv_at hl 1 rfl) ?_
    refine mp_gW cx hE hP iW 0 rfl 11 (by decide) wq_67 rfl (v := .ref (ad 8)) rfl dW_addThread_60 ?_
    refine lv_iload hx hb dW_addThread_63 (lv_at hl 0 rfl) ?_
    refine lv_bipush (v := (-9)) hx hb dW_addThread_65 (by decide) ?_
    obtain ⟨hi, h⟩ := mp_sts h
    refine va_iast hx hb hE.1 hP hD hS 8 0 (f := w.2.2.2.2.2.2.2.2.2.2.2) (n := 12) rfl rfl hi dW_addThread_67 (fun H locs hP hD hS => ?_)
    have hP : va_P (kD k) mp_cls (cW k ad (w.1, w.2.1, w.2.2.1, w.2.2.2.1, w.2.2.2.2.1, w.2.2.2.2.2.1, (w.2.2.2.2.2.2.1 + 1), (upd w.2.2.2.2.2.2.2.1 (Int32.toNatClampNeg w.2.2.2.2.2.2.1) a1), (vp_updL w.2.2.2.2.2.2.2.2.1 (Int32.toNatClampNeg w.2.2.2.2.2.2.1) a2), (upd w.2.2.2.2.2.2.2.2.2.1 (Int32.toNatClampNeg w.2.2.2.2.2.2.1) a4), (upd w.2.2.2.2.2.2.2.2.2.2.1 (Int32.toNatClampNeg w.2.2.2.2.2.2.1) 0), (upd w.2.2.2.2.2.2.2.2.2.2.2 (Int32.toNatClampNeg w.2.2.2.2.2.2.1) (-9)))) H := hP
    have hD : va_D (mp_A (aW ad)) (cW k ad (w.1, w.2.1, w.2.2.1, w.2.2.2.1, w.2.2.2.2.1, w.2.2.2.2.2.1, (w.2.2.2.2.2.2.1 + 1), (upd w.2.2.2.2.2.2.2.1 (Int32.toNatClampNeg w.2.2.2.2.2.2.1) a1), (vp_updL w.2.2.2.2.2.2.2.2.1 (Int32.toNatClampNeg w.2.2.2.2.2.2.1) a2), (upd w.2.2.2.2.2.2.2.2.2.1 (Int32.toNatClampNeg w.2.2.2.2.2.2.1) a4), (upd w.2.2.2.2.2.2.2.2.2.2.1 (Int32.toNatClampNeg w.2.2.2.2.2.2.1) 0), (upd w.2.2.2.2.2.2.2.2.2.2.2 (Int32.toNatClampNeg w.2.2.2.2.2.2.1) (-9)))) := hD
    refine lv_iload hx hb dW_addThread_68 (lv_at hl 0 rfl) ?_
    exact mp_rim (cf := cW k ad) cx h hP hS dW_addThread_70
  · have h := mp_f c1 h
    refine lv_bipush (v := (-4)) hx hb dW_addThread_9 (by decide) ?_
    exact mp_rim (cf := cW k ad) cx h hP hS dW_addThread_11
theorem cW_addThread (l : Launch) (k : KK) (ad : Nat → Nat) (w : SW) (a1 : Int32) (a2 : Int64) (a4 : Int32) (z : (Int32 × SW)) (h : fW_addThread w a1 a2 a4 = some z) : mp_CM l k yW_addThread bW_addThread 6 (some .int) rmW_addThread [.ref (ad 0), .int a1, .long a2, .int a4] (cW k ad w) (cW k ad z.2) (aW ad) (some (.int z.1)) := by
  refine Met.ofW (cc := bW_addThread) (maxL := 6) (ret := (some .int)) (by decide) rfl ?_
  intro p e s m args below meth c s₁ B hml hv
  obtain ⟨rfl, hP, hD, hE⟩ := hv
  have hl := lv_entry ([.ref (ad 0), .int a1, .long a2, .int a4]) (n := 6) (Nat.le_of_ble_eq_true rfl)
  rw [lg_entry_eq]
  generalize (lg_sl ([.ref (ad 0), .int a1, .long a2, .int a4]) ++ List.replicate (6 - (lg_sl ([.ref (ad 0), .int a1, .long a2, .int a4])).length) Slot.unset).toArray = ls at hl ⊢
  exact wW_addThread (mp_C.of B hml) k ad w a1 a2 a4 z hE (mp_new hD rfl) hP (mp_own hD rfl) va_S.rf h ls hl
-- MovingPlaces$World.placeOfThread
abbrev rmW_placeOfThread : Room := { frames := 1, cells := 0, slots := 0, locals := 21 }
def fW_placeOfThread (w : SW) (a1 : Int32) : Option Int32 := (fW_isThread w a1).bind fun x1 => (if x1 = 0 then some (-9) else mp_ld w.2.2.2.2.2.2.2.1 12 a1 fun x3 => some x3)
set_option maxHeartbeats 4000000 in
set_option maxRecDepth 100000 in
theorem wW_placeOfThread {p : Program} {l : Launch} {e : Env} {s : State} {m : MethodId} {args : Array Value} {below : List Frame} {meth : Method} {c : Code} (cx : mp_C p s m args meth c bW_placeOfThread 2 (some .int) rW) (k : KK) (ad : Nat → Nat) (w : SW) (a1 : Int32) (z : Int32) (hE : mp_E k s) (hP : va_P (kD k) mp_cls (cW k ad w) s.heap) (hD : va_D (mp_N k) (cW k ad w)) (h : fW_placeOfThread w a1 = some z) (ls : Array Slot) (hl : lv_has ls 2 [(0, .ref (ad 0)), (1, .int a1)]) : W p l e rmW_placeOfThread s m args below meth c s.heap [] 0 0 (MQ below (mp_Qs (some (.int z))) args s 0 0 (fun _ => False)) (F0 m 0 ls []) := by
  obtain ⟨hx, hb, -, hml, hown, hts, -⟩ := id cx
  unfold fW_placeOfThread at h
  refine lv_aload_n hx hb dW_placeOfThread_0 rfl (lv_at hl 0 rfl) ?_
  refine lv_iload_n hx hb dW_placeOfThread_1 rfl (lv_at hl 1 rfl) ?_
  obtain ⟨x1, ex1, h⟩ := mp_bs h
  refine mp_si (mp_runV (As := [.int a1]) (rest := []) cx kV_W_76 (cW_isThread l k ad w a1 x1 ex1) ⟨rfl, rfl, Nat.le_of_ble_eq_true rfl, Nat.le_of_ble_eq_true rfl⟩ ⟨Nat.zero_le _, Nat.zero_le _⟩ hE hP hD va_S.rf 0 rfl rfl rfl hl.1 rfl (Nat.le_of_ble_eq_true rfl) dW_placeOfThread_2) ?_
  refine lv_if_eq (tgt := 17) hx hb dW_placeOfThread_5 (by decide) (fun c2 => ?_) (fun c2 => ?_)
  · have h := mp_t c2 h
    refine lv_bipush (v := (-9)) hx hb dW_placeOfThread_17 (by decide) ?_
    exact mp_ri cx h dW_placeOfThread_19
  · have h := mp_f c2 h
    refine lv_aload_n hx hb dW_placeOfThread_8 rfl (lv_at hl 0 rfl) ?_
    refine mp_gW cx hE hP iW 0 rfl 7 (by decide) wq_63 rfl (v := .ref (ad 4)) rfl dW_placeOfThread_9 ?_
    refine lv_iload_n hx hb dW_placeOfThread_12 rfl (lv_at hl 1 rfl) ?_
    obtain ⟨hi, x3, ex3, h⟩ := mp_lds h
    refine va_iald hx hb hE.1 hP 4 0 (f := w.2.2.2.2.2.2.2.1) (n := 12) rfl rfl hi dW_placeOfThread_13 ?_
    refine mp_top ex3 ?_
    refine lv_goto (tgt := 19) hx hb dW_placeOfThread_14 (by decide) ?_
    exact mp_ri cx h dW_placeOfThread_19
theorem cW_placeOfThread (l : Launch) (k : KK) (ad : Nat → Nat) (w : SW) (a1 : Int32) (z : Int32) (h : fW_placeOfThread w a1 = some z) : mp_CS l k yW_placeOfThread bW_placeOfThread 2 (some .int) rmW_placeOfThread [.ref (ad 0), .int a1] (cW k ad w) (some (.int z)) := by
  refine Met.ofW (cc := bW_placeOfThread) (maxL := 2) (ret := (some .int)) (by decide) rfl ?_
  intro p e s m args below meth c s₁ B hml hv
  obtain ⟨rfl, hP, hD, hE⟩ := hv
  have hl := lv_entry ([.ref (ad 0), .int a1]) (n := 2) (Nat.le_of_ble_eq_true rfl)
  rw [lg_entry_eq]
  generalize (lg_sl ([.ref (ad 0), .int a1]) ++ List.replicate (2 - (lg_sl ([.ref (ad 0), .int a1])).length) Slot.unset).toArray = ls at hl ⊢
  exact wW_placeOfThread (mp_C.of B hml) k ad w a1 z hE hP hD h ls hl
-- MovingPlaces$World.actsDone
abbrev rmW_actsDone : Room := { frames := 1, cells := 0, slots := 0, locals := 21 }
def fW_actsDone (w : SW) (a1 : Int32) : Option Int32 := (fW_isThread w a1).bind fun x1 => (if x1 = 0 then some 0 else mp_ld w.2.2.2.2.2.2.2.2.2.2.1 12 a1 fun x3 => some x3)
set_option maxHeartbeats 4000000 in
set_option maxRecDepth 100000 in
theorem wW_actsDone {p : Program} {l : Launch} {e : Env} {s : State} {m : MethodId} {args : Array Value} {below : List Frame} {meth : Method} {c : Code} (cx : mp_C p s m args meth c bW_actsDone 2 (some .int) rW) (k : KK) (ad : Nat → Nat) (w : SW) (a1 : Int32) (z : Int32) (hE : mp_E k s) (hP : va_P (kD k) mp_cls (cW k ad w) s.heap) (hD : va_D (mp_N k) (cW k ad w)) (h : fW_actsDone w a1 = some z) (ls : Array Slot) (hl : lv_has ls 2 [(0, .ref (ad 0)), (1, .int a1)]) : W p l e rmW_actsDone s m args below meth c s.heap [] 0 0 (MQ below (mp_Qs (some (.int z))) args s 0 0 (fun _ => False)) (F0 m 0 ls []) := by
  obtain ⟨hx, hb, -, hml, hown, hts, -⟩ := id cx
  unfold fW_actsDone at h
  refine lv_aload_n hx hb dW_actsDone_0 rfl (lv_at hl 0 rfl) ?_
  refine lv_iload_n hx hb dW_actsDone_1 rfl (lv_at hl 1 rfl) ?_
  obtain ⟨x1, ex1, h⟩ := mp_bs h
  refine mp_si (mp_runV (As := [.int a1]) (rest := []) cx kV_W_76 (cW_isThread l k ad w a1 x1 ex1) ⟨rfl, rfl, Nat.le_of_ble_eq_true rfl, Nat.le_of_ble_eq_true rfl⟩ ⟨Nat.zero_le _, Nat.zero_le _⟩ hE hP hD va_S.rf 0 rfl rfl rfl hl.1 rfl (Nat.le_of_ble_eq_true rfl) dW_actsDone_2) ?_
  refine lv_if_eq (tgt := 17) hx hb dW_actsDone_5 (by decide) (fun c2 => ?_) (fun c2 => ?_)
  · have h := mp_t c2 h
    refine lv_iconst (v := 0) hx hb dW_actsDone_17 (by decide) ?_
    exact mp_ri cx h dW_actsDone_18
  · have h := mp_f c2 h
    refine lv_aload_n hx hb dW_actsDone_8 rfl (lv_at hl 0 rfl) ?_
    refine mp_gW cx hE hP iW 0 rfl 10 (by decide) wq_66 rfl (v := .ref (ad 7)) rfl dW_actsDone_9 ?_
    refine lv_iload_n hx hb dW_actsDone_12 rfl (lv_at hl 1 rfl) ?_
    obtain ⟨hi, x3, ex3, h⟩ := mp_lds h
    refine va_iald hx hb hE.1 hP 7 0 (f := w.2.2.2.2.2.2.2.2.2.2.1) (n := 12) rfl rfl hi dW_actsDone_13 ?_
    refine mp_top ex3 ?_
    refine lv_goto (tgt := 18) hx hb dW_actsDone_14 (by decide) ?_
    exact mp_ri cx h dW_actsDone_18
theorem cW_actsDone (l : Launch) (k : KK) (ad : Nat → Nat) (w : SW) (a1 : Int32) (z : Int32) (h : fW_actsDone w a1 = some z) : mp_CS l k yW_actsDone bW_actsDone 2 (some .int) rmW_actsDone [.ref (ad 0), .int a1] (cW k ad w) (some (.int z)) := by
  refine Met.ofW (cc := bW_actsDone) (maxL := 2) (ret := (some .int)) (by decide) rfl ?_
  intro p e s m args below meth c s₁ B hml hv
  obtain ⟨rfl, hP, hD, hE⟩ := hv
  have hl := lv_entry ([.ref (ad 0), .int a1]) (n := 2) (Nat.le_of_ble_eq_true rfl)
  rw [lg_entry_eq]
  generalize (lg_sl ([.ref (ad 0), .int a1]) ++ List.replicate (2 - (lg_sl ([.ref (ad 0), .int a1])).length) Slot.unset).toArray = ls at hl ⊢
  exact wW_actsDone (mp_C.of B hml) k ad w a1 z hE hP hD h ls hl
-- MovingPlaces$World.actsInAll
abbrev rmW_actsInAll : Room := { frames := 1, cells := 0, slots := 0, locals := 21 }
def fW_actsInAll (w : SW) (a1 : Int32) : Option Int32 := (fW_isThread w a1).bind fun x1 => (if x1 = 0 then some 0 else mp_ld w.2.2.2.2.2.2.2.2.2.1 12 a1 fun x3 => some x3)
set_option maxHeartbeats 4000000 in
set_option maxRecDepth 100000 in
theorem wW_actsInAll {p : Program} {l : Launch} {e : Env} {s : State} {m : MethodId} {args : Array Value} {below : List Frame} {meth : Method} {c : Code} (cx : mp_C p s m args meth c bW_actsInAll 2 (some .int) rW) (k : KK) (ad : Nat → Nat) (w : SW) (a1 : Int32) (z : Int32) (hE : mp_E k s) (hP : va_P (kD k) mp_cls (cW k ad w) s.heap) (hD : va_D (mp_N k) (cW k ad w)) (h : fW_actsInAll w a1 = some z) (ls : Array Slot) (hl : lv_has ls 2 [(0, .ref (ad 0)), (1, .int a1)]) : W p l e rmW_actsInAll s m args below meth c s.heap [] 0 0 (MQ below (mp_Qs (some (.int z))) args s 0 0 (fun _ => False)) (F0 m 0 ls []) := by
  obtain ⟨hx, hb, -, hml, hown, hts, -⟩ := id cx
  unfold fW_actsInAll at h
  refine lv_aload_n hx hb dW_actsInAll_0 rfl (lv_at hl 0 rfl) ?_
  refine lv_iload_n hx hb dW_actsInAll_1 rfl (lv_at hl 1 rfl) ?_
  obtain ⟨x1, ex1, h⟩ := mp_bs h
  refine mp_si (mp_runV (As := [.int a1]) (rest := []) cx kV_W_76 (cW_isThread l k ad w a1 x1 ex1) ⟨rfl, rfl, Nat.le_of_ble_eq_true rfl, Nat.le_of_ble_eq_true rfl⟩ ⟨Nat.zero_le _, Nat.zero_le _⟩ hE hP hD va_S.rf 0 rfl rfl rfl hl.1 rfl (Nat.le_of_ble_eq_true rfl) dW_actsInAll_2) ?_
  refine lv_if_eq (tgt := 17) hx hb dW_actsInAll_5 (by decide) (fun c2 => ?_) (fun c2 => ?_)
  · have h := mp_t c2 h
    refine lv_iconst (v := 0) hx hb dW_actsInAll_17 (by decide) ?_
    exact mp_ri cx h dW_actsInAll_18
  · have h := mp_f c2 h
    refine lv_aload_n hx hb dW_actsInAll_8 rfl (lv_at hl 0 rfl) ?_
    refine mp_gW cx hE hP iW 0 rfl 9 (by decide) wq_65 rfl (v := .ref (ad 6)) rfl dW_actsInAll_9 ?_
    refine lv_iload_n hx hb dW_actsInAll_12 rfl (lv_at hl 1 rfl) ?_
    obtain ⟨hi, x3, ex3, h⟩ := mp_lds h
    refine va_iald hx hb hE.1 hP 6 0 (f := w.2.2.2.2.2.2.2.2.2.1) (n := 12) rfl rfl hi dW_actsInAll_13 ?_
    refine mp_top ex3 ?_
    refine lv_goto (tgt := 18) hx hb dW_actsInAll_14 (by decide) ?_
    exact mp_ri cx h dW_actsInAll_18
theorem cW_actsInAll (l : Launch) (k : KK) (ad : Nat → Nat) (w : SW) (a1 : Int32) (z : Int32) (h : fW_actsInAll w a1 = some z) : mp_CS l k yW_actsInAll bW_actsInAll 2 (some .int) rmW_actsInAll [.ref (ad 0), .int a1] (cW k ad w) (some (.int z)) := by
  refine Met.ofW (cc := bW_actsInAll) (maxL := 2) (ret := (some .int)) (by decide) rfl ?_
  intro p e s m args below meth c s₁ B hml hv
  obtain ⟨rfl, hP, hD, hE⟩ := hv
  have hl := lv_entry ([.ref (ad 0), .int a1]) (n := 2) (Nat.le_of_ble_eq_true rfl)
  rw [lg_entry_eq]
  generalize (lg_sl ([.ref (ad 0), .int a1]) ++ List.replicate (2 - (lg_sl ([.ref (ad 0), .int a1])).length) Slot.unset).toArray = ls at hl ⊢
  exact wW_actsInAll (mp_C.of B hml) k ad w a1 z hE hP hD h ls hl
end
section
theorem dW_heardBy_0 : decode bW_heardBy 0 = .ok (.aload_n 0, 1) := by decide +kernel
theorem dW_heardBy_1 : decode bW_heardBy 1 = .ok (.iload_n 1, 1) := by decide +kernel
theorem dW_heardBy_2 : decode bW_heardBy 2 = .ok (.invokevirtual 76, 3) := by decide +kernel
theorem dW_heardBy_5 : decode bW_heardBy 5 = .ok (.ifCond .eq 12, 3) := by decide +kernel
theorem dW_heardBy_8 : decode bW_heardBy 8 = .ok (.aload_n 0, 1) := by decide +kernel
theorem dW_heardBy_9 : decode bW_heardBy 9 = .ok (.getfield 47, 3) := by decide +kernel
theorem dW_heardBy_12 : decode bW_heardBy 12 = .ok (.iload_n 1, 1) := by decide +kernel
theorem dW_heardBy_13 : decode bW_heardBy 13 = .ok (.iaload, 1) := by decide +kernel
theorem dW_heardBy_14 : decode bW_heardBy 14 = .ok (.goto 5, 3) := by decide +kernel
theorem dW_heardBy_17 : decode bW_heardBy 17 = .ok (.bipush (-9), 2) := by decide +kernel
theorem dW_heardBy_19 : decode bW_heardBy 19 = .ok (.ireturn, 1) := by decide +kernel
theorem dW_isOver_0 : decode bW_isOver 0 = .ok (.aload_n 0, 1) := by decide +kernel
theorem dW_isOver_1 : decode bW_isOver 1 = .ok (.iload_n 1, 1) := by decide +kernel
theorem dW_isOver_2 : decode bW_isOver 2 = .ok (.invokevirtual 79, 3) := by decide +kernel
theorem dW_isOver_5 : decode bW_isOver 5 = .ok (.aload_n 0, 1) := by decide +kernel
theorem dW_isOver_6 : decode bW_isOver 6 = .ok (.iload_n 1, 1) := by decide +kernel
theorem dW_isOver_7 : decode bW_isOver 7 = .ok (.invokevirtual 82, 3) := by decide +kernel
theorem dW_isOver_10 : decode bW_isOver 10 = .ok (.if_icmp .lt 7, 3) := by decide +kernel
theorem dW_isOver_13 : decode bW_isOver 13 = .ok (.iconst 1, 1) := by decide +kernel
theorem dW_isOver_14 : decode bW_isOver 14 = .ok (.goto 4, 3) := by decide +kernel
theorem dW_isOver_17 : decode bW_isOver 17 = .ok (.iconst 0, 1) := by decide +kernel
theorem dW_isOver_18 : decode bW_isOver 18 = .ok (.ireturn, 1) := by decide +kernel
theorem dW_actOf_0 : decode bW_actOf 0 = .ok (.aload_n 0, 1) := by decide +kernel
theorem dW_actOf_1 : decode bW_actOf 1 = .ok (.iload_n 1, 1) := by decide +kernel
theorem dW_actOf_2 : decode bW_actOf 2 = .ok (.invokevirtual 82, 3) := by decide +kernel
theorem dW_actOf_5 : decode bW_actOf 5 = .ok (.iconst 1, 1) := by decide +kernel
theorem dW_actOf_6 : decode bW_actOf 6 = .ok (.isub, 1) := by decide +kernel
theorem dW_actOf_7 : decode bW_actOf 7 = .ok (.iload_n 2, 1) := by decide +kernel
theorem dW_actOf_8 : decode bW_actOf 8 = .ok (.isub, 1) := by decide +kernel
theorem dW_actOf_9 : decode bW_actOf 9 = .ok (.istore_n 3, 1) := by decide +kernel
theorem dW_actOf_10 : decode bW_actOf 10 = .ok (.aload_n 0, 1) := by decide +kernel
theorem dW_actOf_11 : decode bW_actOf 11 = .ok (.iload_n 1, 1) := by decide +kernel
theorem dW_actOf_12 : decode bW_actOf 12 = .ok (.invokevirtual 76, 3) := by decide +kernel
theorem dW_actOf_15 : decode bW_actOf 15 = .ok (.ifCond .eq 15, 3) := by decide +kernel
theorem dW_actOf_18 : decode bW_actOf 18 = .ok (.iload_n 3, 1) := by decide +kernel
theorem dW_actOf_19 : decode bW_actOf 19 = .ok (.ifCond .lt 11, 3) := by decide +kernel
theorem dW_actOf_22 : decode bW_actOf 22 = .ok (.iload_n 3, 1) := by decide +kernel
theorem dW_actOf_23 : decode bW_actOf 23 = .ok (.getstatic 85, 3) := by decide +kernel
theorem dW_actOf_26 : decode bW_actOf 26 = .ok (.arraylength, 1) := by decide +kernel
theorem dW_actOf_27 : decode bW_actOf 27 = .ok (.if_icmp .lt 5, 3) := by decide +kernel
theorem dW_actOf_30 : decode bW_actOf 30 = .ok (.iconst 0, 1) := by decide +kernel
theorem dW_actOf_31 : decode bW_actOf 31 = .ok (.ireturn, 1) := by decide +kernel
theorem dW_actOf_32 : decode bW_actOf 32 = .ok (.aload_n 0, 1) := by decide +kernel
theorem dW_actOf_33 : decode bW_actOf 33 = .ok (.getfield 37, 3) := by decide +kernel
theorem dW_actOf_36 : decode bW_actOf 36 = .ok (.iload_n 1, 1) := by decide +kernel
theorem dW_actOf_37 : decode bW_actOf 37 = .ok (.laload, 1) := by decide +kernel
theorem dW_actOf_38 : decode bW_actOf 38 = .ok (.getstatic 85, 3) := by decide +kernel
theorem dW_actOf_41 : decode bW_actOf 41 = .ok (.iload_n 3, 1) := by decide +kernel
theorem dW_actOf_42 : decode bW_actOf 42 = .ok (.laload, 1) := by decide +kernel
theorem dW_actOf_43 : decode bW_actOf 43 = .ok (.ldiv, 1) := by decide +kernel
theorem dW_actOf_44 : decode bW_actOf 44 = .ok (.ldc2_w 88, 3) := by decide +kernel
theorem dW_actOf_47 : decode bW_actOf 47 = .ok (.lrem, 1) := by decide +kernel
theorem dW_actOf_48 : decode bW_actOf 48 = .ok (.l2i, 1) := by decide +kernel
theorem dW_actOf_49 : decode bW_actOf 49 = .ok (.ireturn, 1) := by decide +kernel
theorem dW_threadsInAll_0 : decode bW_threadsInAll 0 = .ok (.aload_n 0, 1) := by decide +kernel
theorem dW_threadsInAll_1 : decode bW_threadsInAll 1 = .ok (.getfield 31, 3) := by decide +kernel
theorem dW_threadsInAll_4 : decode bW_threadsInAll 4 = .ok (.ireturn, 1) := by decide +kernel
theorem dW_threadsOver_0 : decode bW_threadsOver 0 = .ok (.iconst 0, 1) := by decide +kernel
theorem dW_threadsOver_1 : decode bW_threadsOver 1 = .ok (.istore_n 1, 1) := by decide +kernel
theorem dW_threadsOver_2 : decode bW_threadsOver 2 = .ok (.iconst 0, 1) := by decide +kernel
theorem dW_threadsOver_3 : decode bW_threadsOver 3 = .ok (.istore_n 2, 1) := by decide +kernel
theorem dW_threadsOver_4 : decode bW_threadsOver 4 = .ok (.iload_n 2, 1) := by decide +kernel
theorem dW_threadsOver_5 : decode bW_threadsOver 5 = .ok (.aload_n 0, 1) := by decide +kernel
theorem dW_threadsOver_6 : decode bW_threadsOver 6 = .ok (.getfield 31, 3) := by decide +kernel
theorem dW_threadsOver_9 : decode bW_threadsOver 9 = .ok (.if_icmp .ge 20, 3) := by decide +kernel
theorem dW_threadsOver_12 : decode bW_threadsOver 12 = .ok (.aload_n 0, 1) := by decide +kernel
theorem dW_threadsOver_13 : decode bW_threadsOver 13 = .ok (.iload_n 2, 1) := by decide +kernel
theorem dW_threadsOver_14 : decode bW_threadsOver 14 = .ok (.invokevirtual 90, 3) := by decide +kernel
theorem dW_threadsOver_17 : decode bW_threadsOver 17 = .ok (.ifCond .eq 6, 3) := by decide +kernel
theorem dW_threadsOver_20 : decode bW_threadsOver 20 = .ok (.iinc 1 1, 3) := by decide +kernel
theorem dW_threadsOver_23 : decode bW_threadsOver 23 = .ok (.iinc 2 1, 3) := by decide +kernel
theorem dW_threadsOver_26 : decode bW_threadsOver 26 = .ok (.goto (-22), 3) := by decide +kernel
theorem dW_threadsOver_29 : decode bW_threadsOver 29 = .ok (.iload_n 1, 1) := by decide +kernel
theorem dW_threadsOver_30 : decode bW_threadsOver 30 = .ok (.ireturn, 1) := by decide +kernel
theorem dW_leastUnsealed_0 : decode bW_leastUnsealed 0 = .ok (.iconst 0, 1) := by decide +kernel
theorem dW_leastUnsealed_1 : decode bW_leastUnsealed 1 = .ok (.istore 4, 2) := by decide +kernel
theorem dW_leastUnsealed_3 : decode bW_leastUnsealed 3 = .ok (.iload 4, 2) := by decide +kernel
theorem dW_leastUnsealed_5 : decode bW_leastUnsealed 5 = .ok (.aload_n 0, 1) := by decide +kernel
theorem dW_leastUnsealed_6 : decode bW_leastUnsealed 6 = .ok (.getfield 9, 3) := by decide +kernel
theorem dW_leastUnsealed_9 : decode bW_leastUnsealed 9 = .ok (.if_icmp .ge 65, 3) := by decide +kernel
theorem dW_leastUnsealed_12 : decode bW_leastUnsealed 12 = .ok (.aload_n 0, 1) := by decide +kernel
theorem dW_leastUnsealed_13 : decode bW_leastUnsealed 13 = .ok (.getfield 18, 3) := by decide +kernel
theorem dW_leastUnsealed_16 : decode bW_leastUnsealed 16 = .ok (.iload 4, 2) := by decide +kernel
theorem dW_leastUnsealed_18 : decode bW_leastUnsealed 18 = .ok (.ishr, 1) := by decide +kernel
theorem dW_leastUnsealed_19 : decode bW_leastUnsealed 19 = .ok (.iconst 1, 1) := by decide +kernel
theorem dW_leastUnsealed_20 : decode bW_leastUnsealed 20 = .ok (.iand, 1) := by decide +kernel
theorem dW_leastUnsealed_21 : decode bW_leastUnsealed 21 = .ok (.iconst 1, 1) := by decide +kernel
theorem dW_leastUnsealed_22 : decode bW_leastUnsealed 22 = .ok (.if_icmp .ne 7, 3) := by decide +kernel
theorem dW_leastUnsealed_25 : decode bW_leastUnsealed 25 = .ok (.iconst 1, 1) := by decide +kernel
theorem dW_leastUnsealed_26 : decode bW_leastUnsealed 26 = .ok (.goto 4, 3) := by decide +kernel
theorem dW_leastUnsealed_29 : decode bW_leastUnsealed 29 = .ok (.iconst 0, 1) := by decide +kernel
theorem dW_leastUnsealed_30 : decode bW_leastUnsealed 30 = .ok (.istore 5, 2) := by decide +kernel
theorem dW_leastUnsealed_32 : decode bW_leastUnsealed 32 = .ok (.iload 4, 2) := by decide +kernel
theorem dW_leastUnsealed_34 : decode bW_leastUnsealed 34 = .ok (.iload_n 3, 1) := by decide +kernel
theorem dW_leastUnsealed_35 : decode bW_leastUnsealed 35 = .ok (.if_icmp .eq 33, 3) := by decide +kernel
theorem dW_leastUnsealed_38 : decode bW_leastUnsealed 38 = .ok (.aload_n 0, 1) := by decide +kernel
theorem dW_leastUnsealed_39 : decode bW_leastUnsealed 39 = .ok (.getfield 25, 3) := by decide +kernel
theorem dW_leastUnsealed_42 : decode bW_leastUnsealed 42 = .ok (.iload 4, 2) := by decide +kernel
theorem dW_leastUnsealed_44 : decode bW_leastUnsealed 44 = .ok (.iaload, 1) := by decide +kernel
theorem dW_leastUnsealed_45 : decode bW_leastUnsealed 45 = .ok (.iload_n 1, 1) := by decide +kernel
theorem dW_leastUnsealed_46 : decode bW_leastUnsealed 46 = .ok (.if_icmp .ne 22, 3) := by decide +kernel
theorem dW_leastUnsealed_49 : decode bW_leastUnsealed 49 = .ok (.aload_n 0, 1) := by decide +kernel
theorem dW_leastUnsealed_50 : decode bW_leastUnsealed 50 = .ok (.getfield 21, 3) := by decide +kernel
theorem dW_leastUnsealed_53 : decode bW_leastUnsealed 53 = .ok (.iload 4, 2) := by decide +kernel
theorem dW_leastUnsealed_55 : decode bW_leastUnsealed 55 = .ok (.iaload, 1) := by decide +kernel
theorem dW_leastUnsealed_56 : decode bW_leastUnsealed 56 = .ok (.iload_n 2, 1) := by decide +kernel
theorem dW_leastUnsealed_57 : decode bW_leastUnsealed 57 = .ok (.if_icmp .ne 11, 3) := by decide +kernel
theorem dW_leastUnsealed_60 : decode bW_leastUnsealed 60 = .ok (.iload 5, 2) := by decide +kernel
theorem dW_leastUnsealed_62 : decode bW_leastUnsealed 62 = .ok (.ifCond .ne 6, 3) := by decide +kernel
theorem dW_leastUnsealed_65 : decode bW_leastUnsealed 65 = .ok (.iload 4, 2) := by decide +kernel
theorem dW_leastUnsealed_67 : decode bW_leastUnsealed 67 = .ok (.ireturn, 1) := by decide +kernel
theorem dW_leastUnsealed_68 : decode bW_leastUnsealed 68 = .ok (.iinc 4 1, 3) := by decide +kernel
theorem dW_leastUnsealed_71 : decode bW_leastUnsealed 71 = .ok (.goto (-68), 3) := by decide +kernel
theorem dW_leastUnsealed_74 : decode bW_leastUnsealed 74 = .ok (.bipush (-9), 2) := by decide +kernel
theorem dW_leastUnsealed_76 : decode bW_leastUnsealed 76 = .ok (.ireturn, 1) := by decide +kernel
theorem dW_unsealedAround_0 : decode bW_unsealedAround 0 = .ok (.aload_n 0, 1) := by decide +kernel
theorem dW_unsealedAround_1 : decode bW_unsealedAround 1 = .ok (.iload_n 1, 1) := by decide +kernel
theorem dW_unsealedAround_2 : decode bW_unsealedAround 2 = .ok (.invokevirtual 63, 3) := by decide +kernel
theorem dW_unsealedAround_5 : decode bW_unsealedAround 5 = .ok (.istore_n 3, 1) := by decide +kernel
theorem dW_unsealedAround_6 : decode bW_unsealedAround 6 = .ok (.aload_n 0, 1) := by decide +kernel
theorem dW_unsealedAround_7 : decode bW_unsealedAround 7 = .ok (.iload_n 3, 1) := by decide +kernel
theorem dW_unsealedAround_8 : decode bW_unsealedAround 8 = .ok (.invokevirtual 109, 3) := by decide +kernel
theorem dW_unsealedAround_11 : decode bW_unsealedAround 11 = .ok (.iload_n 2, 1) := by decide +kernel
theorem dW_unsealedAround_12 : decode bW_unsealedAround 12 = .ok (.if_icmp .ne 15, 3) := by decide +kernel
theorem dW_unsealedAround_15 : decode bW_unsealedAround 15 = .ok (.aload_n 0, 1) := by decide +kernel
theorem dW_unsealedAround_16 : decode bW_unsealedAround 16 = .ok (.iload_n 3, 1) := by decide +kernel
theorem dW_unsealedAround_17 : decode bW_unsealedAround 17 = .ok (.invokevirtual 112, 3) := by decide +kernel
theorem dW_unsealedAround_20 : decode bW_unsealedAround 20 = .ok (.ifCond .ne 7, 3) := by decide +kernel
theorem dW_unsealedAround_23 : decode bW_unsealedAround 23 = .ok (.iload_n 3, 1) := by decide +kernel
theorem dW_unsealedAround_24 : decode bW_unsealedAround 24 = .ok (.goto 5, 3) := by decide +kernel
theorem dW_unsealedAround_27 : decode bW_unsealedAround 27 = .ok (.bipush (-9), 2) := by decide +kernel
theorem dW_unsealedAround_29 : decode bW_unsealedAround 29 = .ok (.ireturn, 1) := by decide +kernel
theorem dW_leastMessage_0 : decode bW_leastMessage 0 = .ok (.iconst 0, 1) := by decide +kernel
theorem dW_leastMessage_1 : decode bW_leastMessage 1 = .ok (.istore_n 2, 1) := by decide +kernel
theorem dW_leastMessage_2 : decode bW_leastMessage 2 = .ok (.iload_n 2, 1) := by decide +kernel
theorem dW_leastMessage_3 : decode bW_leastMessage 3 = .ok (.bipush 6, 2) := by decide +kernel
theorem dW_leastMessage_5 : decode bW_leastMessage 5 = .ok (.if_icmp .ge 20, 3) := by decide +kernel
theorem dW_leastMessage_8 : decode bW_leastMessage 8 = .ok (.aload_n 0, 1) := by decide +kernel
theorem dW_leastMessage_9 : decode bW_leastMessage 9 = .ok (.iload_n 1, 1) := by decide +kernel
theorem dW_leastMessage_10 : decode bW_leastMessage 10 = .ok (.iload_n 2, 1) := by decide +kernel
theorem dW_leastMessage_11 : decode bW_leastMessage 11 = .ok (.invokevirtual 72, 3) := by decide +kernel
theorem dW_leastMessage_14 : decode bW_leastMessage 14 = .ok (.ifCond .le 5, 3) := by decide +kernel
theorem dW_leastMessage_17 : decode bW_leastMessage 17 = .ok (.iload_n 2, 1) := by decide +kernel
theorem dW_leastMessage_18 : decode bW_leastMessage 18 = .ok (.ireturn, 1) := by decide +kernel
theorem dW_leastMessage_19 : decode bW_leastMessage 19 = .ok (.iinc 2 1, 3) := by decide +kernel
theorem dW_leastMessage_22 : decode bW_leastMessage 22 = .ok (.goto (-20), 3) := by decide +kernel
theorem dW_leastMessage_25 : decode bW_leastMessage 25 = .ok (.bipush (-9), 2) := by decide +kernel
theorem dW_leastMessage_27 : decode bW_leastMessage 27 = .ok (.ireturn, 1) := by decide +kernel
theorem dW_aimOf_0 : decode bW_aimOf 0 = .ok (.aload_n 0, 1) := by decide +kernel
theorem dW_aimOf_1 : decode bW_aimOf 1 = .ok (.iload_n 1, 1) := by decide +kernel
theorem dW_aimOf_2 : decode bW_aimOf 2 = .ok (.invokevirtual 76, 3) := by decide +kernel
theorem dW_aimOf_5 : decode bW_aimOf 5 = .ok (.ifCond .eq 11, 3) := by decide +kernel
theorem dW_aimOf_8 : decode bW_aimOf 8 = .ok (.aload_n 0, 1) := by decide +kernel
theorem dW_aimOf_9 : decode bW_aimOf 9 = .ok (.iload_n 1, 1) := by decide +kernel
theorem dW_aimOf_10 : decode bW_aimOf 10 = .ok (.invokevirtual 90, 3) := by decide +kernel
theorem dW_aimOf_13 : decode bW_aimOf 13 = .ok (.ifCond .eq 6, 3) := by decide +kernel
theorem dW_aimOf_16 : decode bW_aimOf 16 = .ok (.bipush (-9), 2) := by decide +kernel
theorem dW_aimOf_18 : decode bW_aimOf 18 = .ok (.ireturn, 1) := by decide +kernel
theorem dW_aimOf_19 : decode bW_aimOf 19 = .ok (.aload_n 0, 1) := by decide +kernel
theorem dW_aimOf_20 : decode bW_aimOf 20 = .ok (.getfield 34, 3) := by decide +kernel
theorem dW_aimOf_23 : decode bW_aimOf 23 = .ok (.iload_n 1, 1) := by decide +kernel
theorem dW_aimOf_24 : decode bW_aimOf 24 = .ok (.iaload, 1) := by decide +kernel
theorem dW_aimOf_25 : decode bW_aimOf 25 = .ok (.istore_n 2, 1) := by decide +kernel
theorem dW_aimOf_26 : decode bW_aimOf 26 = .ok (.aload_n 0, 1) := by decide +kernel
theorem dW_aimOf_27 : decode bW_aimOf 27 = .ok (.iload_n 1, 1) := by decide +kernel
theorem dW_aimOf_28 : decode bW_aimOf 28 = .ok (.aload_n 0, 1) := by decide +kernel
theorem dW_aimOf_29 : decode bW_aimOf 29 = .ok (.getfield 44, 3) := by decide +kernel
theorem dW_aimOf_32 : decode bW_aimOf 32 = .ok (.iload_n 1, 1) := by decide +kernel
theorem dW_aimOf_33 : decode bW_aimOf 33 = .ok (.iaload, 1) := by decide +kernel
theorem dW_aimOf_34 : decode bW_aimOf 34 = .ok (.invokevirtual 96, 3) := by decide +kernel
theorem dW_aimOf_37 : decode bW_aimOf 37 = .ok (.istore_n 3, 1) := by decide +kernel
theorem dW_aimOf_38 : decode bW_aimOf 38 = .ok (.iload_n 3, 1) := by decide +kernel
theorem dW_aimOf_39 : decode bW_aimOf 39 = .ok (.bipush 10, 2) := by decide +kernel
theorem dW_aimOf_41 : decode bW_aimOf 41 = .ok (.irem, 1) := by decide +kernel
theorem dW_aimOf_42 : decode bW_aimOf 42 = .ok (.bipush 9, 2) := by decide +kernel
theorem dW_aimOf_44 : decode bW_aimOf 44 = .ok (.if_icmp .ne 12, 3) := by decide +kernel
theorem dW_aimOf_47 : decode bW_aimOf 47 = .ok (.aload_n 0, 1) := by decide +kernel
theorem dW_aimOf_48 : decode bW_aimOf 48 = .ok (.getfield 47, 3) := by decide +kernel
theorem dW_aimOf_51 : decode bW_aimOf 51 = .ok (.iload_n 1, 1) := by decide +kernel
theorem dW_aimOf_52 : decode bW_aimOf 52 = .ok (.iaload, 1) := by decide +kernel
theorem dW_aimOf_53 : decode bW_aimOf 53 = .ok (.goto 7, 3) := by decide +kernel
theorem dW_aimOf_56 : decode bW_aimOf 56 = .ok (.iload_n 3, 1) := by decide +kernel
theorem dW_aimOf_57 : decode bW_aimOf 57 = .ok (.bipush 10, 2) := by decide +kernel
theorem dW_aimOf_59 : decode bW_aimOf 59 = .ok (.irem, 1) := by decide +kernel
theorem dW_aimOf_60 : decode bW_aimOf 60 = .ok (.istore 4, 2) := by decide +kernel
theorem dW_aimOf_62 : decode bW_aimOf 62 = .ok (.iload 4, 2) := by decide +kernel
theorem dW_aimOf_64 : decode bW_aimOf 64 = .ok (.bipush (-9), 2) := by decide +kernel
theorem dW_aimOf_66 : decode bW_aimOf 66 = .ok (.if_icmp .ne 6, 3) := by decide +kernel
theorem dW_aimOf_69 : decode bW_aimOf 69 = .ok (.bipush (-9), 2) := by decide +kernel
theorem dW_aimOf_71 : decode bW_aimOf 71 = .ok (.ireturn, 1) := by decide +kernel
theorem dW_aimOf_72 : decode bW_aimOf 72 = .ok (.iload_n 3, 1) := by decide +kernel
theorem dW_aimOf_73 : decode bW_aimOf 73 = .ok (.bipush 10, 2) := by decide +kernel
theorem dW_aimOf_75 : decode bW_aimOf 75 = .ok (.idiv, 1) := by decide +kernel
theorem dW_aimOf_76 : decode bW_aimOf 76 = .ok (.tableswitch 85 1 5 #[36, 58, 66, 76, 79], 36) := by decide +kernel
theorem dW_aimOf_112 : decode bW_aimOf 112 = .ok (.iload_n 2, 1) := by decide +kernel
theorem dW_aimOf_113 : decode bW_aimOf 113 = .ok (.ifCond .ne 8, 3) := by decide +kernel
theorem dW_aimOf_116 : decode bW_aimOf 116 = .ok (.bipush (-9), 2) := by decide +kernel
theorem dW_aimOf_118 : decode bW_aimOf 118 = .ok (.goto 15, 3) := by decide +kernel
theorem dW_aimOf_121 : decode bW_aimOf 121 = .ok (.aload_n 0, 1) := by decide +kernel
theorem dW_aimOf_122 : decode bW_aimOf 122 = .ok (.aload_n 0, 1) := by decide +kernel
theorem dW_aimOf_123 : decode bW_aimOf 123 = .ok (.iload_n 2, 1) := by decide +kernel
theorem dW_aimOf_124 : decode bW_aimOf 124 = .ok (.invokevirtual 63, 3) := by decide +kernel
theorem dW_aimOf_127 : decode bW_aimOf 127 = .ok (.iload 4, 2) := by decide +kernel
theorem dW_aimOf_129 : decode bW_aimOf 129 = .ok (.iload_n 2, 1) := by decide +kernel
theorem dW_aimOf_130 : decode bW_aimOf 130 = .ok (.invokevirtual 99, 3) := by decide +kernel
theorem dW_aimOf_133 : decode bW_aimOf 133 = .ok (.ireturn, 1) := by decide +kernel
theorem dW_aimOf_134 : decode bW_aimOf 134 = .ok (.aload_n 0, 1) := by decide +kernel
theorem dW_aimOf_135 : decode bW_aimOf 135 = .ok (.iload_n 2, 1) := by decide +kernel
theorem dW_aimOf_136 : decode bW_aimOf 136 = .ok (.iload 4, 2) := by decide +kernel
theorem dW_aimOf_138 : decode bW_aimOf 138 = .ok (.invokevirtual 103, 3) := by decide +kernel
theorem dW_aimOf_141 : decode bW_aimOf 141 = .ok (.ireturn, 1) := by decide +kernel
theorem dW_aimOf_142 : decode bW_aimOf 142 = .ok (.aload_n 0, 1) := by decide +kernel
theorem dW_aimOf_143 : decode bW_aimOf 143 = .ok (.iload_n 2, 1) := by decide +kernel
theorem dW_aimOf_144 : decode bW_aimOf 144 = .ok (.iload 4, 2) := by decide +kernel
theorem dW_aimOf_146 : decode bW_aimOf 146 = .ok (.bipush (-9), 2) := by decide +kernel
theorem dW_aimOf_148 : decode bW_aimOf 148 = .ok (.invokevirtual 99, 3) := by decide +kernel
theorem dW_aimOf_151 : decode bW_aimOf 151 = .ok (.ireturn, 1) := by decide +kernel
theorem dW_aimOf_152 : decode bW_aimOf 152 = .ok (.iload 4, 2) := by decide +kernel
theorem dW_aimOf_154 : decode bW_aimOf 154 = .ok (.ireturn, 1) := by decide +kernel
theorem dW_aimOf_155 : decode bW_aimOf 155 = .ok (.aload_n 0, 1) := by decide +kernel
theorem dW_aimOf_156 : decode bW_aimOf 156 = .ok (.iload_n 2, 1) := by decide +kernel
theorem dW_aimOf_157 : decode bW_aimOf 157 = .ok (.invokevirtual 106, 3) := by decide +kernel
theorem dW_aimOf_160 : decode bW_aimOf 160 = .ok (.ireturn, 1) := by decide +kernel
theorem dW_aimOf_161 : decode bW_aimOf 161 = .ok (.bipush (-9), 2) := by decide +kernel
theorem dW_aimOf_163 : decode bW_aimOf 163 = .ok (.ireturn, 1) := by decide +kernel
theorem dW_threadsThatCan_0 : decode bW_threadsThatCan 0 = .ok (.iconst 0, 1) := by decide +kernel
theorem dW_threadsThatCan_1 : decode bW_threadsThatCan 1 = .ok (.istore_n 1, 1) := by decide +kernel
theorem dW_threadsThatCan_2 : decode bW_threadsThatCan 2 = .ok (.iconst 0, 1) := by decide +kernel
theorem dW_threadsThatCan_3 : decode bW_threadsThatCan 3 = .ok (.istore_n 2, 1) := by decide +kernel
theorem dW_threadsThatCan_4 : decode bW_threadsThatCan 4 = .ok (.iload_n 2, 1) := by decide +kernel
theorem dW_threadsThatCan_5 : decode bW_threadsThatCan 5 = .ok (.aload_n 0, 1) := by decide +kernel
theorem dW_threadsThatCan_6 : decode bW_threadsThatCan 6 = .ok (.getfield 31, 3) := by decide +kernel
theorem dW_threadsThatCan_9 : decode bW_threadsThatCan 9 = .ok (.if_icmp .ge 25, 3) := by decide +kernel
theorem dW_threadsThatCan_12 : decode bW_threadsThatCan 12 = .ok (.aload_n 0, 1) := by decide +kernel
theorem dW_threadsThatCan_13 : decode bW_threadsThatCan 13 = .ok (.iload_n 2, 1) := by decide +kernel
theorem dW_threadsThatCan_14 : decode bW_threadsThatCan 14 = .ok (.invokevirtual 93, 3) := by decide +kernel
theorem dW_threadsThatCan_17 : decode bW_threadsThatCan 17 = .ok (.bipush (-9), 2) := by decide +kernel
theorem dW_threadsThatCan_19 : decode bW_threadsThatCan 19 = .ok (.if_icmp .eq 9, 3) := by decide +kernel
theorem dW_threadsThatCan_22 : decode bW_threadsThatCan 22 = .ok (.iload_n 1, 1) := by decide +kernel
theorem dW_threadsThatCan_23 : decode bW_threadsThatCan 23 = .ok (.iconst 1, 1) := by decide +kernel
theorem dW_threadsThatCan_24 : decode bW_threadsThatCan 24 = .ok (.iload_n 2, 1) := by decide +kernel
theorem dW_threadsThatCan_25 : decode bW_threadsThatCan 25 = .ok (.ishl, 1) := by decide +kernel
theorem dW_threadsThatCan_26 : decode bW_threadsThatCan 26 = .ok (.ior, 1) := by decide +kernel
theorem dW_threadsThatCan_27 : decode bW_threadsThatCan 27 = .ok (.istore_n 1, 1) := by decide +kernel
theorem dW_threadsThatCan_28 : decode bW_threadsThatCan 28 = .ok (.iinc 2 1, 3) := by decide +kernel
theorem dW_threadsThatCan_31 : decode bW_threadsThatCan 31 = .ok (.goto (-27), 3) := by decide +kernel
theorem dW_threadsThatCan_34 : decode bW_threadsThatCan 34 = .ok (.iload_n 1, 1) := by decide +kernel
theorem dW_threadsThatCan_35 : decode bW_threadsThatCan 35 = .ok (.ireturn, 1) := by decide +kernel
theorem dW_putInto_0 : decode bW_putInto 0 = .ok (.aload_n 0, 1) := by decide +kernel
theorem dW_putInto_1 : decode bW_putInto 1 = .ok (.iload_n 1, 1) := by decide +kernel
theorem dW_putInto_2 : decode bW_putInto 2 = .ok (.invokevirtual 56, 3) := by decide +kernel
theorem dW_putInto_5 : decode bW_putInto 5 = .ok (.ifCond .eq 18, 3) := by decide +kernel
theorem dW_putInto_8 : decode bW_putInto 8 = .ok (.aload_n 0, 1) := by decide +kernel
theorem dW_putInto_9 : decode bW_putInto 9 = .ok (.iload_n 2, 1) := by decide +kernel
theorem dW_putInto_10 : decode bW_putInto 10 = .ok (.invokevirtual 56, 3) := by decide +kernel
theorem dW_putInto_13 : decode bW_putInto 13 = .ok (.ifCond .eq 10, 3) := by decide +kernel
theorem dW_putInto_16 : decode bW_putInto 16 = .ok (.aload_n 0, 1) := by decide +kernel
theorem dW_putInto_17 : decode bW_putInto 17 = .ok (.getfield 25, 3) := by decide +kernel
theorem dW_putInto_20 : decode bW_putInto 20 = .ok (.iload_n 1, 1) := by decide +kernel
theorem dW_putInto_21 : decode bW_putInto 21 = .ok (.iload_n 2, 1) := by decide +kernel
theorem dW_putInto_22 : decode bW_putInto 22 = .ok (.iastore, 1) := by decide +kernel
theorem dW_putInto_23 : decode bW_putInto 23 = .ok (.return_, 1) := by decide +kernel
theorem wq_222 : Cond.methodLink rW 79 yW_actsDone ∈ wT := wT_in 222 rfl rfl
theorem wq_207 : Cond.instanceMethod yW_actsDone ∈ wT := wT_in 207 rfl rfl
theorem wq_208 : Cond.selects rW yW_actsDone yW_actsDone ∈ wT := wT_in 208 rfl rfl
theorem wq_209 : Cond.code yW_actsDone bW_actsDone 2 (some .int) ∈ wT := wT_in 209 rfl rfl
theorem kV_W_79 : mp_V rW 79 yW_actsDone bW_actsDone 2 (some .int) 1 := ⟨wq_222, wq_207, wq_208, wq_38, wq_209, ⟨by decide, by decide, by decide +kernel⟩⟩
theorem wq_223 : Cond.methodLink rW 82 yW_actsInAll ∈ wT := wT_in 223 rfl rfl
theorem wq_211 : Cond.instanceMethod yW_actsInAll ∈ wT := wT_in 211 rfl rfl
theorem wq_212 : Cond.selects rW yW_actsInAll yW_actsInAll ∈ wT := wT_in 212 rfl rfl
theorem wq_213 : Cond.code yW_actsInAll bW_actsInAll 2 (some .int) ∈ wT := wT_in 213 rfl rfl
theorem kV_W_82 : mp_V rW 82 yW_actsInAll bW_actsInAll 2 (some .int) 1 := ⟨wq_223, wq_211, wq_212, wq_38, wq_213, ⟨by decide, by decide, by decide +kernel⟩⟩
theorem wq_230 : Cond.constantLong rW 88 100 ∈ wT := wT_in 230 rfl rfl
theorem wq_251 : Cond.methodLink rW 90 yW_isOver ∈ wT := wT_in 251 rfl rfl
theorem wq_219 : Cond.instanceMethod yW_isOver ∈ wT := wT_in 219 rfl rfl
theorem wq_220 : Cond.selects rW yW_isOver yW_isOver ∈ wT := wT_in 220 rfl rfl
theorem wq_221 : Cond.code yW_isOver bW_isOver 2 (some .boolean) ∈ wT := wT_in 221 rfl rfl
theorem kV_W_90 : mp_V rW 90 yW_isOver bW_isOver 2 (some .boolean) 1 := ⟨wq_251, wq_219, wq_220, wq_38, wq_221, ⟨by decide, by decide, by decide +kernel⟩⟩
theorem wq_261 : Cond.methodLink rW 109 yW_nameOf ∈ wT := wT_in 261 rfl rfl
theorem wq_173 : Cond.instanceMethod yW_nameOf ∈ wT := wT_in 173 rfl rfl
theorem wq_174 : Cond.selects rW yW_nameOf yW_nameOf ∈ wT := wT_in 174 rfl rfl
theorem wq_175 : Cond.code yW_nameOf bW_nameOf 2 (some .int) ∈ wT := wT_in 175 rfl rfl
theorem kV_W_109 : mp_V rW 109 yW_nameOf bW_nameOf 2 (some .int) 1 := ⟨wq_261, wq_173, wq_174, wq_38, wq_175, ⟨by decide, by decide, by decide +kernel⟩⟩
theorem wq_262 : Cond.methodLink rW 112 yW_isSealed ∈ wT := wT_in 262 rfl rfl
theorem wq_147 : Cond.instanceMethod yW_isSealed ∈ wT := wT_in 147 rfl rfl
theorem wq_148 : Cond.selects rW yW_isSealed yW_isSealed ∈ wT := wT_in 148 rfl rfl
theorem wq_149 : Cond.code yW_isSealed bW_isSealed 2 (some .boolean) ∈ wT := wT_in 149 rfl rfl
theorem kV_W_112 : mp_V rW 112 yW_isSealed bW_isSealed 2 (some .boolean) 1 := ⟨wq_262, wq_147, wq_148, wq_38, wq_149, ⟨by decide, by decide, by decide +kernel⟩⟩
theorem wq_252 : Cond.methodLink rW 96 yW_actOf ∈ wT := wT_in 252 rfl rfl
theorem wq_225 : Cond.instanceMethod yW_actOf ∈ wT := wT_in 225 rfl rfl
theorem wq_226 : Cond.selects rW yW_actOf yW_actOf ∈ wT := wT_in 226 rfl rfl
theorem wq_227 : Cond.code yW_actOf bW_actOf 4 (some .int) ∈ wT := wT_in 227 rfl rfl
theorem kV_W_96 : mp_V rW 96 yW_actOf bW_actOf 4 (some .int) 2 := ⟨wq_252, wq_225, wq_226, wq_38, wq_227, ⟨by decide, by decide, by decide +kernel⟩⟩
theorem wq_253 : Cond.methodLink rW 99 yW_leastUnsealed ∈ wT := wT_in 253 rfl rfl
theorem wq_255 : Cond.instanceMethod yW_leastUnsealed ∈ wT := wT_in 255 rfl rfl
theorem wq_0 : Cond.selects rW yW_leastUnsealed yW_leastUnsealed ∈ wT := wT_in 0 rfl rfl
theorem wq_256 : Cond.code yW_leastUnsealed bW_leastUnsealed 6 (some .int) ∈ wT := wT_in 256 rfl rfl
theorem kV_W_99 : mp_V rW 99 yW_leastUnsealed bW_leastUnsealed 6 (some .int) 3 := ⟨wq_253, wq_255, wq_0, wq_38, wq_256, ⟨by decide, by decide, by decide +kernel⟩⟩
theorem wq_257 : Cond.methodLink rW 103 yW_unsealedAround ∈ wT := wT_in 257 rfl rfl
theorem wq_259 : Cond.instanceMethod yW_unsealedAround ∈ wT := wT_in 259 rfl rfl
theorem wq_1 : Cond.selects rW yW_unsealedAround yW_unsealedAround ∈ wT := wT_in 1 rfl rfl
theorem wq_260 : Cond.code yW_unsealedAround bW_unsealedAround 4 (some .int) ∈ wT := wT_in 260 rfl rfl
theorem kV_W_103 : mp_V rW 103 yW_unsealedAround bW_unsealedAround 4 (some .int) 2 := ⟨wq_257, wq_259, wq_1, wq_38, wq_260, ⟨by decide, by decide, by decide +kernel⟩⟩
theorem wq_263 : Cond.methodLink rW 106 yW_leastMessage ∈ wT := wT_in 263 rfl rfl
theorem wq_265 : Cond.instanceMethod yW_leastMessage ∈ wT := wT_in 265 rfl rfl
theorem wq_2 : Cond.selects rW yW_leastMessage yW_leastMessage ∈ wT := wT_in 2 rfl rfl
theorem wq_266 : Cond.code yW_leastMessage bW_leastMessage 3 (some .int) ∈ wT := wT_in 266 rfl rfl
theorem kV_W_106 : mp_V rW 106 yW_leastMessage bW_leastMessage 3 (some .int) 1 := ⟨wq_263, wq_265, wq_2, wq_38, wq_266, ⟨by decide, by decide, by decide +kernel⟩⟩
theorem wq_247 : Cond.methodLink rW 93 yW_aimOf ∈ wT := wT_in 247 rfl rfl
theorem wq_248 : Cond.instanceMethod yW_aimOf ∈ wT := wT_in 248 rfl rfl
theorem wq_249 : Cond.selects rW yW_aimOf yW_aimOf ∈ wT := wT_in 249 rfl rfl
theorem wq_250 : Cond.code yW_aimOf bW_aimOf 5 (some .int) ∈ wT := wT_in 250 rfl rfl
theorem kV_W_93 : mp_V rW 93 yW_aimOf bW_aimOf 5 (some .int) 1 := ⟨wq_247, wq_248, wq_249, wq_38, wq_250, ⟨by decide, by decide, by decide +kernel⟩⟩
-- MovingPlaces$World.heardBy
abbrev rmW_heardBy : Room := { frames := 1, cells := 0, slots := 0, locals := 21 }
def fW_heardBy (w : SW) (a1 : Int32) : Option Int32 := (fW_isThread w a1).bind fun x1 => (if x1 = 0 then some (-9) else mp_ld w.2.2.2.2.2.2.2.2.2.2.2 12 a1 fun x3 => some x3)
set_option maxHeartbeats 4000000 in
set_option maxRecDepth 100000 in
theorem wW_heardBy {p : Program} {l : Launch} {e : Env} {s : State} {m : MethodId} {args : Array Value} {below : List Frame} {meth : Method} {c : Code} (cx : mp_C p s m args meth c bW_heardBy 2 (some .int) rW) (k : KK) (ad : Nat → Nat) (w : SW) (a1 : Int32) (z : Int32) (hE : mp_E k s) (hP : va_P (kD k) mp_cls (cW k ad w) s.heap) (hD : va_D (mp_N k) (cW k ad w)) (h : fW_heardBy w a1 = some z) (ls : Array Slot) (hl : lv_has ls 2 [(0, .ref (ad 0)), (1, .int a1)]) : W p l e rmW_heardBy s m args below meth c s.heap [] 0 0 (MQ below (mp_Qs (some (.int z))) args s 0 0 (fun _ => False)) (F0 m 0 ls []) := by
  obtain ⟨hx, hb, -, hml, hown, hts, -⟩ := id cx
  unfold fW_heardBy at h
  refine lv_aload_n hx hb dW_heardBy_0 rfl (lv_at hl 0 rfl) ?_
  refine lv_iload_n hx hb dW_heardBy_1 rfl (lv_at hl 1 rfl) ?_
  obtain ⟨x1, ex1, h⟩ := mp_bs h
  refine mp_si (mp_runV (As := [.int a1]) (rest := []) cx kV_W_76 (cW_isThread l k ad w a1 x1 ex1) ⟨rfl, rfl, Nat.le_of_ble_eq_true rfl, Nat.le_of_ble_eq_true rfl⟩ ⟨Nat.zero_le _, Nat.zero_le _⟩ hE hP hD va_S.rf 0 rfl rfl rfl hl.1 rfl (Nat.le_of_ble_eq_true rfl) dW_heardBy_2) ?_
  refine lv_if_eq (tgt := 17) hx hb dW_heardBy_5 (by decide) (fun c2 => ?_) (fun c2 => ?_)
  · have h := mp_t c2 h
    refine lv_bipush (v := (-9)) hx hb dW_heardBy_17 (by decide) ?_
    exact mp_ri cx h dW_heardBy_19
  · have h := mp_f c2 h
    refine lv_aload_n hx hb dW_heardBy_8 rfl (lv_at hl 0 rfl) ?_
    refine mp_gW cx hE hP iW 0 rfl 11 (by decide) wq_67 rfl (v := .ref (ad 8)) rfl dW_heardBy_9 ?_
    refine lv_iload_n hx hb dW_heardBy_12 rfl (lv_at hl 1 rfl) ?_
    obtain ⟨hi, x3, ex3, h⟩ := mp_lds h
    refine va_iald hx hb hE.1 hP 8 0 (f := w.2.2.2.2.2.2.2.2.2.2.2) (n := 12) rfl rfl hi dW_heardBy_13 ?_
    refine mp_top ex3 ?_
    refine lv_goto (tgt := 19) hx hb dW_heardBy_14 (by decide) ?_
    exact mp_ri cx h dW_heardBy_19
theorem cW_heardBy (l : Launch) (k : KK) (ad : Nat → Nat) (w : SW) (a1 : Int32) (z : Int32) (h : fW_heardBy w a1 = some z) : mp_CS l k yW_heardBy bW_heardBy 2 (some .int) rmW_heardBy [.ref (ad 0), .int a1] (cW k ad w) (some (.int z)) := by
  refine Met.ofW (cc := bW_heardBy) (maxL := 2) (ret := (some .int)) (by decide) rfl ?_
  intro p e s m args below meth c s₁ B hml hv
  obtain ⟨rfl, hP, hD, hE⟩ := hv
  have hl := lv_entry ([.ref (ad 0), .int a1]) (n := 2) (Nat.le_of_ble_eq_true rfl)
  rw [lg_entry_eq]
  generalize (lg_sl ([.ref (ad 0), .int a1]) ++ List.replicate (2 - (lg_sl ([.ref (ad 0), .int a1])).length) Slot.unset).toArray = ls at hl ⊢
  exact wW_heardBy (mp_C.of B hml) k ad w a1 z hE hP hD h ls hl
-- MovingPlaces$World.isOver
abbrev rmW_isOver : Room := { frames := 2, cells := 0, slots := 0, locals := 42 }
def fW_isOver (w : SW) (a1 : Int32) : Option Int32 := (fW_actsDone w a1).bind fun x1 => (fW_actsInAll w a1).bind fun x2 => (if x1 < x2 then some 0 else some 1)
set_option maxHeartbeats 4000000 in
set_option maxRecDepth 100000 in
theorem wW_isOver {p : Program} {l : Launch} {e : Env} {s : State} {m : MethodId} {args : Array Value} {below : List Frame} {meth : Method} {c : Code} (cx : mp_C p s m args meth c bW_isOver 2 (some .boolean) rW) (k : KK) (ad : Nat → Nat) (w : SW) (a1 : Int32) (z : Int32) (hE : mp_E k s) (hP : va_P (kD k) mp_cls (cW k ad w) s.heap) (hD : va_D (mp_N k) (cW k ad w)) (h : fW_isOver w a1 = some z) (ls : Array Slot) (hl : lv_has ls 2 [(0, .ref (ad 0)), (1, .int a1)]) : W p l e rmW_isOver s m args below meth c s.heap [] 0 0 (MQ below (mp_Qs (some (.int z))) args s 0 0 (fun _ => False)) (F0 m 0 ls []) := by
  obtain ⟨hx, hb, -, hml, hown, hts, -⟩ := id cx
  unfold fW_isOver at h
  refine lv_aload_n hx hb dW_isOver_0 rfl (lv_at hl 0 rfl) ?_
  refine lv_iload_n hx hb dW_isOver_1 rfl (lv_at hl 1 rfl) ?_
  obtain ⟨x1, ex1, h⟩ := mp_bs h
  refine mp_si (mp_runV (As := [.int a1]) (rest := []) cx kV_W_79 (cW_actsDone l k ad w a1 x1 ex1) ⟨rfl, rfl, Nat.le_of_ble_eq_true rfl, Nat.le_of_ble_eq_true rfl⟩ ⟨Nat.zero_le _, Nat.zero_le _⟩ hE hP hD va_S.rf 0 rfl rfl rfl hl.1 rfl (Nat.le_of_ble_eq_true rfl) dW_isOver_2) ?_
  refine lv_aload_n hx hb dW_isOver_5 rfl (lv_at hl 0 rfl) ?_
  refine lv_iload_n hx hb dW_isOver_6 rfl (lv_at hl 1 rfl) ?_
  obtain ⟨x2, ex2, h⟩ := mp_bs h
  refine mp_si (mp_runV (As := [.int a1]) (rest := [.int x1]) cx kV_W_82 (cW_actsInAll l k ad w a1 x2 ex2) ⟨rfl, rfl, Nat.le_of_ble_eq_true rfl, Nat.le_of_ble_eq_true rfl⟩ ⟨Nat.zero_le _, Nat.zero_le _⟩ hE hP hD va_S.rf 0 rfl rfl rfl hl.1 rfl (Nat.le_of_ble_eq_true rfl) dW_isOver_7) ?_
  refine lv_icmp_lt (tgt := 17) hx hb dW_isOver_10 (by decide) (fun c3 => ?_) (fun c3 => ?_)
  · have h := mp_t c3 h
    refine lv_iconst (v := 0) hx hb dW_isOver_17 (by decide) ?_
    exact mp_rz cx rfl h dW_isOver_18
  · have h := mp_f c3 h
    refine lv_iconst (v := 1) hx hb dW_isOver_13 (by decide) ?_
    refine lv_goto (tgt := 18) hx hb dW_isOver_14 (by decide) ?_
    exact mp_rz cx rfl h dW_isOver_18
theorem cW_isOver (l : Launch) (k : KK) (ad : Nat → Nat) (w : SW) (a1 : Int32) (z : Int32) (h : fW_isOver w a1 = some z) : mp_CS l k yW_isOver bW_isOver 2 (some .boolean) rmW_isOver [.ref (ad 0), .int a1] (cW k ad w) (some (.int z)) := by
  refine Met.ofW (cc := bW_isOver) (maxL := 2) (ret := (some .boolean)) (by decide) rfl ?_
  intro p e s m args below meth c s₁ B hml hv
  obtain ⟨rfl, hP, hD, hE⟩ := hv
  have hl := lv_entry ([.ref (ad 0), .int a1]) (n := 2) (Nat.le_of_ble_eq_true rfl)
  rw [lg_entry_eq]
  generalize (lg_sl ([.ref (ad 0), .int a1]) ++ List.replicate (2 - (lg_sl ([.ref (ad 0), .int a1])).length) Slot.unset).toArray = ls at hl ⊢
  exact wW_isOver (mp_C.of B hml) k ad w a1 z hE hP hD h ls hl
-- MovingPlaces$World.actOf
abbrev rmW_actOf : Room := { frames := 2, cells := 0, slots := 0, locals := 42 }
def fW_actOf (w : SW) (a1 : Int32) (a2 : Int32) : Option Int32 := (fW_actsInAll w a1).bind fun x1 => (fW_isThread w a1).bind fun x2 => (if x2 = 0 then some 0 else (if ((x1 - 1) - a2) < 0 then some 0 else (if ((x1 - 1) - a2) < 6 then mp_ld w.2.2.2.2.2.2.2.2.1 12 a1 fun x6 => mp_st 6 ((x1 - 1) - a2) (mp_nzl (mp_wt (Int32.toNatClampNeg ((x1 - 1) - a2))) (some (Int64.toInt32 ((x6 / (mp_wt (Int32.toNatClampNeg ((x1 - 1) - a2)))) - (x6 / (mp_wt (Int32.toNatClampNeg ((x1 - 1) - a2)))) / 100 * 100)))) else some 0)))
set_option maxHeartbeats 4000000 in
set_option maxRecDepth 100000 in
theorem wW_actOf {p : Program} {l : Launch} {e : Env} {s : State} {m : MethodId} {args : Array Value} {below : List Frame} {meth : Method} {c : Code} (cx : mp_C p s m args meth c bW_actOf 4 (some .int) rW) (k : KK) (ad : Nat → Nat) (w : SW) (a1 : Int32) (a2 : Int32) (z : Int32) (hE : mp_E k s) (hP : va_P (kD k) mp_cls (cW k ad w) s.heap) (hD : va_D (mp_N k) (cW k ad w)) (h : fW_actOf w a1 a2 = some z) (ls : Array Slot) (hl : lv_has ls 4 [(0, .ref (ad 0)), (1, .int a1), (2, .int a2)]) : W p l e rmW_actOf s m args below meth c s.heap [] 0 0 (MQ below (mp_Qs (some (.int z))) args s 0 0 (fun _ => False)) (F0 m 0 ls []) := by
  obtain ⟨hx, hb, -, hml, hown, hts, -⟩ := id cx
  unfold fW_actOf at h
  refine lv_aload_n hx hb dW_actOf_0 rfl (lv_at hl 0 rfl) ?_
  refine lv_iload_n hx hb dW_actOf_1 rfl (lv_at hl 1 rfl) ?_
  obtain ⟨x1, ex1, h⟩ := mp_bs h
  refine mp_si (mp_runV (As := [.int a1]) (rest := []) cx kV_W_82 (cW_actsInAll l k ad w a1 x1 ex1) ⟨rfl, rfl, Nat.le_of_ble_eq_true rfl, Nat.le_of_ble_eq_true rfl⟩ ⟨Nat.zero_le _, Nat.zero_le _⟩ hE hP hD va_S.rf 0 rfl rfl rfl hl.1 rfl (Nat.le_of_ble_eq_true rfl) dW_actOf_2) ?_
  refine lv_iconst (v := 1) hx hb dW_actOf_5 (by decide) ?_
  refine lv_isub hx hb dW_actOf_6 ?_
  refine lv_iload_n hx hb dW_actOf_7 rfl (lv_at hl 2 rfl) ?_
  refine lv_isub hx hb dW_actOf_8 ?_
  refine lv_istore_n (lv' := [(3, .int ((x1 - 1) - a2)), (0, .ref (ad 0)), (1, .int a1), (2, .int a2)]) hx hb dW_actOf_9 rfl hl (by decide) rfl (fun ls hl => ?_)
  refine lv_aload_n hx hb dW_actOf_10 rfl (lv_at hl 1 rfl) ?_
  refine lv_iload_n hx hb dW_actOf_11 rfl (lv_at hl 2 rfl) ?_
  obtain ⟨x2, ex2, h⟩ := mp_bs h
  refine mp_si (mp_runV (As := [.int a1]) (rest := []) cx kV_W_76 (cW_isThread l k ad w a1 x2 ex2) ⟨rfl, rfl, Nat.le_of_ble_eq_true rfl, Nat.le_of_ble_eq_true rfl⟩ ⟨Nat.zero_le _, Nat.zero_le _⟩ hE hP hD va_S.rf 0 rfl rfl rfl hl.1 rfl (Nat.le_of_ble_eq_true rfl) dW_actOf_12) ?_
  refine lv_if_eq (tgt := 30) hx hb dW_actOf_15 (by decide) (fun c3 => ?_) (fun c3 => ?_)
  · have h := mp_t c3 h
    refine lv_iconst (v := 0) hx hb dW_actOf_30 (by decide) ?_
    exact mp_ri cx h dW_actOf_31
  · have h := mp_f c3 h
    refine lv_iload_n hx hb dW_actOf_18 rfl (lv_at hl 0 rfl) ?_
    refine lv_if_lt (tgt := 30) hx hb dW_actOf_19 (by decide) (fun c4 => ?_) (fun c4 => ?_)
    · have h := mp_t c4 h
      refine lv_iconst (v := 0) hx hb dW_actOf_30 (by decide) ?_
      exact mp_ri cx h dW_actOf_31
    · have h := mp_f c4 h
      refine lv_iload_n hx hb dW_actOf_22 rfl (lv_at hl 0 rfl) ?_
      obtain ⟨tq, hZ, hTq⟩ := hE.2.2.2
      refine va_getsN hx hb hZ va_S.rf hown (va_Nw.use rfl hE.2.2.1) (fun _ h9 => h9) dW_actOf_23 ?_
      refine va_tlen (v := 6) hx hb hTq va_S.rf (by decide) dW_actOf_26 ?_
      refine lv_icmp_lt (tgt := 32) hx hb dW_actOf_27 (by decide) (fun c5 => ?_) (fun c5 => ?_)
      · have h := mp_t c5 h
        refine lv_aload_n hx hb dW_actOf_32 rfl (lv_at hl 1 rfl) ?_
        refine mp_gW cx hE hP iW 0 rfl 8 (by decide) wq_64 rfl (v := .ref (ad 5)) rfl dW_actOf_33 ?_
        refine lv_iload_n hx hb dW_actOf_36 rfl (lv_at hl 2 rfl) ?_
        obtain ⟨hi, x6, ex6, h⟩ := mp_lds h
        refine va_lald hx hb hE.1 hP 5 1 (f := w.2.2.2.2.2.2.2.2.1) (n := 12) rfl rfl hi dW_actOf_37 ?_
        refine mp_topl ex6 ?_
        obtain ⟨tq, hZ, hTq⟩ := hE.2.2.2
        refine va_getsN hx hb hZ va_S.rf hown (va_Nw.use rfl hE.2.2.1) (fun _ h9 => h9) dW_actOf_38 ?_
        refine lv_iload_n hx hb dW_actOf_41 rfl (lv_at hl 0 rfl) ?_
        obtain ⟨hi, h⟩ := mp_sts h
        refine va_tl hx hb hTq va_S.rf hi rfl dW_actOf_42 ?_
        obtain ⟨d8, h⟩ := mp_nzls h
        refine lv_ldiv hx hb dW_actOf_43 d8 ?_
        refine lv_ldc2 (v := 100) hx hb hown (hts _ wq_230) dW_actOf_44 ?_
        refine lv_lrem hx hb dW_actOf_47 (by decide) ?_
        refine lv_l2i hx hb dW_actOf_48 rfl ?_
        exact mp_ri cx h dW_actOf_49
      · have h := mp_f c5 h
        refine lv_iconst (v := 0) hx hb dW_actOf_30 (by decide) ?_
        exact mp_ri cx h dW_actOf_31
theorem cW_actOf (l : Launch) (k : KK) (ad : Nat → Nat) (w : SW) (a1 : Int32) (a2 : Int32) (z : Int32) (h : fW_actOf w a1 a2 = some z) : mp_CS l k yW_actOf bW_actOf 4 (some .int) rmW_actOf [.ref (ad 0), .int a1, .int a2] (cW k ad w) (some (.int z)) := by
  refine Met.ofW (cc := bW_actOf) (maxL := 4) (ret := (some .int)) (by decide) rfl ?_
  intro p e s m args below meth c s₁ B hml hv
  obtain ⟨rfl, hP, hD, hE⟩ := hv
  have hl := lv_entry ([.ref (ad 0), .int a1, .int a2]) (n := 4) (Nat.le_of_ble_eq_true rfl)
  rw [lg_entry_eq]
  generalize (lg_sl ([.ref (ad 0), .int a1, .int a2]) ++ List.replicate (4 - (lg_sl ([.ref (ad 0), .int a1, .int a2])).length) Slot.unset).toArray = ls at hl ⊢
  exact wW_actOf (mp_C.of B hml) k ad w a1 a2 z hE hP hD h ls hl
-- MovingPlaces$World.threadsInAll
abbrev rmW_threadsInAll : Room := { frames := 0, cells := 0, slots := 0, locals := 0 }
def fW_threadsInAll (w : SW) : Option Int32 := some w.2.2.2.2.2.2.1
set_option maxHeartbeats 4000000 in
set_option maxRecDepth 100000 in
theorem wW_threadsInAll {p : Program} {l : Launch} {e : Env} {s : State} {m : MethodId} {args : Array Value} {below : List Frame} {meth : Method} {c : Code} (cx : mp_C p s m args meth c bW_threadsInAll 1 (some .int) rW) (k : KK) (ad : Nat → Nat) (w : SW) (z : Int32) (hE : mp_E k s) (hP : va_P (kD k) mp_cls (cW k ad w) s.heap) (hD : va_D (mp_N k) (cW k ad w)) (h : fW_threadsInAll w = some z) (ls : Array Slot) (hl : lv_has ls 1 [(0, .ref (ad 0))]) : W p l e rmW_threadsInAll s m args below meth c s.heap [] 0 0 (MQ below (mp_Qs (some (.int z))) args s 0 0 (fun _ => False)) (F0 m 0 ls []) := by
  obtain ⟨hx, hb, -, hml, hown, hts, -⟩ := id cx
  unfold fW_threadsInAll at h
  refine lv_aload_n hx hb dW_threadsInAll_0 rfl (lv_at hl 0 rfl) ?_
  refine mp_gW cx hE hP iW 0 rfl 6 (by decide) wq_62 rfl (v := .int w.2.2.2.2.2.2.1) rfl dW_threadsInAll_1 ?_
  exact mp_ri cx h dW_threadsInAll_4
theorem cW_threadsInAll (l : Launch) (k : KK) (ad : Nat → Nat) (w : SW) (z : Int32) (h : fW_threadsInAll w = some z) : mp_CS l k yW_threadsInAll bW_threadsInAll 1 (some .int) rmW_threadsInAll [.ref (ad 0)] (cW k ad w) (some (.int z)) := by
  refine Met.ofW (cc := bW_threadsInAll) (maxL := 1) (ret := (some .int)) (by decide) rfl ?_
  intro p e s m args below meth c s₁ B hml hv
  obtain ⟨rfl, hP, hD, hE⟩ := hv
  have hl := lv_entry ([.ref (ad 0)]) (n := 1) (Nat.le_of_ble_eq_true rfl)
  rw [lg_entry_eq]
  generalize (lg_sl ([.ref (ad 0)]) ++ List.replicate (1 - (lg_sl ([.ref (ad 0)])).length) Slot.unset).toArray = ls at hl ⊢
  exact wW_threadsInAll (mp_C.of B hml) k ad w z hE hP hD h ls hl
-- MovingPlaces$World.threadsOver
abbrev rmW_threadsOver : Room := { frames := 3, cells := 0, slots := 0, locals := 63 }
def fW_threadsOver_4 (w : SW) : Nat → Int32 → Int32 → Option Int32
  | 0, _, _ => none
  | n + 1, a1, a2 => (if w.2.2.2.2.2.2.1 ≤ a2 then some a1 else (fW_isOver w a2).bind fun x2 => (if x2 = 0 then fW_threadsOver_4 w n a1 (a2 + 1) else fW_threadsOver_4 w n (a1 + 1) (a2 + 1)))
theorem fW_threadsOver_4_s (w : SW) (n : Nat) (a1 : Int32) (a2 : Int32) : fW_threadsOver_4 w (n + 1) a1 a2 = (if w.2.2.2.2.2.2.1 ≤ a2 then some a1 else (fW_isOver w a2).bind fun x2 => (if x2 = 0 then fW_threadsOver_4 w n a1 (a2 + 1) else fW_threadsOver_4 w n (a1 + 1) (a2 + 1))) := rfl
set_option maxHeartbeats 4000000 in
set_option maxRecDepth 100000 in
theorem lW_threadsOver_4 {p : Program} {l : Launch} {e : Env} {s : State} {m : MethodId} {args : Array Value} {below : List Frame} {meth : Method} {c : Code} (cx : mp_C p s m args meth c bW_threadsOver 3 (some .int) rW) (k : KK) (ad : Nat → Nat) (w : SW) (z : Int32) (hE : mp_E k s) (hP : va_P (kD k) mp_cls (cW k ad w) s.heap) (hD : va_D (mp_N k) (cW k ad w)) : ∀ (n : Nat) (a1 : Int32) (a2 : Int32), fW_threadsOver_4 w n a1 a2 = some z → ∀ (ls : Array Slot), lv_has ls 3 [(0, .ref (ad 0)), (1, .int a1), (2, .int a2)] → W p l e rmW_threadsOver s m args below meth c s.heap [] 0 0 (MQ below (mp_Qs (some (.int z))) args s 0 0 (fun _ => False)) (F0 m 4 ls []) := by
  obtain ⟨hx, hb, -, hml, hown, hts, -⟩ := id cx
  intro n
  induction n with
  | zero =>
    intro a1 a2 h
    have h : (none : Option Int32) = some z := h
    cases h
  | succ n ih =>
    intro a1 a2 h ls hl
    rw [fW_threadsOver_4_s] at h
    refine lv_iload_n hx hb dW_threadsOver_4 rfl (lv_at hl 2 rfl) ?_
    refine lv_aload_n hx hb dW_threadsOver_5 rfl (lv_at hl 0 rfl) ?_
    refine mp_gW cx hE hP iW 0 rfl 6 (by decide) wq_62 rfl (v := .int w.2.2.2.2.2.2.1) rfl dW_threadsOver_6 ?_
    refine lv_icmp_ge (tgt := 29) hx hb dW_threadsOver_9 (by decide) (fun c1 => ?_) (fun c1 => ?_)
    · have h := mp_t c1 h
      refine lv_iload_n hx hb dW_threadsOver_29 rfl (lv_at hl 1 rfl) ?_
      exact mp_ri cx h dW_threadsOver_30
    · have h := mp_f c1 h
      refine lv_aload_n hx hb dW_threadsOver_12 rfl (lv_at hl 0 rfl) ?_
      refine lv_iload_n hx hb dW_threadsOver_13 rfl (lv_at hl 2 rfl) ?_
      obtain ⟨x2, ex2, h⟩ := mp_bs h
      refine mp_si (mp_runV (As := [.int a2]) (rest := []) cx kV_W_90 (cW_isOver l k ad w a2 x2 ex2) ⟨rfl, rfl, Nat.le_of_ble_eq_true rfl, Nat.le_of_ble_eq_true rfl⟩ ⟨Nat.zero_le _, Nat.zero_le _⟩ hE hP hD va_S.rf 0 rfl rfl rfl hl.1 rfl (Nat.le_of_ble_eq_true rfl) dW_threadsOver_14) ?_
      refine lv_if_eq (tgt := 23) hx hb dW_threadsOver_17 (by decide) (fun c3 => ?_) (fun c3 => ?_)
      · have h := mp_t c3 h
        refine lv_iinc (v := (a2 + 1)) (lv' := [(2, .int (a2 + 1)), (0, .ref (ad 0)), (1, .int a1)]) hx hb dW_threadsOver_23 hl (k := 2) rfl rfl (by decide) rfl (fun ls hl => ?_)
        refine lv_goto (tgt := 4) hx hb dW_threadsOver_26 (by decide) ?_
        exact ih a1 (a2 + 1) h ls (lv_sub hl [1, 2, 0] rfl)
      · have h := mp_f c3 h
        refine lv_iinc (v := (a1 + 1)) (lv' := [(1, .int (a1 + 1)), (0, .ref (ad 0)), (2, .int a2)]) hx hb dW_threadsOver_20 hl (k := 1) rfl rfl (by decide) rfl (fun ls hl => ?_)
        refine lv_iinc (v := (a2 + 1)) (lv' := [(2, .int (a2 + 1)), (1, .int (a1 + 1)), (0, .ref (ad 0))]) hx hb dW_threadsOver_23 hl (k := 2) rfl rfl (by decide) rfl (fun ls hl => ?_)
        refine lv_goto (tgt := 4) hx hb dW_threadsOver_26 (by decide) ?_
        exact ih (a1 + 1) (a2 + 1) h ls (lv_sub hl [2, 1, 0] rfl)
def fW_threadsOver (w : SW) : Option Int32 := fW_threadsOver_4 w 2000 0 0
set_option maxHeartbeats 4000000 in
set_option maxRecDepth 100000 in
theorem wW_threadsOver {p : Program} {l : Launch} {e : Env} {s : State} {m : MethodId} {args : Array Value} {below : List Frame} {meth : Method} {c : Code} (cx : mp_C p s m args meth c bW_threadsOver 3 (some .int) rW) (k : KK) (ad : Nat → Nat) (w : SW) (z : Int32) (hE : mp_E k s) (hP : va_P (kD k) mp_cls (cW k ad w) s.heap) (hD : va_D (mp_N k) (cW k ad w)) (h : fW_threadsOver w = some z) (ls : Array Slot) (hl : lv_has ls 3 [(0, .ref (ad 0))]) : W p l e rmW_threadsOver s m args below meth c s.heap [] 0 0 (MQ below (mp_Qs (some (.int z))) args s 0 0 (fun _ => False)) (F0 m 0 ls []) := by
  obtain ⟨hx, hb, -, hml, hown, hts, -⟩ := id cx
  unfold fW_threadsOver at h
  refine lv_iconst (v := 0) hx hb dW_threadsOver_0 (by decide) ?_
  refine lv_istore_n (lv' := [(1, .int 0), (0, .ref (ad 0))]) hx hb dW_threadsOver_1 rfl hl (by decide) rfl (fun ls hl => ?_)
  refine lv_iconst (v := 0) hx hb dW_threadsOver_2 (by decide) ?_
  refine lv_istore_n (lv' := [(2, .int 0), (1, .int 0), (0, .ref (ad 0))]) hx hb dW_threadsOver_3 rfl hl (by decide) rfl (fun ls hl => ?_)
  exact lW_threadsOver_4 cx k ad w z hE hP hD _ 0 0 h ls (lv_sub hl [2, 1, 0] rfl)
theorem cW_threadsOver (l : Launch) (k : KK) (ad : Nat → Nat) (w : SW) (z : Int32) (h : fW_threadsOver w = some z) : mp_CS l k yW_threadsOver bW_threadsOver 3 (some .int) rmW_threadsOver [.ref (ad 0)] (cW k ad w) (some (.int z)) := by
  refine Met.ofW (cc := bW_threadsOver) (maxL := 3) (ret := (some .int)) (by decide) rfl ?_
  intro p e s m args below meth c s₁ B hml hv
  obtain ⟨rfl, hP, hD, hE⟩ := hv
  have hl := lv_entry ([.ref (ad 0)]) (n := 3) (Nat.le_of_ble_eq_true rfl)
  rw [lg_entry_eq]
  generalize (lg_sl ([.ref (ad 0)]) ++ List.replicate (3 - (lg_sl ([.ref (ad 0)])).length) Slot.unset).toArray = ls at hl ⊢
  exact wW_threadsOver (mp_C.of B hml) k ad w z hE hP hD h ls hl
-- MovingPlaces$World.leastUnsealed
abbrev rmW_leastUnsealed : Room := { frames := 0, cells := 0, slots := 0, locals := 0 }
def fW_leastUnsealed_3 (w : SW) (a1 : Int32) (a2 : Int32) (a3 : Int32) : Nat → Int32 → Option Int32
  | 0, _ => none
  | n + 1, a4 => (if w.1 ≤ a4 then some (-9) else (if ((w.2.2.1 >>> (a4 &&& 31)) &&& 1) = 1 then (if a4 = a3 then fW_leastUnsealed_3 w a1 a2 a3 n (a4 + 1) else mp_ld w.2.2.2.2.1 12 a4 fun x10 => (if x10 = a1 then mp_ld w.2.2.2.1 12 a4 fun x12 => (if x12 = a2 then fW_leastUnsealed_3 w a1 a2 a3 n (a4 + 1) else fW_leastUnsealed_3 w a1 a2 a3 n (a4 + 1)) else fW_leastUnsealed_3 w a1 a2 a3 n (a4 + 1))) else (if a4 = a3 then fW_leastUnsealed_3 w a1 a2 a3 n (a4 + 1) else mp_ld w.2.2.2.2.1 12 a4 fun x4 => (if x4 = a1 then mp_ld w.2.2.2.1 12 a4 fun x6 => (if x6 = a2 then some a4 else fW_leastUnsealed_3 w a1 a2 a3 n (a4 + 1)) else fW_leastUnsealed_3 w a1 a2 a3 n (a4 + 1)))))
theorem fW_leastUnsealed_3_s (w : SW) (a1 : Int32) (a2 : Int32) (a3 : Int32) (n : Nat) (a4 : Int32) : fW_leastUnsealed_3 w a1 a2 a3 (n + 1) a4 = (if w.1 ≤ a4 then some (-9) else (if ((w.2.2.1 >>> (a4 &&& 31)) &&& 1) = 1 then (if a4 = a3 then fW_leastUnsealed_3 w a1 a2 a3 n (a4 + 1) else mp_ld w.2.2.2.2.1 12 a4 fun x10 => (if x10 = a1 then mp_ld w.2.2.2.1 12 a4 fun x12 => (if x12 = a2 then fW_leastUnsealed_3 w a1 a2 a3 n (a4 + 1) else fW_leastUnsealed_3 w a1 a2 a3 n (a4 + 1)) else fW_leastUnsealed_3 w a1 a2 a3 n (a4 + 1))) else (if a4 = a3 then fW_leastUnsealed_3 w a1 a2 a3 n (a4 + 1) else mp_ld w.2.2.2.2.1 12 a4 fun x4 => (if x4 = a1 then mp_ld w.2.2.2.1 12 a4 fun x6 => (if x6 = a2 then some a4 else fW_leastUnsealed_3 w a1 a2 a3 n (a4 + 1)) else fW_leastUnsealed_3 w a1 a2 a3 n (a4 + 1))))) := rfl
set_option maxHeartbeats 4000000 in
set_option maxRecDepth 100000 in
theorem lW_leastUnsealed_3 {p : Program} {l : Launch} {e : Env} {s : State} {m : MethodId} {args : Array Value} {below : List Frame} {meth : Method} {c : Code} (cx : mp_C p s m args meth c bW_leastUnsealed 6 (some .int) rW) (k : KK) (ad : Nat → Nat) (w : SW) (a1 : Int32) (a2 : Int32) (a3 : Int32) (z : Int32) (hE : mp_E k s) (hP : va_P (kD k) mp_cls (cW k ad w) s.heap) (hD : va_D (mp_N k) (cW k ad w)) : ∀ (n : Nat) (a4 : Int32), fW_leastUnsealed_3 w a1 a2 a3 n a4 = some z → ∀ (ls : Array Slot), lv_has ls 6 [(0, .ref (ad 0)), (1, .int a1), (2, .int a2), (3, .int a3), (4, .int a4)] → W p l e rmW_leastUnsealed s m args below meth c s.heap [] 0 0 (MQ below (mp_Qs (some (.int z))) args s 0 0 (fun _ => False)) (F0 m 3 ls []) := by
  obtain ⟨hx, hb, -, hml, hown, hts, -⟩ := id cx
  intro n
  induction n with
  | zero =>
    intro a4 h
    have h : (none : Option Int32) = some z := h
    cases h
  | succ n ih =>
    intro a4 h ls hl
    rw [fW_leastUnsealed_3_s] at h
    refine lv_iload hx hb dW_leastUnsealed_3 (lv_at hl 4 rfl) ?_
    refine lv_aload_n hx hb dW_leastUnsealed_5 rfl (lv_at hl 0 rfl) ?_
    refine mp_gW cx hE hP iW 0 rfl 0 (by decide) wq_56 rfl (v := .int w.1) rfl dW_leastUnsealed_6 ?_
    refine lv_icmp_ge (tgt := 74) hx hb dW_leastUnsealed_9 (by decide) (fun c1 => ?_) (fun c1 => ?_)
    · have h := mp_t c1 h
      refine lv_bipush (v := (-9)) hx hb dW_leastUnsealed_74 (by decide) ?_
      exact mp_ri cx h dW_leastUnsealed_76
    · have h := mp_f c1 h
      refine lv_aload_n hx hb dW_leastUnsealed_12 rfl (lv_at hl 0 rfl) ?_
      refine mp_gW cx hE hP iW 0 rfl 2 (by decide) wq_58 rfl (v := .int w.2.2.1) rfl dW_leastUnsealed_13 ?_
      refine lv_iload hx hb dW_leastUnsealed_16 (lv_at hl 4 rfl) ?_
      refine lv_ishr hx hb dW_leastUnsealed_18 ?_
      refine lv_iconst (v := 1) hx hb dW_leastUnsealed_19 (by decide) ?_
      refine lv_iand hx hb dW_leastUnsealed_20 ?_
      refine lv_iconst (v := 1) hx hb dW_leastUnsealed_21 (by decide) ?_
      refine lv_icmp_ne (tgt := 29) hx hb dW_leastUnsealed_22 (by decide) (fun c2 => ?_) (fun c2 => ?_)
      · have h := mp_f c2 h
        refine lv_iconst (v := 0) hx hb dW_leastUnsealed_29 (by decide) ?_
        refine lv_istore (lv' := [(5, .int 0), (0, .ref (ad 0)), (1, .int a1), (2, .int a2), (3, .int a3), (4, .int a4)]) hx hb dW_leastUnsealed_30 hl (by decide) rfl (fun ls hl => ?_)
        refine lv_iload hx hb dW_leastUnsealed_32 (lv_at hl 5 rfl) ?_
        refine lv_iload_n hx hb dW_leastUnsealed_34 rfl (lv_at hl 4 rfl) ?_
        refine lv_icmp_eq (tgt := 68) hx hb dW_leastUnsealed_35 (by decide) (fun c3 => ?_) (fun c3 => ?_)
        · have h := mp_t c3 h
          refine lv_iinc (v := (a4 + 1)) (lv' := [(4, .int (a4 + 1)), (5, .int 0), (0, .ref (ad 0)), (1, .int a1), (2, .int a2), (3, .int a3)]) hx hb dW_leastUnsealed_68 hl (k := 5) rfl rfl (by decide) rfl (fun ls hl => ?_)
          refine lv_goto (tgt := 3) hx hb dW_leastUnsealed_71 (by decide) ?_
          exact ih (a4 + 1) h ls (lv_sub hl [2, 3, 4, 5, 0] rfl)
        · have h := mp_f c3 h
          refine lv_aload_n hx hb dW_leastUnsealed_38 rfl (lv_at hl 1 rfl) ?_
          refine mp_gW cx hE hP iW 0 rfl 4 (by decide) wq_60 rfl (v := .ref (ad 2)) rfl dW_leastUnsealed_39 ?_
          refine lv_iload hx hb dW_leastUnsealed_42 (lv_at hl 5 rfl) ?_
          obtain ⟨hi, x4, ex4, h⟩ := mp_lds h
          refine va_iald hx hb hE.1 hP 2 0 (f := w.2.2.2.2.1) (n := 12) rfl rfl hi dW_leastUnsealed_44 ?_
          refine mp_top ex4 ?_
          refine lv_iload_n hx hb dW_leastUnsealed_45 rfl (lv_at hl 2 rfl) ?_
          refine lv_icmp_ne (tgt := 68) hx hb dW_leastUnsealed_46 (by decide) (fun c5 => ?_) (fun c5 => ?_)
          · have h := mp_f c5 h
            refine lv_iinc (v := (a4 + 1)) (lv' := [(4, .int (a4 + 1)), (5, .int 0), (0, .ref (ad 0)), (1, .int a1), (2, .int a2), (3, .int a3)]) hx hb dW_leastUnsealed_68 hl (k := 5) rfl rfl (by decide) rfl (fun ls hl => ?_)
            refine lv_goto (tgt := 3) hx hb dW_leastUnsealed_71 (by decide) ?_
            exact ih (a4 + 1) h ls (lv_sub hl [2, 3, 4, 5, 0] rfl)
          · have h := mp_t c5 h
            refine lv_aload_n hx hb dW_leastUnsealed_49 rfl (lv_at hl 1 rfl) ?_
            refine mp_gW cx hE hP iW 0 rfl 3 (by decide) wq_59 rfl (v := .ref (ad 1)) rfl dW_leastUnsealed_50 ?_
            refine lv_iload hx hb dW_leastUnsealed_53 (lv_at hl 5 rfl) ?_
            obtain ⟨hi, x6, ex6, h⟩ := mp_lds h
            refine va_iald hx hb hE.1 hP 1 0 (f := w.2.2.2.1) (n := 12) rfl rfl hi dW_leastUnsealed_55 ?_
            refine mp_top ex6 ?_
            refine lv_iload_n hx hb dW_leastUnsealed_56 rfl (lv_at hl 3 rfl) ?_
            refine lv_icmp_ne (tgt := 68) hx hb dW_leastUnsealed_57 (by decide) (fun c7 => ?_) (fun c7 => ?_)
            · have h := mp_f c7 h
              refine lv_iinc (v := (a4 + 1)) (lv' := [(4, .int (a4 + 1)), (5, .int 0), (0, .ref (ad 0)), (1, .int a1), (2, .int a2), (3, .int a3)]) hx hb dW_leastUnsealed_68 hl (k := 5) rfl rfl (by decide) rfl (fun ls hl => ?_)
              refine lv_goto (tgt := 3) hx hb dW_leastUnsealed_71 (by decide) ?_
              exact ih (a4 + 1) h ls (lv_sub hl [2, 3, 4, 5, 0] rfl)
            · have h := mp_t c7 h
              refine lv_iload hx hb dW_leastUnsealed_60 (lv_at hl 0 rfl) ?_
              refine lv_if_ne (tgt := 68) hx hb dW_leastUnsealed_62 (by decide) (fun c8 => ?_) (fun c8 => ?_)
              · exact absurd (by decide) c8
              · refine lv_iload hx hb dW_leastUnsealed_65 (lv_at hl 5 rfl) ?_
                exact mp_ri cx h dW_leastUnsealed_67
      · have h := mp_t c2 h
        refine lv_iconst (v := 1) hx hb dW_leastUnsealed_25 (by decide) ?_
        refine lv_goto (tgt := 30) hx hb dW_leastUnsealed_26 (by decide) ?_
        refine lv_istore (lv' := [(5, .int 1), (0, .ref (ad 0)), (1, .int a1), (2, .int a2), (3, .int a3), (4, .int a4)]) hx hb dW_leastUnsealed_30 hl (by decide) rfl (fun ls hl => ?_)
        refine lv_iload hx hb dW_leastUnsealed_32 (lv_at hl 5 rfl) ?_
        refine lv_iload_n hx hb dW_leastUnsealed_34 rfl (lv_at hl 4 rfl) ?_
        refine lv_icmp_eq (tgt := 68) hx hb dW_leastUnsealed_35 (by decide) (fun c9 => ?_) (fun c9 => ?_)
        · have h := mp_t c9 h
          refine lv_iinc (v := (a4 + 1)) (lv' := [(4, .int (a4 + 1)), (5, .int 1), (0, .ref (ad 0)), (1, .int a1), (2, .int a2), (3, .int a3)]) hx hb dW_leastUnsealed_68 hl (k := 5) rfl rfl (by decide) rfl (fun ls hl => ?_)
          refine lv_goto (tgt := 3) hx hb dW_leastUnsealed_71 (by decide) ?_
          exact ih (a4 + 1) h ls (lv_sub hl [2, 3, 4, 5, 0] rfl)
        · have h := mp_f c9 h
          refine lv_aload_n hx hb dW_leastUnsealed_38 rfl (lv_at hl 1 rfl) ?_
          refine mp_gW cx hE hP iW 0 rfl 4 (by decide) wq_60 rfl (v := .ref (ad 2)) rfl dW_leastUnsealed_39 ?_
          refine lv_iload hx hb dW_leastUnsealed_42 (lv_at hl 5 rfl) ?_
          obtain ⟨hi, x10, ex10, h⟩ := mp_lds h
          refine va_iald hx hb hE.1 hP 2 0 (f := w.2.2.2.2.1) (n := 12) rfl rfl hi dW_leastUnsealed_44 ?_
          refine mp_top ex10 ?_
          refine lv_iload_n hx hb dW_leastUnsealed_45 rfl (lv_at hl 2 rfl) ?_
          refine lv_icmp_ne (tgt := 68) hx hb dW_leastUnsealed_46 (by decide) (fun c11 => ?_) (fun c11 => ?_)
          · have h := mp_f c11 h
            refine lv_iinc (v := (a4 + 1)) (lv' := [(4, .int (a4 + 1)), (5, .int 1), (0, .ref (ad 0)), (1, .int a1), (2, .int a2), (3, .int a3)]) hx hb dW_leastUnsealed_68 hl (k := 5) rfl rfl (by decide) rfl (fun ls hl => ?_)
            refine lv_goto (tgt := 3) hx hb dW_leastUnsealed_71 (by decide) ?_
            exact ih (a4 + 1) h ls (lv_sub hl [2, 3, 4, 5, 0] rfl)
          · have h := mp_t c11 h
            refine lv_aload_n hx hb dW_leastUnsealed_49 rfl (lv_at hl 1 rfl) ?_
            refine mp_gW cx hE hP iW 0 rfl 3 (by decide) wq_59 rfl (v := .ref (ad 1)) rfl dW_leastUnsealed_50 ?_
            refine lv_iload hx hb dW_leastUnsealed_53 (lv_at hl 5 rfl) ?_
            obtain ⟨hi, x12, ex12, h⟩ := mp_lds h
            refine va_iald hx hb hE.1 hP 1 0 (f := w.2.2.2.1) (n := 12) rfl rfl hi dW_leastUnsealed_55 ?_
            refine mp_top ex12 ?_
            refine lv_iload_n hx hb dW_leastUnsealed_56 rfl (lv_at hl 3 rfl) ?_
            refine lv_icmp_ne (tgt := 68) hx hb dW_leastUnsealed_57 (by decide) (fun c13 => ?_) (fun c13 => ?_)
            · have h := mp_f c13 h
              refine lv_iinc (v := (a4 + 1)) (lv' := [(4, .int (a4 + 1)), (5, .int 1), (0, .ref (ad 0)), (1, .int a1), (2, .int a2), (3, .int a3)]) hx hb dW_leastUnsealed_68 hl (k := 5) rfl rfl (by decide) rfl (fun ls hl => ?_)
              refine lv_goto (tgt := 3) hx hb dW_leastUnsealed_71 (by decide) ?_
              exact ih (a4 + 1) h ls (lv_sub hl [2, 3, 4, 5, 0] rfl)
            · have h := mp_t c13 h
              refine lv_iload hx hb dW_leastUnsealed_60 (lv_at hl 0 rfl) ?_
              refine lv_if_ne (tgt := 68) hx hb dW_leastUnsealed_62 (by decide) (fun c14 => ?_) (fun c14 => ?_)
              · refine lv_iinc (v := (a4 + 1)) (lv' := [(4, .int (a4 + 1)), (5, .int 1), (0, .ref (ad 0)), (1, .int a1), (2, .int a2), (3, .int a3)]) hx hb dW_leastUnsealed_68 hl (k := 5) rfl rfl (by decide) rfl (fun ls hl => ?_)
                refine lv_goto (tgt := 3) hx hb dW_leastUnsealed_71 (by decide) ?_
                exact ih (a4 + 1) h ls (lv_sub hl [2, 3, 4, 5, 0] rfl)
              · exact absurd c14 (by decide)
def fW_leastUnsealed (w : SW) (a1 : Int32) (a2 : Int32) (a3 : Int32) : Option Int32 := fW_leastUnsealed_3 w a1 a2 a3 2000 0
set_option maxHeartbeats 4000000 in
set_option maxRecDepth 100000 in
theorem wW_leastUnsealed {p : Program} {l : Launch} {e : Env} {s : State} {m : MethodId} {args : Array Value} {below : List Frame} {meth : Method} {c : Code} (cx : mp_C p s m args meth c bW_leastUnsealed 6 (some .int) rW) (k : KK) (ad : Nat → Nat) (w : SW) (a1 : Int32) (a2 : Int32) (a3 : Int32) (z : Int32) (hE : mp_E k s) (hP : va_P (kD k) mp_cls (cW k ad w) s.heap) (hD : va_D (mp_N k) (cW k ad w)) (h : fW_leastUnsealed w a1 a2 a3 = some z) (ls : Array Slot) (hl : lv_has ls 6 [(0, .ref (ad 0)), (1, .int a1), (2, .int a2), (3, .int a3)]) : W p l e rmW_leastUnsealed s m args below meth c s.heap [] 0 0 (MQ below (mp_Qs (some (.int z))) args s 0 0 (fun _ => False)) (F0 m 0 ls []) := by
  obtain ⟨hx, hb, -, hml, hown, hts, -⟩ := id cx
  unfold fW_leastUnsealed at h
  refine lv_iconst (v := 0) hx hb dW_leastUnsealed_0 (by decide) ?_
  refine lv_istore (lv' := [(4, .int 0), (0, .ref (ad 0)), (1, .int a1), (2, .int a2), (3, .int a3)]) hx hb dW_leastUnsealed_1 hl (by decide) rfl (fun ls hl => ?_)
  exact lW_leastUnsealed_3 cx k ad w a1 a2 a3 z hE hP hD _ 0 h ls (lv_sub hl [1, 2, 3, 4, 0] rfl)
theorem cW_leastUnsealed (l : Launch) (k : KK) (ad : Nat → Nat) (w : SW) (a1 : Int32) (a2 : Int32) (a3 : Int32) (z : Int32) (h : fW_leastUnsealed w a1 a2 a3 = some z) : mp_CS l k yW_leastUnsealed bW_leastUnsealed 6 (some .int) rmW_leastUnsealed [.ref (ad 0), .int a1, .int a2, .int a3] (cW k ad w) (some (.int z)) := by
  refine Met.ofW (cc := bW_leastUnsealed) (maxL := 6) (ret := (some .int)) (by decide) rfl ?_
  intro p e s m args below meth c s₁ B hml hv
  obtain ⟨rfl, hP, hD, hE⟩ := hv
  have hl := lv_entry ([.ref (ad 0), .int a1, .int a2, .int a3]) (n := 6) (Nat.le_of_ble_eq_true rfl)
  rw [lg_entry_eq]
  generalize (lg_sl ([.ref (ad 0), .int a1, .int a2, .int a3]) ++ List.replicate (6 - (lg_sl ([.ref (ad 0), .int a1, .int a2, .int a3])).length) Slot.unset).toArray = ls at hl ⊢
  exact wW_leastUnsealed (mp_C.of B hml) k ad w a1 a2 a3 z hE hP hD h ls hl
-- MovingPlaces$World.unsealedAround
abbrev rmW_unsealedAround : Room := { frames := 2, cells := 0, slots := 0, locals := 42 }
def fW_unsealedAround (w : SW) (a1 : Int32) (a2 : Int32) : Option Int32 := (fW_placeAround w a1).bind fun x1 => (fW_nameOf w x1).bind fun x2 => (if x2 = a2 then (fW_isSealed w x1).bind fun x4 => (if x4 = 0 then some x1 else some (-9)) else some (-9))
set_option maxHeartbeats 4000000 in
set_option maxRecDepth 100000 in
theorem wW_unsealedAround {p : Program} {l : Launch} {e : Env} {s : State} {m : MethodId} {args : Array Value} {below : List Frame} {meth : Method} {c : Code} (cx : mp_C p s m args meth c bW_unsealedAround 4 (some .int) rW) (k : KK) (ad : Nat → Nat) (w : SW) (a1 : Int32) (a2 : Int32) (z : Int32) (hE : mp_E k s) (hP : va_P (kD k) mp_cls (cW k ad w) s.heap) (hD : va_D (mp_N k) (cW k ad w)) (h : fW_unsealedAround w a1 a2 = some z) (ls : Array Slot) (hl : lv_has ls 4 [(0, .ref (ad 0)), (1, .int a1), (2, .int a2)]) : W p l e rmW_unsealedAround s m args below meth c s.heap [] 0 0 (MQ below (mp_Qs (some (.int z))) args s 0 0 (fun _ => False)) (F0 m 0 ls []) := by
  obtain ⟨hx, hb, -, hml, hown, hts, -⟩ := id cx
  unfold fW_unsealedAround at h
  refine lv_aload_n hx hb dW_unsealedAround_0 rfl (lv_at hl 0 rfl) ?_
  refine lv_iload_n hx hb dW_unsealedAround_1 rfl (lv_at hl 1 rfl) ?_
  obtain ⟨x1, ex1, h⟩ := mp_bs h
  refine mp_si (mp_runV (As := [.int a1]) (rest := []) cx kV_W_63 (cW_placeAround l k ad w a1 x1 ex1) ⟨rfl, rfl, Nat.le_of_ble_eq_true rfl, Nat.le_of_ble_eq_true rfl⟩ ⟨Nat.zero_le _, Nat.zero_le _⟩ hE hP hD va_S.rf 0 rfl rfl rfl hl.1 rfl (Nat.le_of_ble_eq_true rfl) dW_unsealedAround_2) ?_
  refine lv_istore_n (lv' := [(3, .int x1), (0, .ref (ad 0)), (1, .int a1), (2, .int a2)]) hx hb dW_unsealedAround_5 rfl hl (by decide) rfl (fun ls hl => ?_)
  refine lv_aload_n hx hb dW_unsealedAround_6 rfl (lv_at hl 1 rfl) ?_
  refine lv_iload_n hx hb dW_unsealedAround_7 rfl (lv_at hl 0 rfl) ?_
  obtain ⟨x2, ex2, h⟩ := mp_bs h
  refine mp_si (mp_runV (As := [.int x1]) (rest := []) cx kV_W_109 (cW_nameOf l k ad w x1 x2 ex2) ⟨rfl, rfl, Nat.le_of_ble_eq_true rfl, Nat.le_of_ble_eq_true rfl⟩ ⟨Nat.zero_le _, Nat.zero_le _⟩ hE hP hD va_S.rf 0 rfl rfl rfl hl.1 rfl (Nat.le_of_ble_eq_true rfl) dW_unsealedAround_8) ?_
  refine lv_iload_n hx hb dW_unsealedAround_11 rfl (lv_at hl 3 rfl) ?_
  refine lv_icmp_ne (tgt := 27) hx hb dW_unsealedAround_12 (by decide) (fun c3 => ?_) (fun c3 => ?_)
  · have h := mp_f c3 h
    refine lv_bipush (v := (-9)) hx hb dW_unsealedAround_27 (by decide) ?_
    exact mp_ri cx h dW_unsealedAround_29
  · have h := mp_t c3 h
    refine lv_aload_n hx hb dW_unsealedAround_15 rfl (lv_at hl 1 rfl) ?_
    refine lv_iload_n hx hb dW_unsealedAround_16 rfl (lv_at hl 0 rfl) ?_
    obtain ⟨x4, ex4, h⟩ := mp_bs h
    refine mp_si (mp_runV (As := [.int x1]) (rest := []) cx kV_W_112 (cW_isSealed l k ad w x1 x4 ex4) ⟨rfl, rfl, Nat.le_of_ble_eq_true rfl, Nat.le_of_ble_eq_true rfl⟩ ⟨Nat.zero_le _, Nat.zero_le _⟩ hE hP hD va_S.rf 0 rfl rfl rfl hl.1 rfl (Nat.le_of_ble_eq_true rfl) dW_unsealedAround_17) ?_
    refine lv_if_ne (tgt := 27) hx hb dW_unsealedAround_20 (by decide) (fun c5 => ?_) (fun c5 => ?_)
    · have h := mp_f c5 h
      refine lv_bipush (v := (-9)) hx hb dW_unsealedAround_27 (by decide) ?_
      exact mp_ri cx h dW_unsealedAround_29
    · have h := mp_t c5 h
      refine lv_iload_n hx hb dW_unsealedAround_23 rfl (lv_at hl 0 rfl) ?_
      refine lv_goto (tgt := 29) hx hb dW_unsealedAround_24 (by decide) ?_
      exact mp_ri cx h dW_unsealedAround_29
theorem cW_unsealedAround (l : Launch) (k : KK) (ad : Nat → Nat) (w : SW) (a1 : Int32) (a2 : Int32) (z : Int32) (h : fW_unsealedAround w a1 a2 = some z) : mp_CS l k yW_unsealedAround bW_unsealedAround 4 (some .int) rmW_unsealedAround [.ref (ad 0), .int a1, .int a2] (cW k ad w) (some (.int z)) := by
  refine Met.ofW (cc := bW_unsealedAround) (maxL := 4) (ret := (some .int)) (by decide) rfl ?_
  intro p e s m args below meth c s₁ B hml hv
  obtain ⟨rfl, hP, hD, hE⟩ := hv
  have hl := lv_entry ([.ref (ad 0), .int a1, .int a2]) (n := 4) (Nat.le_of_ble_eq_true rfl)
  rw [lg_entry_eq]
  generalize (lg_sl ([.ref (ad 0), .int a1, .int a2]) ++ List.replicate (4 - (lg_sl ([.ref (ad 0), .int a1, .int a2])).length) Slot.unset).toArray = ls at hl ⊢
  exact wW_unsealedAround (mp_C.of B hml) k ad w a1 a2 z hE hP hD h ls hl
-- MovingPlaces$World.leastMessage
abbrev rmW_leastMessage : Room := { frames := 2, cells := 0, slots := 0, locals := 43 }
def fW_leastMessage_2 (w : SW) (a1 : Int32) : Nat → Int32 → Option Int32
  | 0, _ => none
  | n + 1, a2 => (if 6 ≤ a2 then some (-9) else (fW_messagesOf w a1 a2).bind fun x2 => (if x2 ≤ 0 then fW_leastMessage_2 w a1 n (a2 + 1) else some a2))
theorem fW_leastMessage_2_s (w : SW) (a1 : Int32) (n : Nat) (a2 : Int32) : fW_leastMessage_2 w a1 (n + 1) a2 = (if 6 ≤ a2 then some (-9) else (fW_messagesOf w a1 a2).bind fun x2 => (if x2 ≤ 0 then fW_leastMessage_2 w a1 n (a2 + 1) else some a2)) := rfl
set_option maxHeartbeats 4000000 in
set_option maxRecDepth 100000 in
theorem lW_leastMessage_2 {p : Program} {l : Launch} {e : Env} {s : State} {m : MethodId} {args : Array Value} {below : List Frame} {meth : Method} {c : Code} (cx : mp_C p s m args meth c bW_leastMessage 3 (some .int) rW) (k : KK) (ad : Nat → Nat) (w : SW) (a1 : Int32) (z : Int32) (hE : mp_E k s) (hP : va_P (kD k) mp_cls (cW k ad w) s.heap) (hD : va_D (mp_N k) (cW k ad w)) : ∀ (n : Nat) (a2 : Int32), fW_leastMessage_2 w a1 n a2 = some z → ∀ (ls : Array Slot), lv_has ls 3 [(0, .ref (ad 0)), (1, .int a1), (2, .int a2)] → W p l e rmW_leastMessage s m args below meth c s.heap [] 0 0 (MQ below (mp_Qs (some (.int z))) args s 0 0 (fun _ => False)) (F0 m 2 ls []) := by
  obtain ⟨hx, hb, -, hml, hown, hts, -⟩ := id cx
  intro n
  induction n with
  | zero =>
    intro a2 h
    have h : (none : Option Int32) = some z := h
    cases h
  | succ n ih =>
    intro a2 h ls hl
    rw [fW_leastMessage_2_s] at h
    refine lv_iload_n hx hb dW_leastMessage_2 rfl (lv_at hl 2 rfl) ?_
    refine lv_bipush (v := 6) hx hb dW_leastMessage_3 (by decide) ?_
    refine lv_icmp_ge (tgt := 25) hx hb dW_leastMessage_5 (by decide) (fun c1 => ?_) (fun c1 => ?_)
    · have h := mp_t c1 h
      refine lv_bipush (v := (-9)) hx hb dW_leastMessage_25 (by decide) ?_
      exact mp_ri cx h dW_leastMessage_27
    · have h := mp_f c1 h
      refine lv_aload_n hx hb dW_leastMessage_8 rfl (lv_at hl 0 rfl) ?_
      refine lv_iload_n hx hb dW_leastMessage_9 rfl (lv_at hl 1 rfl) ?_
      refine lv_iload_n hx hb dW_leastMessage_10 rfl (lv_at hl 2 rfl) ?_
      obtain ⟨x2, ex2, h⟩ := mp_bs h
      refine mp_si (mp_runV (As := [.int a1, .int a2]) (rest := []) cx kV_W_72 (cW_messagesOf l k ad w a1 a2 x2 ex2) ⟨rfl, rfl, Nat.le_of_ble_eq_true rfl, Nat.le_of_ble_eq_true rfl⟩ ⟨Nat.zero_le _, Nat.zero_le _⟩ hE hP hD va_S.rf 0 rfl rfl rfl hl.1 rfl (Nat.le_of_ble_eq_true rfl) dW_leastMessage_11) ?_
      refine lv_if_le (tgt := 19) hx hb dW_leastMessage_14 (by decide) (fun c3 => ?_) (fun c3 => ?_)
      · have h := mp_t c3 h
        refine lv_iinc (v := (a2 + 1)) (lv' := [(2, .int (a2 + 1)), (0, .ref (ad 0)), (1, .int a1)]) hx hb dW_leastMessage_19 hl (k := 2) rfl rfl (by decide) rfl (fun ls hl => ?_)
        refine lv_goto (tgt := 2) hx hb dW_leastMessage_22 (by decide) ?_
        exact ih (a2 + 1) h ls (lv_sub hl [1, 2, 0] rfl)
      · have h := mp_f c3 h
        refine lv_iload_n hx hb dW_leastMessage_17 rfl (lv_at hl 2 rfl) ?_
        exact mp_ri cx h dW_leastMessage_18
def fW_leastMessage (w : SW) (a1 : Int32) : Option Int32 := fW_leastMessage_2 w a1 2000 0
set_option maxHeartbeats 4000000 in
set_option maxRecDepth 100000 in
theorem wW_leastMessage {p : Program} {l : Launch} {e : Env} {s : State} {m : MethodId} {args : Array Value} {below : List Frame} {meth : Method} {c : Code} (cx : mp_C p s m args meth c bW_leastMessage 3 (some .int) rW) (k : KK) (ad : Nat → Nat) (w : SW) (a1 : Int32) (z : Int32) (hE : mp_E k s) (hP : va_P (kD k) mp_cls (cW k ad w) s.heap) (hD : va_D (mp_N k) (cW k ad w)) (h : fW_leastMessage w a1 = some z) (ls : Array Slot) (hl : lv_has ls 3 [(0, .ref (ad 0)), (1, .int a1)]) : W p l e rmW_leastMessage s m args below meth c s.heap [] 0 0 (MQ below (mp_Qs (some (.int z))) args s 0 0 (fun _ => False)) (F0 m 0 ls []) := by
  obtain ⟨hx, hb, -, hml, hown, hts, -⟩ := id cx
  unfold fW_leastMessage at h
  refine lv_iconst (v := 0) hx hb dW_leastMessage_0 (by decide) ?_
  refine lv_istore_n (lv' := [(2, .int 0), (0, .ref (ad 0)), (1, .int a1)]) hx hb dW_leastMessage_1 rfl hl (by decide) rfl (fun ls hl => ?_)
  exact lW_leastMessage_2 cx k ad w a1 z hE hP hD _ 0 h ls (lv_sub hl [1, 2, 0] rfl)
theorem cW_leastMessage (l : Launch) (k : KK) (ad : Nat → Nat) (w : SW) (a1 : Int32) (z : Int32) (h : fW_leastMessage w a1 = some z) : mp_CS l k yW_leastMessage bW_leastMessage 3 (some .int) rmW_leastMessage [.ref (ad 0), .int a1] (cW k ad w) (some (.int z)) := by
  refine Met.ofW (cc := bW_leastMessage) (maxL := 3) (ret := (some .int)) (by decide) rfl ?_
  intro p e s m args below meth c s₁ B hml hv
  obtain ⟨rfl, hP, hD, hE⟩ := hv
  have hl := lv_entry ([.ref (ad 0), .int a1]) (n := 3) (Nat.le_of_ble_eq_true rfl)
  rw [lg_entry_eq]
  generalize (lg_sl ([.ref (ad 0), .int a1]) ++ List.replicate (3 - (lg_sl ([.ref (ad 0), .int a1])).length) Slot.unset).toArray = ls at hl ⊢
  exact wW_leastMessage (mp_C.of B hml) k ad w a1 z hE hP hD h ls hl
-- MovingPlaces$World.aimOf
abbrev rmW_aimOf : Room := { frames := 3, cells := 0, slots := 0, locals := 65 }
def fW_aimOf (w : SW) (a1 : Int32) : Option Int32 := (fW_isThread w a1).bind fun x1 => (if x1 = 0 then some (-9) else (fW_isOver w a1).bind fun x3 => (if x3 = 0 then mp_ld w.2.2.2.2.2.2.2.1 12 a1 fun x5 => mp_ld w.2.2.2.2.2.2.2.2.2.2.1 12 a1 fun x6 => (fW_actOf w a1 x6).bind fun x7 => (if (x7 - x7 / 10 * 10) = 9 then mp_ld w.2.2.2.2.2.2.2.2.2.2.2 12 a1 fun x21 => (if x21 = (-9) then some (-9) else (if (x7 / 10) = 1 then (if x5 = 0 then some (-9) else (fW_placeAround w x5).bind fun x25 => (fW_leastUnsealed w x25 x21 x5).bind fun x26 => some x26) else if (x7 / 10) = 2 then (fW_unsealedAround w x5 x21).bind fun x28 => some x28 else if (x7 / 10) = 3 then (fW_leastUnsealed w x5 x21 (-9)).bind fun x30 => some x30 else if (x7 / 10) = 4 then some x21 else if (x7 / 10) = 5 then (fW_leastMessage w x5).bind fun x33 => some x33 else some (-9))) else (if (x7 - x7 / 10 * 10) = (-9) then some (-9) else (if (x7 / 10) = 1 then (if x5 = 0 then some (-9) else (fW_placeAround w x5).bind fun x12 => (fW_leastUnsealed w x12 (x7 - x7 / 10 * 10) x5).bind fun x13 => some x13) else if (x7 / 10) = 2 then (fW_unsealedAround w x5 (x7 - x7 / 10 * 10)).bind fun x15 => some x15 else if (x7 / 10) = 3 then (fW_leastUnsealed w x5 (x7 - x7 / 10 * 10) (-9)).bind fun x17 => some x17 else if (x7 / 10) = 4 then some (x7 - x7 / 10 * 10) else if (x7 / 10) = 5 then (fW_leastMessage w x5).bind fun x20 => some x20 else some (-9)))) else some (-9)))
set_option maxHeartbeats 4000000 in
set_option maxRecDepth 100000 in
theorem wW_aimOf {p : Program} {l : Launch} {e : Env} {s : State} {m : MethodId} {args : Array Value} {below : List Frame} {meth : Method} {c : Code} (cx : mp_C p s m args meth c bW_aimOf 5 (some .int) rW) (k : KK) (ad : Nat → Nat) (w : SW) (a1 : Int32) (z : Int32) (hE : mp_E k s) (hP : va_P (kD k) mp_cls (cW k ad w) s.heap) (hD : va_D (mp_N k) (cW k ad w)) (h : fW_aimOf w a1 = some z) (ls : Array Slot) (hl : lv_has ls 5 [(0, .ref (ad 0)), (1, .int a1)]) : W p l e rmW_aimOf s m args below meth c s.heap [] 0 0 (MQ below (mp_Qs (some (.int z))) args s 0 0 (fun _ => False)) (F0 m 0 ls []) := by
  obtain ⟨hx, hb, -, hml, hown, hts, -⟩ := id cx
  unfold fW_aimOf at h
  refine lv_aload_n hx hb dW_aimOf_0 rfl (lv_at hl 0 rfl) ?_
  refine lv_iload_n hx hb dW_aimOf_1 rfl (lv_at hl 1 rfl) ?_
  obtain ⟨x1, ex1, h⟩ := mp_bs h
  refine mp_si (mp_runV (As := [.int a1]) (rest := []) cx kV_W_76 (cW_isThread l k ad w a1 x1 ex1) ⟨rfl, rfl, Nat.le_of_ble_eq_true rfl, Nat.le_of_ble_eq_true rfl⟩ ⟨Nat.zero_le _, Nat.zero_le _⟩ hE hP hD va_S.rf 0 rfl rfl rfl hl.1 rfl (Nat.le_of_ble_eq_true rfl) dW_aimOf_2) ?_
  refine lv_if_eq (tgt := 16) hx hb dW_aimOf_5 (by decide) (fun c2 => ?_) (fun c2 => ?_)
  · have h := mp_t c2 h
    refine lv_bipush (v := (-9)) hx hb dW_aimOf_16 (by decide) ?_
    exact mp_ri cx h dW_aimOf_18
  · have h := mp_f c2 h
    refine lv_aload_n hx hb dW_aimOf_8 rfl (lv_at hl 0 rfl) ?_
    refine lv_iload_n hx hb dW_aimOf_9 rfl (lv_at hl 1 rfl) ?_
    obtain ⟨x3, ex3, h⟩ := mp_bs h
    refine mp_si (mp_runV (As := [.int a1]) (rest := []) cx kV_W_90 (cW_isOver l k ad w a1 x3 ex3) ⟨rfl, rfl, Nat.le_of_ble_eq_true rfl, Nat.le_of_ble_eq_true rfl⟩ ⟨Nat.zero_le _, Nat.zero_le _⟩ hE hP hD va_S.rf 0 rfl rfl rfl hl.1 rfl (Nat.le_of_ble_eq_true rfl) dW_aimOf_10) ?_
    refine lv_if_eq (tgt := 19) hx hb dW_aimOf_13 (by decide) (fun c4 => ?_) (fun c4 => ?_)
    · have h := mp_t c4 h
      refine lv_aload_n hx hb dW_aimOf_19 rfl (lv_at hl 0 rfl) ?_
      refine mp_gW cx hE hP iW 0 rfl 7 (by decide) wq_63 rfl (v := .ref (ad 4)) rfl dW_aimOf_20 ?_
      refine lv_iload_n hx hb dW_aimOf_23 rfl (lv_at hl 1 rfl) ?_
      obtain ⟨hi, x5, ex5, h⟩ := mp_lds h
      refine va_iald hx hb hE.1 hP 4 0 (f := w.2.2.2.2.2.2.2.1) (n := 12) rfl rfl hi dW_aimOf_24 ?_
      refine mp_top ex5 ?_
      refine lv_istore_n (lv' := [(2, .int x5), (0, .ref (ad 0)), (1, .int a1)]) hx hb dW_aimOf_25 rfl hl (by decide) rfl (fun ls hl => ?_)
      refine lv_aload_n hx hb dW_aimOf_26 rfl (lv_at hl 1 rfl) ?_
      refine lv_iload_n hx hb dW_aimOf_27 rfl (lv_at hl 2 rfl) ?_
      refine lv_aload_n hx hb dW_aimOf_28 rfl (lv_at hl 1 rfl) ?_
      refine mp_gW cx hE hP iW 0 rfl 10 (by decide) wq_66 rfl (v := .ref (ad 7)) rfl dW_aimOf_29 ?_
      refine lv_iload_n hx hb dW_aimOf_32 rfl (lv_at hl 2 rfl) ?_
      obtain ⟨hi, x6, ex6, h⟩ := mp_lds h
      refine va_iald hx hb hE.1 hP 7 0 (f := w.2.2.2.2.2.2.2.2.2.2.1) (n := 12) rfl rfl hi dW_aimOf_33 ?_
      refine mp_top ex6 ?_
      obtain ⟨x7, ex7, h⟩ := mp_bs h
      refine mp_si (mp_runV (As := [.int a1, .int x6]) (rest := []) cx kV_W_96 (cW_actOf l k ad w a1 x6 x7 ex7) ⟨rfl, rfl, Nat.le_of_ble_eq_true rfl, Nat.le_of_ble_eq_true rfl⟩ ⟨Nat.zero_le _, Nat.zero_le _⟩ hE hP hD va_S.rf 0 rfl rfl rfl hl.1 rfl (Nat.le_of_ble_eq_true rfl) dW_aimOf_34) ?_
      refine lv_istore_n (lv' := [(3, .int x7), (2, .int x5), (0, .ref (ad 0)), (1, .int a1)]) hx hb dW_aimOf_37 rfl hl (by decide) rfl (fun ls hl => ?_)
      refine lv_iload_n hx hb dW_aimOf_38 rfl (lv_at hl 0 rfl) ?_
      refine lv_bipush (v := 10) hx hb dW_aimOf_39 (by decide) ?_
      refine lv_irem hx hb dW_aimOf_41 (by decide) ?_
      refine lv_bipush (v := 9) hx hb dW_aimOf_42 (by decide) ?_
      refine lv_icmp_ne (tgt := 56) hx hb dW_aimOf_44 (by decide) (fun c8 => ?_) (fun c8 => ?_)
      · have h := mp_f c8 h
        refine lv_iload_n hx hb dW_aimOf_56 rfl (lv_at hl 0 rfl) ?_
        refine lv_bipush (v := 10) hx hb dW_aimOf_57 (by decide) ?_
        refine lv_irem hx hb dW_aimOf_59 (by decide) ?_
        refine lv_istore (lv' := [(4, .int (x7 - x7 / 10 * 10)), (3, .int x7), (2, .int x5), (0, .ref (ad 0)), (1, .int a1)]) hx hb dW_aimOf_60 hl (by decide) rfl (fun ls hl => ?_)
        refine lv_iload hx hb dW_aimOf_62 (lv_at hl 0 rfl) ?_
        refine lv_bipush (v := (-9)) hx hb dW_aimOf_64 (by decide) ?_
        refine lv_icmp_ne (tgt := 72) hx hb dW_aimOf_66 (by decide) (fun c9 => ?_) (fun c9 => ?_)
        · have h := mp_f c9 h
          refine lv_iload_n hx hb dW_aimOf_72 rfl (lv_at hl 1 rfl) ?_
          refine lv_bipush (v := 10) hx hb dW_aimOf_73 (by decide) ?_
          refine lv_idiv hx hb dW_aimOf_75 (by decide) ?_
          by_cases c10 : (x7 / 10) = 1
          · have h := mp_t c10 h
            refine lv_tableIn (off := 36) (tgt := 112) hx hb dW_aimOf_76 (by rw [c10]; decide) (by rw [c10]; decide) (by rw [c10]; rfl) (by decide) ?_
            refine lv_iload_n hx hb dW_aimOf_112 rfl (lv_at hl 2 rfl) ?_
            refine lv_if_ne (tgt := 121) hx hb dW_aimOf_113 (by decide) (fun c11 => ?_) (fun c11 => ?_)
            · have h := mp_f c11 h
              refine lv_aload_n hx hb dW_aimOf_121 rfl (lv_at hl 3 rfl) ?_
              refine lv_aload_n hx hb dW_aimOf_122 rfl (lv_at hl 3 rfl) ?_
              refine lv_iload_n hx hb dW_aimOf_123 rfl (lv_at hl 2 rfl) ?_
              obtain ⟨x12, ex12, h⟩ := mp_bs h
              refine mp_si (mp_runV (As := [.int x5]) (rest := [.ref (ad 0)]) cx kV_W_63 (cW_placeAround l k ad w x5 x12 ex12) ⟨rfl, rfl, Nat.le_of_ble_eq_true rfl, Nat.le_of_ble_eq_true rfl⟩ ⟨Nat.zero_le _, Nat.zero_le _⟩ hE hP hD va_S.rf 0 rfl rfl rfl hl.1 rfl (Nat.le_of_ble_eq_true rfl) dW_aimOf_124) ?_
              refine lv_iload hx hb dW_aimOf_127 (lv_at hl 0 rfl) ?_
              refine lv_iload_n hx hb dW_aimOf_129 rfl (lv_at hl 2 rfl) ?_
              obtain ⟨x13, ex13, h⟩ := mp_bs h
              refine mp_si (mp_runV (As := [.int x12, .int (x7 - x7 / 10 * 10), .int x5]) (rest := []) cx kV_W_99 (cW_leastUnsealed l k ad w x12 (x7 - x7 / 10 * 10) x5 x13 ex13) ⟨rfl, rfl, Nat.le_of_ble_eq_true rfl, Nat.le_of_ble_eq_true rfl⟩ ⟨Nat.zero_le _, Nat.zero_le _⟩ hE hP hD va_S.rf 0 rfl rfl rfl hl.1 rfl (Nat.le_of_ble_eq_true rfl) dW_aimOf_130) ?_
              exact mp_ri cx h dW_aimOf_133
            · have h := mp_t c11 h
              refine lv_bipush (v := (-9)) hx hb dW_aimOf_116 (by decide) ?_
              refine lv_goto (tgt := 133) hx hb dW_aimOf_118 (by decide) ?_
              exact mp_ri cx h dW_aimOf_133
          have h := mp_f c10 h
          by_cases c14 : (x7 / 10) = 2
          · have h := mp_t c14 h
            refine lv_tableIn (off := 58) (tgt := 134) hx hb dW_aimOf_76 (by rw [c14]; decide) (by rw [c14]; decide) (by rw [c14]; rfl) (by decide) ?_
            refine lv_aload_n hx hb dW_aimOf_134 rfl (lv_at hl 3 rfl) ?_
            refine lv_iload_n hx hb dW_aimOf_135 rfl (lv_at hl 2 rfl) ?_
            refine lv_iload hx hb dW_aimOf_136 (lv_at hl 0 rfl) ?_
            obtain ⟨x15, ex15, h⟩ := mp_bs h
            refine mp_si (mp_runV (As := [.int x5, .int (x7 - x7 / 10 * 10)]) (rest := []) cx kV_W_103 (cW_unsealedAround l k ad w x5 (x7 - x7 / 10 * 10) x15 ex15) ⟨rfl, rfl, Nat.le_of_ble_eq_true rfl, Nat.le_of_ble_eq_true rfl⟩ ⟨Nat.zero_le _, Nat.zero_le _⟩ hE hP hD va_S.rf 0 rfl rfl rfl hl.1 rfl (Nat.le_of_ble_eq_true rfl) dW_aimOf_138) ?_
            exact mp_ri cx h dW_aimOf_141
          have h := mp_f c14 h
          by_cases c16 : (x7 / 10) = 3
          · have h := mp_t c16 h
            refine lv_tableIn (off := 66) (tgt := 142) hx hb dW_aimOf_76 (by rw [c16]; decide) (by rw [c16]; decide) (by rw [c16]; rfl) (by decide) ?_
            refine lv_aload_n hx hb dW_aimOf_142 rfl (lv_at hl 3 rfl) ?_
            refine lv_iload_n hx hb dW_aimOf_143 rfl (lv_at hl 2 rfl) ?_
            refine lv_iload hx hb dW_aimOf_144 (lv_at hl 0 rfl) ?_
            refine lv_bipush (v := (-9)) hx hb dW_aimOf_146 (by decide) ?_
            obtain ⟨x17, ex17, h⟩ := mp_bs h
            refine mp_si (mp_runV (As := [.int x5, .int (x7 - x7 / 10 * 10), .int (-9)]) (rest := []) cx kV_W_99 (cW_leastUnsealed l k ad w x5 (x7 - x7 / 10 * 10) (-9) x17 ex17) ⟨rfl, rfl, Nat.le_of_ble_eq_true rfl, Nat.le_of_ble_eq_true rfl⟩ ⟨Nat.zero_le _, Nat.zero_le _⟩ hE hP hD va_S.rf 0 rfl rfl rfl hl.1 rfl (Nat.le_of_ble_eq_true rfl) dW_aimOf_148) ?_
            exact mp_ri cx h dW_aimOf_151
          have h := mp_f c16 h
          by_cases c18 : (x7 / 10) = 4
          · have h := mp_t c18 h
            refine lv_tableIn (off := 76) (tgt := 152) hx hb dW_aimOf_76 (by rw [c18]; decide) (by rw [c18]; decide) (by rw [c18]; rfl) (by decide) ?_
            refine lv_iload hx hb dW_aimOf_152 (lv_at hl 0 rfl) ?_
            exact mp_ri cx h dW_aimOf_154
          have h := mp_f c18 h
          by_cases c19 : (x7 / 10) = 5
          · have h := mp_t c19 h
            refine lv_tableIn (off := 79) (tgt := 155) hx hb dW_aimOf_76 (by rw [c19]; decide) (by rw [c19]; decide) (by rw [c19]; rfl) (by decide) ?_
            refine lv_aload_n hx hb dW_aimOf_155 rfl (lv_at hl 3 rfl) ?_
            refine lv_iload_n hx hb dW_aimOf_156 rfl (lv_at hl 2 rfl) ?_
            obtain ⟨x20, ex20, h⟩ := mp_bs h
            refine mp_si (mp_runV (As := [.int x5]) (rest := []) cx kV_W_106 (cW_leastMessage l k ad w x5 x20 ex20) ⟨rfl, rfl, Nat.le_of_ble_eq_true rfl, Nat.le_of_ble_eq_true rfl⟩ ⟨Nat.zero_le _, Nat.zero_le _⟩ hE hP hD va_S.rf 0 rfl rfl rfl hl.1 rfl (Nat.le_of_ble_eq_true rfl) dW_aimOf_157) ?_
            exact mp_ri cx h dW_aimOf_160
          have h := mp_f c19 h
          have qc10 : ((x7 / 10)).toInt ≠ 1 := mp_ne c10
          have qc14 : ((x7 / 10)).toInt ≠ 2 := mp_ne c14
          have qc16 : ((x7 / 10)).toInt ≠ 3 := mp_ne c16
          have qc18 : ((x7 / 10)).toInt ≠ 4 := mp_ne c18
          have qc19 : ((x7 / 10)).toInt ≠ 5 := mp_ne c19
          refine lv_tableOut (tgt := 161) hx hb dW_aimOf_76 (by omega) (by decide) ?_
          refine lv_bipush (v := (-9)) hx hb dW_aimOf_161 (by decide) ?_
          exact mp_ri cx h dW_aimOf_163
        · have h := mp_t c9 h
          refine lv_bipush (v := (-9)) hx hb dW_aimOf_69 (by decide) ?_
          exact mp_ri cx h dW_aimOf_71
      · have h := mp_t c8 h
        refine lv_aload_n hx hb dW_aimOf_47 rfl (lv_at hl 2 rfl) ?_
        refine mp_gW cx hE hP iW 0 rfl 11 (by decide) wq_67 rfl (v := .ref (ad 8)) rfl dW_aimOf_48 ?_
        refine lv_iload_n hx hb dW_aimOf_51 rfl (lv_at hl 3 rfl) ?_
        obtain ⟨hi, x21, ex21, h⟩ := mp_lds h
        refine va_iald hx hb hE.1 hP 8 0 (f := w.2.2.2.2.2.2.2.2.2.2.2) (n := 12) rfl rfl hi dW_aimOf_52 ?_
        refine mp_top ex21 ?_
        refine lv_goto (tgt := 60) hx hb dW_aimOf_53 (by decide) ?_
        refine lv_istore (lv' := [(4, .int x21), (3, .int x7), (2, .int x5), (0, .ref (ad 0)), (1, .int a1)]) hx hb dW_aimOf_60 hl (by decide) rfl (fun ls hl => ?_)
        refine lv_iload hx hb dW_aimOf_62 (lv_at hl 0 rfl) ?_
        refine lv_bipush (v := (-9)) hx hb dW_aimOf_64 (by decide) ?_
        refine lv_icmp_ne (tgt := 72) hx hb dW_aimOf_66 (by decide) (fun c22 => ?_) (fun c22 => ?_)
        · have h := mp_f c22 h
          refine lv_iload_n hx hb dW_aimOf_72 rfl (lv_at hl 1 rfl) ?_
          refine lv_bipush (v := 10) hx hb dW_aimOf_73 (by decide) ?_
          refine lv_idiv hx hb dW_aimOf_75 (by decide) ?_
          by_cases c23 : (x7 / 10) = 1
          · have h := mp_t c23 h
            refine lv_tableIn (off := 36) (tgt := 112) hx hb dW_aimOf_76 (by rw [c23]; decide) (by rw [c23]; decide) (by rw [c23]; rfl) (by decide) ?_
            refine lv_iload_n hx hb dW_aimOf_112 rfl (lv_at hl 2 rfl) ?_
            refine lv_if_ne (tgt := 121) hx hb dW_aimOf_113 (by decide) (fun c24 => ?_) (fun c24 => ?_)
            · have h := mp_f c24 h
              refine lv_aload_n hx hb dW_aimOf_121 rfl (lv_at hl 3 rfl) ?_
              refine lv_aload_n hx hb dW_aimOf_122 rfl (lv_at hl 3 rfl) ?_
              refine lv_iload_n hx hb dW_aimOf_123 rfl (lv_at hl 2 rfl) ?_
              obtain ⟨x25, ex25, h⟩ := mp_bs h
              refine mp_si (mp_runV (As := [.int x5]) (rest := [.ref (ad 0)]) cx kV_W_63 (cW_placeAround l k ad w x5 x25 ex25) ⟨rfl, rfl, Nat.le_of_ble_eq_true rfl, Nat.le_of_ble_eq_true rfl⟩ ⟨Nat.zero_le _, Nat.zero_le _⟩ hE hP hD va_S.rf 0 rfl rfl rfl hl.1 rfl (Nat.le_of_ble_eq_true rfl) dW_aimOf_124) ?_
              refine lv_iload hx hb dW_aimOf_127 (lv_at hl 0 rfl) ?_
              refine lv_iload_n hx hb dW_aimOf_129 rfl (lv_at hl 2 rfl) ?_
              obtain ⟨x26, ex26, h⟩ := mp_bs h
              refine mp_si (mp_runV (As := [.int x25, .int x21, .int x5]) (rest := []) cx kV_W_99 (cW_leastUnsealed l k ad w x25 x21 x5 x26 ex26) ⟨rfl, rfl, Nat.le_of_ble_eq_true rfl, Nat.le_of_ble_eq_true rfl⟩ ⟨Nat.zero_le _, Nat.zero_le _⟩ hE hP hD va_S.rf 0 rfl rfl rfl hl.1 rfl (Nat.le_of_ble_eq_true rfl) dW_aimOf_130) ?_
              exact mp_ri cx h dW_aimOf_133
            · have h := mp_t c24 h
              refine lv_bipush (v := (-9)) hx hb dW_aimOf_116 (by decide) ?_
              refine lv_goto (tgt := 133) hx hb dW_aimOf_118 (by decide) ?_
              exact mp_ri cx h dW_aimOf_133
          have h := mp_f c23 h
          by_cases c27 : (x7 / 10) = 2
          · have h := mp_t c27 h
            refine lv_tableIn (off := 58) (tgt := 134) hx hb dW_aimOf_76 (by rw [c27]; decide) (by rw [c27]; decide) (by rw [c27]; rfl) (by decide) ?_
            refine lv_aload_n hx hb dW_aimOf_134 rfl (lv_at hl 3 rfl) ?_
            refine lv_iload_n hx hb dW_aimOf_135 rfl (lv_at hl 2 rfl) ?_
            refine lv_iload hx hb dW_aimOf_136 (lv_at hl 0 rfl) ?_
            obtain ⟨x28, ex28, h⟩ := mp_bs h
            refine mp_si (mp_runV (As := [.int x5, .int x21]) (rest := []) cx kV_W_103 (cW_unsealedAround l k ad w x5 x21 x28 ex28) ⟨rfl, rfl, Nat.le_of_ble_eq_true rfl, Nat.le_of_ble_eq_true rfl⟩ ⟨Nat.zero_le _, Nat.zero_le _⟩ hE hP hD va_S.rf 0 rfl rfl rfl hl.1 rfl (Nat.le_of_ble_eq_true rfl) dW_aimOf_138) ?_
            exact mp_ri cx h dW_aimOf_141
          have h := mp_f c27 h
          by_cases c29 : (x7 / 10) = 3
          · have h := mp_t c29 h
            refine lv_tableIn (off := 66) (tgt := 142) hx hb dW_aimOf_76 (by rw [c29]; decide) (by rw [c29]; decide) (by rw [c29]; rfl) (by decide) ?_
            refine lv_aload_n hx hb dW_aimOf_142 rfl (lv_at hl 3 rfl) ?_
            refine lv_iload_n hx hb dW_aimOf_143 rfl (lv_at hl 2 rfl) ?_
            refine lv_iload hx hb dW_aimOf_144 (lv_at hl 0 rfl) ?_
            refine lv_bipush (v := (-9)) hx hb dW_aimOf_146 (by decide) ?_
            obtain ⟨x30, ex30, h⟩ := mp_bs h
            refine mp_si (mp_runV (As := [.int x5, .int x21, .int (-9)]) (rest := []) cx kV_W_99 (cW_leastUnsealed l k ad w x5 x21 (-9) x30 ex30) ⟨rfl, rfl, Nat.le_of_ble_eq_true rfl, Nat.le_of_ble_eq_true rfl⟩ ⟨Nat.zero_le _, Nat.zero_le _⟩ hE hP hD va_S.rf 0 rfl rfl rfl hl.1 rfl (Nat.le_of_ble_eq_true rfl) dW_aimOf_148) ?_
            exact mp_ri cx h dW_aimOf_151
          have h := mp_f c29 h
          by_cases c31 : (x7 / 10) = 4
          · have h := mp_t c31 h
            refine lv_tableIn (off := 76) (tgt := 152) hx hb dW_aimOf_76 (by rw [c31]; decide) (by rw [c31]; decide) (by rw [c31]; rfl) (by decide) ?_
            refine lv_iload hx hb dW_aimOf_152 (lv_at hl 0 rfl) ?_
            exact mp_ri cx h dW_aimOf_154
          have h := mp_f c31 h
          by_cases c32 : (x7 / 10) = 5
          · have h := mp_t c32 h
            refine lv_tableIn (off := 79) (tgt := 155) hx hb dW_aimOf_76 (by rw [c32]; decide) (by rw [c32]; decide) (by rw [c32]; rfl) (by decide) ?_
            refine lv_aload_n hx hb dW_aimOf_155 rfl (lv_at hl 3 rfl) ?_
            refine lv_iload_n hx hb dW_aimOf_156 rfl (lv_at hl 2 rfl) ?_
            obtain ⟨x33, ex33, h⟩ := mp_bs h
            refine mp_si (mp_runV (As := [.int x5]) (rest := []) cx kV_W_106 (cW_leastMessage l k ad w x5 x33 ex33) ⟨rfl, rfl, Nat.le_of_ble_eq_true rfl, Nat.le_of_ble_eq_true rfl⟩ ⟨Nat.zero_le _, Nat.zero_le _⟩ hE hP hD va_S.rf 0 rfl rfl rfl hl.1 rfl (Nat.le_of_ble_eq_true rfl) dW_aimOf_157) ?_
            exact mp_ri cx h dW_aimOf_160
          have h := mp_f c32 h
          have qc23 : ((x7 / 10)).toInt ≠ 1 := mp_ne c23
          have qc27 : ((x7 / 10)).toInt ≠ 2 := mp_ne c27
          have qc29 : ((x7 / 10)).toInt ≠ 3 := mp_ne c29
          have qc31 : ((x7 / 10)).toInt ≠ 4 := mp_ne c31
          have qc32 : ((x7 / 10)).toInt ≠ 5 := mp_ne c32
          refine lv_tableOut (tgt := 161) hx hb dW_aimOf_76 (by omega) (by decide) ?_
          refine lv_bipush (v := (-9)) hx hb dW_aimOf_161 (by decide) ?_
          exact mp_ri cx h dW_aimOf_163
        · have h := mp_t c22 h
          refine lv_bipush (v := (-9)) hx hb dW_aimOf_69 (by decide) ?_
          exact mp_ri cx h dW_aimOf_71
    · have h := mp_f c4 h
      refine lv_bipush (v := (-9)) hx hb dW_aimOf_16 (by decide) ?_
      exact mp_ri cx h dW_aimOf_18
theorem cW_aimOf (l : Launch) (k : KK) (ad : Nat → Nat) (w : SW) (a1 : Int32) (z : Int32) (h : fW_aimOf w a1 = some z) : mp_CS l k yW_aimOf bW_aimOf 5 (some .int) rmW_aimOf [.ref (ad 0), .int a1] (cW k ad w) (some (.int z)) := by
  refine Met.ofW (cc := bW_aimOf) (maxL := 5) (ret := (some .int)) (by decide) rfl ?_
  intro p e s m args below meth c s₁ B hml hv
  obtain ⟨rfl, hP, hD, hE⟩ := hv
  have hl := lv_entry ([.ref (ad 0), .int a1]) (n := 5) (Nat.le_of_ble_eq_true rfl)
  rw [lg_entry_eq]
  generalize (lg_sl ([.ref (ad 0), .int a1]) ++ List.replicate (5 - (lg_sl ([.ref (ad 0), .int a1])).length) Slot.unset).toArray = ls at hl ⊢
  exact wW_aimOf (mp_C.of B hml) k ad w a1 z hE hP hD h ls hl
-- MovingPlaces$World.threadsThatCan
abbrev rmW_threadsThatCan : Room := { frames := 4, cells := 0, slots := 0, locals := 89 }
def fW_threadsThatCan_4 (w : SW) : Nat → Int32 → Int32 → Option Int32
  | 0, _, _ => none
  | n + 1, a1, a2 => (if w.2.2.2.2.2.2.1 ≤ a2 then some a1 else (fW_aimOf w a2).bind fun x2 => (if x2 = (-9) then fW_threadsThatCan_4 w n a1 (a2 + 1) else mp_lt (a1 ||| (1 <<< (a2 &&& 31))) fun x4 => fW_threadsThatCan_4 w n x4 (a2 + 1)))
theorem fW_threadsThatCan_4_s (w : SW) (n : Nat) (a1 : Int32) (a2 : Int32) : fW_threadsThatCan_4 w (n + 1) a1 a2 = (if w.2.2.2.2.2.2.1 ≤ a2 then some a1 else (fW_aimOf w a2).bind fun x2 => (if x2 = (-9) then fW_threadsThatCan_4 w n a1 (a2 + 1) else mp_lt (a1 ||| (1 <<< (a2 &&& 31))) fun x4 => fW_threadsThatCan_4 w n x4 (a2 + 1))) := rfl
set_option maxHeartbeats 4000000 in
set_option maxRecDepth 100000 in
theorem lW_threadsThatCan_4 {p : Program} {l : Launch} {e : Env} {s : State} {m : MethodId} {args : Array Value} {below : List Frame} {meth : Method} {c : Code} (cx : mp_C p s m args meth c bW_threadsThatCan 3 (some .int) rW) (k : KK) (ad : Nat → Nat) (w : SW) (z : Int32) (hE : mp_E k s) (hP : va_P (kD k) mp_cls (cW k ad w) s.heap) (hD : va_D (mp_N k) (cW k ad w)) : ∀ (n : Nat) (a1 : Int32) (a2 : Int32), fW_threadsThatCan_4 w n a1 a2 = some z → ∀ (ls : Array Slot), lv_has ls 3 [(0, .ref (ad 0)), (1, .int a1), (2, .int a2)] → W p l e rmW_threadsThatCan s m args below meth c s.heap [] 0 0 (MQ below (mp_Qs (some (.int z))) args s 0 0 (fun _ => False)) (F0 m 4 ls []) := by
  obtain ⟨hx, hb, -, hml, hown, hts, -⟩ := id cx
  intro n
  induction n with
  | zero =>
    intro a1 a2 h
    have h : (none : Option Int32) = some z := h
    cases h
  | succ n ih =>
    intro a1 a2 h ls hl
    rw [fW_threadsThatCan_4_s] at h
    refine lv_iload_n hx hb dW_threadsThatCan_4 rfl (lv_at hl 2 rfl) ?_
    refine lv_aload_n hx hb dW_threadsThatCan_5 rfl (lv_at hl 0 rfl) ?_
    refine mp_gW cx hE hP iW 0 rfl 6 (by decide) wq_62 rfl (v := .int w.2.2.2.2.2.2.1) rfl dW_threadsThatCan_6 ?_
    refine lv_icmp_ge (tgt := 34) hx hb dW_threadsThatCan_9 (by decide) (fun c1 => ?_) (fun c1 => ?_)
    · have h := mp_t c1 h
      refine lv_iload_n hx hb dW_threadsThatCan_34 rfl (lv_at hl 1 rfl) ?_
      exact mp_ri cx h dW_threadsThatCan_35
    · have h := mp_f c1 h
      refine lv_aload_n hx hb dW_threadsThatCan_12 rfl (lv_at hl 0 rfl) ?_
      refine lv_iload_n hx hb dW_threadsThatCan_13 rfl (lv_at hl 2 rfl) ?_
      obtain ⟨x2, ex2, h⟩ := mp_bs h
      refine mp_si (mp_runV (As := [.int a2]) (rest := []) cx kV_W_93 (cW_aimOf l k ad w a2 x2 ex2) ⟨rfl, rfl, Nat.le_of_ble_eq_true rfl, Nat.le_of_ble_eq_true rfl⟩ ⟨Nat.zero_le _, Nat.zero_le _⟩ hE hP hD va_S.rf 0 rfl rfl rfl hl.1 rfl (Nat.le_of_ble_eq_true rfl) dW_threadsThatCan_14) ?_
      refine lv_bipush (v := (-9)) hx hb dW_threadsThatCan_17 (by decide) ?_
      refine lv_icmp_eq (tgt := 28) hx hb dW_threadsThatCan_19 (by decide) (fun c3 => ?_) (fun c3 => ?_)
      · have h := mp_t c3 h
        refine lv_iinc (v := (a2 + 1)) (lv' := [(2, .int (a2 + 1)), (0, .ref (ad 0)), (1, .int a1)]) hx hb dW_threadsThatCan_28 hl (k := 2) rfl rfl (by decide) rfl (fun ls hl => ?_)
        refine lv_goto (tgt := 4) hx hb dW_threadsThatCan_31 (by decide) ?_
        exact ih a1 (a2 + 1) h ls (lv_sub hl [1, 2, 0] rfl)
      · have h := mp_f c3 h
        refine lv_iload_n hx hb dW_threadsThatCan_22 rfl (lv_at hl 1 rfl) ?_
        refine lv_iconst (v := 1) hx hb dW_threadsThatCan_23 (by decide) ?_
        refine lv_iload_n hx hb dW_threadsThatCan_24 rfl (lv_at hl 2 rfl) ?_
        refine lv_ishl hx hb dW_threadsThatCan_25 ?_
        refine lv_ior hx hb dW_threadsThatCan_26 ?_
        obtain ⟨x4, ex4, h⟩ := mp_lts h
        refine mp_top ex4 ?_
        refine lv_istore_n (lv' := [(1, .int x4), (0, .ref (ad 0)), (2, .int a2)]) hx hb dW_threadsThatCan_27 rfl hl (by decide) rfl (fun ls hl => ?_)
        refine lv_iinc (v := (a2 + 1)) (lv' := [(2, .int (a2 + 1)), (1, .int x4), (0, .ref (ad 0))]) hx hb dW_threadsThatCan_28 hl (k := 2) rfl rfl (by decide) rfl (fun ls hl => ?_)
        refine lv_goto (tgt := 4) hx hb dW_threadsThatCan_31 (by decide) ?_
        exact ih x4 (a2 + 1) h ls (lv_sub hl [2, 1, 0] rfl)
def fW_threadsThatCan (w : SW) : Option Int32 := fW_threadsThatCan_4 w 2000 0 0
set_option maxHeartbeats 4000000 in
set_option maxRecDepth 100000 in
theorem wW_threadsThatCan {p : Program} {l : Launch} {e : Env} {s : State} {m : MethodId} {args : Array Value} {below : List Frame} {meth : Method} {c : Code} (cx : mp_C p s m args meth c bW_threadsThatCan 3 (some .int) rW) (k : KK) (ad : Nat → Nat) (w : SW) (z : Int32) (hE : mp_E k s) (hP : va_P (kD k) mp_cls (cW k ad w) s.heap) (hD : va_D (mp_N k) (cW k ad w)) (h : fW_threadsThatCan w = some z) (ls : Array Slot) (hl : lv_has ls 3 [(0, .ref (ad 0))]) : W p l e rmW_threadsThatCan s m args below meth c s.heap [] 0 0 (MQ below (mp_Qs (some (.int z))) args s 0 0 (fun _ => False)) (F0 m 0 ls []) := by
  obtain ⟨hx, hb, -, hml, hown, hts, -⟩ := id cx
  unfold fW_threadsThatCan at h
  refine lv_iconst (v := 0) hx hb dW_threadsThatCan_0 (by decide) ?_
  refine lv_istore_n (lv' := [(1, .int 0), (0, .ref (ad 0))]) hx hb dW_threadsThatCan_1 rfl hl (by decide) rfl (fun ls hl => ?_)
  refine lv_iconst (v := 0) hx hb dW_threadsThatCan_2 (by decide) ?_
  refine lv_istore_n (lv' := [(2, .int 0), (1, .int 0), (0, .ref (ad 0))]) hx hb dW_threadsThatCan_3 rfl hl (by decide) rfl (fun ls hl => ?_)
  exact lW_threadsThatCan_4 cx k ad w z hE hP hD _ 0 0 h ls (lv_sub hl [2, 1, 0] rfl)
theorem cW_threadsThatCan (l : Launch) (k : KK) (ad : Nat → Nat) (w : SW) (z : Int32) (h : fW_threadsThatCan w = some z) : mp_CS l k yW_threadsThatCan bW_threadsThatCan 3 (some .int) rmW_threadsThatCan [.ref (ad 0)] (cW k ad w) (some (.int z)) := by
  refine Met.ofW (cc := bW_threadsThatCan) (maxL := 3) (ret := (some .int)) (by decide) rfl ?_
  intro p e s m args below meth c s₁ B hml hv
  obtain ⟨rfl, hP, hD, hE⟩ := hv
  have hl := lv_entry ([.ref (ad 0)]) (n := 3) (Nat.le_of_ble_eq_true rfl)
  rw [lg_entry_eq]
  generalize (lg_sl ([.ref (ad 0)]) ++ List.replicate (3 - (lg_sl ([.ref (ad 0)])).length) Slot.unset).toArray = ls at hl ⊢
  exact wW_threadsThatCan (mp_C.of B hml) k ad w z hE hP hD h ls hl
-- MovingPlaces$World.putInto
abbrev rmW_putInto : Room := { frames := 1, cells := 0, slots := 0, locals := 21 }
def fW_putInto (w : SW) (a1 : Int32) (a2 : Int32) : Option SW := (fW_isPlace w a1).bind fun x1 => (if x1 = 0 then some w else (fW_isPlace w a2).bind fun x3 => (if x3 = 0 then some w else mp_st 12 a1 (some (w.1, w.2.1, w.2.2.1, w.2.2.2.1, (upd w.2.2.2.2.1 (Int32.toNatClampNeg a1) a2), w.2.2.2.2.2.1, w.2.2.2.2.2.2.1, w.2.2.2.2.2.2.2.1, w.2.2.2.2.2.2.2.2.1, w.2.2.2.2.2.2.2.2.2.1, w.2.2.2.2.2.2.2.2.2.2.1, w.2.2.2.2.2.2.2.2.2.2.2))))
set_option maxHeartbeats 4000000 in
set_option maxRecDepth 100000 in
theorem wW_putInto {p : Program} {l : Launch} {e : Env} {s : State} {m : MethodId} {args : Array Value} {below : List Frame} {meth : Method} {c : Code} (cx : mp_C p s m args meth c bW_putInto 3 none rW) (k : KK) (ad : Nat → Nat) (w : SW) (a1 : Int32) (a2 : Int32) (z : SW) (hE : mp_E k s) (hAN : ∀ q, mp_A (aW ad) q → mp_N k q) {H : Heap} {locs : List Loc} (hP : va_P (kD k) mp_cls (cW k ad w) H) (hD : va_D (mp_A (aW ad)) (cW k ad w)) (hS : va_S (mp_A (aW ad)) s.heap H locs) (h : fW_putInto w a1 a2 = some z) (ls : Array Slot) (hl : lv_has ls 3 [(0, .ref (ad 0)), (1, .int a1), (2, .int a2)]) : W p l e rmW_putInto s m args below meth c H locs 0 0 (MQ below (mp_Qm k none (cW k ad z) (aW ad)) args s 0 0 (mp_A (aW ad))) (F0 m 0 ls []) := by
  obtain ⟨hx, hb, -, hml, hown, hts, -⟩ := id cx
  unfold fW_putInto at h
  refine lv_aload_n hx hb dW_putInto_0 rfl (lv_at hl 0 rfl) ?_
  refine lv_iload_n hx hb dW_putInto_1 rfl (lv_at hl 1 rfl) ?_
  obtain ⟨x1, ex1, h⟩ := mp_bs h
  refine mp_si (mp_runV (As := [.int a1]) (rest := []) cx kV_W_56 (cW_isPlace l k ad w a1 x1 ex1) ⟨rfl, rfl, Nat.le_of_ble_eq_true rfl, Nat.le_of_ble_eq_true rfl⟩ ⟨Nat.zero_le _, Nat.zero_le _⟩ hE hP (mp_Dw hD hAN) (mp_S hS hAN) 0 rfl rfl rfl hl.1 rfl (Nat.le_of_ble_eq_true rfl) dW_putInto_2) ?_
  refine lv_if_eq (tgt := 23) hx hb dW_putInto_5 (by decide) (fun c2 => ?_) (fun c2 => ?_)
  · have h := mp_t c2 h
    exact mp_rvm (cf := cW k ad) cx h hP hS dW_putInto_23
  · have h := mp_f c2 h
    refine lv_aload_n hx hb dW_putInto_8 rfl (lv_at hl 0 rfl) ?_
    refine lv_iload_n hx hb dW_putInto_9 rfl (lv_at hl 2 rfl) ?_
    obtain ⟨x3, ex3, h⟩ := mp_bs h
    refine mp_si (mp_runV (As := [.int a2]) (rest := []) cx kV_W_56 (cW_isPlace l k ad w a2 x3 ex3) ⟨rfl, rfl, Nat.le_of_ble_eq_true rfl, Nat.le_of_ble_eq_true rfl⟩ ⟨Nat.zero_le _, Nat.zero_le _⟩ hE hP (mp_Dw hD hAN) (mp_S hS hAN) 0 rfl rfl rfl hl.1 rfl (Nat.le_of_ble_eq_true rfl) dW_putInto_10) ?_
    refine lv_if_eq (tgt := 23) hx hb dW_putInto_13 (by decide) (fun c4 => ?_) (fun c4 => ?_)
    · have h := mp_t c4 h
      exact mp_rvm (cf := cW k ad) cx h hP hS dW_putInto_23
    · have h := mp_f c4 h
      refine lv_aload_n hx hb dW_putInto_16 rfl (lv_at hl 0 rfl) ?_
      refine mp_gW cx hE hP iW 0 rfl 4 (by decide) wq_60 rfl (v := .ref (ad 2)) rfl dW_putInto_17 ?_
      refine lv_iload_n hx hb dW_putInto_20 rfl (lv_at hl 1 rfl) ?_
      refine lv_iload_n hx hb dW_putInto_21 rfl (lv_at hl 2 rfl) ?_
      obtain ⟨hi, h⟩ := mp_sts h
      refine va_iast hx hb hE.1 hP hD hS 2 0 (f := w.2.2.2.2.1) (n := 12) rfl rfl hi dW_putInto_22 (fun H locs hP hD hS => ?_)
      have hP : va_P (kD k) mp_cls (cW k ad (w.1, w.2.1, w.2.2.1, w.2.2.2.1, (upd w.2.2.2.2.1 (Int32.toNatClampNeg a1) a2), w.2.2.2.2.2.1, w.2.2.2.2.2.2.1, w.2.2.2.2.2.2.2.1, w.2.2.2.2.2.2.2.2.1, w.2.2.2.2.2.2.2.2.2.1, w.2.2.2.2.2.2.2.2.2.2.1, w.2.2.2.2.2.2.2.2.2.2.2)) H := hP
      have hD : va_D (mp_A (aW ad)) (cW k ad (w.1, w.2.1, w.2.2.1, w.2.2.2.1, (upd w.2.2.2.2.1 (Int32.toNatClampNeg a1) a2), w.2.2.2.2.2.1, w.2.2.2.2.2.2.1, w.2.2.2.2.2.2.2.1, w.2.2.2.2.2.2.2.2.1, w.2.2.2.2.2.2.2.2.2.1, w.2.2.2.2.2.2.2.2.2.2.1, w.2.2.2.2.2.2.2.2.2.2.2)) := hD
      exact mp_rvm (cf := cW k ad) cx h hP hS dW_putInto_23
theorem cW_putInto (l : Launch) (k : KK) (ad : Nat → Nat) (w : SW) (a1 : Int32) (a2 : Int32) (z : SW) (h : fW_putInto w a1 a2 = some z) : mp_CM l k yW_putInto bW_putInto 3 none rmW_putInto [.ref (ad 0), .int a1, .int a2] (cW k ad w) (cW k ad z) (aW ad) (none) := by
  refine Met.ofW (cc := bW_putInto) (maxL := 3) (ret := none) (by decide) rfl ?_
  intro p e s m args below meth c s₁ B hml hv
  obtain ⟨rfl, hP, hD, hE⟩ := hv
  have hl := lv_entry ([.ref (ad 0), .int a1, .int a2]) (n := 3) (Nat.le_of_ble_eq_true rfl)
  rw [lg_entry_eq]
  generalize (lg_sl ([.ref (ad 0), .int a1, .int a2]) ++ List.replicate (3 - (lg_sl ([.ref (ad 0), .int a1, .int a2])).length) Slot.unset).toArray = ls at hl ⊢
  exact wW_putInto (mp_C.of B hml) k ad w a1 a2 z hE (mp_new hD rfl) hP (mp_own hD rfl) va_S.rf h ls hl
end
section
theorem dW_dissolve_0 : decode bW_dissolve 0 = .ok (.aload_n 0, 1) := by decide +kernel
theorem dW_dissolve_1 : decode bW_dissolve 1 = .ok (.iload_n 1, 1) := by decide +kernel
theorem dW_dissolve_2 : decode bW_dissolve 2 = .ok (.invokevirtual 56, 3) := by decide +kernel
theorem dW_dissolve_5 : decode bW_dissolve 5 = .ok (.ifCond .ne 4, 3) := by decide +kernel
theorem dW_dissolve_8 : decode bW_dissolve 8 = .ok (.return_, 1) := by decide +kernel
theorem dW_dissolve_9 : decode bW_dissolve 9 = .ok (.iconst 0, 1) := by decide +kernel
theorem dW_dissolve_10 : decode bW_dissolve 10 = .ok (.istore_n 3, 1) := by decide +kernel
theorem dW_dissolve_11 : decode bW_dissolve 11 = .ok (.iload_n 3, 1) := by decide +kernel
theorem dW_dissolve_12 : decode bW_dissolve 12 = .ok (.bipush 6, 2) := by decide +kernel
theorem dW_dissolve_14 : decode bW_dissolve 14 = .ok (.if_icmp .ge 21, 3) := by decide +kernel
theorem dW_dissolve_17 : decode bW_dissolve 17 = .ok (.aload_n 0, 1) := by decide +kernel
theorem dW_dissolve_18 : decode bW_dissolve 18 = .ok (.iload_n 2, 1) := by decide +kernel
theorem dW_dissolve_19 : decode bW_dissolve 19 = .ok (.iload_n 3, 1) := by decide +kernel
theorem dW_dissolve_20 : decode bW_dissolve 20 = .ok (.aload_n 0, 1) := by decide +kernel
theorem dW_dissolve_21 : decode bW_dissolve 21 = .ok (.iload_n 1, 1) := by decide +kernel
theorem dW_dissolve_22 : decode bW_dissolve 22 = .ok (.iload_n 3, 1) := by decide +kernel
theorem dW_dissolve_23 : decode bW_dissolve 23 = .ok (.invokevirtual 72, 3) := by decide +kernel
theorem dW_dissolve_26 : decode bW_dissolve 26 = .ok (.invokevirtual 122, 3) := by decide +kernel
theorem dW_dissolve_29 : decode bW_dissolve 29 = .ok (.iinc 3 1, 3) := by decide +kernel
theorem dW_dissolve_32 : decode bW_dissolve 32 = .ok (.goto (-21), 3) := by decide +kernel
theorem dW_dissolve_35 : decode bW_dissolve 35 = .ok (.iconst 0, 1) := by decide +kernel
theorem dW_dissolve_36 : decode bW_dissolve 36 = .ok (.istore_n 3, 1) := by decide +kernel
theorem dW_dissolve_37 : decode bW_dissolve 37 = .ok (.iload_n 3, 1) := by decide +kernel
theorem dW_dissolve_38 : decode bW_dissolve 38 = .ok (.aload_n 0, 1) := by decide +kernel
theorem dW_dissolve_39 : decode bW_dissolve 39 = .ok (.getfield 9, 3) := by decide +kernel
theorem dW_dissolve_42 : decode bW_dissolve 42 = .ok (.if_icmp .ge 26, 3) := by decide +kernel
theorem dW_dissolve_45 : decode bW_dissolve 45 = .ok (.aload_n 0, 1) := by decide +kernel
theorem dW_dissolve_46 : decode bW_dissolve 46 = .ok (.getfield 25, 3) := by decide +kernel
theorem dW_dissolve_49 : decode bW_dissolve 49 = .ok (.iload_n 3, 1) := by decide +kernel
theorem dW_dissolve_50 : decode bW_dissolve 50 = .ok (.iaload, 1) := by decide +kernel
theorem dW_dissolve_51 : decode bW_dissolve 51 = .ok (.iload_n 1, 1) := by decide +kernel
theorem dW_dissolve_52 : decode bW_dissolve 52 = .ok (.if_icmp .ne 10, 3) := by decide +kernel
theorem dW_dissolve_55 : decode bW_dissolve 55 = .ok (.aload_n 0, 1) := by decide +kernel
theorem dW_dissolve_56 : decode bW_dissolve 56 = .ok (.getfield 25, 3) := by decide +kernel
theorem dW_dissolve_59 : decode bW_dissolve 59 = .ok (.iload_n 3, 1) := by decide +kernel
theorem dW_dissolve_60 : decode bW_dissolve 60 = .ok (.iload_n 2, 1) := by decide +kernel
theorem dW_dissolve_61 : decode bW_dissolve 61 = .ok (.iastore, 1) := by decide +kernel
theorem dW_dissolve_62 : decode bW_dissolve 62 = .ok (.iinc 3 1, 3) := by decide +kernel
theorem dW_dissolve_65 : decode bW_dissolve 65 = .ok (.goto (-28), 3) := by decide +kernel
theorem dW_dissolve_68 : decode bW_dissolve 68 = .ok (.iconst 0, 1) := by decide +kernel
theorem dW_dissolve_69 : decode bW_dissolve 69 = .ok (.istore_n 3, 1) := by decide +kernel
theorem dW_dissolve_70 : decode bW_dissolve 70 = .ok (.iload_n 3, 1) := by decide +kernel
theorem dW_dissolve_71 : decode bW_dissolve 71 = .ok (.aload_n 0, 1) := by decide +kernel
theorem dW_dissolve_72 : decode bW_dissolve 72 = .ok (.getfield 31, 3) := by decide +kernel
theorem dW_dissolve_75 : decode bW_dissolve 75 = .ok (.if_icmp .ge 26, 3) := by decide +kernel
theorem dW_dissolve_78 : decode bW_dissolve 78 = .ok (.aload_n 0, 1) := by decide +kernel
theorem dW_dissolve_79 : decode bW_dissolve 79 = .ok (.getfield 34, 3) := by decide +kernel
theorem dW_dissolve_82 : decode bW_dissolve 82 = .ok (.iload_n 3, 1) := by decide +kernel
theorem dW_dissolve_83 : decode bW_dissolve 83 = .ok (.iaload, 1) := by decide +kernel
theorem dW_dissolve_84 : decode bW_dissolve 84 = .ok (.iload_n 1, 1) := by decide +kernel
theorem dW_dissolve_85 : decode bW_dissolve 85 = .ok (.if_icmp .ne 10, 3) := by decide +kernel
theorem dW_dissolve_88 : decode bW_dissolve 88 = .ok (.aload_n 0, 1) := by decide +kernel
theorem dW_dissolve_89 : decode bW_dissolve 89 = .ok (.getfield 34, 3) := by decide +kernel
theorem dW_dissolve_92 : decode bW_dissolve 92 = .ok (.iload_n 3, 1) := by decide +kernel
theorem dW_dissolve_93 : decode bW_dissolve 93 = .ok (.iload_n 2, 1) := by decide +kernel
theorem dW_dissolve_94 : decode bW_dissolve 94 = .ok (.iastore, 1) := by decide +kernel
theorem dW_dissolve_95 : decode bW_dissolve 95 = .ok (.iinc 3 1, 3) := by decide +kernel
theorem dW_dissolve_98 : decode bW_dissolve 98 = .ok (.goto (-28), 3) := by decide +kernel
theorem dW_dissolve_101 : decode bW_dissolve 101 = .ok (.aload_n 0, 1) := by decide +kernel
theorem dW_dissolve_102 : decode bW_dissolve 102 = .ok (.aload_n 0, 1) := by decide +kernel
theorem dW_dissolve_103 : decode bW_dissolve 103 = .ok (.getfield 15, 3) := by decide +kernel
theorem dW_dissolve_106 : decode bW_dissolve 106 = .ok (.iconst 1, 1) := by decide +kernel
theorem dW_dissolve_107 : decode bW_dissolve 107 = .ok (.iload_n 1, 1) := by decide +kernel
theorem dW_dissolve_108 : decode bW_dissolve 108 = .ok (.ishl, 1) := by decide +kernel
theorem dW_dissolve_109 : decode bW_dissolve 109 = .ok (.ior, 1) := by decide +kernel
theorem dW_dissolve_110 : decode bW_dissolve 110 = .ok (.putfield 15, 3) := by decide +kernel
theorem dW_dissolve_113 : decode bW_dissolve 113 = .ok (.aload_n 0, 1) := by decide +kernel
theorem dW_dissolve_114 : decode bW_dissolve 114 = .ok (.getfield 25, 3) := by decide +kernel
theorem dW_dissolve_117 : decode bW_dissolve 117 = .ok (.iload_n 1, 1) := by decide +kernel
theorem dW_dissolve_118 : decode bW_dissolve 118 = .ok (.bipush (-9), 2) := by decide +kernel
theorem dW_dissolve_120 : decode bW_dissolve 120 = .ok (.iastore, 1) := by decide +kernel
theorem dW_dissolve_121 : decode bW_dissolve 121 = .ok (.return_, 1) := by decide +kernel
theorem dW_doNextAct_0 : decode bW_doNextAct 0 = .ok (.aload_n 0, 1) := by decide +kernel
theorem dW_doNextAct_1 : decode bW_doNextAct 1 = .ok (.iload_n 1, 1) := by decide +kernel
theorem dW_doNextAct_2 : decode bW_doNextAct 2 = .ok (.invokevirtual 93, 3) := by decide +kernel
theorem dW_doNextAct_5 : decode bW_doNextAct 5 = .ok (.istore_n 2, 1) := by decide +kernel
theorem dW_doNextAct_6 : decode bW_doNextAct 6 = .ok (.aload_n 0, 1) := by decide +kernel
theorem dW_doNextAct_7 : decode bW_doNextAct 7 = .ok (.iload_n 1, 1) := by decide +kernel
theorem dW_doNextAct_8 : decode bW_doNextAct 8 = .ok (.invokevirtual 76, 3) := by decide +kernel
theorem dW_doNextAct_11 : decode bW_doNextAct 11 = .ok (.ifCond .eq 9, 3) := by decide +kernel
theorem dW_doNextAct_14 : decode bW_doNextAct 14 = .ok (.iload_n 2, 1) := by decide +kernel
theorem dW_doNextAct_15 : decode bW_doNextAct 15 = .ok (.bipush (-9), 2) := by decide +kernel
theorem dW_doNextAct_17 : decode bW_doNextAct 17 = .ok (.if_icmp .ne 6, 3) := by decide +kernel
theorem dW_doNextAct_20 : decode bW_doNextAct 20 = .ok (.bipush (-9), 2) := by decide +kernel
theorem dW_doNextAct_22 : decode bW_doNextAct 22 = .ok (.ireturn, 1) := by decide +kernel
theorem dW_doNextAct_23 : decode bW_doNextAct 23 = .ok (.aload_n 0, 1) := by decide +kernel
theorem dW_doNextAct_24 : decode bW_doNextAct 24 = .ok (.iload_n 1, 1) := by decide +kernel
theorem dW_doNextAct_25 : decode bW_doNextAct 25 = .ok (.aload_n 0, 1) := by decide +kernel
theorem dW_doNextAct_26 : decode bW_doNextAct 26 = .ok (.getfield 44, 3) := by decide +kernel
theorem dW_doNextAct_29 : decode bW_doNextAct 29 = .ok (.iload_n 1, 1) := by decide +kernel
theorem dW_doNextAct_30 : decode bW_doNextAct 30 = .ok (.iaload, 1) := by decide +kernel
theorem dW_doNextAct_31 : decode bW_doNextAct 31 = .ok (.invokevirtual 96, 3) := by decide +kernel
theorem dW_doNextAct_34 : decode bW_doNextAct 34 = .ok (.bipush 10, 2) := by decide +kernel
theorem dW_doNextAct_36 : decode bW_doNextAct 36 = .ok (.idiv, 1) := by decide +kernel
theorem dW_doNextAct_37 : decode bW_doNextAct 37 = .ok (.istore_n 3, 1) := by decide +kernel
theorem dW_doNextAct_38 : decode bW_doNextAct 38 = .ok (.aload_n 0, 1) := by decide +kernel
theorem dW_doNextAct_39 : decode bW_doNextAct 39 = .ok (.getfield 34, 3) := by decide +kernel
theorem dW_doNextAct_42 : decode bW_doNextAct 42 = .ok (.iload_n 1, 1) := by decide +kernel
theorem dW_doNextAct_43 : decode bW_doNextAct 43 = .ok (.iaload, 1) := by decide +kernel
theorem dW_doNextAct_44 : decode bW_doNextAct 44 = .ok (.istore 4, 2) := by decide +kernel
theorem dW_doNextAct_46 : decode bW_doNextAct 46 = .ok (.iload_n 3, 1) := by decide +kernel
theorem dW_doNextAct_47 : decode bW_doNextAct 47 = .ok (.tableswitch 74 1 4 #[29, 39, 53, 63], 29) := by decide +kernel
theorem dW_doNextAct_76 : decode bW_doNextAct 76 = .ok (.aload_n 0, 1) := by decide +kernel
theorem dW_doNextAct_77 : decode bW_doNextAct 77 = .ok (.iload 4, 2) := by decide +kernel
theorem dW_doNextAct_79 : decode bW_doNextAct 79 = .ok (.iload_n 2, 1) := by decide +kernel
theorem dW_doNextAct_80 : decode bW_doNextAct 80 = .ok (.invokevirtual 115, 3) := by decide +kernel
theorem dW_doNextAct_83 : decode bW_doNextAct 83 = .ok (.goto 53, 3) := by decide +kernel
theorem dW_doNextAct_86 : decode bW_doNextAct 86 = .ok (.aload_n 0, 1) := by decide +kernel
theorem dW_doNextAct_87 : decode bW_doNextAct 87 = .ok (.iload 4, 2) := by decide +kernel
theorem dW_doNextAct_89 : decode bW_doNextAct 89 = .ok (.aload_n 0, 1) := by decide +kernel
theorem dW_doNextAct_90 : decode bW_doNextAct 90 = .ok (.iload_n 2, 1) := by decide +kernel
theorem dW_doNextAct_91 : decode bW_doNextAct 91 = .ok (.invokevirtual 63, 3) := by decide +kernel
theorem dW_doNextAct_94 : decode bW_doNextAct 94 = .ok (.invokevirtual 115, 3) := by decide +kernel
theorem dW_doNextAct_97 : decode bW_doNextAct 97 = .ok (.goto 39, 3) := by decide +kernel
theorem dW_doNextAct_100 : decode bW_doNextAct 100 = .ok (.aload_n 0, 1) := by decide +kernel
theorem dW_doNextAct_101 : decode bW_doNextAct 101 = .ok (.iload_n 2, 1) := by decide +kernel
theorem dW_doNextAct_102 : decode bW_doNextAct 102 = .ok (.iload 4, 2) := by decide +kernel
theorem dW_doNextAct_104 : decode bW_doNextAct 104 = .ok (.invokevirtual 119, 3) := by decide +kernel
theorem dW_doNextAct_107 : decode bW_doNextAct 107 = .ok (.goto 29, 3) := by decide +kernel
theorem dW_doNextAct_110 : decode bW_doNextAct 110 = .ok (.aload_n 0, 1) := by decide +kernel
theorem dW_doNextAct_111 : decode bW_doNextAct 111 = .ok (.iload 4, 2) := by decide +kernel
theorem dW_doNextAct_113 : decode bW_doNextAct 113 = .ok (.iload_n 2, 1) := by decide +kernel
theorem dW_doNextAct_114 : decode bW_doNextAct 114 = .ok (.iconst 1, 1) := by decide +kernel
theorem dW_doNextAct_115 : decode bW_doNextAct 115 = .ok (.invokevirtual 122, 3) := by decide +kernel
theorem dW_doNextAct_118 : decode bW_doNextAct 118 = .ok (.goto 18, 3) := by decide +kernel
theorem dW_doNextAct_121 : decode bW_doNextAct 121 = .ok (.aload_n 0, 1) := by decide +kernel
theorem dW_doNextAct_122 : decode bW_doNextAct 122 = .ok (.iload 4, 2) := by decide +kernel
theorem dW_doNextAct_124 : decode bW_doNextAct 124 = .ok (.iload_n 2, 1) := by decide +kernel
theorem dW_doNextAct_125 : decode bW_doNextAct 125 = .ok (.iconst (-1), 1) := by decide +kernel
theorem dW_doNextAct_126 : decode bW_doNextAct 126 = .ok (.invokevirtual 122, 3) := by decide +kernel
theorem dW_doNextAct_129 : decode bW_doNextAct 129 = .ok (.aload_n 0, 1) := by decide +kernel
theorem dW_doNextAct_130 : decode bW_doNextAct 130 = .ok (.getfield 47, 3) := by decide +kernel
theorem dW_doNextAct_133 : decode bW_doNextAct 133 = .ok (.iload_n 1, 1) := by decide +kernel
theorem dW_doNextAct_134 : decode bW_doNextAct 134 = .ok (.iload_n 2, 1) := by decide +kernel
theorem dW_doNextAct_135 : decode bW_doNextAct 135 = .ok (.iastore, 1) := by decide +kernel
theorem dW_doNextAct_136 : decode bW_doNextAct 136 = .ok (.aload_n 0, 1) := by decide +kernel
theorem dW_doNextAct_137 : decode bW_doNextAct 137 = .ok (.getfield 44, 3) := by decide +kernel
theorem dW_doNextAct_140 : decode bW_doNextAct 140 = .ok (.iload_n 1, 1) := by decide +kernel
theorem dW_doNextAct_141 : decode bW_doNextAct 141 = .ok (.dup2, 1) := by decide +kernel
theorem dW_doNextAct_142 : decode bW_doNextAct 142 = .ok (.iaload, 1) := by decide +kernel
theorem dW_doNextAct_143 : decode bW_doNextAct 143 = .ok (.iconst 1, 1) := by decide +kernel
theorem dW_doNextAct_144 : decode bW_doNextAct 144 = .ok (.iadd, 1) := by decide +kernel
theorem dW_doNextAct_145 : decode bW_doNextAct 145 = .ok (.iastore, 1) := by decide +kernel
theorem dW_doNextAct_146 : decode bW_doNextAct 146 = .ok (.iload_n 3, 1) := by decide +kernel
theorem dW_doNextAct_147 : decode bW_doNextAct 147 = .ok (.ireturn, 1) := by decide +kernel
theorem dW_doRound_0 : decode bW_doRound 0 = .ok (.iconst 0, 1) := by decide +kernel
theorem dW_doRound_1 : decode bW_doRound 1 = .ok (.istore_n 1, 1) := by decide +kernel
theorem dW_doRound_2 : decode bW_doRound 2 = .ok (.iconst 0, 1) := by decide +kernel
theorem dW_doRound_3 : decode bW_doRound 3 = .ok (.istore_n 2, 1) := by decide +kernel
theorem dW_doRound_4 : decode bW_doRound 4 = .ok (.iload_n 2, 1) := by decide +kernel
theorem dW_doRound_5 : decode bW_doRound 5 = .ok (.aload_n 0, 1) := by decide +kernel
theorem dW_doRound_6 : decode bW_doRound 6 = .ok (.getfield 31, 3) := by decide +kernel
theorem dW_doRound_9 : decode bW_doRound 9 = .ok (.if_icmp .ge 22, 3) := by decide +kernel
theorem dW_doRound_12 : decode bW_doRound 12 = .ok (.aload_n 0, 1) := by decide +kernel
theorem dW_doRound_13 : decode bW_doRound 13 = .ok (.iload_n 2, 1) := by decide +kernel
theorem dW_doRound_14 : decode bW_doRound 14 = .ok (.invokevirtual 126, 3) := by decide +kernel
theorem dW_doRound_17 : decode bW_doRound 17 = .ok (.bipush (-9), 2) := by decide +kernel
theorem dW_doRound_19 : decode bW_doRound 19 = .ok (.if_icmp .eq 6, 3) := by decide +kernel
theorem dW_doRound_22 : decode bW_doRound 22 = .ok (.iinc 1 1, 3) := by decide +kernel
theorem dW_doRound_25 : decode bW_doRound 25 = .ok (.iinc 2 1, 3) := by decide +kernel
theorem dW_doRound_28 : decode bW_doRound 28 = .ok (.goto (-24), 3) := by decide +kernel
theorem dW_doRound_31 : decode bW_doRound 31 = .ok (.iload_n 1, 1) := by decide +kernel
theorem dW_doRound_32 : decode bW_doRound 32 = .ok (.ireturn, 1) := by decide +kernel
theorem dW_hasMessageAnywhere_0 : decode bW_hasMessageAnywhere 0 = .ok (.iconst 0, 1) := by decide +kernel
theorem dW_hasMessageAnywhere_1 : decode bW_hasMessageAnywhere 1 = .ok (.istore_n 2, 1) := by decide +kernel
theorem dW_hasMessageAnywhere_2 : decode bW_hasMessageAnywhere 2 = .ok (.iload_n 2, 1) := by decide +kernel
theorem dW_hasMessageAnywhere_3 : decode bW_hasMessageAnywhere 3 = .ok (.aload_n 0, 1) := by decide +kernel
theorem dW_hasMessageAnywhere_4 : decode bW_hasMessageAnywhere 4 = .ok (.getfield 9, 3) := by decide +kernel
theorem dW_hasMessageAnywhere_7 : decode bW_hasMessageAnywhere 7 = .ok (.if_icmp .ge 20, 3) := by decide +kernel
theorem dW_hasMessageAnywhere_10 : decode bW_hasMessageAnywhere 10 = .ok (.aload_n 0, 1) := by decide +kernel
theorem dW_hasMessageAnywhere_11 : decode bW_hasMessageAnywhere 11 = .ok (.iload_n 2, 1) := by decide +kernel
theorem dW_hasMessageAnywhere_12 : decode bW_hasMessageAnywhere 12 = .ok (.iload_n 1, 1) := by decide +kernel
theorem dW_hasMessageAnywhere_13 : decode bW_hasMessageAnywhere 13 = .ok (.invokevirtual 72, 3) := by decide +kernel
theorem dW_hasMessageAnywhere_16 : decode bW_hasMessageAnywhere 16 = .ok (.ifCond .le 5, 3) := by decide +kernel
theorem dW_hasMessageAnywhere_19 : decode bW_hasMessageAnywhere 19 = .ok (.iconst 1, 1) := by decide +kernel
theorem dW_hasMessageAnywhere_20 : decode bW_hasMessageAnywhere 20 = .ok (.ireturn, 1) := by decide +kernel
theorem dW_hasMessageAnywhere_21 : decode bW_hasMessageAnywhere 21 = .ok (.iinc 2 1, 3) := by decide +kernel
theorem dW_hasMessageAnywhere_24 : decode bW_hasMessageAnywhere 24 = .ok (.goto (-22), 3) := by decide +kernel
theorem dW_hasMessageAnywhere_27 : decode bW_hasMessageAnywhere 27 = .ok (.iconst 0, 1) := by decide +kernel
theorem dW_hasMessageAnywhere_28 : decode bW_hasMessageAnywhere 28 = .ok (.ireturn, 1) := by decide +kernel
theorem dW_namesFromThread_0 : decode bW_namesFromThread 0 = .ok (.aload_n 0, 1) := by decide +kernel
theorem dW_namesFromThread_1 : decode bW_namesFromThread 1 = .ok (.iload_n 1, 1) := by decide +kernel
theorem dW_namesFromThread_2 : decode bW_namesFromThread 2 = .ok (.invokevirtual 135, 3) := by decide +kernel
theorem dW_namesFromThread_5 : decode bW_namesFromThread 5 = .ok (.invokestatic 60, 3) := by decide +kernel
theorem dW_namesFromThread_8 : decode bW_namesFromThread 8 = .ok (.ifCond .eq 13, 3) := by decide +kernel
theorem dW_namesFromThread_11 : decode bW_namesFromThread 11 = .ok (.iconst 1, 1) := by decide +kernel
theorem dW_namesFromThread_12 : decode bW_namesFromThread 12 = .ok (.aload_n 0, 1) := by decide +kernel
theorem dW_namesFromThread_13 : decode bW_namesFromThread 13 = .ok (.iload_n 1, 1) := by decide +kernel
theorem dW_namesFromThread_14 : decode bW_namesFromThread 14 = .ok (.invokevirtual 135, 3) := by decide +kernel
theorem dW_namesFromThread_17 : decode bW_namesFromThread 17 = .ok (.ishl, 1) := by decide +kernel
theorem dW_namesFromThread_18 : decode bW_namesFromThread 18 = .ok (.goto 4, 3) := by decide +kernel
theorem dW_namesFromThread_21 : decode bW_namesFromThread 21 = .ok (.iconst 0, 1) := by decide +kernel
theorem dW_namesFromThread_22 : decode bW_namesFromThread 22 = .ok (.istore_n 2, 1) := by decide +kernel
theorem dW_namesFromThread_23 : decode bW_namesFromThread 23 = .ok (.aload_n 0, 1) := by decide +kernel
theorem dW_namesFromThread_24 : decode bW_namesFromThread 24 = .ok (.iload_n 1, 1) := by decide +kernel
theorem dW_namesFromThread_25 : decode bW_namesFromThread 25 = .ok (.invokevirtual 79, 3) := by decide +kernel
theorem dW_namesFromThread_28 : decode bW_namesFromThread 28 = .ok (.istore_n 3, 1) := by decide +kernel
theorem dW_namesFromThread_29 : decode bW_namesFromThread 29 = .ok (.iload_n 3, 1) := by decide +kernel
theorem dW_namesFromThread_30 : decode bW_namesFromThread 30 = .ok (.aload_n 0, 1) := by decide +kernel
theorem dW_namesFromThread_31 : decode bW_namesFromThread 31 = .ok (.iload_n 1, 1) := by decide +kernel
theorem dW_namesFromThread_32 : decode bW_namesFromThread 32 = .ok (.invokevirtual 82, 3) := by decide +kernel
theorem dW_namesFromThread_35 : decode bW_namesFromThread 35 = .ok (.if_icmp .ge 47, 3) := by decide +kernel
theorem dW_namesFromThread_38 : decode bW_namesFromThread 38 = .ok (.aload_n 0, 1) := by decide +kernel
theorem dW_namesFromThread_39 : decode bW_namesFromThread 39 = .ok (.iload_n 1, 1) := by decide +kernel
theorem dW_namesFromThread_40 : decode bW_namesFromThread 40 = .ok (.iload_n 3, 1) := by decide +kernel
theorem dW_namesFromThread_41 : decode bW_namesFromThread 41 = .ok (.invokevirtual 96, 3) := by decide +kernel
theorem dW_namesFromThread_44 : decode bW_namesFromThread 44 = .ok (.istore 4, 2) := by decide +kernel
theorem dW_namesFromThread_46 : decode bW_namesFromThread 46 = .ok (.iload 4, 2) := by decide +kernel
theorem dW_namesFromThread_48 : decode bW_namesFromThread 48 = .ok (.bipush 10, 2) := by decide +kernel
theorem dW_namesFromThread_50 : decode bW_namesFromThread 50 = .ok (.idiv, 1) := by decide +kernel
theorem dW_namesFromThread_51 : decode bW_namesFromThread 51 = .ok (.iconst 4, 1) := by decide +kernel
theorem dW_namesFromThread_52 : decode bW_namesFromThread 52 = .ok (.if_icmp .ne 24, 3) := by decide +kernel
theorem dW_namesFromThread_55 : decode bW_namesFromThread 55 = .ok (.iload 4, 2) := by decide +kernel
theorem dW_namesFromThread_57 : decode bW_namesFromThread 57 = .ok (.bipush 10, 2) := by decide +kernel
theorem dW_namesFromThread_59 : decode bW_namesFromThread 59 = .ok (.irem, 1) := by decide +kernel
theorem dW_namesFromThread_60 : decode bW_namesFromThread 60 = .ok (.invokestatic 60, 3) := by decide +kernel
theorem dW_namesFromThread_63 : decode bW_namesFromThread 63 = .ok (.ifCond .eq 13, 3) := by decide +kernel
theorem dW_namesFromThread_66 : decode bW_namesFromThread 66 = .ok (.iload_n 2, 1) := by decide +kernel
theorem dW_namesFromThread_67 : decode bW_namesFromThread 67 = .ok (.iconst 1, 1) := by decide +kernel
theorem dW_namesFromThread_68 : decode bW_namesFromThread 68 = .ok (.iload 4, 2) := by decide +kernel
theorem dW_namesFromThread_70 : decode bW_namesFromThread 70 = .ok (.bipush 10, 2) := by decide +kernel
theorem dW_namesFromThread_72 : decode bW_namesFromThread 72 = .ok (.irem, 1) := by decide +kernel
theorem dW_namesFromThread_73 : decode bW_namesFromThread 73 = .ok (.ishl, 1) := by decide +kernel
theorem dW_namesFromThread_74 : decode bW_namesFromThread 74 = .ok (.ior, 1) := by decide +kernel
theorem dW_namesFromThread_75 : decode bW_namesFromThread 75 = .ok (.istore_n 2, 1) := by decide +kernel
theorem dW_namesFromThread_76 : decode bW_namesFromThread 76 = .ok (.iinc 3 1, 3) := by decide +kernel
theorem dW_namesFromThread_79 : decode bW_namesFromThread 79 = .ok (.goto (-50), 3) := by decide +kernel
theorem dW_namesFromThread_82 : decode bW_namesFromThread 82 = .ok (.iload_n 2, 1) := by decide +kernel
theorem dW_namesFromThread_83 : decode bW_namesFromThread 83 = .ok (.ireturn, 1) := by decide +kernel
theorem dW_namesThatMayBeSaid_0 : decode bW_namesThatMayBeSaid 0 = .ok (.iconst 0, 1) := by decide +kernel
theorem dW_namesThatMayBeSaid_1 : decode bW_namesThatMayBeSaid 1 = .ok (.istore_n 1, 1) := by decide +kernel
theorem dW_namesThatMayBeSaid_2 : decode bW_namesThatMayBeSaid 2 = .ok (.iconst 0, 1) := by decide +kernel
theorem dW_namesThatMayBeSaid_3 : decode bW_namesThatMayBeSaid 3 = .ok (.istore_n 2, 1) := by decide +kernel
theorem dW_namesThatMayBeSaid_4 : decode bW_namesThatMayBeSaid 4 = .ok (.iload_n 2, 1) := by decide +kernel
theorem dW_namesThatMayBeSaid_5 : decode bW_namesThatMayBeSaid 5 = .ok (.bipush 6, 2) := by decide +kernel
theorem dW_namesThatMayBeSaid_7 : decode bW_namesThatMayBeSaid 7 = .ok (.if_icmp .ge 23, 3) := by decide +kernel
theorem dW_namesThatMayBeSaid_10 : decode bW_namesThatMayBeSaid 10 = .ok (.aload_n 0, 1) := by decide +kernel
theorem dW_namesThatMayBeSaid_11 : decode bW_namesThatMayBeSaid 11 = .ok (.iload_n 2, 1) := by decide +kernel
theorem dW_namesThatMayBeSaid_12 : decode bW_namesThatMayBeSaid 12 = .ok (.invokevirtual 129, 3) := by decide +kernel
theorem dW_namesThatMayBeSaid_15 : decode bW_namesThatMayBeSaid 15 = .ok (.ifCond .eq 9, 3) := by decide +kernel
theorem dW_namesThatMayBeSaid_18 : decode bW_namesThatMayBeSaid 18 = .ok (.iload_n 1, 1) := by decide +kernel
theorem dW_namesThatMayBeSaid_19 : decode bW_namesThatMayBeSaid 19 = .ok (.iconst 1, 1) := by decide +kernel
theorem dW_namesThatMayBeSaid_20 : decode bW_namesThatMayBeSaid 20 = .ok (.iload_n 2, 1) := by decide +kernel
theorem dW_namesThatMayBeSaid_21 : decode bW_namesThatMayBeSaid 21 = .ok (.ishl, 1) := by decide +kernel
theorem dW_namesThatMayBeSaid_22 : decode bW_namesThatMayBeSaid 22 = .ok (.ior, 1) := by decide +kernel
theorem dW_namesThatMayBeSaid_23 : decode bW_namesThatMayBeSaid 23 = .ok (.istore_n 1, 1) := by decide +kernel
theorem dW_namesThatMayBeSaid_24 : decode bW_namesThatMayBeSaid 24 = .ok (.iinc 2 1, 3) := by decide +kernel
theorem dW_namesThatMayBeSaid_27 : decode bW_namesThatMayBeSaid 27 = .ok (.goto (-23), 3) := by decide +kernel
theorem dW_namesThatMayBeSaid_30 : decode bW_namesThatMayBeSaid 30 = .ok (.iconst 0, 1) := by decide +kernel
theorem dW_namesThatMayBeSaid_31 : decode bW_namesThatMayBeSaid 31 = .ok (.istore_n 2, 1) := by decide +kernel
theorem dW_namesThatMayBeSaid_32 : decode bW_namesThatMayBeSaid 32 = .ok (.iload_n 2, 1) := by decide +kernel
theorem dW_namesThatMayBeSaid_33 : decode bW_namesThatMayBeSaid 33 = .ok (.aload_n 0, 1) := by decide +kernel
theorem dW_namesThatMayBeSaid_34 : decode bW_namesThatMayBeSaid 34 = .ok (.getfield 31, 3) := by decide +kernel
theorem dW_namesThatMayBeSaid_37 : decode bW_namesThatMayBeSaid 37 = .ok (.if_icmp .ge 17, 3) := by decide +kernel
theorem dW_namesThatMayBeSaid_40 : decode bW_namesThatMayBeSaid 40 = .ok (.iload_n 1, 1) := by decide +kernel
theorem dW_namesThatMayBeSaid_41 : decode bW_namesThatMayBeSaid 41 = .ok (.aload_n 0, 1) := by decide +kernel
theorem dW_namesThatMayBeSaid_42 : decode bW_namesThatMayBeSaid 42 = .ok (.iload_n 2, 1) := by decide +kernel
theorem dW_namesThatMayBeSaid_43 : decode bW_namesThatMayBeSaid 43 = .ok (.invokevirtual 132, 3) := by decide +kernel
theorem dW_namesThatMayBeSaid_46 : decode bW_namesThatMayBeSaid 46 = .ok (.ior, 1) := by decide +kernel
theorem dW_namesThatMayBeSaid_47 : decode bW_namesThatMayBeSaid 47 = .ok (.istore_n 1, 1) := by decide +kernel
theorem dW_namesThatMayBeSaid_48 : decode bW_namesThatMayBeSaid 48 = .ok (.iinc 2 1, 3) := by decide +kernel
theorem dW_namesThatMayBeSaid_51 : decode bW_namesThatMayBeSaid 51 = .ok (.goto (-19), 3) := by decide +kernel
theorem dW_namesThatMayBeSaid_54 : decode bW_namesThatMayBeSaid 54 = .ok (.iload_n 1, 1) := by decide +kernel
theorem dW_namesThatMayBeSaid_55 : decode bW_namesThatMayBeSaid 55 = .ok (.ireturn, 1) := by decide +kernel
theorem dW_bringsMotion_0 : decode bW_bringsMotion 0 = .ok (.aload_n 0, 1) := by decide +kernel
theorem dW_bringsMotion_1 : decode bW_bringsMotion 1 = .ok (.iload_n 1, 1) := by decide +kernel
theorem dW_bringsMotion_2 : decode bW_bringsMotion 2 = .ok (.invokevirtual 79, 3) := by decide +kernel
theorem dW_bringsMotion_5 : decode bW_bringsMotion 5 = .ok (.istore 4, 2) := by decide +kernel
theorem dW_bringsMotion_7 : decode bW_bringsMotion 7 = .ok (.iload 4, 2) := by decide +kernel
theorem dW_bringsMotion_9 : decode bW_bringsMotion 9 = .ok (.aload_n 0, 1) := by decide +kernel
theorem dW_bringsMotion_10 : decode bW_bringsMotion 10 = .ok (.iload_n 1, 1) := by decide +kernel
theorem dW_bringsMotion_11 : decode bW_bringsMotion 11 = .ok (.invokevirtual 82, 3) := by decide +kernel
theorem dW_bringsMotion_14 : decode bW_bringsMotion 14 = .ok (.if_icmp .ge 77, 3) := by decide +kernel
theorem dW_bringsMotion_17 : decode bW_bringsMotion 17 = .ok (.aload_n 0, 1) := by decide +kernel
theorem dW_bringsMotion_18 : decode bW_bringsMotion 18 = .ok (.iload_n 1, 1) := by decide +kernel
theorem dW_bringsMotion_19 : decode bW_bringsMotion 19 = .ok (.iload 4, 2) := by decide +kernel
theorem dW_bringsMotion_21 : decode bW_bringsMotion 21 = .ok (.invokevirtual 96, 3) := by decide +kernel
theorem dW_bringsMotion_24 : decode bW_bringsMotion 24 = .ok (.istore 5, 2) := by decide +kernel
theorem dW_bringsMotion_26 : decode bW_bringsMotion 26 = .ok (.iload 5, 2) := by decide +kernel
theorem dW_bringsMotion_28 : decode bW_bringsMotion 28 = .ok (.bipush 10, 2) := by decide +kernel
theorem dW_bringsMotion_30 : decode bW_bringsMotion 30 = .ok (.idiv, 1) := by decide +kernel
theorem dW_bringsMotion_31 : decode bW_bringsMotion 31 = .ok (.istore 6, 2) := by decide +kernel
theorem dW_bringsMotion_33 : decode bW_bringsMotion 33 = .ok (.iload 6, 2) := by decide +kernel
theorem dW_bringsMotion_35 : decode bW_bringsMotion 35 = .ok (.iconst 1, 1) := by decide +kernel
theorem dW_bringsMotion_36 : decode bW_bringsMotion 36 = .ok (.if_icmp .eq 9, 3) := by decide +kernel
theorem dW_bringsMotion_39 : decode bW_bringsMotion 39 = .ok (.iload 6, 2) := by decide +kernel
theorem dW_bringsMotion_41 : decode bW_bringsMotion 41 = .ok (.iconst 2, 1) := by decide +kernel
theorem dW_bringsMotion_42 : decode bW_bringsMotion 42 = .ok (.if_icmp .ne 5, 3) := by decide +kernel
theorem dW_bringsMotion_45 : decode bW_bringsMotion 45 = .ok (.iconst 1, 1) := by decide +kernel
theorem dW_bringsMotion_46 : decode bW_bringsMotion 46 = .ok (.ireturn, 1) := by decide +kernel
theorem dW_bringsMotion_47 : decode bW_bringsMotion 47 = .ok (.iload 5, 2) := by decide +kernel
theorem dW_bringsMotion_49 : decode bW_bringsMotion 49 = .ok (.bipush 10, 2) := by decide +kernel
theorem dW_bringsMotion_51 : decode bW_bringsMotion 51 = .ok (.irem, 1) := by decide +kernel
theorem dW_bringsMotion_52 : decode bW_bringsMotion 52 = .ok (.bipush 9, 2) := by decide +kernel
theorem dW_bringsMotion_54 : decode bW_bringsMotion 54 = .ok (.if_icmp .ne 7, 3) := by decide +kernel
theorem dW_bringsMotion_57 : decode bW_bringsMotion 57 = .ok (.iload_n 3, 1) := by decide +kernel
theorem dW_bringsMotion_58 : decode bW_bringsMotion 58 = .ok (.goto 10, 3) := by decide +kernel
theorem dW_bringsMotion_61 : decode bW_bringsMotion 61 = .ok (.iconst 1, 1) := by decide +kernel
theorem dW_bringsMotion_62 : decode bW_bringsMotion 62 = .ok (.iload 5, 2) := by decide +kernel
theorem dW_bringsMotion_64 : decode bW_bringsMotion 64 = .ok (.bipush 10, 2) := by decide +kernel
theorem dW_bringsMotion_66 : decode bW_bringsMotion 66 = .ok (.irem, 1) := by decide +kernel
theorem dW_bringsMotion_67 : decode bW_bringsMotion 67 = .ok (.ishl, 1) := by decide +kernel
theorem dW_bringsMotion_68 : decode bW_bringsMotion 68 = .ok (.istore 7, 2) := by decide +kernel
theorem dW_bringsMotion_70 : decode bW_bringsMotion 70 = .ok (.iload 6, 2) := by decide +kernel
theorem dW_bringsMotion_72 : decode bW_bringsMotion 72 = .ok (.iconst 3, 1) := by decide +kernel
theorem dW_bringsMotion_73 : decode bW_bringsMotion 73 = .ok (.if_icmp .ne 12, 3) := by decide +kernel
theorem dW_bringsMotion_76 : decode bW_bringsMotion 76 = .ok (.iload 7, 2) := by decide +kernel
theorem dW_bringsMotion_78 : decode bW_bringsMotion 78 = .ok (.iload_n 2, 1) := by decide +kernel
theorem dW_bringsMotion_79 : decode bW_bringsMotion 79 = .ok (.iand, 1) := by decide +kernel
theorem dW_bringsMotion_80 : decode bW_bringsMotion 80 = .ok (.ifCond .eq 5, 3) := by decide +kernel
theorem dW_bringsMotion_83 : decode bW_bringsMotion 83 = .ok (.iconst 1, 1) := by decide +kernel
theorem dW_bringsMotion_84 : decode bW_bringsMotion 84 = .ok (.ireturn, 1) := by decide +kernel
theorem dW_bringsMotion_85 : decode bW_bringsMotion 85 = .ok (.iinc 4 1, 3) := by decide +kernel
theorem dW_bringsMotion_88 : decode bW_bringsMotion 88 = .ok (.goto (-81), 3) := by decide +kernel
theorem dW_bringsMotion_91 : decode bW_bringsMotion 91 = .ok (.iconst 0, 1) := by decide +kernel
theorem dW_bringsMotion_92 : decode bW_bringsMotion 92 = .ok (.ireturn, 1) := by decide +kernel
theorem dW_namesMovedFrom_0 : decode bW_namesMovedFrom 0 = .ok (.iconst 0, 1) := by decide +kernel
theorem dW_namesMovedFrom_1 : decode bW_namesMovedFrom 1 = .ok (.istore_n 3, 1) := by decide +kernel
theorem dW_namesMovedFrom_2 : decode bW_namesMovedFrom 2 = .ok (.iconst 0, 1) := by decide +kernel
theorem dW_namesMovedFrom_3 : decode bW_namesMovedFrom 3 = .ok (.istore 4, 2) := by decide +kernel
theorem dW_namesMovedFrom_5 : decode bW_namesMovedFrom 5 = .ok (.iload 4, 2) := by decide +kernel
theorem dW_namesMovedFrom_7 : decode bW_namesMovedFrom 7 = .ok (.aload_n 0, 1) := by decide +kernel
theorem dW_namesMovedFrom_8 : decode bW_namesMovedFrom 8 = .ok (.getfield 31, 3) := by decide +kernel
theorem dW_namesMovedFrom_11 : decode bW_namesMovedFrom 11 = .ok (.if_icmp .ge 48, 3) := by decide +kernel
theorem dW_namesMovedFrom_14 : decode bW_namesMovedFrom 14 = .ok (.aload_n 0, 1) := by decide +kernel
theorem dW_namesMovedFrom_15 : decode bW_namesMovedFrom 15 = .ok (.aload_n 0, 1) := by decide +kernel
theorem dW_namesMovedFrom_16 : decode bW_namesMovedFrom 16 = .ok (.getfield 34, 3) := by decide +kernel
theorem dW_namesMovedFrom_19 : decode bW_namesMovedFrom 19 = .ok (.iload 4, 2) := by decide +kernel
theorem dW_namesMovedFrom_21 : decode bW_namesMovedFrom 21 = .ok (.iaload, 1) := by decide +kernel
theorem dW_namesMovedFrom_22 : decode bW_namesMovedFrom 22 = .ok (.invokevirtual 109, 3) := by decide +kernel
theorem dW_namesMovedFrom_25 : decode bW_namesMovedFrom 25 = .ok (.istore 5, 2) := by decide +kernel
theorem dW_namesMovedFrom_27 : decode bW_namesMovedFrom 27 = .ok (.iload 5, 2) := by decide +kernel
theorem dW_namesMovedFrom_29 : decode bW_namesMovedFrom 29 = .ok (.invokestatic 60, 3) := by decide +kernel
theorem dW_namesMovedFrom_32 : decode bW_namesMovedFrom 32 = .ok (.ifCond .eq 21, 3) := by decide +kernel
theorem dW_namesMovedFrom_35 : decode bW_namesMovedFrom 35 = .ok (.aload_n 0, 1) := by decide +kernel
theorem dW_namesMovedFrom_36 : decode bW_namesMovedFrom 36 = .ok (.iload 4, 2) := by decide +kernel
theorem dW_namesMovedFrom_38 : decode bW_namesMovedFrom 38 = .ok (.iload_n 1, 1) := by decide +kernel
theorem dW_namesMovedFrom_39 : decode bW_namesMovedFrom 39 = .ok (.iload_n 2, 1) := by decide +kernel
theorem dW_namesMovedFrom_40 : decode bW_namesMovedFrom 40 = .ok (.invokevirtual 145, 3) := by decide +kernel
theorem dW_namesMovedFrom_43 : decode bW_namesMovedFrom 43 = .ok (.ifCond .eq 10, 3) := by decide +kernel
theorem dW_namesMovedFrom_46 : decode bW_namesMovedFrom 46 = .ok (.iload_n 3, 1) := by decide +kernel
theorem dW_namesMovedFrom_47 : decode bW_namesMovedFrom 47 = .ok (.iconst 1, 1) := by decide +kernel
theorem dW_namesMovedFrom_48 : decode bW_namesMovedFrom 48 = .ok (.iload 5, 2) := by decide +kernel
theorem dW_namesMovedFrom_50 : decode bW_namesMovedFrom 50 = .ok (.ishl, 1) := by decide +kernel
theorem dW_namesMovedFrom_51 : decode bW_namesMovedFrom 51 = .ok (.ior, 1) := by decide +kernel
theorem dW_namesMovedFrom_52 : decode bW_namesMovedFrom 52 = .ok (.istore_n 3, 1) := by decide +kernel
theorem dW_namesMovedFrom_53 : decode bW_namesMovedFrom 53 = .ok (.iinc 4 1, 3) := by decide +kernel
theorem dW_namesMovedFrom_56 : decode bW_namesMovedFrom 56 = .ok (.goto (-51), 3) := by decide +kernel
theorem dW_namesMovedFrom_59 : decode bW_namesMovedFrom 59 = .ok (.iload_n 3, 1) := by decide +kernel
theorem dW_namesMovedFrom_60 : decode bW_namesMovedFrom 60 = .ok (.ireturn, 1) := by decide +kernel
theorem dW_namesThatMove_0 : decode bW_namesThatMove 0 = .ok (.aload_n 0, 1) := by decide +kernel
theorem dW_namesThatMove_1 : decode bW_namesThatMove 1 = .ok (.invokevirtual 138, 3) := by decide +kernel
theorem dW_namesThatMove_4 : decode bW_namesThatMove 4 = .ok (.istore_n 1, 1) := by decide +kernel
theorem dW_namesThatMove_5 : decode bW_namesThatMove 5 = .ok (.iconst 0, 1) := by decide +kernel
theorem dW_namesThatMove_6 : decode bW_namesThatMove 6 = .ok (.istore_n 2, 1) := by decide +kernel
theorem dW_namesThatMove_7 : decode bW_namesThatMove 7 = .ok (.iconst 0, 1) := by decide +kernel
theorem dW_namesThatMove_8 : decode bW_namesThatMove 8 = .ok (.istore_n 3, 1) := by decide +kernel
theorem dW_namesThatMove_9 : decode bW_namesThatMove 9 = .ok (.iload_n 3, 1) := by decide +kernel
theorem dW_namesThatMove_10 : decode bW_namesThatMove 10 = .ok (.bipush 6, 2) := by decide +kernel
theorem dW_namesThatMove_12 : decode bW_namesThatMove 12 = .ok (.if_icmp .ge 18, 3) := by decide +kernel
theorem dW_namesThatMove_15 : decode bW_namesThatMove 15 = .ok (.iload_n 2, 1) := by decide +kernel
theorem dW_namesThatMove_16 : decode bW_namesThatMove 16 = .ok (.aload_n 0, 1) := by decide +kernel
theorem dW_namesThatMove_17 : decode bW_namesThatMove 17 = .ok (.iload_n 2, 1) := by decide +kernel
theorem dW_namesThatMove_18 : decode bW_namesThatMove 18 = .ok (.iload_n 1, 1) := by decide +kernel
theorem dW_namesThatMove_19 : decode bW_namesThatMove 19 = .ok (.invokevirtual 142, 3) := by decide +kernel
theorem dW_namesThatMove_22 : decode bW_namesThatMove 22 = .ok (.ior, 1) := by decide +kernel
theorem dW_namesThatMove_23 : decode bW_namesThatMove 23 = .ok (.istore_n 2, 1) := by decide +kernel
theorem dW_namesThatMove_24 : decode bW_namesThatMove 24 = .ok (.iinc 3 1, 3) := by decide +kernel
theorem dW_namesThatMove_27 : decode bW_namesThatMove 27 = .ok (.goto (-18), 3) := by decide +kernel
theorem dW_namesThatMove_30 : decode bW_namesThatMove 30 = .ok (.iload_n 2, 1) := by decide +kernel
theorem dW_namesThatMove_31 : decode bW_namesThatMove 31 = .ok (.ireturn, 1) := by decide +kernel
theorem wq_284 : Cond.methodLink rW 122 yW_addMessages ∈ wT := wT_in 284 rfl rfl
theorem wq_165 : Cond.instanceMethod yW_addMessages ∈ wT := wT_in 165 rfl rfl
theorem wq_166 : Cond.selects rW yW_addMessages yW_addMessages ∈ wT := wT_in 166 rfl rfl
theorem wq_167 : Cond.code yW_addMessages bW_addMessages 4 none ∈ wT := wT_in 167 rfl rfl
theorem kV_W_122 : mp_V rW 122 yW_addMessages bW_addMessages 4 none 3 := ⟨wq_284, wq_165, wq_166, wq_38, wq_167, ⟨by decide, by decide, by decide +kernel⟩⟩
theorem wq_276 : Cond.methodLink rW 115 yW_putInto ∈ wT := wT_in 276 rfl rfl
theorem wq_278 : Cond.instanceMethod yW_putInto ∈ wT := wT_in 278 rfl rfl
theorem wq_3 : Cond.selects rW yW_putInto yW_putInto ∈ wT := wT_in 3 rfl rfl
theorem wq_279 : Cond.code yW_putInto bW_putInto 3 none ∈ wT := wT_in 279 rfl rfl
theorem kV_W_115 : mp_V rW 115 yW_putInto bW_putInto 3 none 2 := ⟨wq_276, wq_278, wq_3, wq_38, wq_279, ⟨by decide, by decide, by decide +kernel⟩⟩
theorem wq_280 : Cond.methodLink rW 119 yW_dissolve ∈ wT := wT_in 280 rfl rfl
theorem wq_282 : Cond.instanceMethod yW_dissolve ∈ wT := wT_in 282 rfl rfl
theorem wq_4 : Cond.selects rW yW_dissolve yW_dissolve ∈ wT := wT_in 4 rfl rfl
theorem wq_283 : Cond.code yW_dissolve bW_dissolve 4 none ∈ wT := wT_in 283 rfl rfl
theorem kV_W_119 : mp_V rW 119 yW_dissolve bW_dissolve 4 none 2 := ⟨wq_280, wq_282, wq_4, wq_38, wq_283, ⟨by decide, by decide, by decide +kernel⟩⟩
theorem wq_293 : Cond.methodLink rW 126 yW_doNextAct ∈ wT := wT_in 293 rfl rfl
theorem wq_273 : Cond.instanceMethod yW_doNextAct ∈ wT := wT_in 273 rfl rfl
theorem wq_274 : Cond.selects rW yW_doNextAct yW_doNextAct ∈ wT := wT_in 274 rfl rfl
theorem wq_275 : Cond.code yW_doNextAct bW_doNextAct 5 (some .int) ∈ wT := wT_in 275 rfl rfl
theorem kV_W_126 : mp_V rW 126 yW_doNextAct bW_doNextAct 5 (some .int) 1 := ⟨wq_293, wq_273, wq_274, wq_38, wq_275, ⟨by decide, by decide, by decide +kernel⟩⟩
theorem wq_348 : Cond.methodLink rW 135 yW_heardBy ∈ wT := wT_in 348 rfl rfl
theorem wq_215 : Cond.instanceMethod yW_heardBy ∈ wT := wT_in 215 rfl rfl
theorem wq_216 : Cond.selects rW yW_heardBy yW_heardBy ∈ wT := wT_in 216 rfl rfl
theorem wq_217 : Cond.code yW_heardBy bW_heardBy 2 (some .int) ∈ wT := wT_in 217 rfl rfl
theorem kV_W_135 : mp_V rW 135 yW_heardBy bW_heardBy 2 (some .int) 1 := ⟨wq_348, wq_215, wq_216, wq_38, wq_217, ⟨by decide, by decide, by decide +kernel⟩⟩
theorem wq_344 : Cond.methodLink rW 132 yW_namesFromThread ∈ wT := wT_in 344 rfl rfl
theorem wq_346 : Cond.instanceMethod yW_namesFromThread ∈ wT := wT_in 346 rfl rfl
theorem wq_9 : Cond.selects rW yW_namesFromThread yW_namesFromThread ∈ wT := wT_in 9 rfl rfl
theorem wq_347 : Cond.code yW_namesFromThread bW_namesFromThread 5 (some .int) ∈ wT := wT_in 347 rfl rfl
theorem kV_W_132 : mp_V rW 132 yW_namesFromThread bW_namesFromThread 5 (some .int) 1 := ⟨wq_344, wq_346, wq_9, wq_38, wq_347, ⟨by decide, by decide, by decide +kernel⟩⟩
theorem wq_340 : Cond.methodLink rW 129 yW_hasMessageAnywhere ∈ wT := wT_in 340 rfl rfl
theorem wq_342 : Cond.instanceMethod yW_hasMessageAnywhere ∈ wT := wT_in 342 rfl rfl
theorem wq_8 : Cond.selects rW yW_hasMessageAnywhere yW_hasMessageAnywhere ∈ wT := wT_in 8 rfl rfl
theorem wq_343 : Cond.code yW_hasMessageAnywhere bW_hasMessageAnywhere 3 (some .boolean) ∈ wT := wT_in 343 rfl rfl
theorem kV_W_129 : mp_V rW 129 yW_hasMessageAnywhere bW_hasMessageAnywhere 3 (some .boolean) 1 := ⟨wq_340, wq_342, wq_8, wq_38, wq_343, ⟨by decide, by decide, by decide +kernel⟩⟩
theorem wq_362 : Cond.methodLink rW 145 yW_bringsMotion ∈ wT := wT_in 362 rfl rfl
theorem wq_364 : Cond.instanceMethod yW_bringsMotion ∈ wT := wT_in 364 rfl rfl
theorem wq_11 : Cond.selects rW yW_bringsMotion yW_bringsMotion ∈ wT := wT_in 11 rfl rfl
theorem wq_365 : Cond.code yW_bringsMotion bW_bringsMotion 8 (some .boolean) ∈ wT := wT_in 365 rfl rfl
theorem kV_W_145 : mp_V rW 145 yW_bringsMotion bW_bringsMotion 8 (some .boolean) 3 := ⟨wq_362, wq_364, wq_11, wq_38, wq_365, ⟨by decide, by decide, by decide +kernel⟩⟩
theorem wq_357 : Cond.methodLink rW 138 yW_namesThatMayBeSaid ∈ wT := wT_in 357 rfl rfl
theorem wq_337 : Cond.instanceMethod yW_namesThatMayBeSaid ∈ wT := wT_in 337 rfl rfl
theorem wq_338 : Cond.selects rW yW_namesThatMayBeSaid yW_namesThatMayBeSaid ∈ wT := wT_in 338 rfl rfl
theorem wq_339 : Cond.code yW_namesThatMayBeSaid bW_namesThatMayBeSaid 3 (some .int) ∈ wT := wT_in 339 rfl rfl
theorem kV_W_138 : mp_V rW 138 yW_namesThatMayBeSaid bW_namesThatMayBeSaid 3 (some .int) 0 := ⟨wq_357, wq_337, wq_338, wq_38, wq_339, ⟨by decide, by decide, by decide +kernel⟩⟩
theorem wq_358 : Cond.methodLink rW 142 yW_namesMovedFrom ∈ wT := wT_in 358 rfl rfl
theorem wq_360 : Cond.instanceMethod yW_namesMovedFrom ∈ wT := wT_in 360 rfl rfl
theorem wq_10 : Cond.selects rW yW_namesMovedFrom yW_namesMovedFrom ∈ wT := wT_in 10 rfl rfl
theorem wq_361 : Cond.code yW_namesMovedFrom bW_namesMovedFrom 6 (some .int) ∈ wT := wT_in 361 rfl rfl
theorem kV_W_142 : mp_V rW 142 yW_namesMovedFrom bW_namesMovedFrom 6 (some .int) 2 := ⟨wq_358, wq_360, wq_10, wq_38, wq_361, ⟨by decide, by decide, by decide +kernel⟩⟩
-- MovingPlaces$World.dissolve
abbrev rmW_dissolve : Room := { frames := 2, cells := 0, slots := 0, locals := 44 }
def fW_dissolve_70 (a1 : Int32) (a2 : Int32) : Nat → SW → Int32 → Option SW
  | 0, _, _ => none
  | n + 1, w, a3 => (if w.2.2.2.2.2.2.1 ≤ a3 then mp_st 12 a1 (some (w.1, (w.2.1 ||| (1 <<< (a1 &&& 31))), w.2.2.1, w.2.2.2.1, (upd w.2.2.2.2.1 (Int32.toNatClampNeg a1) (-9)), w.2.2.2.2.2.1, w.2.2.2.2.2.2.1, w.2.2.2.2.2.2.2.1, w.2.2.2.2.2.2.2.2.1, w.2.2.2.2.2.2.2.2.2.1, w.2.2.2.2.2.2.2.2.2.2.1, w.2.2.2.2.2.2.2.2.2.2.2)) else mp_ld w.2.2.2.2.2.2.2.1 12 a3 fun x2 => (if x2 = a1 then mp_st 12 a3 (fW_dissolve_70 a1 a2 n (w.1, w.2.1, w.2.2.1, w.2.2.2.1, w.2.2.2.2.1, w.2.2.2.2.2.1, w.2.2.2.2.2.2.1, (upd w.2.2.2.2.2.2.2.1 (Int32.toNatClampNeg a3) a2), w.2.2.2.2.2.2.2.2.1, w.2.2.2.2.2.2.2.2.2.1, w.2.2.2.2.2.2.2.2.2.2.1, w.2.2.2.2.2.2.2.2.2.2.2) (a3 + 1)) else fW_dissolve_70 a1 a2 n w (a3 + 1)))
theorem fW_dissolve_70_s (a1 : Int32) (a2 : Int32) (n : Nat) (w : SW) (a3 : Int32) : fW_dissolve_70 a1 a2 (n + 1) w a3 = (if w.2.2.2.2.2.2.1 ≤ a3 then mp_st 12 a1 (some (w.1, (w.2.1 ||| (1 <<< (a1 &&& 31))), w.2.2.1, w.2.2.2.1, (upd w.2.2.2.2.1 (Int32.toNatClampNeg a1) (-9)), w.2.2.2.2.2.1, w.2.2.2.2.2.2.1, w.2.2.2.2.2.2.2.1, w.2.2.2.2.2.2.2.2.1, w.2.2.2.2.2.2.2.2.2.1, w.2.2.2.2.2.2.2.2.2.2.1, w.2.2.2.2.2.2.2.2.2.2.2)) else mp_ld w.2.2.2.2.2.2.2.1 12 a3 fun x2 => (if x2 = a1 then mp_st 12 a3 (fW_dissolve_70 a1 a2 n (w.1, w.2.1, w.2.2.1, w.2.2.2.1, w.2.2.2.2.1, w.2.2.2.2.2.1, w.2.2.2.2.2.2.1, (upd w.2.2.2.2.2.2.2.1 (Int32.toNatClampNeg a3) a2), w.2.2.2.2.2.2.2.2.1, w.2.2.2.2.2.2.2.2.2.1, w.2.2.2.2.2.2.2.2.2.2.1, w.2.2.2.2.2.2.2.2.2.2.2) (a3 + 1)) else fW_dissolve_70 a1 a2 n w (a3 + 1))) := rfl
set_option maxHeartbeats 4000000 in
set_option maxRecDepth 100000 in
theorem lW_dissolve_70 {p : Program} {l : Launch} {e : Env} {s : State} {m : MethodId} {args : Array Value} {below : List Frame} {meth : Method} {c : Code} (cx : mp_C p s m args meth c bW_dissolve 4 none rW) (k : KK) (ad : Nat → Nat) (a1 : Int32) (a2 : Int32) (z : SW) (hE : mp_E k s) (hAN : ∀ q, mp_A (aW ad) q → mp_N k q) : ∀ (n : Nat) (w : SW) (a3 : Int32), fW_dissolve_70 a1 a2 n w a3 = some z → ∀ (H : Heap) (locs : List Loc), va_P (kD k) mp_cls (cW k ad w) H → va_D (mp_A (aW ad)) (cW k ad w) → va_S (mp_A (aW ad)) s.heap H locs → ∀ (ls : Array Slot), lv_has ls 4 [(0, .ref (ad 0)), (1, .int a1), (2, .int a2), (3, .int a3)] → W p l e rmW_dissolve s m args below meth c H locs 0 0 (MQ below (mp_Qm k none (cW k ad z) (aW ad)) args s 0 0 (mp_A (aW ad))) (F0 m 70 ls []) := by
  obtain ⟨hx, hb, -, hml, hown, hts, -⟩ := id cx
  intro n
  induction n with
  | zero =>
    intro w a3 h
    have h : (none : Option SW) = some z := h
    cases h
  | succ n ih =>
    intro w a3 h H locs hP hD hS ls hl
    rw [fW_dissolve_70_s] at h
    refine lv_iload_n hx hb dW_dissolve_70 rfl (lv_at hl 3 rfl) ?_
    refine lv_aload_n hx hb dW_dissolve_71 rfl (lv_at hl 0 rfl) ?_
    refine mp_gW cx hE hP iW 0 rfl 6 (by decide) wq_62 rfl (v := .int w.2.2.2.2.2.2.1) rfl dW_dissolve_72 ?_
    refine lv_icmp_ge (tgt := 101) hx hb dW_dissolve_75 (by decide) (fun c1 => ?_) (fun c1 => ?_)
    · have h := mp_t c1 h
      refine lv_aload_n hx hb dW_dissolve_101 rfl (lv_at hl 0 rfl) ?_
      refine lv_aload_n hx hb dW_dissolve_102 rfl (lv_at hl 0 rfl) ?_
      refine mp_gW cx hE hP iW 0 rfl 1 (by decide) wq_57 rfl (v := .int w.2.1) rfl dW_dissolve_103 ?_
      refine lv_iconst (v := 1) hx hb dW_dissolve_106 (by decide) ?_
      refine lv_iload_n hx hb dW_dissolve_107 rfl (lv_at hl 1 rfl) ?_
      refine lv_ishl hx hb dW_dissolve_108 ?_
      refine lv_ior hx hb dW_dissolve_109 ?_
      refine va_put (D := kD k) (ci := 0) (v := .int (w.2.1 ||| (1 <<< (a1 &&& 31)))) (ty := .int) (C := rW) (T := tW) (N := 12) hx hb hts iW gW gW_ok nW hown hE.1 hP hD hS 0 rfl rfl 1 (by decide) (hts _ wq_57) (fun _ h9 => h9) rfl (by decide +kernel) rfl rfl (Nat.le_of_ble_eq_true rfl) dW_dissolve_110 (fun H locs hP hD hS => ?_)
      have hP : va_P (kD k) mp_cls (cW k ad (w.1, (w.2.1 ||| (1 <<< (a1 &&& 31))), w.2.2.1, w.2.2.2.1, w.2.2.2.2.1, w.2.2.2.2.2.1, w.2.2.2.2.2.2.1, w.2.2.2.2.2.2.2.1, w.2.2.2.2.2.2.2.2.1, w.2.2.2.2.2.2.2.2.2.1, w.2.2.2.2.2.2.2.2.2.2.1, w.2.2.2.2.2.2.2.2.2.2.2)) H := hP
      have hD : va_D (mp_A (aW ad)) (cW k ad (w.1, (w.2.1 ||| (1 <<< (a1 &&& 31))), w.2.2.1, w.2.2.2.1, w.2.2.2.2.1, w.2.2.2.2.2.1, w.2.2.2.2.2.2.1, w.2.2.2.2.2.2.2.1, w.2.2.2.2.2.2.2.2.1, w.2.2.2.2.2.2.2.2.2.1, w.2.2.2.2.2.2.2.2.2.2.1, w.2.2.2.2.2.2.2.2.2.2.2)) := hD
      refine lv_aload_n hx hb dW_dissolve_113 rfl (lv_at hl 0 rfl) ?_
      refine mp_gW cx hE hP iW 0 rfl 4 (by decide) wq_60 rfl (v := .ref (ad 2)) rfl dW_dissolve_114 ?_
      refine lv_iload_n hx hb dW_dissolve_117 rfl (lv_at hl 1 rfl) ?_
      refine lv_bipush (v := (-9)) hx hb dW_dissolve_118 (by decide) ?_
      obtain ⟨hi, h⟩ := mp_sts h
      refine va_iast hx hb hE.1 hP hD hS 2 0 (f := w.2.2.2.2.1) (n := 12) rfl rfl hi dW_dissolve_120 (fun H locs hP hD hS => ?_)
      have hP : va_P (kD k) mp_cls (cW k ad (w.1, (w.2.1 ||| (1 <<< (a1 &&& 31))), w.2.2.1, w.2.2.2.1, (upd w.2.2.2.2.1 (Int32.toNatClampNeg a1) (-9)), w.2.2.2.2.2.1, w.2.2.2.2.2.2.1, w.2.2.2.2.2.2.2.1, w.2.2.2.2.2.2.2.2.1, w.2.2.2.2.2.2.2.2.2.1, w.2.2.2.2.2.2.2.2.2.2.1, w.2.2.2.2.2.2.2.2.2.2.2)) H := hP
      have hD : va_D (mp_A (aW ad)) (cW k ad (w.1, (w.2.1 ||| (1 <<< (a1 &&& 31))), w.2.2.1, w.2.2.2.1, (upd w.2.2.2.2.1 (Int32.toNatClampNeg a1) (-9)), w.2.2.2.2.2.1, w.2.2.2.2.2.2.1, w.2.2.2.2.2.2.2.1, w.2.2.2.2.2.2.2.2.1, w.2.2.2.2.2.2.2.2.2.1, w.2.2.2.2.2.2.2.2.2.2.1, w.2.2.2.2.2.2.2.2.2.2.2)) := hD
      exact mp_rvm (cf := cW k ad) cx h hP hS dW_dissolve_121
    · have h := mp_f c1 h
      refine lv_aload_n hx hb dW_dissolve_78 rfl (lv_at hl 0 rfl) ?_
      refine mp_gW cx hE hP iW 0 rfl 7 (by decide) wq_63 rfl (v := .ref (ad 4)) rfl dW_dissolve_79 ?_
      refine lv_iload_n hx hb dW_dissolve_82 rfl (lv_at hl 3 rfl) ?_
      obtain ⟨hi, x2, ex2, h⟩ := mp_lds h
      refine va_iald hx hb hE.1 hP 4 0 (f := w.2.2.2.2.2.2.2.1) (n := 12) rfl rfl hi dW_dissolve_83 ?_
      refine mp_top ex2 ?_
      refine lv_iload_n hx hb dW_dissolve_84 rfl (lv_at hl 1 rfl) ?_
      refine lv_icmp_ne (tgt := 95) hx hb dW_dissolve_85 (by decide) (fun c3 => ?_) (fun c3 => ?_)
      · have h := mp_f c3 h
        refine lv_iinc (v := (a3 + 1)) (lv' := [(3, .int (a3 + 1)), (0, .ref (ad 0)), (1, .int a1), (2, .int a2)]) hx hb dW_dissolve_95 hl (k := 3) rfl rfl (by decide) rfl (fun ls hl => ?_)
        refine lv_goto (tgt := 70) hx hb dW_dissolve_98 (by decide) ?_
        exact ih w (a3 + 1) h _ _ hP hD hS ls (lv_sub hl [1, 2, 3, 0] rfl)
      · have h := mp_t c3 h
        refine lv_aload_n hx hb dW_dissolve_88 rfl (lv_at hl 0 rfl) ?_
        refine mp_gW cx hE hP iW 0 rfl 7 (by decide) wq_63 rfl (v := .ref (ad 4)) rfl dW_dissolve_89 ?_
        refine lv_iload_n hx hb dW_dissolve_92 rfl (lv_at hl 3 rfl) ?_
        refine lv_iload_n hx hb dW_dissolve_93 rfl (lv_at hl 2 rfl) ?_
        obtain ⟨hi, h⟩ := mp_sts h
        refine va_iast hx hb hE.1 hP hD hS 4 0 (f := w.2.2.2.2.2.2.2.1) (n := 12) rfl rfl hi dW_dissolve_94 (fun H locs hP hD hS => ?_)
        have hP : va_P (kD k) mp_cls (cW k ad (w.1, w.2.1, w.2.2.1, w.2.2.2.1, w.2.2.2.2.1, w.2.2.2.2.2.1, w.2.2.2.2.2.2.1, (upd w.2.2.2.2.2.2.2.1 (Int32.toNatClampNeg a3) a2), w.2.2.2.2.2.2.2.2.1, w.2.2.2.2.2.2.2.2.2.1, w.2.2.2.2.2.2.2.2.2.2.1, w.2.2.2.2.2.2.2.2.2.2.2)) H := hP
        have hD : va_D (mp_A (aW ad)) (cW k ad (w.1, w.2.1, w.2.2.1, w.2.2.2.1, w.2.2.2.2.1, w.2.2.2.2.2.1, w.2.2.2.2.2.2.1, (upd w.2.2.2.2.2.2.2.1 (Int32.toNatClampNeg a3) a2), w.2.2.2.2.2.2.2.2.1, w.2.2.2.2.2.2.2.2.2.1, w.2.2.2.2.2.2.2.2.2.2.1, w.2.2.2.2.2.2.2.2.2.2.2)) := hD
        refine lv_iinc (v := (a3 + 1)) (lv' := [(3, .int (a3 + 1)), (0, .ref (ad 0)), (1, .int a1), (2, .int a2)]) hx hb dW_dissolve_95 hl (k := 3) rfl rfl (by decide) rfl (fun ls hl => ?_)
        refine lv_goto (tgt := 70) hx hb dW_dissolve_98 (by decide) ?_
        exact ih (w.1, w.2.1, w.2.2.1, w.2.2.2.1, w.2.2.2.2.1, w.2.2.2.2.2.1, w.2.2.2.2.2.2.1, (upd w.2.2.2.2.2.2.2.1 (Int32.toNatClampNeg a3) a2), w.2.2.2.2.2.2.2.2.1, w.2.2.2.2.2.2.2.2.2.1, w.2.2.2.2.2.2.2.2.2.2.1, w.2.2.2.2.2.2.2.2.2.2.2) (a3 + 1) h _ _ hP hD hS ls (lv_sub hl [1, 2, 3, 0] rfl)
def fW_dissolve_37 (a1 : Int32) (a2 : Int32) : Nat → SW → Int32 → Option SW
  | 0, _, _ => none
  | n + 1, w, a3 => (if w.1 ≤ a3 then fW_dissolve_70 a1 a2 2000 w 0 else mp_ld w.2.2.2.2.1 12 a3 fun x2 => (if x2 = a1 then mp_st 12 a3 (fW_dissolve_37 a1 a2 n (w.1, w.2.1, w.2.2.1, w.2.2.2.1, (upd w.2.2.2.2.1 (Int32.toNatClampNeg a3) a2), w.2.2.2.2.2.1, w.2.2.2.2.2.2.1, w.2.2.2.2.2.2.2.1, w.2.2.2.2.2.2.2.2.1, w.2.2.2.2.2.2.2.2.2.1, w.2.2.2.2.2.2.2.2.2.2.1, w.2.2.2.2.2.2.2.2.2.2.2) (a3 + 1)) else fW_dissolve_37 a1 a2 n w (a3 + 1)))
theorem fW_dissolve_37_s (a1 : Int32) (a2 : Int32) (n : Nat) (w : SW) (a3 : Int32) : fW_dissolve_37 a1 a2 (n + 1) w a3 = (if w.1 ≤ a3 then fW_dissolve_70 a1 a2 2000 w 0 else mp_ld w.2.2.2.2.1 12 a3 fun x2 => (if x2 = a1 then mp_st 12 a3 (fW_dissolve_37 a1 a2 n (w.1, w.2.1, w.2.2.1, w.2.2.2.1, (upd w.2.2.2.2.1 (Int32.toNatClampNeg a3) a2), w.2.2.2.2.2.1, w.2.2.2.2.2.2.1, w.2.2.2.2.2.2.2.1, w.2.2.2.2.2.2.2.2.1, w.2.2.2.2.2.2.2.2.2.1, w.2.2.2.2.2.2.2.2.2.2.1, w.2.2.2.2.2.2.2.2.2.2.2) (a3 + 1)) else fW_dissolve_37 a1 a2 n w (a3 + 1))) := rfl
set_option maxHeartbeats 4000000 in
set_option maxRecDepth 100000 in
theorem lW_dissolve_37 {p : Program} {l : Launch} {e : Env} {s : State} {m : MethodId} {args : Array Value} {below : List Frame} {meth : Method} {c : Code} (cx : mp_C p s m args meth c bW_dissolve 4 none rW) (k : KK) (ad : Nat → Nat) (a1 : Int32) (a2 : Int32) (z : SW) (hE : mp_E k s) (hAN : ∀ q, mp_A (aW ad) q → mp_N k q) : ∀ (n : Nat) (w : SW) (a3 : Int32), fW_dissolve_37 a1 a2 n w a3 = some z → ∀ (H : Heap) (locs : List Loc), va_P (kD k) mp_cls (cW k ad w) H → va_D (mp_A (aW ad)) (cW k ad w) → va_S (mp_A (aW ad)) s.heap H locs → ∀ (ls : Array Slot), lv_has ls 4 [(0, .ref (ad 0)), (1, .int a1), (2, .int a2), (3, .int a3)] → W p l e rmW_dissolve s m args below meth c H locs 0 0 (MQ below (mp_Qm k none (cW k ad z) (aW ad)) args s 0 0 (mp_A (aW ad))) (F0 m 37 ls []) := by
  obtain ⟨hx, hb, -, hml, hown, hts, -⟩ := id cx
  intro n
  induction n with
  | zero =>
    intro w a3 h
    have h : (none : Option SW) = some z := h
    cases h
  | succ n ih =>
    intro w a3 h H locs hP hD hS ls hl
    rw [fW_dissolve_37_s] at h
    refine lv_iload_n hx hb dW_dissolve_37 rfl (lv_at hl 3 rfl) ?_
    refine lv_aload_n hx hb dW_dissolve_38 rfl (lv_at hl 0 rfl) ?_
    refine mp_gW cx hE hP iW 0 rfl 0 (by decide) wq_56 rfl (v := .int w.1) rfl dW_dissolve_39 ?_
    refine lv_icmp_ge (tgt := 68) hx hb dW_dissolve_42 (by decide) (fun c1 => ?_) (fun c1 => ?_)
    · have h := mp_t c1 h
      refine lv_iconst (v := 0) hx hb dW_dissolve_68 (by decide) ?_
      refine lv_istore_n (lv' := [(3, .int 0), (0, .ref (ad 0)), (1, .int a1), (2, .int a2)]) hx hb dW_dissolve_69 rfl hl (by decide) rfl (fun ls hl => ?_)
      exact lW_dissolve_70 cx k ad a1 a2 z hE hAN _ w 0 h _ _ hP hD hS ls (lv_sub hl [1, 2, 3, 0] rfl)
    · have h := mp_f c1 h
      refine lv_aload_n hx hb dW_dissolve_45 rfl (lv_at hl 0 rfl) ?_
      refine mp_gW cx hE hP iW 0 rfl 4 (by decide) wq_60 rfl (v := .ref (ad 2)) rfl dW_dissolve_46 ?_
      refine lv_iload_n hx hb dW_dissolve_49 rfl (lv_at hl 3 rfl) ?_
      obtain ⟨hi, x2, ex2, h⟩ := mp_lds h
      refine va_iald hx hb hE.1 hP 2 0 (f := w.2.2.2.2.1) (n := 12) rfl rfl hi dW_dissolve_50 ?_
      refine mp_top ex2 ?_
      refine lv_iload_n hx hb dW_dissolve_51 rfl (lv_at hl 1 rfl) ?_
      refine lv_icmp_ne (tgt := 62) hx hb dW_dissolve_52 (by decide) (fun c3 => ?_) (fun c3 => ?_)
      · have h := mp_f c3 h
        refine lv_iinc (v := (a3 + 1)) (lv' := [(3, .int (a3 + 1)), (0, .ref (ad 0)), (1, .int a1), (2, .int a2)]) hx hb dW_dissolve_62 hl (k := 3) rfl rfl (by decide) rfl (fun ls hl => ?_)
        refine lv_goto (tgt := 37) hx hb dW_dissolve_65 (by decide) ?_
        exact ih w (a3 + 1) h _ _ hP hD hS ls (lv_sub hl [1, 2, 3, 0] rfl)
      · have h := mp_t c3 h
        refine lv_aload_n hx hb dW_dissolve_55 rfl (lv_at hl 0 rfl) ?_
        refine mp_gW cx hE hP iW 0 rfl 4 (by decide) wq_60 rfl (v := .ref (ad 2)) rfl dW_dissolve_56 ?_
        refine lv_iload_n hx hb dW_dissolve_59 rfl (lv_at hl 3 rfl) ?_
        refine lv_iload_n hx hb dW_dissolve_60 rfl (lv_at hl 2 rfl) ?_
        obtain ⟨hi, h⟩ := mp_sts h
        refine va_iast hx hb hE.1 hP hD hS 2 0 (f := w.2.2.2.2.1) (n := 12) rfl rfl hi dW_dissolve_61 (fun H locs hP hD hS => ?_)
        have hP : va_P (kD k) mp_cls (cW k ad (w.1, w.2.1, w.2.2.1, w.2.2.2.1, (upd w.2.2.2.2.1 (Int32.toNatClampNeg a3) a2), w.2.2.2.2.2.1, w.2.2.2.2.2.2.1, w.2.2.2.2.2.2.2.1, w.2.2.2.2.2.2.2.2.1, w.2.2.2.2.2.2.2.2.2.1, w.2.2.2.2.2.2.2.2.2.2.1, w.2.2.2.2.2.2.2.2.2.2.2)) H := hP
        have hD : va_D (mp_A (aW ad)) (cW k ad (w.1, w.2.1, w.2.2.1, w.2.2.2.1, (upd w.2.2.2.2.1 (Int32.toNatClampNeg a3) a2), w.2.2.2.2.2.1, w.2.2.2.2.2.2.1, w.2.2.2.2.2.2.2.1, w.2.2.2.2.2.2.2.2.1, w.2.2.2.2.2.2.2.2.2.1, w.2.2.2.2.2.2.2.2.2.2.1, w.2.2.2.2.2.2.2.2.2.2.2)) := hD
        refine lv_iinc (v := (a3 + 1)) (lv' := [(3, .int (a3 + 1)), (0, .ref (ad 0)), (1, .int a1), (2, .int a2)]) hx hb dW_dissolve_62 hl (k := 3) rfl rfl (by decide) rfl (fun ls hl => ?_)
        refine lv_goto (tgt := 37) hx hb dW_dissolve_65 (by decide) ?_
        exact ih (w.1, w.2.1, w.2.2.1, w.2.2.2.1, (upd w.2.2.2.2.1 (Int32.toNatClampNeg a3) a2), w.2.2.2.2.2.1, w.2.2.2.2.2.2.1, w.2.2.2.2.2.2.2.1, w.2.2.2.2.2.2.2.2.1, w.2.2.2.2.2.2.2.2.2.1, w.2.2.2.2.2.2.2.2.2.2.1, w.2.2.2.2.2.2.2.2.2.2.2) (a3 + 1) h _ _ hP hD hS ls (lv_sub hl [1, 2, 3, 0] rfl)
def fW_dissolve_11 (a1 : Int32) (a2 : Int32) : Nat → SW → Int32 → Option SW
  | 0, _, _ => none
  | n + 1, w, a3 => (if 6 ≤ a3 then fW_dissolve_37 a1 a2 2000 w 0 else (fW_messagesOf w a1 a3).bind fun x2 => (fW_addMessages w a2 a3 x2).bind fun x3 => fW_dissolve_11 a1 a2 n x3 (a3 + 1))
theorem fW_dissolve_11_s (a1 : Int32) (a2 : Int32) (n : Nat) (w : SW) (a3 : Int32) : fW_dissolve_11 a1 a2 (n + 1) w a3 = (if 6 ≤ a3 then fW_dissolve_37 a1 a2 2000 w 0 else (fW_messagesOf w a1 a3).bind fun x2 => (fW_addMessages w a2 a3 x2).bind fun x3 => fW_dissolve_11 a1 a2 n x3 (a3 + 1)) := rfl
set_option maxHeartbeats 4000000 in
set_option maxRecDepth 100000 in
theorem lW_dissolve_11 {p : Program} {l : Launch} {e : Env} {s : State} {m : MethodId} {args : Array Value} {below : List Frame} {meth : Method} {c : Code} (cx : mp_C p s m args meth c bW_dissolve 4 none rW) (k : KK) (ad : Nat → Nat) (a1 : Int32) (a2 : Int32) (z : SW) (hE : mp_E k s) (hAN : ∀ q, mp_A (aW ad) q → mp_N k q) : ∀ (n : Nat) (w : SW) (a3 : Int32), fW_dissolve_11 a1 a2 n w a3 = some z → ∀ (H : Heap) (locs : List Loc), va_P (kD k) mp_cls (cW k ad w) H → va_D (mp_A (aW ad)) (cW k ad w) → va_S (mp_A (aW ad)) s.heap H locs → ∀ (ls : Array Slot), lv_has ls 4 [(0, .ref (ad 0)), (1, .int a1), (2, .int a2), (3, .int a3)] → W p l e rmW_dissolve s m args below meth c H locs 0 0 (MQ below (mp_Qm k none (cW k ad z) (aW ad)) args s 0 0 (mp_A (aW ad))) (F0 m 11 ls []) := by
  obtain ⟨hx, hb, -, hml, hown, hts, -⟩ := id cx
  intro n
  induction n with
  | zero =>
    intro w a3 h
    have h : (none : Option SW) = some z := h
    cases h
  | succ n ih =>
    intro w a3 h H locs hP hD hS ls hl
    rw [fW_dissolve_11_s] at h
    refine lv_iload_n hx hb dW_dissolve_11 rfl (lv_at hl 3 rfl) ?_
    refine lv_bipush (v := 6) hx hb dW_dissolve_12 (by decide) ?_
    refine lv_icmp_ge (tgt := 35) hx hb dW_dissolve_14 (by decide) (fun c1 => ?_) (fun c1 => ?_)
    · have h := mp_t c1 h
      refine lv_iconst (v := 0) hx hb dW_dissolve_35 (by decide) ?_
      refine lv_istore_n (lv' := [(3, .int 0), (0, .ref (ad 0)), (1, .int a1), (2, .int a2)]) hx hb dW_dissolve_36 rfl hl (by decide) rfl (fun ls hl => ?_)
      exact lW_dissolve_37 cx k ad a1 a2 z hE hAN _ w 0 h _ _ hP hD hS ls (lv_sub hl [1, 2, 3, 0] rfl)
    · have h := mp_f c1 h
      refine lv_aload_n hx hb dW_dissolve_17 rfl (lv_at hl 0 rfl) ?_
      refine lv_iload_n hx hb dW_dissolve_18 rfl (lv_at hl 2 rfl) ?_
      refine lv_iload_n hx hb dW_dissolve_19 rfl (lv_at hl 3 rfl) ?_
      refine lv_aload_n hx hb dW_dissolve_20 rfl (lv_at hl 0 rfl) ?_
      refine lv_iload_n hx hb dW_dissolve_21 rfl (lv_at hl 1 rfl) ?_
      refine lv_iload_n hx hb dW_dissolve_22 rfl (lv_at hl 3 rfl) ?_
      obtain ⟨x2, ex2, h⟩ := mp_bs h
      refine mp_si (mp_runV (As := [.int a1, .int a3]) (rest := [.int a3, .int a2, .ref (ad 0)]) cx kV_W_72 (cW_messagesOf l k ad w a1 a3 x2 ex2) ⟨rfl, rfl, Nat.le_of_ble_eq_true rfl, Nat.le_of_ble_eq_true rfl⟩ ⟨Nat.zero_le _, Nat.zero_le _⟩ hE hP (mp_Dw hD hAN) (mp_S hS hAN) 0 rfl rfl rfl hl.1 rfl (Nat.le_of_ble_eq_true rfl) dW_dissolve_23) ?_
      obtain ⟨x3, ex3, h⟩ := mp_bs h
      refine mp_mv (mp_runV (As := [.int a2, .int a3, .int x2]) (rest := []) cx kV_W_122 (cW_addMessages l k ad w a2 a3 x2 x3 ex3) ⟨rfl, rfl, Nat.le_of_ble_eq_true rfl, Nat.le_of_ble_eq_true rfl⟩ ⟨Nat.zero_le _, Nat.zero_le _⟩ hE hP (mp_Dw hD hAN) (mp_S hS hAN) 0 rfl rfl rfl hl.1 rfl (Nat.le_of_ble_eq_true rfl) dW_dissolve_26) hS (fun _ h9 => h9) (fun H locs hP hk hS => ?_)
      have hD : va_D (mp_A (aW ad)) (cW k ad x3) := mp_Ds hD rfl
      refine lv_iinc (v := (a3 + 1)) (lv' := [(3, .int (a3 + 1)), (0, .ref (ad 0)), (1, .int a1), (2, .int a2)]) hx hb dW_dissolve_29 hl (k := 3) rfl rfl (by decide) rfl (fun ls hl => ?_)
      refine lv_goto (tgt := 11) hx hb dW_dissolve_32 (by decide) ?_
      exact ih x3 (a3 + 1) h _ _ hP hD hS ls (lv_sub hl [1, 2, 3, 0] rfl)
def fW_dissolve (w : SW) (a1 : Int32) (a2 : Int32) : Option SW := (fW_isPlace w a1).bind fun x1 => (if x1 = 0 then some w else fW_dissolve_11 a1 a2 2000 w 0)
set_option maxHeartbeats 4000000 in
set_option maxRecDepth 100000 in
theorem wW_dissolve {p : Program} {l : Launch} {e : Env} {s : State} {m : MethodId} {args : Array Value} {below : List Frame} {meth : Method} {c : Code} (cx : mp_C p s m args meth c bW_dissolve 4 none rW) (k : KK) (ad : Nat → Nat) (w : SW) (a1 : Int32) (a2 : Int32) (z : SW) (hE : mp_E k s) (hAN : ∀ q, mp_A (aW ad) q → mp_N k q) {H : Heap} {locs : List Loc} (hP : va_P (kD k) mp_cls (cW k ad w) H) (hD : va_D (mp_A (aW ad)) (cW k ad w)) (hS : va_S (mp_A (aW ad)) s.heap H locs) (h : fW_dissolve w a1 a2 = some z) (ls : Array Slot) (hl : lv_has ls 4 [(0, .ref (ad 0)), (1, .int a1), (2, .int a2)]) : W p l e rmW_dissolve s m args below meth c H locs 0 0 (MQ below (mp_Qm k none (cW k ad z) (aW ad)) args s 0 0 (mp_A (aW ad))) (F0 m 0 ls []) := by
  obtain ⟨hx, hb, -, hml, hown, hts, -⟩ := id cx
  unfold fW_dissolve at h
  refine lv_aload_n hx hb dW_dissolve_0 rfl (lv_at hl 0 rfl) ?_
  refine lv_iload_n hx hb dW_dissolve_1 rfl (lv_at hl 1 rfl) ?_
  obtain ⟨x1, ex1, h⟩ := mp_bs h
  refine mp_si (mp_runV (As := [.int a1]) (rest := []) cx kV_W_56 (cW_isPlace l k ad w a1 x1 ex1) ⟨rfl, rfl, Nat.le_of_ble_eq_true rfl, Nat.le_of_ble_eq_true rfl⟩ ⟨Nat.zero_le _, Nat.zero_le _⟩ hE hP (mp_Dw hD hAN) (mp_S hS hAN) 0 rfl rfl rfl hl.1 rfl (Nat.le_of_ble_eq_true rfl) dW_dissolve_2) ?_
  refine lv_if_ne (tgt := 9) hx hb dW_dissolve_5 (by decide) (fun c2 => ?_) (fun c2 => ?_)
  · have h := mp_f c2 h
    refine lv_iconst (v := 0) hx hb dW_dissolve_9 (by decide) ?_
    refine lv_istore_n (lv' := [(3, .int 0), (0, .ref (ad 0)), (1, .int a1), (2, .int a2)]) hx hb dW_dissolve_10 rfl hl (by decide) rfl (fun ls hl => ?_)
    exact lW_dissolve_11 cx k ad a1 a2 z hE hAN _ w 0 h _ _ hP hD hS ls (lv_sub hl [1, 2, 3, 0] rfl)
  · have h := mp_t c2 h
    exact mp_rvm (cf := cW k ad) cx h hP hS dW_dissolve_8
theorem cW_dissolve (l : Launch) (k : KK) (ad : Nat → Nat) (w : SW) (a1 : Int32) (a2 : Int32) (z : SW) (h : fW_dissolve w a1 a2 = some z) : mp_CM l k yW_dissolve bW_dissolve 4 none rmW_dissolve [.ref (ad 0), .int a1, .int a2] (cW k ad w) (cW k ad z) (aW ad) (none) := by
  refine Met.ofW (cc := bW_dissolve) (maxL := 4) (ret := none) (by decide) rfl ?_
  intro p e s m args below meth c s₁ B hml hv
  obtain ⟨rfl, hP, hD, hE⟩ := hv
  have hl := lv_entry ([.ref (ad 0), .int a1, .int a2]) (n := 4) (Nat.le_of_ble_eq_true rfl)
  rw [lg_entry_eq]
  generalize (lg_sl ([.ref (ad 0), .int a1, .int a2]) ++ List.replicate (4 - (lg_sl ([.ref (ad 0), .int a1, .int a2])).length) Slot.unset).toArray = ls at hl ⊢
  exact wW_dissolve (mp_C.of B hml) k ad w a1 a2 z hE (mp_new hD rfl) hP (mp_own hD rfl) va_S.rf h ls hl
-- MovingPlaces$World.doNextAct
abbrev rmW_doNextAct : Room := { frames := 4, cells := 0, slots := 0, locals := 89 }
def fW_doNextAct (w : SW) (a1 : Int32) : Option (Int32 × SW) := (fW_aimOf w a1).bind fun x1 => (fW_isThread w a1).bind fun x2 => (if x2 = 0 then some ((-9), w) else (if x1 = (-9) then some ((-9), w) else mp_ld w.2.2.2.2.2.2.2.2.2.2.1 12 a1 fun x5 => (fW_actOf w a1 x5).bind fun x6 => mp_ld w.2.2.2.2.2.2.2.1 12 a1 fun x7 => (if (x6 / 10) = 1 then (fW_putInto w x7 x1).bind fun x9 => mp_ld x9.2.2.2.2.2.2.2.2.2.2.1 12 a1 fun x10 => mp_st 12 a1 (some ((x6 / 10), (x9.1, x9.2.1, x9.2.2.1, x9.2.2.2.1, x9.2.2.2.2.1, x9.2.2.2.2.2.1, x9.2.2.2.2.2.2.1, x9.2.2.2.2.2.2.2.1, x9.2.2.2.2.2.2.2.2.1, x9.2.2.2.2.2.2.2.2.2.1, (upd x9.2.2.2.2.2.2.2.2.2.2.1 (Int32.toNatClampNeg a1) (x10 + 1)), x9.2.2.2.2.2.2.2.2.2.2.2))) else if (x6 / 10) = 2 then (fW_placeAround w x1).bind fun x12 => (fW_putInto w x7 x12).bind fun x13 => mp_ld x13.2.2.2.2.2.2.2.2.2.2.1 12 a1 fun x14 => mp_st 12 a1 (some ((x6 / 10), (x13.1, x13.2.1, x13.2.2.1, x13.2.2.2.1, x13.2.2.2.2.1, x13.2.2.2.2.2.1, x13.2.2.2.2.2.2.1, x13.2.2.2.2.2.2.2.1, x13.2.2.2.2.2.2.2.2.1, x13.2.2.2.2.2.2.2.2.2.1, (upd x13.2.2.2.2.2.2.2.2.2.2.1 (Int32.toNatClampNeg a1) (x14 + 1)), x13.2.2.2.2.2.2.2.2.2.2.2))) else if (x6 / 10) = 3 then (fW_dissolve w x1 x7).bind fun x16 => mp_ld x16.2.2.2.2.2.2.2.2.2.2.1 12 a1 fun x17 => mp_st 12 a1 (some ((x6 / 10), (x16.1, x16.2.1, x16.2.2.1, x16.2.2.2.1, x16.2.2.2.2.1, x16.2.2.2.2.2.1, x16.2.2.2.2.2.2.1, x16.2.2.2.2.2.2.2.1, x16.2.2.2.2.2.2.2.2.1, x16.2.2.2.2.2.2.2.2.2.1, (upd x16.2.2.2.2.2.2.2.2.2.2.1 (Int32.toNatClampNeg a1) (x17 + 1)), x16.2.2.2.2.2.2.2.2.2.2.2))) else if (x6 / 10) = 4 then (fW_addMessages w x7 x1 1).bind fun x19 => mp_ld x19.2.2.2.2.2.2.2.2.2.2.1 12 a1 fun x20 => mp_st 12 a1 (some ((x6 / 10), (x19.1, x19.2.1, x19.2.2.1, x19.2.2.2.1, x19.2.2.2.2.1, x19.2.2.2.2.2.1, x19.2.2.2.2.2.2.1, x19.2.2.2.2.2.2.2.1, x19.2.2.2.2.2.2.2.2.1, x19.2.2.2.2.2.2.2.2.2.1, (upd x19.2.2.2.2.2.2.2.2.2.2.1 (Int32.toNatClampNeg a1) (x20 + 1)), x19.2.2.2.2.2.2.2.2.2.2.2))) else (fW_addMessages w x7 x1 (-1)).bind fun x21 => mp_st 12 a1 (mp_ld x21.2.2.2.2.2.2.2.2.2.2.1 12 a1 fun x22 => mp_st 12 a1 (some ((x6 / 10), (x21.1, x21.2.1, x21.2.2.1, x21.2.2.2.1, x21.2.2.2.2.1, x21.2.2.2.2.2.1, x21.2.2.2.2.2.2.1, x21.2.2.2.2.2.2.2.1, x21.2.2.2.2.2.2.2.2.1, x21.2.2.2.2.2.2.2.2.2.1, (upd x21.2.2.2.2.2.2.2.2.2.2.1 (Int32.toNatClampNeg a1) (x22 + 1)), (upd x21.2.2.2.2.2.2.2.2.2.2.2 (Int32.toNatClampNeg a1) x1))))))))
set_option maxHeartbeats 4000000 in
set_option maxRecDepth 100000 in
theorem wW_doNextAct {p : Program} {l : Launch} {e : Env} {s : State} {m : MethodId} {args : Array Value} {below : List Frame} {meth : Method} {c : Code} (cx : mp_C p s m args meth c bW_doNextAct 5 (some .int) rW) (k : KK) (ad : Nat → Nat) (w : SW) (a1 : Int32) (z : (Int32 × SW)) (hE : mp_E k s) (hAN : ∀ q, mp_A (aW ad) q → mp_N k q) {H : Heap} {locs : List Loc} (hP : va_P (kD k) mp_cls (cW k ad w) H) (hD : va_D (mp_A (aW ad)) (cW k ad w)) (hS : va_S (mp_A (aW ad)) s.heap H locs) (h : fW_doNextAct w a1 = some z) (ls : Array Slot) (hl : lv_has ls 5 [(0, .ref (ad 0)), (1, .int a1)]) : W p l e rmW_doNextAct s m args below meth c H locs 0 0 (MQ below (mp_Qm k (some (.int z.1)) (cW k ad z.2) (aW ad)) args s 0 0 (mp_A (aW ad))) (F0 m 0 ls []) := by
  obtain ⟨hx, hb, -, hml, hown, hts, -⟩ := id cx
  unfold fW_doNextAct at h
  refine lv_aload_n hx hb dW_doNextAct_0 rfl (lv_at hl 0 rfl) ?_
  refine lv_iload_n hx hb dW_doNextAct_1 rfl (lv_at hl 1 rfl) ?_
  obtain ⟨x1, ex1, h⟩ := mp_bs h
  refine mp_si (mp_runV (As := [.int a1]) (rest := []) cx kV_W_93 (cW_aimOf l k ad w a1 x1 ex1) ⟨rfl, rfl, Nat.le_of_ble_eq_true rfl, Nat.le_of_ble_eq_true rfl⟩ ⟨Nat.zero_le _, Nat.zero_le _⟩ hE hP (mp_Dw hD hAN) (mp_S hS hAN) 0 rfl rfl rfl hl.1 rfl (Nat.le_of_ble_eq_true rfl) dW_doNextAct_2) ?_
  refine lv_istore_n (lv' := [(2, .int x1), (0, .ref (ad 0)), (1, .int a1)]) hx hb dW_doNextAct_5 rfl hl (by decide) rfl (fun ls hl => ?_)
  refine lv_aload_n hx hb dW_doNextAct_6 rfl (lv_at hl 1 rfl) ?_
  refine lv_iload_n hx hb dW_doNextAct_7 rfl (lv_at hl 2 rfl) ?_
  obtain ⟨x2, ex2, h⟩ := mp_bs h
  refine mp_si (mp_runV (As := [.int a1]) (rest := []) cx kV_W_76 (cW_isThread l k ad w a1 x2 ex2) ⟨rfl, rfl, Nat.le_of_ble_eq_true rfl, Nat.le_of_ble_eq_true rfl⟩ ⟨Nat.zero_le _, Nat.zero_le _⟩ hE hP (mp_Dw hD hAN) (mp_S hS hAN) 0 rfl rfl rfl hl.1 rfl (Nat.le_of_ble_eq_true rfl) dW_doNextAct_8) ?_
  refine lv_if_eq (tgt := 20) hx hb dW_doNextAct_11 (by decide) (fun c3 => ?_) (fun c3 => ?_)
  · have h := mp_t c3 h
    refine lv_bipush (v := (-9)) hx hb dW_doNextAct_20 (by decide) ?_
    exact mp_rim (cf := cW k ad) cx h hP hS dW_doNextAct_22
  · have h := mp_f c3 h
    refine lv_iload_n hx hb dW_doNextAct_14 rfl (lv_at hl 0 rfl) ?_
    refine lv_bipush (v := (-9)) hx hb dW_doNextAct_15 (by decide) ?_
    refine lv_icmp_ne (tgt := 23) hx hb dW_doNextAct_17 (by decide) (fun c4 => ?_) (fun c4 => ?_)
    · have h := mp_f c4 h
      refine lv_aload_n hx hb dW_doNextAct_23 rfl (lv_at hl 1 rfl) ?_
      refine lv_iload_n hx hb dW_doNextAct_24 rfl (lv_at hl 2 rfl) ?_
      refine lv_aload_n hx hb dW_doNextAct_25 rfl (lv_at hl 1 rfl) ?_
      refine mp_gW cx hE hP iW 0 rfl 10 (by decide) wq_66 rfl (v := .ref (ad 7)) rfl dW_doNextAct_26 ?_
      refine lv_iload_n hx hb dW_doNextAct_29 rfl (lv_at hl 2 rfl) ?_
      obtain ⟨hi, x5, ex5, h⟩ := mp_lds h
      refine va_iald hx hb hE.1 hP 7 0 (f := w.2.2.2.2.2.2.2.2.2.2.1) (n := 12) rfl rfl hi dW_doNextAct_30 ?_
      refine mp_top ex5 ?_
      obtain ⟨x6, ex6, h⟩ := mp_bs h
      refine mp_si (mp_runV (As := [.int a1, .int x5]) (rest := []) cx kV_W_96 (cW_actOf l k ad w a1 x5 x6 ex6) ⟨rfl, rfl, Nat.le_of_ble_eq_true rfl, Nat.le_of_ble_eq_true rfl⟩ ⟨Nat.zero_le _, Nat.zero_le _⟩ hE hP (mp_Dw hD hAN) (mp_S hS hAN) 0 rfl rfl rfl hl.1 rfl (Nat.le_of_ble_eq_true rfl) dW_doNextAct_31) ?_
      refine lv_bipush (v := 10) hx hb dW_doNextAct_34 (by decide) ?_
      refine lv_idiv hx hb dW_doNextAct_36 (by decide) ?_
      refine lv_istore_n (lv' := [(3, .int (x6 / 10)), (2, .int x1), (0, .ref (ad 0)), (1, .int a1)]) hx hb dW_doNextAct_37 rfl hl (by decide) rfl (fun ls hl => ?_)
      refine lv_aload_n hx hb dW_doNextAct_38 rfl (lv_at hl 2 rfl) ?_
      refine mp_gW cx hE hP iW 0 rfl 7 (by decide) wq_63 rfl (v := .ref (ad 4)) rfl dW_doNextAct_39 ?_
      refine lv_iload_n hx hb dW_doNextAct_42 rfl (lv_at hl 3 rfl) ?_
      obtain ⟨hi, x7, ex7, h⟩ := mp_lds h
      refine va_iald hx hb hE.1 hP 4 0 (f := w.2.2.2.2.2.2.2.1) (n := 12) rfl rfl hi dW_doNextAct_43 ?_
      refine mp_top ex7 ?_
      refine lv_istore (lv' := [(4, .int x7), (3, .int (x6 / 10)), (2, .int x1), (0, .ref (ad 0)), (1, .int a1)]) hx hb dW_doNextAct_44 hl (by decide) rfl (fun ls hl => ?_)
      refine lv_iload_n hx hb dW_doNextAct_46 rfl (lv_at hl 1 rfl) ?_
      by_cases c8 : (x6 / 10) = 1
      · have h := mp_t c8 h
        refine lv_tableIn (off := 29) (tgt := 76) hx hb dW_doNextAct_47 (by rw [c8]; decide) (by rw [c8]; decide) (by rw [c8]; rfl) (by decide) ?_
        refine lv_aload_n hx hb dW_doNextAct_76 rfl (lv_at hl 3 rfl) ?_
        refine lv_iload hx hb dW_doNextAct_77 (lv_at hl 0 rfl) ?_
        refine lv_iload_n hx hb dW_doNextAct_79 rfl (lv_at hl 2 rfl) ?_
        obtain ⟨x9, ex9, h⟩ := mp_bs h
        refine mp_mv (mp_runV (As := [.int x7, .int x1]) (rest := []) cx kV_W_115 (cW_putInto l k ad w x7 x1 x9 ex9) ⟨rfl, rfl, Nat.le_of_ble_eq_true rfl, Nat.le_of_ble_eq_true rfl⟩ ⟨Nat.zero_le _, Nat.zero_le _⟩ hE hP (mp_Dw hD hAN) (mp_S hS hAN) 0 rfl rfl rfl hl.1 rfl (Nat.le_of_ble_eq_true rfl) dW_doNextAct_80) hS (fun _ h9 => h9) (fun H locs hP hk hS => ?_)
        have hD : va_D (mp_A (aW ad)) (cW k ad x9) := mp_Ds hD rfl
        refine lv_goto (tgt := 136) hx hb dW_doNextAct_83 (by decide) ?_
        refine lv_aload_n hx hb dW_doNextAct_136 rfl (lv_at hl 3 rfl) ?_
        refine mp_gW cx hE hP iW 0 rfl 10 (by decide) wq_66 rfl (v := .ref (ad 7)) rfl dW_doNextAct_137 ?_
        refine lv_iload_n hx hb dW_doNextAct_140 rfl (lv_at hl 4 rfl) ?_
        refine lv_dup2_11 hx hb dW_doNextAct_141 rfl rfl ?_
        obtain ⟨hi, x10, ex10, h⟩ := mp_lds h
        refine va_iald hx hb hE.1 hP 7 0 (f := x9.2.2.2.2.2.2.2.2.2.2.1) (n := 12) rfl rfl hi dW_doNextAct_142 ?_
        refine mp_top ex10 ?_
        refine lv_iconst (v := 1) hx hb dW_doNextAct_143 (by decide) ?_
        refine lv_iadd hx hb dW_doNextAct_144 ?_
        obtain ⟨hi, h⟩ := mp_sts h
        refine va_iast hx hb hE.1 hP hD hS 7 0 (f := x9.2.2.2.2.2.2.2.2.2.2.1) (n := 12) rfl rfl hi dW_doNextAct_145 (fun H locs hP hD hS => ?_)
        have hP : va_P (kD k) mp_cls (cW k ad (x9.1, x9.2.1, x9.2.2.1, x9.2.2.2.1, x9.2.2.2.2.1, x9.2.2.2.2.2.1, x9.2.2.2.2.2.2.1, x9.2.2.2.2.2.2.2.1, x9.2.2.2.2.2.2.2.2.1, x9.2.2.2.2.2.2.2.2.2.1, (upd x9.2.2.2.2.2.2.2.2.2.2.1 (Int32.toNatClampNeg a1) (x10 + 1)), x9.2.2.2.2.2.2.2.2.2.2.2)) H := hP
        have hD : va_D (mp_A (aW ad)) (cW k ad (x9.1, x9.2.1, x9.2.2.1, x9.2.2.2.1, x9.2.2.2.2.1, x9.2.2.2.2.2.1, x9.2.2.2.2.2.2.1, x9.2.2.2.2.2.2.2.1, x9.2.2.2.2.2.2.2.2.1, x9.2.2.2.2.2.2.2.2.2.1, (upd x9.2.2.2.2.2.2.2.2.2.2.1 (Int32.toNatClampNeg a1) (x10 + 1)), x9.2.2.2.2.2.2.2.2.2.2.2)) := hD
        refine lv_iload_n hx hb dW_doNextAct_146 rfl (lv_at hl 1 rfl) ?_
        exact mp_rim (cf := cW k ad) cx h hP hS dW_doNextAct_147
      have h := mp_f c8 h
      by_cases c11 : (x6 / 10) = 2
      · have h := mp_t c11 h
        refine lv_tableIn (off := 39) (tgt := 86) hx hb dW_doNextAct_47 (by rw [c11]; decide) (by rw [c11]; decide) (by rw [c11]; rfl) (by decide) ?_
        refine lv_aload_n hx hb dW_doNextAct_86 rfl (lv_at hl 3 rfl) ?_
        refine lv_iload hx hb dW_doNextAct_87 (lv_at hl 0 rfl) ?_
        refine lv_aload_n hx hb dW_doNextAct_89 rfl (lv_at hl 3 rfl) ?_
        refine lv_iload_n hx hb dW_doNextAct_90 rfl (lv_at hl 2 rfl) ?_
        obtain ⟨x12, ex12, h⟩ := mp_bs h
        refine mp_si (mp_runV (As := [.int x1]) (rest := [.int x7, .ref (ad 0)]) cx kV_W_63 (cW_placeAround l k ad w x1 x12 ex12) ⟨rfl, rfl, Nat.le_of_ble_eq_true rfl, Nat.le_of_ble_eq_true rfl⟩ ⟨Nat.zero_le _, Nat.zero_le _⟩ hE hP (mp_Dw hD hAN) (mp_S hS hAN) 0 rfl rfl rfl hl.1 rfl (Nat.le_of_ble_eq_true rfl) dW_doNextAct_91) ?_
        obtain ⟨x13, ex13, h⟩ := mp_bs h
        refine mp_mv (mp_runV (As := [.int x7, .int x12]) (rest := []) cx kV_W_115 (cW_putInto l k ad w x7 x12 x13 ex13) ⟨rfl, rfl, Nat.le_of_ble_eq_true rfl, Nat.le_of_ble_eq_true rfl⟩ ⟨Nat.zero_le _, Nat.zero_le _⟩ hE hP (mp_Dw hD hAN) (mp_S hS hAN) 0 rfl rfl rfl hl.1 rfl (Nat.le_of_ble_eq_true rfl) dW_doNextAct_94) hS (fun _ h9 => h9) (fun H locs hP hk hS => ?_)
        have hD : va_D (mp_A (aW ad)) (cW k ad x13) := mp_Ds hD rfl
        refine lv_goto (tgt := 136) hx hb dW_doNextAct_97 (by decide) ?_
        refine lv_aload_n hx hb dW_doNextAct_136 rfl (lv_at hl 3 rfl) ?_
        refine mp_gW cx hE hP iW 0 rfl 10 (by decide) wq_66 rfl (v := .ref (ad 7)) rfl dW_doNextAct_137 ?_
        refine lv_iload_n hx hb dW_doNextAct_140 rfl (lv_at hl 4 rfl) ?_
        refine lv_dup2_11 hx hb dW_doNextAct_141 rfl rfl ?_
        obtain ⟨hi, x14, ex14, h⟩ := mp_lds h
        refine va_iald hx hb hE.1 hP 7 0 (f := x13.2.2.2.2.2.2.2.2.2.2.1) (n := 12) rfl rfl hi dW_doNextAct_142 ?_
        refine mp_top ex14 ?_
        refine lv_iconst (v := 1) hx hb dW_doNextAct_143 (by decide) ?_
        refine lv_iadd hx hb dW_doNextAct_144 ?_
        obtain ⟨hi, h⟩ := mp_sts h
        refine va_iast hx hb hE.1 hP hD hS 7 0 (f := x13.2.2.2.2.2.2.2.2.2.2.1) (n := 12) rfl rfl hi dW_doNextAct_145 (fun H locs hP hD hS => ?_)
        have hP : va_P (kD k) mp_cls (cW k ad (x13.1, x13.2.1, x13.2.2.1, x13.2.2.2.1, x13.2.2.2.2.1, x13.2.2.2.2.2.1, x13.2.2.2.2.2.2.1, x13.2.2.2.2.2.2.2.1, x13.2.2.2.2.2.2.2.2.1, x13.2.2.2.2.2.2.2.2.2.1, (upd x13.2.2.2.2.2.2.2.2.2.2.1 (Int32.toNatClampNeg a1) (x14 + 1)), x13.2.2.2.2.2.2.2.2.2.2.2)) H := hP
        have hD : va_D (mp_A (aW ad)) (cW k ad (x13.1, x13.2.1, x13.2.2.1, x13.2.2.2.1, x13.2.2.2.2.1, x13.2.2.2.2.2.1, x13.2.2.2.2.2.2.1, x13.2.2.2.2.2.2.2.1, x13.2.2.2.2.2.2.2.2.1, x13.2.2.2.2.2.2.2.2.2.1, (upd x13.2.2.2.2.2.2.2.2.2.2.1 (Int32.toNatClampNeg a1) (x14 + 1)), x13.2.2.2.2.2.2.2.2.2.2.2)) := hD
        refine lv_iload_n hx hb dW_doNextAct_146 rfl (lv_at hl 1 rfl) ?_
        exact mp_rim (cf := cW k ad) cx h hP hS dW_doNextAct_147
      have h := mp_f c11 h
      by_cases c15 : (x6 / 10) = 3
      · have h := mp_t c15 h
        refine lv_tableIn (off := 53) (tgt := 100) hx hb dW_doNextAct_47 (by rw [c15]; decide) (by rw [c15]; decide) (by rw [c15]; rfl) (by decide) ?_
        refine lv_aload_n hx hb dW_doNextAct_100 rfl (lv_at hl 3 rfl) ?_
        refine lv_iload_n hx hb dW_doNextAct_101 rfl (lv_at hl 2 rfl) ?_
        refine lv_iload hx hb dW_doNextAct_102 (lv_at hl 0 rfl) ?_
        obtain ⟨x16, ex16, h⟩ := mp_bs h
        refine mp_mv (mp_runV (As := [.int x1, .int x7]) (rest := []) cx kV_W_119 (cW_dissolve l k ad w x1 x7 x16 ex16) ⟨rfl, rfl, Nat.le_of_ble_eq_true rfl, Nat.le_of_ble_eq_true rfl⟩ ⟨Nat.zero_le _, Nat.zero_le _⟩ hE hP (mp_Dw hD hAN) (mp_S hS hAN) 0 rfl rfl rfl hl.1 rfl (Nat.le_of_ble_eq_true rfl) dW_doNextAct_104) hS (fun _ h9 => h9) (fun H locs hP hk hS => ?_)
        have hD : va_D (mp_A (aW ad)) (cW k ad x16) := mp_Ds hD rfl
        refine lv_goto (tgt := 136) hx hb dW_doNextAct_107 (by decide) ?_
        refine lv_aload_n hx hb dW_doNextAct_136 rfl (lv_at hl 3 rfl) ?_
        refine mp_gW cx hE hP iW 0 rfl 10 (by decide) wq_66 rfl (v := .ref (ad 7)) rfl dW_doNextAct_137 ?_
        refine lv_iload_n hx hb dW_doNextAct_140 rfl (lv_at hl 4 rfl) ?_
        refine lv_dup2_11 hx hb dW_doNextAct_141 rfl rfl ?_
        obtain ⟨hi, x17, ex17, h⟩ := mp_lds h
        refine va_iald hx hb hE.1 hP 7 0 (f := x16.2.2.2.2.2.2.2.2.2.2.1) (n := 12) rfl rfl hi dW_doNextAct_142 ?_
        refine mp_top ex17 ?_
        refine lv_iconst (v := 1) hx hb dW_doNextAct_143 (by decide) ?_
        refine lv_iadd hx hb dW_doNextAct_144 ?_
        obtain ⟨hi, h⟩ := mp_sts h
        refine va_iast hx hb hE.1 hP hD hS 7 0 (f := x16.2.2.2.2.2.2.2.2.2.2.1) (n := 12) rfl rfl hi dW_doNextAct_145 (fun H locs hP hD hS => ?_)
        have hP : va_P (kD k) mp_cls (cW k ad (x16.1, x16.2.1, x16.2.2.1, x16.2.2.2.1, x16.2.2.2.2.1, x16.2.2.2.2.2.1, x16.2.2.2.2.2.2.1, x16.2.2.2.2.2.2.2.1, x16.2.2.2.2.2.2.2.2.1, x16.2.2.2.2.2.2.2.2.2.1, (upd x16.2.2.2.2.2.2.2.2.2.2.1 (Int32.toNatClampNeg a1) (x17 + 1)), x16.2.2.2.2.2.2.2.2.2.2.2)) H := hP
        have hD : va_D (mp_A (aW ad)) (cW k ad (x16.1, x16.2.1, x16.2.2.1, x16.2.2.2.1, x16.2.2.2.2.1, x16.2.2.2.2.2.1, x16.2.2.2.2.2.2.1, x16.2.2.2.2.2.2.2.1, x16.2.2.2.2.2.2.2.2.1, x16.2.2.2.2.2.2.2.2.2.1, (upd x16.2.2.2.2.2.2.2.2.2.2.1 (Int32.toNatClampNeg a1) (x17 + 1)), x16.2.2.2.2.2.2.2.2.2.2.2)) := hD
        refine lv_iload_n hx hb dW_doNextAct_146 rfl (lv_at hl 1 rfl) ?_
        exact mp_rim (cf := cW k ad) cx h hP hS dW_doNextAct_147
      have h := mp_f c15 h
      by_cases c18 : (x6 / 10) = 4
      · have h := mp_t c18 h
        refine lv_tableIn (off := 63) (tgt := 110) hx hb dW_doNextAct_47 (by rw [c18]; decide) (by rw [c18]; decide) (by rw [c18]; rfl) (by decide) ?_
        refine lv_aload_n hx hb dW_doNextAct_110 rfl (lv_at hl 3 rfl) ?_
        refine lv_iload hx hb dW_doNextAct_111 (lv_at hl 0 rfl) ?_
        refine lv_iload_n hx hb dW_doNextAct_113 rfl (lv_at hl 2 rfl) ?_
        refine lv_iconst (v := 1) hx hb dW_doNextAct_114 (by decide) ?_
        obtain ⟨x19, ex19, h⟩ := mp_bs h
        refine mp_mv (mp_runV (As := [.int x7, .int x1, .int 1]) (rest := []) cx kV_W_122 (cW_addMessages l k ad w x7 x1 1 x19 ex19) ⟨rfl, rfl, Nat.le_of_ble_eq_true rfl, Nat.le_of_ble_eq_true rfl⟩ ⟨Nat.zero_le _, Nat.zero_le _⟩ hE hP (mp_Dw hD hAN) (mp_S hS hAN) 0 rfl rfl rfl hl.1 rfl (Nat.le_of_ble_eq_true rfl) dW_doNextAct_115) hS (fun _ h9 => h9) (fun H locs hP hk hS => ?_)
        have hD : va_D (mp_A (aW ad)) (cW k ad x19) := mp_Ds hD rfl
        refine lv_goto (tgt := 136) hx hb dW_doNextAct_118 (by decide) ?_
        refine lv_aload_n hx hb dW_doNextAct_136 rfl (lv_at hl 3 rfl) ?_
        refine mp_gW cx hE hP iW 0 rfl 10 (by decide) wq_66 rfl (v := .ref (ad 7)) rfl dW_doNextAct_137 ?_
        refine lv_iload_n hx hb dW_doNextAct_140 rfl (lv_at hl 4 rfl) ?_
        refine lv_dup2_11 hx hb dW_doNextAct_141 rfl rfl ?_
        obtain ⟨hi, x20, ex20, h⟩ := mp_lds h
        refine va_iald hx hb hE.1 hP 7 0 (f := x19.2.2.2.2.2.2.2.2.2.2.1) (n := 12) rfl rfl hi dW_doNextAct_142 ?_
        refine mp_top ex20 ?_
        refine lv_iconst (v := 1) hx hb dW_doNextAct_143 (by decide) ?_
        refine lv_iadd hx hb dW_doNextAct_144 ?_
        obtain ⟨hi, h⟩ := mp_sts h
        refine va_iast hx hb hE.1 hP hD hS 7 0 (f := x19.2.2.2.2.2.2.2.2.2.2.1) (n := 12) rfl rfl hi dW_doNextAct_145 (fun H locs hP hD hS => ?_)
        have hP : va_P (kD k) mp_cls (cW k ad (x19.1, x19.2.1, x19.2.2.1, x19.2.2.2.1, x19.2.2.2.2.1, x19.2.2.2.2.2.1, x19.2.2.2.2.2.2.1, x19.2.2.2.2.2.2.2.1, x19.2.2.2.2.2.2.2.2.1, x19.2.2.2.2.2.2.2.2.2.1, (upd x19.2.2.2.2.2.2.2.2.2.2.1 (Int32.toNatClampNeg a1) (x20 + 1)), x19.2.2.2.2.2.2.2.2.2.2.2)) H := hP
        have hD : va_D (mp_A (aW ad)) (cW k ad (x19.1, x19.2.1, x19.2.2.1, x19.2.2.2.1, x19.2.2.2.2.1, x19.2.2.2.2.2.1, x19.2.2.2.2.2.2.1, x19.2.2.2.2.2.2.2.1, x19.2.2.2.2.2.2.2.2.1, x19.2.2.2.2.2.2.2.2.2.1, (upd x19.2.2.2.2.2.2.2.2.2.2.1 (Int32.toNatClampNeg a1) (x20 + 1)), x19.2.2.2.2.2.2.2.2.2.2.2)) := hD
        refine lv_iload_n hx hb dW_doNextAct_146 rfl (lv_at hl 1 rfl) ?_
        exact mp_rim (cf := cW k ad) cx h hP hS dW_doNextAct_147
      have h := mp_f c18 h
      have qc8 : ((x6 / 10)).toInt ≠ 1 := mp_ne c8
      have qc11 : ((x6 / 10)).toInt ≠ 2 := mp_ne c11
      have qc15 : ((x6 / 10)).toInt ≠ 3 := mp_ne c15
      have qc18 : ((x6 / 10)).toInt ≠ 4 := mp_ne c18
      refine lv_tableOut (tgt := 121) hx hb dW_doNextAct_47 (by omega) (by decide) ?_
      refine lv_aload_n hx hb dW_doNextAct_121 rfl (lv_at hl 3 rfl) ?_
      refine lv_iload hx hb dW_doNextAct_122 (lv_at hl 0 rfl) ?_
      refine lv_iload_n hx hb dW_doNextAct_124 rfl (lv_at hl 2 rfl) ?_
      refine lv_iconst (v := (-1)) hx hb dW_doNextAct_125 (by decide) ?_
      obtain ⟨x21, ex21, h⟩ := mp_bs h
      refine mp_mv (mp_runV (As := [.int x7, .int x1, .int (-1)]) (rest := []) cx kV_W_122 (cW_addMessages l k ad w x7 x1 (-1) x21 ex21) ⟨rfl, rfl, Nat.le_of_ble_eq_true rfl, Nat.le_of_ble_eq_true rfl⟩ ⟨Nat.zero_le _, Nat.zero_le _⟩ hE hP (mp_Dw hD hAN) (mp_S hS hAN) 0 rfl rfl rfl hl.1 rfl (Nat.le_of_ble_eq_true rfl) dW_doNextAct_126) hS (fun _ h9 => h9) (fun H locs hP hk hS => ?_)
      have hD : va_D (mp_A (aW ad)) (cW k ad x21) := mp_Ds hD rfl
      refine lv_aload_n hx hb dW_doNextAct_129 rfl (lv_at hl 3 rfl) ?_
      refine mp_gW cx hE hP iW 0 rfl 11 (by decide) wq_67 rfl (v := .ref (ad 8)) rfl dW_doNextAct_130 ?_
      refine lv_iload_n hx hb dW_doNextAct_133 rfl (lv_at hl 4 rfl) ?_
      refine lv_iload_n hx hb dW_doNextAct_134 rfl (lv_at hl 2 rfl) ?_
      obtain ⟨hi, h⟩ := mp_sts h
      refine va_iast hx hb hE.1 hP hD hS 8 0 (f := x21.2.2.2.2.2.2.2.2.2.2.2) (n := 12) rfl rfl hi dW_doNextAct_135 (fun H locs hP hD hS => ?_)
      have hP : va_P (kD k) mp_cls (cW k ad (x21.1, x21.2.1, x21.2.2.1, x21.2.2.2.1, x21.2.2.2.2.1, x21.2.2.2.2.2.1, x21.2.2.2.2.2.2.1, x21.2.2.2.2.2.2.2.1, x21.2.2.2.2.2.2.2.2.1, x21.2.2.2.2.2.2.2.2.2.1, x21.2.2.2.2.2.2.2.2.2.2.1, (upd x21.2.2.2.2.2.2.2.2.2.2.2 (Int32.toNatClampNeg a1) x1))) H := hP
      have hD : va_D (mp_A (aW ad)) (cW k ad (x21.1, x21.2.1, x21.2.2.1, x21.2.2.2.1, x21.2.2.2.2.1, x21.2.2.2.2.2.1, x21.2.2.2.2.2.2.1, x21.2.2.2.2.2.2.2.1, x21.2.2.2.2.2.2.2.2.1, x21.2.2.2.2.2.2.2.2.2.1, x21.2.2.2.2.2.2.2.2.2.2.1, (upd x21.2.2.2.2.2.2.2.2.2.2.2 (Int32.toNatClampNeg a1) x1))) := hD
      refine lv_aload_n hx hb dW_doNextAct_136 rfl (lv_at hl 3 rfl) ?_
      refine mp_gW cx hE hP iW 0 rfl 10 (by decide) wq_66 rfl (v := .ref (ad 7)) rfl dW_doNextAct_137 ?_
      refine lv_iload_n hx hb dW_doNextAct_140 rfl (lv_at hl 4 rfl) ?_
      refine lv_dup2_11 hx hb dW_doNextAct_141 rfl rfl ?_
      obtain ⟨hi, x22, ex22, h⟩ := mp_lds h
      refine va_iald hx hb hE.1 hP 7 0 (f := x21.2.2.2.2.2.2.2.2.2.2.1) (n := 12) rfl rfl hi dW_doNextAct_142 ?_
      refine mp_top ex22 ?_
      refine lv_iconst (v := 1) hx hb dW_doNextAct_143 (by decide) ?_
      refine lv_iadd hx hb dW_doNextAct_144 ?_
      obtain ⟨hi, h⟩ := mp_sts h
      refine va_iast hx hb hE.1 hP hD hS 7 0 (f := x21.2.2.2.2.2.2.2.2.2.2.1) (n := 12) rfl rfl hi dW_doNextAct_145 (fun H locs hP hD hS => ?_)
      have hP : va_P (kD k) mp_cls (cW k ad (x21.1, x21.2.1, x21.2.2.1, x21.2.2.2.1, x21.2.2.2.2.1, x21.2.2.2.2.2.1, x21.2.2.2.2.2.2.1, x21.2.2.2.2.2.2.2.1, x21.2.2.2.2.2.2.2.2.1, x21.2.2.2.2.2.2.2.2.2.1, (upd x21.2.2.2.2.2.2.2.2.2.2.1 (Int32.toNatClampNeg a1) (x22 + 1)), (upd x21.2.2.2.2.2.2.2.2.2.2.2 (Int32.toNatClampNeg a1) x1))) H := hP
      have hD : va_D (mp_A (aW ad)) (cW k ad (x21.1, x21.2.1, x21.2.2.1, x21.2.2.2.1, x21.2.2.2.2.1, x21.2.2.2.2.2.1, x21.2.2.2.2.2.2.1, x21.2.2.2.2.2.2.2.1, x21.2.2.2.2.2.2.2.2.1, x21.2.2.2.2.2.2.2.2.2.1, (upd x21.2.2.2.2.2.2.2.2.2.2.1 (Int32.toNatClampNeg a1) (x22 + 1)), (upd x21.2.2.2.2.2.2.2.2.2.2.2 (Int32.toNatClampNeg a1) x1))) := hD
      refine lv_iload_n hx hb dW_doNextAct_146 rfl (lv_at hl 1 rfl) ?_
      exact mp_rim (cf := cW k ad) cx h hP hS dW_doNextAct_147
    · have h := mp_t c4 h
      refine lv_bipush (v := (-9)) hx hb dW_doNextAct_20 (by decide) ?_
      exact mp_rim (cf := cW k ad) cx h hP hS dW_doNextAct_22
theorem cW_doNextAct (l : Launch) (k : KK) (ad : Nat → Nat) (w : SW) (a1 : Int32) (z : (Int32 × SW)) (h : fW_doNextAct w a1 = some z) : mp_CM l k yW_doNextAct bW_doNextAct 5 (some .int) rmW_doNextAct [.ref (ad 0), .int a1] (cW k ad w) (cW k ad z.2) (aW ad) (some (.int z.1)) := by
  refine Met.ofW (cc := bW_doNextAct) (maxL := 5) (ret := (some .int)) (by decide) rfl ?_
  intro p e s m args below meth c s₁ B hml hv
  obtain ⟨rfl, hP, hD, hE⟩ := hv
  have hl := lv_entry ([.ref (ad 0), .int a1]) (n := 5) (Nat.le_of_ble_eq_true rfl)
  rw [lg_entry_eq]
  generalize (lg_sl ([.ref (ad 0), .int a1]) ++ List.replicate (5 - (lg_sl ([.ref (ad 0), .int a1])).length) Slot.unset).toArray = ls at hl ⊢
  exact wW_doNextAct (mp_C.of B hml) k ad w a1 z hE (mp_new hD rfl) hP (mp_own hD rfl) va_S.rf h ls hl
-- MovingPlaces$World.doRound
abbrev rmW_doRound : Room := { frames := 5, cells := 0, slots := 0, locals := 113 }
def fW_doRound_4  : Nat → SW → Int32 → Int32 → Option (Int32 × SW)
  | 0, _, _, _ => none
  | n + 1, w, a1, a2 => (if w.2.2.2.2.2.2.1 ≤ a2 then some (a1, w) else (fW_doNextAct w a2).bind fun x2 => (if x2.1 = (-9) then fW_doRound_4  n x2.2 a1 (a2 + 1) else fW_doRound_4  n x2.2 (a1 + 1) (a2 + 1)))
theorem fW_doRound_4_s (n : Nat) (w : SW) (a1 : Int32) (a2 : Int32) : fW_doRound_4  (n + 1) w a1 a2 = (if w.2.2.2.2.2.2.1 ≤ a2 then some (a1, w) else (fW_doNextAct w a2).bind fun x2 => (if x2.1 = (-9) then fW_doRound_4  n x2.2 a1 (a2 + 1) else fW_doRound_4  n x2.2 (a1 + 1) (a2 + 1))) := rfl
set_option maxHeartbeats 4000000 in
set_option maxRecDepth 100000 in
theorem lW_doRound_4 {p : Program} {l : Launch} {e : Env} {s : State} {m : MethodId} {args : Array Value} {below : List Frame} {meth : Method} {c : Code} (cx : mp_C p s m args meth c bW_doRound 3 (some .int) rW) (k : KK) (ad : Nat → Nat)  (z : (Int32 × SW)) (hE : mp_E k s) (hAN : ∀ q, mp_A (aW ad) q → mp_N k q) : ∀ (n : Nat) (w : SW) (a1 : Int32) (a2 : Int32), fW_doRound_4  n w a1 a2 = some z → ∀ (H : Heap) (locs : List Loc), va_P (kD k) mp_cls (cW k ad w) H → va_D (mp_A (aW ad)) (cW k ad w) → va_S (mp_A (aW ad)) s.heap H locs → ∀ (ls : Array Slot), lv_has ls 3 [(0, .ref (ad 0)), (1, .int a1), (2, .int a2)] → W p l e rmW_doRound s m args below meth c H locs 0 0 (MQ below (mp_Qm k (some (.int z.1)) (cW k ad z.2) (aW ad)) args s 0 0 (mp_A (aW ad))) (F0 m 4 ls []) := by
  obtain ⟨hx, hb, -, hml, hown, hts, -⟩ := id cx
  intro n
  induction n with
  | zero =>
    intro w a1 a2 h
    have h : (none : Option (Int32 × SW)) = some z := h
    cases h
  | succ n ih =>
    intro w a1 a2 h H locs hP hD hS ls hl
    rw [fW_doRound_4_s] at h
    refine lv_iload_n hx hb dW_doRound_4 rfl (lv_at hl 2 rfl) ?_
    refine lv_aload_n hx hb dW_doRound_5 rfl (lv_at hl 0 rfl) ?_
    refine mp_gW cx hE hP iW 0 rfl 6 (by decide) wq_62 rfl (v := .int w.2.2.2.2.2.2.1) rfl dW_doRound_6 ?_
    refine lv_icmp_ge (tgt := 31) hx hb dW_doRound_9 (by decide) (fun c1 => ?_) (fun c1 => ?_)
    · have h := mp_t c1 h
      refine lv_iload_n hx hb dW_doRound_31 rfl (lv_at hl 1 rfl) ?_
      exact mp_rim (cf := cW k ad) cx h hP hS dW_doRound_32
    · have h := mp_f c1 h
      refine lv_aload_n hx hb dW_doRound_12 rfl (lv_at hl 0 rfl) ?_
      refine lv_iload_n hx hb dW_doRound_13 rfl (lv_at hl 2 rfl) ?_
      obtain ⟨x2, ex2, h⟩ := mp_bs h
      refine mp_mi (mp_runV (As := [.int a2]) (rest := []) cx kV_W_126 (cW_doNextAct l k ad w a2 x2 ex2) ⟨rfl, rfl, Nat.le_of_ble_eq_true rfl, Nat.le_of_ble_eq_true rfl⟩ ⟨Nat.zero_le _, Nat.zero_le _⟩ hE hP (mp_Dw hD hAN) (mp_S hS hAN) 0 rfl rfl rfl hl.1 rfl (Nat.le_of_ble_eq_true rfl) dW_doRound_14) hS (fun _ h9 => h9) (fun H locs hP hk hS => ?_)
      have hD : va_D (mp_A (aW ad)) (cW k ad x2.2) := mp_Ds hD rfl
      refine lv_bipush (v := (-9)) hx hb dW_doRound_17 (by decide) ?_
      refine lv_icmp_eq (tgt := 25) hx hb dW_doRound_19 (by decide) (fun c3 => ?_) (fun c3 => ?_)
      · have h := mp_t c3 h
        refine lv_iinc (v := (a2 + 1)) (lv' := [(2, .int (a2 + 1)), (0, .ref (ad 0)), (1, .int a1)]) hx hb dW_doRound_25 hl (k := 2) rfl rfl (by decide) rfl (fun ls hl => ?_)
        refine lv_goto (tgt := 4) hx hb dW_doRound_28 (by decide) ?_
        exact ih x2.2 a1 (a2 + 1) h _ _ hP hD hS ls (lv_sub hl [1, 2, 0] rfl)
      · have h := mp_f c3 h
        refine lv_iinc (v := (a1 + 1)) (lv' := [(1, .int (a1 + 1)), (0, .ref (ad 0)), (2, .int a2)]) hx hb dW_doRound_22 hl (k := 1) rfl rfl (by decide) rfl (fun ls hl => ?_)
        refine lv_iinc (v := (a2 + 1)) (lv' := [(2, .int (a2 + 1)), (1, .int (a1 + 1)), (0, .ref (ad 0))]) hx hb dW_doRound_25 hl (k := 2) rfl rfl (by decide) rfl (fun ls hl => ?_)
        refine lv_goto (tgt := 4) hx hb dW_doRound_28 (by decide) ?_
        exact ih x2.2 (a1 + 1) (a2 + 1) h _ _ hP hD hS ls (lv_sub hl [2, 1, 0] rfl)
def fW_doRound (w : SW) : Option (Int32 × SW) := fW_doRound_4  2000 w 0 0
set_option maxHeartbeats 4000000 in
set_option maxRecDepth 100000 in
theorem wW_doRound {p : Program} {l : Launch} {e : Env} {s : State} {m : MethodId} {args : Array Value} {below : List Frame} {meth : Method} {c : Code} (cx : mp_C p s m args meth c bW_doRound 3 (some .int) rW) (k : KK) (ad : Nat → Nat) (w : SW) (z : (Int32 × SW)) (hE : mp_E k s) (hAN : ∀ q, mp_A (aW ad) q → mp_N k q) {H : Heap} {locs : List Loc} (hP : va_P (kD k) mp_cls (cW k ad w) H) (hD : va_D (mp_A (aW ad)) (cW k ad w)) (hS : va_S (mp_A (aW ad)) s.heap H locs) (h : fW_doRound w = some z) (ls : Array Slot) (hl : lv_has ls 3 [(0, .ref (ad 0))]) : W p l e rmW_doRound s m args below meth c H locs 0 0 (MQ below (mp_Qm k (some (.int z.1)) (cW k ad z.2) (aW ad)) args s 0 0 (mp_A (aW ad))) (F0 m 0 ls []) := by
  obtain ⟨hx, hb, -, hml, hown, hts, -⟩ := id cx
  unfold fW_doRound at h
  refine lv_iconst (v := 0) hx hb dW_doRound_0 (by decide) ?_
  refine lv_istore_n (lv' := [(1, .int 0), (0, .ref (ad 0))]) hx hb dW_doRound_1 rfl hl (by decide) rfl (fun ls hl => ?_)
  refine lv_iconst (v := 0) hx hb dW_doRound_2 (by decide) ?_
  refine lv_istore_n (lv' := [(2, .int 0), (1, .int 0), (0, .ref (ad 0))]) hx hb dW_doRound_3 rfl hl (by decide) rfl (fun ls hl => ?_)
  exact lW_doRound_4 cx k ad  z hE hAN _ w 0 0 h _ _ hP hD hS ls (lv_sub hl [2, 1, 0] rfl)
theorem cW_doRound (l : Launch) (k : KK) (ad : Nat → Nat) (w : SW) (z : (Int32 × SW)) (h : fW_doRound w = some z) : mp_CM l k yW_doRound bW_doRound 3 (some .int) rmW_doRound [.ref (ad 0)] (cW k ad w) (cW k ad z.2) (aW ad) (some (.int z.1)) := by
  refine Met.ofW (cc := bW_doRound) (maxL := 3) (ret := (some .int)) (by decide) rfl ?_
  intro p e s m args below meth c s₁ B hml hv
  obtain ⟨rfl, hP, hD, hE⟩ := hv
  have hl := lv_entry ([.ref (ad 0)]) (n := 3) (Nat.le_of_ble_eq_true rfl)
  rw [lg_entry_eq]
  generalize (lg_sl ([.ref (ad 0)]) ++ List.replicate (3 - (lg_sl ([.ref (ad 0)])).length) Slot.unset).toArray = ls at hl ⊢
  exact wW_doRound (mp_C.of B hml) k ad w z hE (mp_new hD rfl) hP (mp_own hD rfl) va_S.rf h ls hl
-- MovingPlaces$World.hasMessageAnywhere
abbrev rmW_hasMessageAnywhere : Room := { frames := 2, cells := 0, slots := 0, locals := 43 }
def fW_hasMessageAnywhere_2 (w : SW) (a1 : Int32) : Nat → Int32 → Option Int32
  | 0, _ => none
  | n + 1, a2 => (if w.1 ≤ a2 then some 0 else (fW_messagesOf w a2 a1).bind fun x2 => (if x2 ≤ 0 then fW_hasMessageAnywhere_2 w a1 n (a2 + 1) else some 1))
theorem fW_hasMessageAnywhere_2_s (w : SW) (a1 : Int32) (n : Nat) (a2 : Int32) : fW_hasMessageAnywhere_2 w a1 (n + 1) a2 = (if w.1 ≤ a2 then some 0 else (fW_messagesOf w a2 a1).bind fun x2 => (if x2 ≤ 0 then fW_hasMessageAnywhere_2 w a1 n (a2 + 1) else some 1)) := rfl
set_option maxHeartbeats 4000000 in
set_option maxRecDepth 100000 in
theorem lW_hasMessageAnywhere_2 {p : Program} {l : Launch} {e : Env} {s : State} {m : MethodId} {args : Array Value} {below : List Frame} {meth : Method} {c : Code} (cx : mp_C p s m args meth c bW_hasMessageAnywhere 3 (some .boolean) rW) (k : KK) (ad : Nat → Nat) (w : SW) (a1 : Int32) (z : Int32) (hE : mp_E k s) (hP : va_P (kD k) mp_cls (cW k ad w) s.heap) (hD : va_D (mp_N k) (cW k ad w)) : ∀ (n : Nat) (a2 : Int32), fW_hasMessageAnywhere_2 w a1 n a2 = some z → ∀ (ls : Array Slot), lv_has ls 3 [(0, .ref (ad 0)), (1, .int a1), (2, .int a2)] → W p l e rmW_hasMessageAnywhere s m args below meth c s.heap [] 0 0 (MQ below (mp_Qs (some (.int z))) args s 0 0 (fun _ => False)) (F0 m 2 ls []) := by
  obtain ⟨hx, hb, -, hml, hown, hts, -⟩ := id cx
  intro n
  induction n with
  | zero =>
    intro a2 h
    have h : (none : Option Int32) = some z := h
    cases h
  | succ n ih =>
    intro a2 h ls hl
    rw [fW_hasMessageAnywhere_2_s] at h
    refine lv_iload_n hx hb dW_hasMessageAnywhere_2 rfl (lv_at hl 2 rfl) ?_
    refine lv_aload_n hx hb dW_hasMessageAnywhere_3 rfl (lv_at hl 0 rfl) ?_
    refine mp_gW cx hE hP iW 0 rfl 0 (by decide) wq_56 rfl (v := .int w.1) rfl dW_hasMessageAnywhere_4 ?_
    refine lv_icmp_ge (tgt := 27) hx hb dW_hasMessageAnywhere_7 (by decide) (fun c1 => ?_) (fun c1 => ?_)
    · have h := mp_t c1 h
      refine lv_iconst (v := 0) hx hb dW_hasMessageAnywhere_27 (by decide) ?_
      exact mp_rz cx rfl h dW_hasMessageAnywhere_28
    · have h := mp_f c1 h
      refine lv_aload_n hx hb dW_hasMessageAnywhere_10 rfl (lv_at hl 0 rfl) ?_
      refine lv_iload_n hx hb dW_hasMessageAnywhere_11 rfl (lv_at hl 2 rfl) ?_
      refine lv_iload_n hx hb dW_hasMessageAnywhere_12 rfl (lv_at hl 1 rfl) ?_
      obtain ⟨x2, ex2, h⟩ := mp_bs h
      refine mp_si (mp_runV (As := [.int a2, .int a1]) (rest := []) cx kV_W_72 (cW_messagesOf l k ad w a2 a1 x2 ex2) ⟨rfl, rfl, Nat.le_of_ble_eq_true rfl, Nat.le_of_ble_eq_true rfl⟩ ⟨Nat.zero_le _, Nat.zero_le _⟩ hE hP hD va_S.rf 0 rfl rfl rfl hl.1 rfl (Nat.le_of_ble_eq_true rfl) dW_hasMessageAnywhere_13) ?_
      refine lv_if_le (tgt := 21) hx hb dW_hasMessageAnywhere_16 (by decide) (fun c3 => ?_) (fun c3 => ?_)
      · have h := mp_t c3 h
        refine lv_iinc (v := (a2 + 1)) (lv' := [(2, .int (a2 + 1)), (0, .ref (ad 0)), (1, .int a1)]) hx hb dW_hasMessageAnywhere_21 hl (k := 2) rfl rfl (by decide) rfl (fun ls hl => ?_)
        refine lv_goto (tgt := 2) hx hb dW_hasMessageAnywhere_24 (by decide) ?_
        exact ih (a2 + 1) h ls (lv_sub hl [1, 2, 0] rfl)
      · have h := mp_f c3 h
        refine lv_iconst (v := 1) hx hb dW_hasMessageAnywhere_19 (by decide) ?_
        exact mp_rz cx rfl h dW_hasMessageAnywhere_20
def fW_hasMessageAnywhere (w : SW) (a1 : Int32) : Option Int32 := fW_hasMessageAnywhere_2 w a1 2000 0
set_option maxHeartbeats 4000000 in
set_option maxRecDepth 100000 in
theorem wW_hasMessageAnywhere {p : Program} {l : Launch} {e : Env} {s : State} {m : MethodId} {args : Array Value} {below : List Frame} {meth : Method} {c : Code} (cx : mp_C p s m args meth c bW_hasMessageAnywhere 3 (some .boolean) rW) (k : KK) (ad : Nat → Nat) (w : SW) (a1 : Int32) (z : Int32) (hE : mp_E k s) (hP : va_P (kD k) mp_cls (cW k ad w) s.heap) (hD : va_D (mp_N k) (cW k ad w)) (h : fW_hasMessageAnywhere w a1 = some z) (ls : Array Slot) (hl : lv_has ls 3 [(0, .ref (ad 0)), (1, .int a1)]) : W p l e rmW_hasMessageAnywhere s m args below meth c s.heap [] 0 0 (MQ below (mp_Qs (some (.int z))) args s 0 0 (fun _ => False)) (F0 m 0 ls []) := by
  obtain ⟨hx, hb, -, hml, hown, hts, -⟩ := id cx
  unfold fW_hasMessageAnywhere at h
  refine lv_iconst (v := 0) hx hb dW_hasMessageAnywhere_0 (by decide) ?_
  refine lv_istore_n (lv' := [(2, .int 0), (0, .ref (ad 0)), (1, .int a1)]) hx hb dW_hasMessageAnywhere_1 rfl hl (by decide) rfl (fun ls hl => ?_)
  exact lW_hasMessageAnywhere_2 cx k ad w a1 z hE hP hD _ 0 h ls (lv_sub hl [1, 2, 0] rfl)
theorem cW_hasMessageAnywhere (l : Launch) (k : KK) (ad : Nat → Nat) (w : SW) (a1 : Int32) (z : Int32) (h : fW_hasMessageAnywhere w a1 = some z) : mp_CS l k yW_hasMessageAnywhere bW_hasMessageAnywhere 3 (some .boolean) rmW_hasMessageAnywhere [.ref (ad 0), .int a1] (cW k ad w) (some (.int z)) := by
  refine Met.ofW (cc := bW_hasMessageAnywhere) (maxL := 3) (ret := (some .boolean)) (by decide) rfl ?_
  intro p e s m args below meth c s₁ B hml hv
  obtain ⟨rfl, hP, hD, hE⟩ := hv
  have hl := lv_entry ([.ref (ad 0), .int a1]) (n := 3) (Nat.le_of_ble_eq_true rfl)
  rw [lg_entry_eq]
  generalize (lg_sl ([.ref (ad 0), .int a1]) ++ List.replicate (3 - (lg_sl ([.ref (ad 0), .int a1])).length) Slot.unset).toArray = ls at hl ⊢
  exact wW_hasMessageAnywhere (mp_C.of B hml) k ad w a1 z hE hP hD h ls hl
-- MovingPlaces$World.namesFromThread
abbrev rmW_namesFromThread : Room := { frames := 3, cells := 0, slots := 0, locals := 65 }
def fW_namesFromThread_29 (w : SW) (a1 : Int32) : Nat → Int32 → Int32 → Option Int32
  | 0, _, _ => none
  | n + 1, a2, a3 => (fW_actsInAll w a1).bind fun x1 => (if x1 ≤ a3 then some a2 else (fW_actOf w a1 a3).bind fun x3 => (if (x3 / 10) = 4 then (fM_isName (x3 - x3 / 10 * 10)).bind fun x5 => (if x5 = 0 then fW_namesFromThread_29 w a1 n a2 (a3 + 1) else mp_lt (a2 ||| (1 <<< ((x3 - x3 / 10 * 10) &&& 31))) fun x7 => fW_namesFromThread_29 w a1 n x7 (a3 + 1)) else fW_namesFromThread_29 w a1 n a2 (a3 + 1)))
theorem fW_namesFromThread_29_s (w : SW) (a1 : Int32) (n : Nat) (a2 : Int32) (a3 : Int32) : fW_namesFromThread_29 w a1 (n + 1) a2 a3 = (fW_actsInAll w a1).bind fun x1 => (if x1 ≤ a3 then some a2 else (fW_actOf w a1 a3).bind fun x3 => (if (x3 / 10) = 4 then (fM_isName (x3 - x3 / 10 * 10)).bind fun x5 => (if x5 = 0 then fW_namesFromThread_29 w a1 n a2 (a3 + 1) else mp_lt (a2 ||| (1 <<< ((x3 - x3 / 10 * 10) &&& 31))) fun x7 => fW_namesFromThread_29 w a1 n x7 (a3 + 1)) else fW_namesFromThread_29 w a1 n a2 (a3 + 1))) := rfl
set_option maxHeartbeats 4000000 in
set_option maxRecDepth 100000 in
theorem lW_namesFromThread_29 {p : Program} {l : Launch} {e : Env} {s : State} {m : MethodId} {args : Array Value} {below : List Frame} {meth : Method} {c : Code} (cx : mp_C p s m args meth c bW_namesFromThread 5 (some .int) rW) (k : KK) (ad : Nat → Nat) (w : SW) (a1 : Int32) (z : Int32) (hE : mp_E k s) (hP : va_P (kD k) mp_cls (cW k ad w) s.heap) (hD : va_D (mp_N k) (cW k ad w)) : ∀ (n : Nat) (a2 : Int32) (a3 : Int32), fW_namesFromThread_29 w a1 n a2 a3 = some z → ∀ (ls : Array Slot), lv_has ls 5 [(0, .ref (ad 0)), (1, .int a1), (2, .int a2), (3, .int a3)] → W p l e rmW_namesFromThread s m args below meth c s.heap [] 0 0 (MQ below (mp_Qs (some (.int z))) args s 0 0 (fun _ => False)) (F0 m 29 ls []) := by
  obtain ⟨hx, hb, -, hml, hown, hts, -⟩ := id cx
  intro n
  induction n with
  | zero =>
    intro a2 a3 h
    have h : (none : Option Int32) = some z := h
    cases h
  | succ n ih =>
    intro a2 a3 h ls hl
    rw [fW_namesFromThread_29_s] at h
    refine lv_iload_n hx hb dW_namesFromThread_29 rfl (lv_at hl 3 rfl) ?_
    refine lv_aload_n hx hb dW_namesFromThread_30 rfl (lv_at hl 0 rfl) ?_
    refine lv_iload_n hx hb dW_namesFromThread_31 rfl (lv_at hl 1 rfl) ?_
    obtain ⟨x1, ex1, h⟩ := mp_bs h
    refine mp_si (mp_runV (As := [.int a1]) (rest := [.int a3]) cx kV_W_82 (cW_actsInAll l k ad w a1 x1 ex1) ⟨rfl, rfl, Nat.le_of_ble_eq_true rfl, Nat.le_of_ble_eq_true rfl⟩ ⟨Nat.zero_le _, Nat.zero_le _⟩ hE hP hD va_S.rf 0 rfl rfl rfl hl.1 rfl (Nat.le_of_ble_eq_true rfl) dW_namesFromThread_32) ?_
    refine lv_icmp_ge (tgt := 82) hx hb dW_namesFromThread_35 (by decide) (fun c2 => ?_) (fun c2 => ?_)
    · have h := mp_t c2 h
      refine lv_iload_n hx hb dW_namesFromThread_82 rfl (lv_at hl 2 rfl) ?_
      exact mp_ri cx h dW_namesFromThread_83
    · have h := mp_f c2 h
      refine lv_aload_n hx hb dW_namesFromThread_38 rfl (lv_at hl 0 rfl) ?_
      refine lv_iload_n hx hb dW_namesFromThread_39 rfl (lv_at hl 1 rfl) ?_
      refine lv_iload_n hx hb dW_namesFromThread_40 rfl (lv_at hl 3 rfl) ?_
      obtain ⟨x3, ex3, h⟩ := mp_bs h
      refine mp_si (mp_runV (As := [.int a1, .int a3]) (rest := []) cx kV_W_96 (cW_actOf l k ad w a1 a3 x3 ex3) ⟨rfl, rfl, Nat.le_of_ble_eq_true rfl, Nat.le_of_ble_eq_true rfl⟩ ⟨Nat.zero_le _, Nat.zero_le _⟩ hE hP hD va_S.rf 0 rfl rfl rfl hl.1 rfl (Nat.le_of_ble_eq_true rfl) dW_namesFromThread_41) ?_
      refine lv_istore (lv' := [(4, .int x3), (0, .ref (ad 0)), (1, .int a1), (2, .int a2), (3, .int a3)]) hx hb dW_namesFromThread_44 hl (by decide) rfl (fun ls hl => ?_)
      refine lv_iload hx hb dW_namesFromThread_46 (lv_at hl 0 rfl) ?_
      refine lv_bipush (v := 10) hx hb dW_namesFromThread_48 (by decide) ?_
      refine lv_idiv hx hb dW_namesFromThread_50 (by decide) ?_
      refine lv_iconst (v := 4) hx hb dW_namesFromThread_51 (by decide) ?_
      refine lv_icmp_ne (tgt := 76) hx hb dW_namesFromThread_52 (by decide) (fun c4 => ?_) (fun c4 => ?_)
      · have h := mp_f c4 h
        refine lv_iinc (v := (a3 + 1)) (lv' := [(3, .int (a3 + 1)), (4, .int x3), (0, .ref (ad 0)), (1, .int a1), (2, .int a2)]) hx hb dW_namesFromThread_76 hl (k := 4) rfl rfl (by decide) rfl (fun ls hl => ?_)
        refine lv_goto (tgt := 29) hx hb dW_namesFromThread_79 (by decide) ?_
        exact ih a2 (a3 + 1) h ls (lv_sub hl [2, 3, 4, 0] rfl)
      · have h := mp_t c4 h
        refine lv_iload hx hb dW_namesFromThread_55 (lv_at hl 0 rfl) ?_
        refine lv_bipush (v := 10) hx hb dW_namesFromThread_57 (by decide) ?_
        refine lv_irem hx hb dW_namesFromThread_59 (by decide) ?_
        obtain ⟨x5, ex5, h⟩ := mp_bs h
        refine mp_si (mp_runN (As := [.int (x3 - x3 / 10 * 10)]) (rest := []) cx hE.2.1 kN_M_isName (cM_isName l k (x3 - x3 / 10 * 10) x5 ex5) ⟨rfl, rfl, Nat.le_of_ble_eq_true rfl, Nat.le_of_ble_eq_true rfl⟩ ⟨Nat.zero_le _, Nat.zero_le _⟩ hE mp_P0 mp_D0 va_S.rf hl.1 rfl (Nat.le_of_ble_eq_true rfl) dW_namesFromThread_60) ?_
        refine lv_if_eq (tgt := 76) hx hb dW_namesFromThread_63 (by decide) (fun c6 => ?_) (fun c6 => ?_)
        · have h := mp_t c6 h
          refine lv_iinc (v := (a3 + 1)) (lv' := [(3, .int (a3 + 1)), (4, .int x3), (0, .ref (ad 0)), (1, .int a1), (2, .int a2)]) hx hb dW_namesFromThread_76 hl (k := 4) rfl rfl (by decide) rfl (fun ls hl => ?_)
          refine lv_goto (tgt := 29) hx hb dW_namesFromThread_79 (by decide) ?_
          exact ih a2 (a3 + 1) h ls (lv_sub hl [2, 3, 4, 0] rfl)
        · have h := mp_f c6 h
          refine lv_iload_n hx hb dW_namesFromThread_66 rfl (lv_at hl 3 rfl) ?_
          refine lv_iconst (v := 1) hx hb dW_namesFromThread_67 (by decide) ?_
          refine lv_iload hx hb dW_namesFromThread_68 (lv_at hl 0 rfl) ?_
          refine lv_bipush (v := 10) hx hb dW_namesFromThread_70 (by decide) ?_
          refine lv_irem hx hb dW_namesFromThread_72 (by decide) ?_
          refine lv_ishl hx hb dW_namesFromThread_73 ?_
          refine lv_ior hx hb dW_namesFromThread_74 ?_
          obtain ⟨x7, ex7, h⟩ := mp_lts h
          refine mp_top ex7 ?_
          refine lv_istore_n (lv' := [(2, .int x7), (4, .int x3), (0, .ref (ad 0)), (1, .int a1), (3, .int a3)]) hx hb dW_namesFromThread_75 rfl hl (by decide) rfl (fun ls hl => ?_)
          refine lv_iinc (v := (a3 + 1)) (lv' := [(3, .int (a3 + 1)), (2, .int x7), (4, .int x3), (0, .ref (ad 0)), (1, .int a1)]) hx hb dW_namesFromThread_76 hl (k := 4) rfl rfl (by decide) rfl (fun ls hl => ?_)
          refine lv_goto (tgt := 29) hx hb dW_namesFromThread_79 (by decide) ?_
          exact ih x7 (a3 + 1) h ls (lv_sub hl [3, 4, 1, 0] rfl)
def fW_namesFromThread (w : SW) (a1 : Int32) : Option Int32 := (fW_heardBy w a1).bind fun x1 => (fM_isName x1).bind fun x2 => (if x2 = 0 then (fW_actsDone w a1).bind fun x4 => fW_namesFromThread_29 w a1 2000 0 x4 else (fW_heardBy w a1).bind fun x5 => (fW_actsDone w a1).bind fun x6 => fW_namesFromThread_29 w a1 2000 (1 <<< (x5 &&& 31)) x6)
set_option maxHeartbeats 4000000 in
set_option maxRecDepth 100000 in
theorem wW_namesFromThread {p : Program} {l : Launch} {e : Env} {s : State} {m : MethodId} {args : Array Value} {below : List Frame} {meth : Method} {c : Code} (cx : mp_C p s m args meth c bW_namesFromThread 5 (some .int) rW) (k : KK) (ad : Nat → Nat) (w : SW) (a1 : Int32) (z : Int32) (hE : mp_E k s) (hP : va_P (kD k) mp_cls (cW k ad w) s.heap) (hD : va_D (mp_N k) (cW k ad w)) (h : fW_namesFromThread w a1 = some z) (ls : Array Slot) (hl : lv_has ls 5 [(0, .ref (ad 0)), (1, .int a1)]) : W p l e rmW_namesFromThread s m args below meth c s.heap [] 0 0 (MQ below (mp_Qs (some (.int z))) args s 0 0 (fun _ => False)) (F0 m 0 ls []) := by
  obtain ⟨hx, hb, -, hml, hown, hts, -⟩ := id cx
  unfold fW_namesFromThread at h
  refine lv_aload_n hx hb dW_namesFromThread_0 rfl (lv_at hl 0 rfl) ?_
  refine lv_iload_n hx hb dW_namesFromThread_1 rfl (lv_at hl 1 rfl) ?_
  obtain ⟨x1, ex1, h⟩ := mp_bs h
  refine mp_si (mp_runV (As := [.int a1]) (rest := []) cx kV_W_135 (cW_heardBy l k ad w a1 x1 ex1) ⟨rfl, rfl, Nat.le_of_ble_eq_true rfl, Nat.le_of_ble_eq_true rfl⟩ ⟨Nat.zero_le _, Nat.zero_le _⟩ hE hP hD va_S.rf 0 rfl rfl rfl hl.1 rfl (Nat.le_of_ble_eq_true rfl) dW_namesFromThread_2) ?_
  obtain ⟨x2, ex2, h⟩ := mp_bs h
  refine mp_si (mp_runN (As := [.int x1]) (rest := []) cx hE.2.1 kN_M_isName (cM_isName l k x1 x2 ex2) ⟨rfl, rfl, Nat.le_of_ble_eq_true rfl, Nat.le_of_ble_eq_true rfl⟩ ⟨Nat.zero_le _, Nat.zero_le _⟩ hE mp_P0 mp_D0 va_S.rf hl.1 rfl (Nat.le_of_ble_eq_true rfl) dW_namesFromThread_5) ?_
  refine lv_if_eq (tgt := 21) hx hb dW_namesFromThread_8 (by decide) (fun c3 => ?_) (fun c3 => ?_)
  · have h := mp_t c3 h
    refine lv_iconst (v := 0) hx hb dW_namesFromThread_21 (by decide) ?_
    refine lv_istore_n (lv' := [(2, .int 0), (0, .ref (ad 0)), (1, .int a1)]) hx hb dW_namesFromThread_22 rfl hl (by decide) rfl (fun ls hl => ?_)
    refine lv_aload_n hx hb dW_namesFromThread_23 rfl (lv_at hl 1 rfl) ?_
    refine lv_iload_n hx hb dW_namesFromThread_24 rfl (lv_at hl 2 rfl) ?_
    obtain ⟨x4, ex4, h⟩ := mp_bs h
    refine mp_si (mp_runV (As := [.int a1]) (rest := []) cx kV_W_79 (cW_actsDone l k ad w a1 x4 ex4) ⟨rfl, rfl, Nat.le_of_ble_eq_true rfl, Nat.le_of_ble_eq_true rfl⟩ ⟨Nat.zero_le _, Nat.zero_le _⟩ hE hP hD va_S.rf 0 rfl rfl rfl hl.1 rfl (Nat.le_of_ble_eq_true rfl) dW_namesFromThread_25) ?_
    refine lv_istore_n (lv' := [(3, .int x4), (2, .int 0), (0, .ref (ad 0)), (1, .int a1)]) hx hb dW_namesFromThread_28 rfl hl (by decide) rfl (fun ls hl => ?_)
    exact lW_namesFromThread_29 cx k ad w a1 z hE hP hD _ 0 x4 h ls (lv_sub hl [2, 3, 1, 0] rfl)
  · have h := mp_f c3 h
    refine lv_iconst (v := 1) hx hb dW_namesFromThread_11 (by decide) ?_
    refine lv_aload_n hx hb dW_namesFromThread_12 rfl (lv_at hl 0 rfl) ?_
    refine lv_iload_n hx hb dW_namesFromThread_13 rfl (lv_at hl 1 rfl) ?_
    obtain ⟨x5, ex5, h⟩ := mp_bs h
    refine mp_si (mp_runV (As := [.int a1]) (rest := [.int 1]) cx kV_W_135 (cW_heardBy l k ad w a1 x5 ex5) ⟨rfl, rfl, Nat.le_of_ble_eq_true rfl, Nat.le_of_ble_eq_true rfl⟩ ⟨Nat.zero_le _, Nat.zero_le _⟩ hE hP hD va_S.rf 0 rfl rfl rfl hl.1 rfl (Nat.le_of_ble_eq_true rfl) dW_namesFromThread_14) ?_
    refine lv_ishl hx hb dW_namesFromThread_17 ?_
    refine lv_goto (tgt := 22) hx hb dW_namesFromThread_18 (by decide) ?_
    refine lv_istore_n (lv' := [(2, .int (1 <<< (x5 &&& 31))), (0, .ref (ad 0)), (1, .int a1)]) hx hb dW_namesFromThread_22 rfl hl (by decide) rfl (fun ls hl => ?_)
    refine lv_aload_n hx hb dW_namesFromThread_23 rfl (lv_at hl 1 rfl) ?_
    refine lv_iload_n hx hb dW_namesFromThread_24 rfl (lv_at hl 2 rfl) ?_
    obtain ⟨x6, ex6, h⟩ := mp_bs h
    refine mp_si (mp_runV (As := [.int a1]) (rest := []) cx kV_W_79 (cW_actsDone l k ad w a1 x6 ex6) ⟨rfl, rfl, Nat.le_of_ble_eq_true rfl, Nat.le_of_ble_eq_true rfl⟩ ⟨Nat.zero_le _, Nat.zero_le _⟩ hE hP hD va_S.rf 0 rfl rfl rfl hl.1 rfl (Nat.le_of_ble_eq_true rfl) dW_namesFromThread_25) ?_
    refine lv_istore_n (lv' := [(3, .int x6), (2, .int (1 <<< (x5 &&& 31))), (0, .ref (ad 0)), (1, .int a1)]) hx hb dW_namesFromThread_28 rfl hl (by decide) rfl (fun ls hl => ?_)
    exact lW_namesFromThread_29 cx k ad w a1 z hE hP hD _ (1 <<< (x5 &&& 31)) x6 h ls (lv_sub hl [2, 3, 1, 0] rfl)
theorem cW_namesFromThread (l : Launch) (k : KK) (ad : Nat → Nat) (w : SW) (a1 : Int32) (z : Int32) (h : fW_namesFromThread w a1 = some z) : mp_CS l k yW_namesFromThread bW_namesFromThread 5 (some .int) rmW_namesFromThread [.ref (ad 0), .int a1] (cW k ad w) (some (.int z)) := by
  refine Met.ofW (cc := bW_namesFromThread) (maxL := 5) (ret := (some .int)) (by decide) rfl ?_
  intro p e s m args below meth c s₁ B hml hv
  obtain ⟨rfl, hP, hD, hE⟩ := hv
  have hl := lv_entry ([.ref (ad 0), .int a1]) (n := 5) (Nat.le_of_ble_eq_true rfl)
  rw [lg_entry_eq]
  generalize (lg_sl ([.ref (ad 0), .int a1]) ++ List.replicate (5 - (lg_sl ([.ref (ad 0), .int a1])).length) Slot.unset).toArray = ls at hl ⊢
  exact wW_namesFromThread (mp_C.of B hml) k ad w a1 z hE hP hD h ls hl
-- MovingPlaces$World.namesThatMayBeSaid
abbrev rmW_namesThatMayBeSaid : Room := { frames := 4, cells := 0, slots := 0, locals := 89 }
def fW_namesThatMayBeSaid_32 (w : SW) : Nat → Int32 → Int32 → Option Int32
  | 0, _, _ => none
  | n + 1, a1, a2 => (if w.2.2.2.2.2.2.1 ≤ a2 then some a1 else (fW_namesFromThread w a2).bind fun x2 => fW_namesThatMayBeSaid_32 w n (a1 ||| x2) (a2 + 1))
theorem fW_namesThatMayBeSaid_32_s (w : SW) (n : Nat) (a1 : Int32) (a2 : Int32) : fW_namesThatMayBeSaid_32 w (n + 1) a1 a2 = (if w.2.2.2.2.2.2.1 ≤ a2 then some a1 else (fW_namesFromThread w a2).bind fun x2 => fW_namesThatMayBeSaid_32 w n (a1 ||| x2) (a2 + 1)) := rfl
set_option maxHeartbeats 4000000 in
set_option maxRecDepth 100000 in
theorem lW_namesThatMayBeSaid_32 {p : Program} {l : Launch} {e : Env} {s : State} {m : MethodId} {args : Array Value} {below : List Frame} {meth : Method} {c : Code} (cx : mp_C p s m args meth c bW_namesThatMayBeSaid 3 (some .int) rW) (k : KK) (ad : Nat → Nat) (w : SW) (z : Int32) (hE : mp_E k s) (hP : va_P (kD k) mp_cls (cW k ad w) s.heap) (hD : va_D (mp_N k) (cW k ad w)) : ∀ (n : Nat) (a1 : Int32) (a2 : Int32), fW_namesThatMayBeSaid_32 w n a1 a2 = some z → ∀ (ls : Array Slot), lv_has ls 3 [(0, .ref (ad 0)), (1, .int a1), (2, .int a2)] → W p l e rmW_namesThatMayBeSaid s m args below meth c s.heap [] 0 0 (MQ below (mp_Qs (some (.int z))) args s 0 0 (fun _ => False)) (F0 m 32 ls []) := by
  obtain ⟨hx, hb, -, hml, hown, hts, -⟩ := id cx
  intro n
  induction n with
  | zero =>
    intro a1 a2 h
    have h : (none : Option Int32) = some z := h
    cases h
  | succ n ih =>
    intro a1 a2 h ls hl
    rw [fW_namesThatMayBeSaid_32_s] at h
    refine lv_iload_n hx hb dW_namesThatMayBeSaid_32 rfl (lv_at hl 2 rfl) ?_
    refine lv_aload_n hx hb dW_namesThatMayBeSaid_33 rfl (lv_at hl 0 rfl) ?_
    refine mp_gW cx hE hP iW 0 rfl 6 (by decide) wq_62 rfl (v := .int w.2.2.2.2.2.2.1) rfl dW_namesThatMayBeSaid_34 ?_
    refine lv_icmp_ge (tgt := 54) hx hb dW_namesThatMayBeSaid_37 (by decide) (fun c1 => ?_) (fun c1 => ?_)
    · have h := mp_t c1 h
      refine lv_iload_n hx hb dW_namesThatMayBeSaid_54 rfl (lv_at hl 1 rfl) ?_
      exact mp_ri cx h dW_namesThatMayBeSaid_55
    · have h := mp_f c1 h
      refine lv_iload_n hx hb dW_namesThatMayBeSaid_40 rfl (lv_at hl 1 rfl) ?_
      refine lv_aload_n hx hb dW_namesThatMayBeSaid_41 rfl (lv_at hl 0 rfl) ?_
      refine lv_iload_n hx hb dW_namesThatMayBeSaid_42 rfl (lv_at hl 2 rfl) ?_
      obtain ⟨x2, ex2, h⟩ := mp_bs h
      refine mp_si (mp_runV (As := [.int a2]) (rest := [.int a1]) cx kV_W_132 (cW_namesFromThread l k ad w a2 x2 ex2) ⟨rfl, rfl, Nat.le_of_ble_eq_true rfl, Nat.le_of_ble_eq_true rfl⟩ ⟨Nat.zero_le _, Nat.zero_le _⟩ hE hP hD va_S.rf 0 rfl rfl rfl hl.1 rfl (Nat.le_of_ble_eq_true rfl) dW_namesThatMayBeSaid_43) ?_
      refine lv_ior hx hb dW_namesThatMayBeSaid_46 ?_
      refine lv_istore_n (lv' := [(1, .int (a1 ||| x2)), (0, .ref (ad 0)), (2, .int a2)]) hx hb dW_namesThatMayBeSaid_47 rfl hl (by decide) rfl (fun ls hl => ?_)
      refine lv_iinc (v := (a2 + 1)) (lv' := [(2, .int (a2 + 1)), (1, .int (a1 ||| x2)), (0, .ref (ad 0))]) hx hb dW_namesThatMayBeSaid_48 hl (k := 2) rfl rfl (by decide) rfl (fun ls hl => ?_)
      refine lv_goto (tgt := 32) hx hb dW_namesThatMayBeSaid_51 (by decide) ?_
      exact ih (a1 ||| x2) (a2 + 1) h ls (lv_sub hl [2, 1, 0] rfl)
def fW_namesThatMayBeSaid_4 (w : SW) : Nat → Int32 → Int32 → Option Int32
  | 0, _, _ => none
  | n + 1, a1, a2 => (if 6 ≤ a2 then fW_namesThatMayBeSaid_32 w 2000 a1 0 else (fW_hasMessageAnywhere w a2).bind fun x2 => (if x2 = 0 then fW_namesThatMayBeSaid_4 w n a1 (a2 + 1) else mp_lt (a1 ||| (1 <<< (a2 &&& 31))) fun x4 => fW_namesThatMayBeSaid_4 w n x4 (a2 + 1)))
theorem fW_namesThatMayBeSaid_4_s (w : SW) (n : Nat) (a1 : Int32) (a2 : Int32) : fW_namesThatMayBeSaid_4 w (n + 1) a1 a2 = (if 6 ≤ a2 then fW_namesThatMayBeSaid_32 w 2000 a1 0 else (fW_hasMessageAnywhere w a2).bind fun x2 => (if x2 = 0 then fW_namesThatMayBeSaid_4 w n a1 (a2 + 1) else mp_lt (a1 ||| (1 <<< (a2 &&& 31))) fun x4 => fW_namesThatMayBeSaid_4 w n x4 (a2 + 1))) := rfl
set_option maxHeartbeats 4000000 in
set_option maxRecDepth 100000 in
theorem lW_namesThatMayBeSaid_4 {p : Program} {l : Launch} {e : Env} {s : State} {m : MethodId} {args : Array Value} {below : List Frame} {meth : Method} {c : Code} (cx : mp_C p s m args meth c bW_namesThatMayBeSaid 3 (some .int) rW) (k : KK) (ad : Nat → Nat) (w : SW) (z : Int32) (hE : mp_E k s) (hP : va_P (kD k) mp_cls (cW k ad w) s.heap) (hD : va_D (mp_N k) (cW k ad w)) : ∀ (n : Nat) (a1 : Int32) (a2 : Int32), fW_namesThatMayBeSaid_4 w n a1 a2 = some z → ∀ (ls : Array Slot), lv_has ls 3 [(0, .ref (ad 0)), (1, .int a1), (2, .int a2)] → W p l e rmW_namesThatMayBeSaid s m args below meth c s.heap [] 0 0 (MQ below (mp_Qs (some (.int z))) args s 0 0 (fun _ => False)) (F0 m 4 ls []) := by
  obtain ⟨hx, hb, -, hml, hown, hts, -⟩ := id cx
  intro n
  induction n with
  | zero =>
    intro a1 a2 h
    have h : (none : Option Int32) = some z := h
    cases h
  | succ n ih =>
    intro a1 a2 h ls hl
    rw [fW_namesThatMayBeSaid_4_s] at h
    refine lv_iload_n hx hb dW_namesThatMayBeSaid_4 rfl (lv_at hl 2 rfl) ?_
    refine lv_bipush (v := 6) hx hb dW_namesThatMayBeSaid_5 (by decide) ?_
    refine lv_icmp_ge (tgt := 30) hx hb dW_namesThatMayBeSaid_7 (by decide) (fun c1 => ?_) (fun c1 => ?_)
    · have h := mp_t c1 h
      refine lv_iconst (v := 0) hx hb dW_namesThatMayBeSaid_30 (by decide) ?_
      refine lv_istore_n (lv' := [(2, .int 0), (0, .ref (ad 0)), (1, .int a1)]) hx hb dW_namesThatMayBeSaid_31 rfl hl (by decide) rfl (fun ls hl => ?_)
      exact lW_namesThatMayBeSaid_32 cx k ad w z hE hP hD _ a1 0 h ls (lv_sub hl [1, 2, 0] rfl)
    · have h := mp_f c1 h
      refine lv_aload_n hx hb dW_namesThatMayBeSaid_10 rfl (lv_at hl 0 rfl) ?_
      refine lv_iload_n hx hb dW_namesThatMayBeSaid_11 rfl (lv_at hl 2 rfl) ?_
      obtain ⟨x2, ex2, h⟩ := mp_bs h
      refine mp_si (mp_runV (As := [.int a2]) (rest := []) cx kV_W_129 (cW_hasMessageAnywhere l k ad w a2 x2 ex2) ⟨rfl, rfl, Nat.le_of_ble_eq_true rfl, Nat.le_of_ble_eq_true rfl⟩ ⟨Nat.zero_le _, Nat.zero_le _⟩ hE hP hD va_S.rf 0 rfl rfl rfl hl.1 rfl (Nat.le_of_ble_eq_true rfl) dW_namesThatMayBeSaid_12) ?_
      refine lv_if_eq (tgt := 24) hx hb dW_namesThatMayBeSaid_15 (by decide) (fun c3 => ?_) (fun c3 => ?_)
      · have h := mp_t c3 h
        refine lv_iinc (v := (a2 + 1)) (lv' := [(2, .int (a2 + 1)), (0, .ref (ad 0)), (1, .int a1)]) hx hb dW_namesThatMayBeSaid_24 hl (k := 2) rfl rfl (by decide) rfl (fun ls hl => ?_)
        refine lv_goto (tgt := 4) hx hb dW_namesThatMayBeSaid_27 (by decide) ?_
        exact ih a1 (a2 + 1) h ls (lv_sub hl [1, 2, 0] rfl)
      · have h := mp_f c3 h
        refine lv_iload_n hx hb dW_namesThatMayBeSaid_18 rfl (lv_at hl 1 rfl) ?_
        refine lv_iconst (v := 1) hx hb dW_namesThatMayBeSaid_19 (by decide) ?_
        refine lv_iload_n hx hb dW_namesThatMayBeSaid_20 rfl (lv_at hl 2 rfl) ?_
        refine lv_ishl hx hb dW_namesThatMayBeSaid_21 ?_
        refine lv_ior hx hb dW_namesThatMayBeSaid_22 ?_
        obtain ⟨x4, ex4, h⟩ := mp_lts h
        refine mp_top ex4 ?_
        refine lv_istore_n (lv' := [(1, .int x4), (0, .ref (ad 0)), (2, .int a2)]) hx hb dW_namesThatMayBeSaid_23 rfl hl (by decide) rfl (fun ls hl => ?_)
        refine lv_iinc (v := (a2 + 1)) (lv' := [(2, .int (a2 + 1)), (1, .int x4), (0, .ref (ad 0))]) hx hb dW_namesThatMayBeSaid_24 hl (k := 2) rfl rfl (by decide) rfl (fun ls hl => ?_)
        refine lv_goto (tgt := 4) hx hb dW_namesThatMayBeSaid_27 (by decide) ?_
        exact ih x4 (a2 + 1) h ls (lv_sub hl [2, 1, 0] rfl)
def fW_namesThatMayBeSaid (w : SW) : Option Int32 := fW_namesThatMayBeSaid_4 w 2000 0 0
set_option maxHeartbeats 4000000 in
set_option maxRecDepth 100000 in
theorem wW_namesThatMayBeSaid {p : Program} {l : Launch} {e : Env} {s : State} {m : MethodId} {args : Array Value} {below : List Frame} {meth : Method} {c : Code} (cx : mp_C p s m args meth c bW_namesThatMayBeSaid 3 (some .int) rW) (k : KK) (ad : Nat → Nat) (w : SW) (z : Int32) (hE : mp_E k s) (hP : va_P (kD k) mp_cls (cW k ad w) s.heap) (hD : va_D (mp_N k) (cW k ad w)) (h : fW_namesThatMayBeSaid w = some z) (ls : Array Slot) (hl : lv_has ls 3 [(0, .ref (ad 0))]) : W p l e rmW_namesThatMayBeSaid s m args below meth c s.heap [] 0 0 (MQ below (mp_Qs (some (.int z))) args s 0 0 (fun _ => False)) (F0 m 0 ls []) := by
  obtain ⟨hx, hb, -, hml, hown, hts, -⟩ := id cx
  unfold fW_namesThatMayBeSaid at h
  refine lv_iconst (v := 0) hx hb dW_namesThatMayBeSaid_0 (by decide) ?_
  refine lv_istore_n (lv' := [(1, .int 0), (0, .ref (ad 0))]) hx hb dW_namesThatMayBeSaid_1 rfl hl (by decide) rfl (fun ls hl => ?_)
  refine lv_iconst (v := 0) hx hb dW_namesThatMayBeSaid_2 (by decide) ?_
  refine lv_istore_n (lv' := [(2, .int 0), (1, .int 0), (0, .ref (ad 0))]) hx hb dW_namesThatMayBeSaid_3 rfl hl (by decide) rfl (fun ls hl => ?_)
  exact lW_namesThatMayBeSaid_4 cx k ad w z hE hP hD _ 0 0 h ls (lv_sub hl [2, 1, 0] rfl)
theorem cW_namesThatMayBeSaid (l : Launch) (k : KK) (ad : Nat → Nat) (w : SW) (z : Int32) (h : fW_namesThatMayBeSaid w = some z) : mp_CS l k yW_namesThatMayBeSaid bW_namesThatMayBeSaid 3 (some .int) rmW_namesThatMayBeSaid [.ref (ad 0)] (cW k ad w) (some (.int z)) := by
  refine Met.ofW (cc := bW_namesThatMayBeSaid) (maxL := 3) (ret := (some .int)) (by decide) rfl ?_
  intro p e s m args below meth c s₁ B hml hv
  obtain ⟨rfl, hP, hD, hE⟩ := hv
  have hl := lv_entry ([.ref (ad 0)]) (n := 3) (Nat.le_of_ble_eq_true rfl)
  rw [lg_entry_eq]
  generalize (lg_sl ([.ref (ad 0)]) ++ List.replicate (3 - (lg_sl ([.ref (ad 0)])).length) Slot.unset).toArray = ls at hl ⊢
  exact wW_namesThatMayBeSaid (mp_C.of B hml) k ad w z hE hP hD h ls hl
-- MovingPlaces$World.bringsMotion
abbrev rmW_bringsMotion : Room := { frames := 3, cells := 0, slots := 0, locals := 65 }
def fW_bringsMotion_7 (w : SW) (a1 : Int32) (a2 : Int32) (a3 : Int32) : Nat → Int32 → Option Int32
  | 0, _ => none
  | n + 1, a4 => (fW_actsInAll w a1).bind fun x1 => (if x1 ≤ a4 then some 0 else (fW_actOf w a1 a4).bind fun x3 => (if (x3 / 10) = 1 then some 1 else (if (x3 / 10) = 2 then some 1 else (if (x3 - x3 / 10 * 10) = 9 then (if (x3 / 10) = 3 then (if (a3 &&& a2) = 0 then fW_bringsMotion_7 w a1 a2 a3 n (a4 + 1) else some 1) else fW_bringsMotion_7 w a1 a2 a3 n (a4 + 1)) else mp_lt (1 <<< ((x3 - x3 / 10 * 10) &&& 31)) fun x7 => (if (x3 / 10) = 3 then (if (x7 &&& a2) = 0 then fW_bringsMotion_7 w a1 a2 a3 n (a4 + 1) else some 1) else fW_bringsMotion_7 w a1 a2 a3 n (a4 + 1))))))
theorem fW_bringsMotion_7_s (w : SW) (a1 : Int32) (a2 : Int32) (a3 : Int32) (n : Nat) (a4 : Int32) : fW_bringsMotion_7 w a1 a2 a3 (n + 1) a4 = (fW_actsInAll w a1).bind fun x1 => (if x1 ≤ a4 then some 0 else (fW_actOf w a1 a4).bind fun x3 => (if (x3 / 10) = 1 then some 1 else (if (x3 / 10) = 2 then some 1 else (if (x3 - x3 / 10 * 10) = 9 then (if (x3 / 10) = 3 then (if (a3 &&& a2) = 0 then fW_bringsMotion_7 w a1 a2 a3 n (a4 + 1) else some 1) else fW_bringsMotion_7 w a1 a2 a3 n (a4 + 1)) else mp_lt (1 <<< ((x3 - x3 / 10 * 10) &&& 31)) fun x7 => (if (x3 / 10) = 3 then (if (x7 &&& a2) = 0 then fW_bringsMotion_7 w a1 a2 a3 n (a4 + 1) else some 1) else fW_bringsMotion_7 w a1 a2 a3 n (a4 + 1)))))) := rfl
set_option maxHeartbeats 4000000 in
set_option maxRecDepth 100000 in
theorem lW_bringsMotion_7 {p : Program} {l : Launch} {e : Env} {s : State} {m : MethodId} {args : Array Value} {below : List Frame} {meth : Method} {c : Code} (cx : mp_C p s m args meth c bW_bringsMotion 8 (some .boolean) rW) (k : KK) (ad : Nat → Nat) (w : SW) (a1 : Int32) (a2 : Int32) (a3 : Int32) (z : Int32) (hE : mp_E k s) (hP : va_P (kD k) mp_cls (cW k ad w) s.heap) (hD : va_D (mp_N k) (cW k ad w)) : ∀ (n : Nat) (a4 : Int32), fW_bringsMotion_7 w a1 a2 a3 n a4 = some z → ∀ (ls : Array Slot), lv_has ls 8 [(0, .ref (ad 0)), (1, .int a1), (2, .int a2), (3, .int a3), (4, .int a4)] → W p l e rmW_bringsMotion s m args below meth c s.heap [] 0 0 (MQ below (mp_Qs (some (.int z))) args s 0 0 (fun _ => False)) (F0 m 7 ls []) := by
  obtain ⟨hx, hb, -, hml, hown, hts, -⟩ := id cx
  intro n
  induction n with
  | zero =>
    intro a4 h
    have h : (none : Option Int32) = some z := h
    cases h
  | succ n ih =>
    intro a4 h ls hl
    rw [fW_bringsMotion_7_s] at h
    refine lv_iload hx hb dW_bringsMotion_7 (lv_at hl 4 rfl) ?_
    refine lv_aload_n hx hb dW_bringsMotion_9 rfl (lv_at hl 0 rfl) ?_
    refine lv_iload_n hx hb dW_bringsMotion_10 rfl (lv_at hl 1 rfl) ?_
    obtain ⟨x1, ex1, h⟩ := mp_bs h
    refine mp_si (mp_runV (As := [.int a1]) (rest := [.int a4]) cx kV_W_82 (cW_actsInAll l k ad w a1 x1 ex1) ⟨rfl, rfl, Nat.le_of_ble_eq_true rfl, Nat.le_of_ble_eq_true rfl⟩ ⟨Nat.zero_le _, Nat.zero_le _⟩ hE hP hD va_S.rf 0 rfl rfl rfl hl.1 rfl (Nat.le_of_ble_eq_true rfl) dW_bringsMotion_11) ?_
    refine lv_icmp_ge (tgt := 91) hx hb dW_bringsMotion_14 (by decide) (fun c2 => ?_) (fun c2 => ?_)
    · have h := mp_t c2 h
      refine lv_iconst (v := 0) hx hb dW_bringsMotion_91 (by decide) ?_
      exact mp_rz cx rfl h dW_bringsMotion_92
    · have h := mp_f c2 h
      refine lv_aload_n hx hb dW_bringsMotion_17 rfl (lv_at hl 0 rfl) ?_
      refine lv_iload_n hx hb dW_bringsMotion_18 rfl (lv_at hl 1 rfl) ?_
      refine lv_iload hx hb dW_bringsMotion_19 (lv_at hl 4 rfl) ?_
      obtain ⟨x3, ex3, h⟩ := mp_bs h
      refine mp_si (mp_runV (As := [.int a1, .int a4]) (rest := []) cx kV_W_96 (cW_actOf l k ad w a1 a4 x3 ex3) ⟨rfl, rfl, Nat.le_of_ble_eq_true rfl, Nat.le_of_ble_eq_true rfl⟩ ⟨Nat.zero_le _, Nat.zero_le _⟩ hE hP hD va_S.rf 0 rfl rfl rfl hl.1 rfl (Nat.le_of_ble_eq_true rfl) dW_bringsMotion_21) ?_
      refine lv_istore (lv' := [(5, .int x3), (0, .ref (ad 0)), (1, .int a1), (2, .int a2), (3, .int a3), (4, .int a4)]) hx hb dW_bringsMotion_24 hl (by decide) rfl (fun ls hl => ?_)
      refine lv_iload hx hb dW_bringsMotion_26 (lv_at hl 0 rfl) ?_
      refine lv_bipush (v := 10) hx hb dW_bringsMotion_28 (by decide) ?_
      refine lv_idiv hx hb dW_bringsMotion_30 (by decide) ?_
      refine lv_istore (lv' := [(6, .int (x3 / 10)), (5, .int x3), (0, .ref (ad 0)), (1, .int a1), (2, .int a2), (3, .int a3), (4, .int a4)]) hx hb dW_bringsMotion_31 hl (by decide) rfl (fun ls hl => ?_)
      refine lv_iload hx hb dW_bringsMotion_33 (lv_at hl 0 rfl) ?_
      refine lv_iconst (v := 1) hx hb dW_bringsMotion_35 (by decide) ?_
      refine lv_icmp_eq (tgt := 45) hx hb dW_bringsMotion_36 (by decide) (fun c4 => ?_) (fun c4 => ?_)
      · have h := mp_t c4 h
        refine lv_iconst (v := 1) hx hb dW_bringsMotion_45 (by decide) ?_
        exact mp_rz cx rfl h dW_bringsMotion_46
      · have h := mp_f c4 h
        refine lv_iload hx hb dW_bringsMotion_39 (lv_at hl 0 rfl) ?_
        refine lv_iconst (v := 2) hx hb dW_bringsMotion_41 (by decide) ?_
        refine lv_icmp_ne (tgt := 47) hx hb dW_bringsMotion_42 (by decide) (fun c5 => ?_) (fun c5 => ?_)
        · have h := mp_f c5 h
          refine lv_iload hx hb dW_bringsMotion_47 (lv_at hl 1 rfl) ?_
          refine lv_bipush (v := 10) hx hb dW_bringsMotion_49 (by decide) ?_
          refine lv_irem hx hb dW_bringsMotion_51 (by decide) ?_
          refine lv_bipush (v := 9) hx hb dW_bringsMotion_52 (by decide) ?_
          refine lv_icmp_ne (tgt := 61) hx hb dW_bringsMotion_54 (by decide) (fun c6 => ?_) (fun c6 => ?_)
          · have h := mp_f c6 h
            refine lv_iconst (v := 1) hx hb dW_bringsMotion_61 (by decide) ?_
            refine lv_iload hx hb dW_bringsMotion_62 (lv_at hl 1 rfl) ?_
            refine lv_bipush (v := 10) hx hb dW_bringsMotion_64 (by decide) ?_
            refine lv_irem hx hb dW_bringsMotion_66 (by decide) ?_
            refine lv_ishl hx hb dW_bringsMotion_67 ?_
            obtain ⟨x7, ex7, h⟩ := mp_lts h
            refine mp_top ex7 ?_
            refine lv_istore (lv' := [(7, .int x7), (6, .int (x3 / 10)), (5, .int x3), (0, .ref (ad 0)), (1, .int a1), (2, .int a2), (3, .int a3), (4, .int a4)]) hx hb dW_bringsMotion_68 hl (by decide) rfl (fun ls hl => ?_)
            refine lv_iload hx hb dW_bringsMotion_70 (lv_at hl 1 rfl) ?_
            refine lv_iconst (v := 3) hx hb dW_bringsMotion_72 (by decide) ?_
            refine lv_icmp_ne (tgt := 85) hx hb dW_bringsMotion_73 (by decide) (fun c8 => ?_) (fun c8 => ?_)
            · have h := mp_f c8 h
              refine lv_iinc (v := (a4 + 1)) (lv' := [(4, .int (a4 + 1)), (7, .int x7), (6, .int (x3 / 10)), (5, .int x3), (0, .ref (ad 0)), (1, .int a1), (2, .int a2), (3, .int a3)]) hx hb dW_bringsMotion_85 hl (k := 7) rfl rfl (by decide) rfl (fun ls hl => ?_)
              refine lv_goto (tgt := 7) hx hb dW_bringsMotion_88 (by decide) ?_
              exact ih (a4 + 1) h ls (lv_sub hl [4, 5, 6, 7, 0] rfl)
            · have h := mp_t c8 h
              refine lv_iload hx hb dW_bringsMotion_76 (lv_at hl 0 rfl) ?_
              refine lv_iload_n hx hb dW_bringsMotion_78 rfl (lv_at hl 5 rfl) ?_
              refine lv_iand hx hb dW_bringsMotion_79 ?_
              refine lv_if_eq (tgt := 85) hx hb dW_bringsMotion_80 (by decide) (fun c9 => ?_) (fun c9 => ?_)
              · have h := mp_t c9 h
                refine lv_iinc (v := (a4 + 1)) (lv' := [(4, .int (a4 + 1)), (7, .int x7), (6, .int (x3 / 10)), (5, .int x3), (0, .ref (ad 0)), (1, .int a1), (2, .int a2), (3, .int a3)]) hx hb dW_bringsMotion_85 hl (k := 7) rfl rfl (by decide) rfl (fun ls hl => ?_)
                refine lv_goto (tgt := 7) hx hb dW_bringsMotion_88 (by decide) ?_
                exact ih (a4 + 1) h ls (lv_sub hl [4, 5, 6, 7, 0] rfl)
              · have h := mp_f c9 h
                refine lv_iconst (v := 1) hx hb dW_bringsMotion_83 (by decide) ?_
                exact mp_rz cx rfl h dW_bringsMotion_84
          · have h := mp_t c6 h
            refine lv_iload_n hx hb dW_bringsMotion_57 rfl (lv_at hl 5 rfl) ?_
            refine lv_goto (tgt := 68) hx hb dW_bringsMotion_58 (by decide) ?_
            refine lv_istore (lv' := [(7, .int a3), (6, .int (x3 / 10)), (5, .int x3), (0, .ref (ad 0)), (1, .int a1), (2, .int a2), (3, .int a3), (4, .int a4)]) hx hb dW_bringsMotion_68 hl (by decide) rfl (fun ls hl => ?_)
            refine lv_iload hx hb dW_bringsMotion_70 (lv_at hl 1 rfl) ?_
            refine lv_iconst (v := 3) hx hb dW_bringsMotion_72 (by decide) ?_
            refine lv_icmp_ne (tgt := 85) hx hb dW_bringsMotion_73 (by decide) (fun c10 => ?_) (fun c10 => ?_)
            · have h := mp_f c10 h
              refine lv_iinc (v := (a4 + 1)) (lv' := [(4, .int (a4 + 1)), (7, .int a3), (6, .int (x3 / 10)), (5, .int x3), (0, .ref (ad 0)), (1, .int a1), (2, .int a2), (3, .int a3)]) hx hb dW_bringsMotion_85 hl (k := 7) rfl rfl (by decide) rfl (fun ls hl => ?_)
              refine lv_goto (tgt := 7) hx hb dW_bringsMotion_88 (by decide) ?_
              exact ih (a4 + 1) h ls (lv_sub hl [4, 5, 6, 7, 0] rfl)
            · have h := mp_t c10 h
              refine lv_iload hx hb dW_bringsMotion_76 (lv_at hl 0 rfl) ?_
              refine lv_iload_n hx hb dW_bringsMotion_78 rfl (lv_at hl 5 rfl) ?_
              refine lv_iand hx hb dW_bringsMotion_79 ?_
              refine lv_if_eq (tgt := 85) hx hb dW_bringsMotion_80 (by decide) (fun c11 => ?_) (fun c11 => ?_)
              · have h := mp_t c11 h
                refine lv_iinc (v := (a4 + 1)) (lv' := [(4, .int (a4 + 1)), (7, .int a3), (6, .int (x3 / 10)), (5, .int x3), (0, .ref (ad 0)), (1, .int a1), (2, .int a2), (3, .int a3)]) hx hb dW_bringsMotion_85 hl (k := 7) rfl rfl (by decide) rfl (fun ls hl => ?_)
                refine lv_goto (tgt := 7) hx hb dW_bringsMotion_88 (by decide) ?_
                exact ih (a4 + 1) h ls (lv_sub hl [4, 5, 6, 7, 0] rfl)
              · have h := mp_f c11 h
                refine lv_iconst (v := 1) hx hb dW_bringsMotion_83 (by decide) ?_
                exact mp_rz cx rfl h dW_bringsMotion_84
        · have h := mp_t c5 h
          refine lv_iconst (v := 1) hx hb dW_bringsMotion_45 (by decide) ?_
          exact mp_rz cx rfl h dW_bringsMotion_46
def fW_bringsMotion (w : SW) (a1 : Int32) (a2 : Int32) (a3 : Int32) : Option Int32 := (fW_actsDone w a1).bind fun x1 => fW_bringsMotion_7 w a1 a2 a3 2000 x1
set_option maxHeartbeats 4000000 in
set_option maxRecDepth 100000 in
theorem wW_bringsMotion {p : Program} {l : Launch} {e : Env} {s : State} {m : MethodId} {args : Array Value} {below : List Frame} {meth : Method} {c : Code} (cx : mp_C p s m args meth c bW_bringsMotion 8 (some .boolean) rW) (k : KK) (ad : Nat → Nat) (w : SW) (a1 : Int32) (a2 : Int32) (a3 : Int32) (z : Int32) (hE : mp_E k s) (hP : va_P (kD k) mp_cls (cW k ad w) s.heap) (hD : va_D (mp_N k) (cW k ad w)) (h : fW_bringsMotion w a1 a2 a3 = some z) (ls : Array Slot) (hl : lv_has ls 8 [(0, .ref (ad 0)), (1, .int a1), (2, .int a2), (3, .int a3)]) : W p l e rmW_bringsMotion s m args below meth c s.heap [] 0 0 (MQ below (mp_Qs (some (.int z))) args s 0 0 (fun _ => False)) (F0 m 0 ls []) := by
  obtain ⟨hx, hb, -, hml, hown, hts, -⟩ := id cx
  unfold fW_bringsMotion at h
  refine lv_aload_n hx hb dW_bringsMotion_0 rfl (lv_at hl 0 rfl) ?_
  refine lv_iload_n hx hb dW_bringsMotion_1 rfl (lv_at hl 1 rfl) ?_
  obtain ⟨x1, ex1, h⟩ := mp_bs h
  refine mp_si (mp_runV (As := [.int a1]) (rest := []) cx kV_W_79 (cW_actsDone l k ad w a1 x1 ex1) ⟨rfl, rfl, Nat.le_of_ble_eq_true rfl, Nat.le_of_ble_eq_true rfl⟩ ⟨Nat.zero_le _, Nat.zero_le _⟩ hE hP hD va_S.rf 0 rfl rfl rfl hl.1 rfl (Nat.le_of_ble_eq_true rfl) dW_bringsMotion_2) ?_
  refine lv_istore (lv' := [(4, .int x1), (0, .ref (ad 0)), (1, .int a1), (2, .int a2), (3, .int a3)]) hx hb dW_bringsMotion_5 hl (by decide) rfl (fun ls hl => ?_)
  exact lW_bringsMotion_7 cx k ad w a1 a2 a3 z hE hP hD _ x1 h ls (lv_sub hl [1, 2, 3, 4, 0] rfl)
theorem cW_bringsMotion (l : Launch) (k : KK) (ad : Nat → Nat) (w : SW) (a1 : Int32) (a2 : Int32) (a3 : Int32) (z : Int32) (h : fW_bringsMotion w a1 a2 a3 = some z) : mp_CS l k yW_bringsMotion bW_bringsMotion 8 (some .boolean) rmW_bringsMotion [.ref (ad 0), .int a1, .int a2, .int a3] (cW k ad w) (some (.int z)) := by
  refine Met.ofW (cc := bW_bringsMotion) (maxL := 8) (ret := (some .boolean)) (by decide) rfl ?_
  intro p e s m args below meth c s₁ B hml hv
  obtain ⟨rfl, hP, hD, hE⟩ := hv
  have hl := lv_entry ([.ref (ad 0), .int a1, .int a2, .int a3]) (n := 8) (Nat.le_of_ble_eq_true rfl)
  rw [lg_entry_eq]
  generalize (lg_sl ([.ref (ad 0), .int a1, .int a2, .int a3]) ++ List.replicate (8 - (lg_sl ([.ref (ad 0), .int a1, .int a2, .int a3])).length) Slot.unset).toArray = ls at hl ⊢
  exact wW_bringsMotion (mp_C.of B hml) k ad w a1 a2 a3 z hE hP hD h ls hl
-- MovingPlaces$World.namesMovedFrom
abbrev rmW_namesMovedFrom : Room := { frames := 4, cells := 0, slots := 0, locals := 92 }
def fW_namesMovedFrom_5 (w : SW) (a1 : Int32) (a2 : Int32) : Nat → Int32 → Int32 → Option Int32
  | 0, _, _ => none
  | n + 1, a3, a4 => (if w.2.2.2.2.2.2.1 ≤ a4 then some a3 else mp_ld w.2.2.2.2.2.2.2.1 12 a4 fun x2 => (fW_nameOf w x2).bind fun x3 => (fM_isName x3).bind fun x4 => (if x4 = 0 then fW_namesMovedFrom_5 w a1 a2 n a3 (a4 + 1) else (fW_bringsMotion w a4 a1 a2).bind fun x6 => (if x6 = 0 then fW_namesMovedFrom_5 w a1 a2 n a3 (a4 + 1) else mp_lt (a3 ||| (1 <<< (x3 &&& 31))) fun x8 => fW_namesMovedFrom_5 w a1 a2 n x8 (a4 + 1))))
theorem fW_namesMovedFrom_5_s (w : SW) (a1 : Int32) (a2 : Int32) (n : Nat) (a3 : Int32) (a4 : Int32) : fW_namesMovedFrom_5 w a1 a2 (n + 1) a3 a4 = (if w.2.2.2.2.2.2.1 ≤ a4 then some a3 else mp_ld w.2.2.2.2.2.2.2.1 12 a4 fun x2 => (fW_nameOf w x2).bind fun x3 => (fM_isName x3).bind fun x4 => (if x4 = 0 then fW_namesMovedFrom_5 w a1 a2 n a3 (a4 + 1) else (fW_bringsMotion w a4 a1 a2).bind fun x6 => (if x6 = 0 then fW_namesMovedFrom_5 w a1 a2 n a3 (a4 + 1) else mp_lt (a3 ||| (1 <<< (x3 &&& 31))) fun x8 => fW_namesMovedFrom_5 w a1 a2 n x8 (a4 + 1)))) := rfl
set_option maxHeartbeats 4000000 in
set_option maxRecDepth 100000 in
theorem lW_namesMovedFrom_5 {p : Program} {l : Launch} {e : Env} {s : State} {m : MethodId} {args : Array Value} {below : List Frame} {meth : Method} {c : Code} (cx : mp_C p s m args meth c bW_namesMovedFrom 6 (some .int) rW) (k : KK) (ad : Nat → Nat) (w : SW) (a1 : Int32) (a2 : Int32) (z : Int32) (hE : mp_E k s) (hP : va_P (kD k) mp_cls (cW k ad w) s.heap) (hD : va_D (mp_N k) (cW k ad w)) : ∀ (n : Nat) (a3 : Int32) (a4 : Int32), fW_namesMovedFrom_5 w a1 a2 n a3 a4 = some z → ∀ (ls : Array Slot), lv_has ls 6 [(0, .ref (ad 0)), (1, .int a1), (2, .int a2), (3, .int a3), (4, .int a4)] → W p l e rmW_namesMovedFrom s m args below meth c s.heap [] 0 0 (MQ below (mp_Qs (some (.int z))) args s 0 0 (fun _ => False)) (F0 m 5 ls []) := by
  obtain ⟨hx, hb, -, hml, hown, hts, -⟩ := id cx
  intro n
  induction n with
  | zero =>
    intro a3 a4 h
    have h : (none : Option Int32) = some z := h
    cases h
  | succ n ih =>
    intro a3 a4 h ls hl
    rw [fW_namesMovedFrom_5_s] at h
    refine lv_iload hx hb dW_namesMovedFrom_5 (lv_at hl 4 rfl) ?_
    refine lv_aload_n hx hb dW_namesMovedFrom_7 rfl (lv_at hl 0 rfl) ?_
    refine mp_gW cx hE hP iW 0 rfl 6 (by decide) wq_62 rfl (v := .int w.2.2.2.2.2.2.1) rfl dW_namesMovedFrom_8 ?_
    refine lv_icmp_ge (tgt := 59) hx hb dW_namesMovedFrom_11 (by decide) (fun c1 => ?_) (fun c1 => ?_)
    · have h := mp_t c1 h
      refine lv_iload_n hx hb dW_namesMovedFrom_59 rfl (lv_at hl 3 rfl) ?_
      exact mp_ri cx h dW_namesMovedFrom_60
    · have h := mp_f c1 h
      refine lv_aload_n hx hb dW_namesMovedFrom_14 rfl (lv_at hl 0 rfl) ?_
      refine lv_aload_n hx hb dW_namesMovedFrom_15 rfl (lv_at hl 0 rfl) ?_
      refine mp_gW cx hE hP iW 0 rfl 7 (by decide) wq_63 rfl (v := .ref (ad 4)) rfl dW_namesMovedFrom_16 ?_
      refine lv_iload hx hb dW_namesMovedFrom_19 (lv_at hl 4 rfl) ?_
      obtain ⟨hi, x2, ex2, h⟩ := mp_lds h
      refine va_iald hx hb hE.1 hP 4 0 (f := w.2.2.2.2.2.2.2.1) (n := 12) rfl rfl hi dW_namesMovedFrom_21 ?_
      refine mp_top ex2 ?_
      obtain ⟨x3, ex3, h⟩ := mp_bs h
      refine mp_si (mp_runV (As := [.int x2]) (rest := []) cx kV_W_109 (cW_nameOf l k ad w x2 x3 ex3) ⟨rfl, rfl, Nat.le_of_ble_eq_true rfl, Nat.le_of_ble_eq_true rfl⟩ ⟨Nat.zero_le _, Nat.zero_le _⟩ hE hP hD va_S.rf 0 rfl rfl rfl hl.1 rfl (Nat.le_of_ble_eq_true rfl) dW_namesMovedFrom_22) ?_
      refine lv_istore (lv' := [(5, .int x3), (0, .ref (ad 0)), (1, .int a1), (2, .int a2), (3, .int a3), (4, .int a4)]) hx hb dW_namesMovedFrom_25 hl (by decide) rfl (fun ls hl => ?_)
      refine lv_iload hx hb dW_namesMovedFrom_27 (lv_at hl 0 rfl) ?_
      obtain ⟨x4, ex4, h⟩ := mp_bs h
      refine mp_si (mp_runN (As := [.int x3]) (rest := []) cx hE.2.1 kN_M_isName (cM_isName l k x3 x4 ex4) ⟨rfl, rfl, Nat.le_of_ble_eq_true rfl, Nat.le_of_ble_eq_true rfl⟩ ⟨Nat.zero_le _, Nat.zero_le _⟩ hE mp_P0 mp_D0 va_S.rf hl.1 rfl (Nat.le_of_ble_eq_true rfl) dW_namesMovedFrom_29) ?_
      refine lv_if_eq (tgt := 53) hx hb dW_namesMovedFrom_32 (by decide) (fun c5 => ?_) (fun c5 => ?_)
      · have h := mp_t c5 h
        refine lv_iinc (v := (a4 + 1)) (lv' := [(4, .int (a4 + 1)), (5, .int x3), (0, .ref (ad 0)), (1, .int a1), (2, .int a2), (3, .int a3)]) hx hb dW_namesMovedFrom_53 hl (k := 5) rfl rfl (by decide) rfl (fun ls hl => ?_)
        refine lv_goto (tgt := 5) hx hb dW_namesMovedFrom_56 (by decide) ?_
        exact ih a3 (a4 + 1) h ls (lv_sub hl [2, 3, 4, 5, 0] rfl)
      · have h := mp_f c5 h
        refine lv_aload_n hx hb dW_namesMovedFrom_35 rfl (lv_at hl 1 rfl) ?_
        refine lv_iload hx hb dW_namesMovedFrom_36 (lv_at hl 5 rfl) ?_
        refine lv_iload_n hx hb dW_namesMovedFrom_38 rfl (lv_at hl 2 rfl) ?_
        refine lv_iload_n hx hb dW_namesMovedFrom_39 rfl (lv_at hl 3 rfl) ?_
        obtain ⟨x6, ex6, h⟩ := mp_bs h
        refine mp_si (mp_runV (As := [.int a4, .int a1, .int a2]) (rest := []) cx kV_W_145 (cW_bringsMotion l k ad w a4 a1 a2 x6 ex6) ⟨rfl, rfl, Nat.le_of_ble_eq_true rfl, Nat.le_of_ble_eq_true rfl⟩ ⟨Nat.zero_le _, Nat.zero_le _⟩ hE hP hD va_S.rf 0 rfl rfl rfl hl.1 rfl (Nat.le_of_ble_eq_true rfl) dW_namesMovedFrom_40) ?_
        refine lv_if_eq (tgt := 53) hx hb dW_namesMovedFrom_43 (by decide) (fun c7 => ?_) (fun c7 => ?_)
        · have h := mp_t c7 h
          refine lv_iinc (v := (a4 + 1)) (lv' := [(4, .int (a4 + 1)), (5, .int x3), (0, .ref (ad 0)), (1, .int a1), (2, .int a2), (3, .int a3)]) hx hb dW_namesMovedFrom_53 hl (k := 5) rfl rfl (by decide) rfl (fun ls hl => ?_)
          refine lv_goto (tgt := 5) hx hb dW_namesMovedFrom_56 (by decide) ?_
          exact ih a3 (a4 + 1) h ls (lv_sub hl [2, 3, 4, 5, 0] rfl)
        · have h := mp_f c7 h
          refine lv_iload_n hx hb dW_namesMovedFrom_46 rfl (lv_at hl 4 rfl) ?_
          refine lv_iconst (v := 1) hx hb dW_namesMovedFrom_47 (by decide) ?_
          refine lv_iload hx hb dW_namesMovedFrom_48 (lv_at hl 0 rfl) ?_
          refine lv_ishl hx hb dW_namesMovedFrom_50 ?_
          refine lv_ior hx hb dW_namesMovedFrom_51 ?_
          obtain ⟨x8, ex8, h⟩ := mp_lts h
          refine mp_top ex8 ?_
          refine lv_istore_n (lv' := [(3, .int x8), (5, .int x3), (0, .ref (ad 0)), (1, .int a1), (2, .int a2), (4, .int a4)]) hx hb dW_namesMovedFrom_52 rfl hl (by decide) rfl (fun ls hl => ?_)
          refine lv_iinc (v := (a4 + 1)) (lv' := [(4, .int (a4 + 1)), (3, .int x8), (5, .int x3), (0, .ref (ad 0)), (1, .int a1), (2, .int a2)]) hx hb dW_namesMovedFrom_53 hl (k := 5) rfl rfl (by decide) rfl (fun ls hl => ?_)
          refine lv_goto (tgt := 5) hx hb dW_namesMovedFrom_56 (by decide) ?_
          exact ih x8 (a4 + 1) h ls (lv_sub hl [3, 4, 5, 1, 0] rfl)
def fW_namesMovedFrom (w : SW) (a1 : Int32) (a2 : Int32) : Option Int32 := fW_namesMovedFrom_5 w a1 a2 2000 0 0
set_option maxHeartbeats 4000000 in
set_option maxRecDepth 100000 in
theorem wW_namesMovedFrom {p : Program} {l : Launch} {e : Env} {s : State} {m : MethodId} {args : Array Value} {below : List Frame} {meth : Method} {c : Code} (cx : mp_C p s m args meth c bW_namesMovedFrom 6 (some .int) rW) (k : KK) (ad : Nat → Nat) (w : SW) (a1 : Int32) (a2 : Int32) (z : Int32) (hE : mp_E k s) (hP : va_P (kD k) mp_cls (cW k ad w) s.heap) (hD : va_D (mp_N k) (cW k ad w)) (h : fW_namesMovedFrom w a1 a2 = some z) (ls : Array Slot) (hl : lv_has ls 6 [(0, .ref (ad 0)), (1, .int a1), (2, .int a2)]) : W p l e rmW_namesMovedFrom s m args below meth c s.heap [] 0 0 (MQ below (mp_Qs (some (.int z))) args s 0 0 (fun _ => False)) (F0 m 0 ls []) := by
  obtain ⟨hx, hb, -, hml, hown, hts, -⟩ := id cx
  unfold fW_namesMovedFrom at h
  refine lv_iconst (v := 0) hx hb dW_namesMovedFrom_0 (by decide) ?_
  refine lv_istore_n (lv' := [(3, .int 0), (0, .ref (ad 0)), (1, .int a1), (2, .int a2)]) hx hb dW_namesMovedFrom_1 rfl hl (by decide) rfl (fun ls hl => ?_)
  refine lv_iconst (v := 0) hx hb dW_namesMovedFrom_2 (by decide) ?_
  refine lv_istore (lv' := [(4, .int 0), (3, .int 0), (0, .ref (ad 0)), (1, .int a1), (2, .int a2)]) hx hb dW_namesMovedFrom_3 hl (by decide) rfl (fun ls hl => ?_)
  exact lW_namesMovedFrom_5 cx k ad w a1 a2 z hE hP hD _ 0 0 h ls (lv_sub hl [2, 3, 4, 1, 0] rfl)
theorem cW_namesMovedFrom (l : Launch) (k : KK) (ad : Nat → Nat) (w : SW) (a1 : Int32) (a2 : Int32) (z : Int32) (h : fW_namesMovedFrom w a1 a2 = some z) : mp_CS l k yW_namesMovedFrom bW_namesMovedFrom 6 (some .int) rmW_namesMovedFrom [.ref (ad 0), .int a1, .int a2] (cW k ad w) (some (.int z)) := by
  refine Met.ofW (cc := bW_namesMovedFrom) (maxL := 6) (ret := (some .int)) (by decide) rfl ?_
  intro p e s m args below meth c s₁ B hml hv
  obtain ⟨rfl, hP, hD, hE⟩ := hv
  have hl := lv_entry ([.ref (ad 0), .int a1, .int a2]) (n := 6) (Nat.le_of_ble_eq_true rfl)
  rw [lg_entry_eq]
  generalize (lg_sl ([.ref (ad 0), .int a1, .int a2]) ++ List.replicate (6 - (lg_sl ([.ref (ad 0), .int a1, .int a2])).length) Slot.unset).toArray = ls at hl ⊢
  exact wW_namesMovedFrom (mp_C.of B hml) k ad w a1 a2 z hE hP hD h ls hl
-- MovingPlaces$World.namesThatMove
abbrev rmW_namesThatMove : Room := { frames := 5, cells := 0, slots := 0, locals := 117 }
def fW_namesThatMove_9 (w : SW) (a1 : Int32) : Nat → Int32 → Int32 → Option Int32
  | 0, _, _ => none
  | n + 1, a2, a3 => (if 6 ≤ a3 then some a2 else (fW_namesMovedFrom w a2 a1).bind fun x2 => fW_namesThatMove_9 w a1 n (a2 ||| x2) (a3 + 1))
theorem fW_namesThatMove_9_s (w : SW) (a1 : Int32) (n : Nat) (a2 : Int32) (a3 : Int32) : fW_namesThatMove_9 w a1 (n + 1) a2 a3 = (if 6 ≤ a3 then some a2 else (fW_namesMovedFrom w a2 a1).bind fun x2 => fW_namesThatMove_9 w a1 n (a2 ||| x2) (a3 + 1)) := rfl
set_option maxHeartbeats 4000000 in
set_option maxRecDepth 100000 in
theorem lW_namesThatMove_9 {p : Program} {l : Launch} {e : Env} {s : State} {m : MethodId} {args : Array Value} {below : List Frame} {meth : Method} {c : Code} (cx : mp_C p s m args meth c bW_namesThatMove 4 (some .int) rW) (k : KK) (ad : Nat → Nat) (w : SW) (a1 : Int32) (z : Int32) (hE : mp_E k s) (hP : va_P (kD k) mp_cls (cW k ad w) s.heap) (hD : va_D (mp_N k) (cW k ad w)) : ∀ (n : Nat) (a2 : Int32) (a3 : Int32), fW_namesThatMove_9 w a1 n a2 a3 = some z → ∀ (ls : Array Slot), lv_has ls 4 [(0, .ref (ad 0)), (1, .int a1), (2, .int a2), (3, .int a3)] → W p l e rmW_namesThatMove s m args below meth c s.heap [] 0 0 (MQ below (mp_Qs (some (.int z))) args s 0 0 (fun _ => False)) (F0 m 9 ls []) := by
  obtain ⟨hx, hb, -, hml, hown, hts, -⟩ := id cx
  intro n
  induction n with
  | zero =>
    intro a2 a3 h
    have h : (none : Option Int32) = some z := h
    cases h
  | succ n ih =>
    intro a2 a3 h ls hl
    rw [fW_namesThatMove_9_s] at h
    refine lv_iload_n hx hb dW_namesThatMove_9 rfl (lv_at hl 3 rfl) ?_
    refine lv_bipush (v := 6) hx hb dW_namesThatMove_10 (by decide) ?_
    refine lv_icmp_ge (tgt := 30) hx hb dW_namesThatMove_12 (by decide) (fun c1 => ?_) (fun c1 => ?_)
    · have h := mp_t c1 h
      refine lv_iload_n hx hb dW_namesThatMove_30 rfl (lv_at hl 2 rfl) ?_
      exact mp_ri cx h dW_namesThatMove_31
    · have h := mp_f c1 h
      refine lv_iload_n hx hb dW_namesThatMove_15 rfl (lv_at hl 2 rfl) ?_
      refine lv_aload_n hx hb dW_namesThatMove_16 rfl (lv_at hl 0 rfl) ?_
      refine lv_iload_n hx hb dW_namesThatMove_17 rfl (lv_at hl 2 rfl) ?_
      refine lv_iload_n hx hb dW_namesThatMove_18 rfl (lv_at hl 1 rfl) ?_
      obtain ⟨x2, ex2, h⟩ := mp_bs h
      refine mp_si (mp_runV (As := [.int a2, .int a1]) (rest := [.int a2]) cx kV_W_142 (cW_namesMovedFrom l k ad w a2 a1 x2 ex2) ⟨rfl, rfl, Nat.le_of_ble_eq_true rfl, Nat.le_of_ble_eq_true rfl⟩ ⟨Nat.zero_le _, Nat.zero_le _⟩ hE hP hD va_S.rf 0 rfl rfl rfl hl.1 rfl (Nat.le_of_ble_eq_true rfl) dW_namesThatMove_19) ?_
      refine lv_ior hx hb dW_namesThatMove_22 ?_
      refine lv_istore_n (lv' := [(2, .int (a2 ||| x2)), (0, .ref (ad 0)), (1, .int a1), (3, .int a3)]) hx hb dW_namesThatMove_23 rfl hl (by decide) rfl (fun ls hl => ?_)
      refine lv_iinc (v := (a3 + 1)) (lv' := [(3, .int (a3 + 1)), (2, .int (a2 ||| x2)), (0, .ref (ad 0)), (1, .int a1)]) hx hb dW_namesThatMove_24 hl (k := 3) rfl rfl (by decide) rfl (fun ls hl => ?_)
      refine lv_goto (tgt := 9) hx hb dW_namesThatMove_27 (by decide) ?_
      exact ih (a2 ||| x2) (a3 + 1) h ls (lv_sub hl [2, 3, 1, 0] rfl)
def fW_namesThatMove (w : SW) : Option Int32 := (fW_namesThatMayBeSaid w).bind fun x1 => fW_namesThatMove_9 w x1 2000 0 0
set_option maxHeartbeats 4000000 in
set_option maxRecDepth 100000 in
theorem wW_namesThatMove {p : Program} {l : Launch} {e : Env} {s : State} {m : MethodId} {args : Array Value} {below : List Frame} {meth : Method} {c : Code} (cx : mp_C p s m args meth c bW_namesThatMove 4 (some .int) rW) (k : KK) (ad : Nat → Nat) (w : SW) (z : Int32) (hE : mp_E k s) (hP : va_P (kD k) mp_cls (cW k ad w) s.heap) (hD : va_D (mp_N k) (cW k ad w)) (h : fW_namesThatMove w = some z) (ls : Array Slot) (hl : lv_has ls 4 [(0, .ref (ad 0))]) : W p l e rmW_namesThatMove s m args below meth c s.heap [] 0 0 (MQ below (mp_Qs (some (.int z))) args s 0 0 (fun _ => False)) (F0 m 0 ls []) := by
  obtain ⟨hx, hb, -, hml, hown, hts, -⟩ := id cx
  unfold fW_namesThatMove at h
  refine lv_aload_n hx hb dW_namesThatMove_0 rfl (lv_at hl 0 rfl) ?_
  obtain ⟨x1, ex1, h⟩ := mp_bs h
  refine mp_si (mp_runV (As := []) (rest := []) cx kV_W_138 (cW_namesThatMayBeSaid l k ad w x1 ex1) ⟨rfl, rfl, Nat.le_of_ble_eq_true rfl, Nat.le_of_ble_eq_true rfl⟩ ⟨Nat.zero_le _, Nat.zero_le _⟩ hE hP hD va_S.rf 0 rfl rfl rfl hl.1 rfl (Nat.le_of_ble_eq_true rfl) dW_namesThatMove_1) ?_
  refine lv_istore_n (lv' := [(1, .int x1), (0, .ref (ad 0))]) hx hb dW_namesThatMove_4 rfl hl (by decide) rfl (fun ls hl => ?_)
  refine lv_iconst (v := 0) hx hb dW_namesThatMove_5 (by decide) ?_
  refine lv_istore_n (lv' := [(2, .int 0), (1, .int x1), (0, .ref (ad 0))]) hx hb dW_namesThatMove_6 rfl hl (by decide) rfl (fun ls hl => ?_)
  refine lv_iconst (v := 0) hx hb dW_namesThatMove_7 (by decide) ?_
  refine lv_istore_n (lv' := [(3, .int 0), (2, .int 0), (1, .int x1), (0, .ref (ad 0))]) hx hb dW_namesThatMove_8 rfl hl (by decide) rfl (fun ls hl => ?_)
  exact lW_namesThatMove_9 cx k ad w x1 z hE hP hD _ 0 0 h ls (lv_sub hl [3, 2, 1, 0] rfl)
theorem cW_namesThatMove (l : Launch) (k : KK) (ad : Nat → Nat) (w : SW) (z : Int32) (h : fW_namesThatMove w = some z) : mp_CS l k yW_namesThatMove bW_namesThatMove 4 (some .int) rmW_namesThatMove [.ref (ad 0)] (cW k ad w) (some (.int z)) := by
  refine Met.ofW (cc := bW_namesThatMove) (maxL := 4) (ret := (some .int)) (by decide) rfl ?_
  intro p e s m args below meth c s₁ B hml hv
  obtain ⟨rfl, hP, hD, hE⟩ := hv
  have hl := lv_entry ([.ref (ad 0)]) (n := 4) (Nat.le_of_ble_eq_true rfl)
  rw [lg_entry_eq]
  generalize (lg_sl ([.ref (ad 0)]) ++ List.replicate (4 - (lg_sl ([.ref (ad 0)])).length) Slot.unset).toArray = ls at hl ⊢
  exact wW_namesThatMove (mp_C.of B hml) k ad w z hE hP hD h ls hl
end
