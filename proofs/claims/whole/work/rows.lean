section
-- ===== PART A: goes FIRST, ahead of the names: the tables' words, and 'selects' of the private methods out of them =====
/-- a private method of a class that the tables say can be made, by its rows of tables_1 -/
def lw_okq (q : MethodName × Nat) : Prop := (q.1.cls ≠ "java/lang/invoke/MethodHandle" ∧ q.1.cls ≠ "java/lang/invoke/VarHandle") ∧ Cond.instantiable q.1.cls q.2 ∈ tables_1 ∧ Cond.privateMethod q.1 ∈ tables_1 ∧ Cond.instanceMethod q.1 ∈ tables_1
theorem lw_p0 : lw_okq (⟨"WatchValley", "newLot", "(I)LWatchValley$Lot;"⟩, 14) := ⟨⟨by decide +kernel, by decide +kernel⟩, List.mem_of_getElem? (i := 20) (by decide +kernel), List.mem_of_getElem? (i := 204) (by decide +kernel), List.mem_of_getElem? (i := 205) (by decide +kernel)⟩
theorem lw_p1 : lw_okq (⟨"WatchValley", "lotAtHouse", "(I)LWatchValley$Lot;"⟩, 14) := ⟨⟨by decide +kernel, by decide +kernel⟩, List.mem_of_getElem? (i := 20) (by decide +kernel), List.mem_of_getElem? (i := 312) (by decide +kernel), List.mem_of_getElem? (i := 313) (by decide +kernel)⟩
theorem lw_p2 : lw_okq (⟨"WatchValley", "lotNumbered", "(I)LWatchValley$Lot;"⟩, 14) := ⟨⟨by decide +kernel, by decide +kernel⟩, List.mem_of_getElem? (i := 20) (by decide +kernel), List.mem_of_getElem? (i := 316) (by decide +kernel), List.mem_of_getElem? (i := 317) (by decide +kernel)⟩
theorem lw_p3 : lw_okq (⟨"WatchValley", "homeNumbered", "(I)LWatchValley$Home;"⟩, 14) := ⟨⟨by decide +kernel, by decide +kernel⟩, List.mem_of_getElem? (i := 20) (by decide +kernel), List.mem_of_getElem? (i := 337) (by decide +kernel), List.mem_of_getElem? (i := 338) (by decide +kernel)⟩
theorem lw_p4 : lw_okq (⟨"WatchValley$Home", "release", "(LWatchValley$Lot;)V"⟩, 12) := ⟨⟨by decide +kernel, by decide +kernel⟩, List.mem_of_getElem? (i := 142) (by decide +kernel), List.mem_of_getElem? (i := 380) (by decide +kernel), List.mem_of_getElem? (i := 381) (by decide +kernel)⟩
theorem lw_p5 : lw_okq (⟨"WatchValley$Home", "workPiece", "(LWatchValley$Lot;LWatchValley$Piece;)V"⟩, 12) := ⟨⟨by decide +kernel, by decide +kernel⟩, List.mem_of_getElem? (i := 142) (by decide +kernel), List.mem_of_getElem? (i := 388) (by decide +kernel), List.mem_of_getElem? (i := 389) (by decide +kernel)⟩
theorem lw_p6 : lw_okq (⟨"WatchValley", "brokenPieces", "()I"⟩, 14) := ⟨⟨by decide +kernel, by decide +kernel⟩, List.mem_of_getElem? (i := 20) (by decide +kernel), List.mem_of_getElem? (i := 401) (by decide +kernel), List.mem_of_getElem? (i := 402) (by decide +kernel)⟩
theorem lw_p7 : lw_okq (⟨"WatchValley", "watchesBack", "()I"⟩, 14) := ⟨⟨by decide +kernel, by decide +kernel⟩, List.mem_of_getElem? (i := 20) (by decide +kernel), List.mem_of_getElem? (i := 405) (by decide +kernel), List.mem_of_getElem? (i := 406) (by decide +kernel)⟩
theorem lw_p8 : lw_okq (⟨"WatchValley", "watchNumbered", "(I)LWatchValley$Watch;"⟩, 14) := ⟨⟨by decide +kernel, by decide +kernel⟩, List.mem_of_getElem? (i := 20) (by decide +kernel), List.mem_of_getElem? (i := 409) (by decide +kernel), List.mem_of_getElem? (i := 410) (by decide +kernel)⟩
theorem lw_p9 : lw_okq (⟨"WatchValley", "lotsOut", "()I"⟩, 14) := ⟨⟨by decide +kernel, by decide +kernel⟩, List.mem_of_getElem? (i := 20) (by decide +kernel), List.mem_of_getElem? (i := 413) (by decide +kernel), List.mem_of_getElem? (i := 414) (by decide +kernel)⟩
theorem lw_p10 : lw_okq (⟨"WatchValley", "pieceNumbered", "(I)LWatchValley$Piece;"⟩, 14) := ⟨⟨by decide +kernel, by decide +kernel⟩, List.mem_of_getElem? (i := 20) (by decide +kernel), List.mem_of_getElem? (i := 468) (by decide +kernel), List.mem_of_getElem? (i := 469) (by decide +kernel)⟩
theorem lw_p11 : lw_okq (⟨"WatchValley", "lotForMaking", "(II)LWatchValley$Lot;"⟩, 14) := ⟨⟨by decide +kernel, by decide +kernel⟩, List.mem_of_getElem? (i := 20) (by decide +kernel), List.mem_of_getElem? (i := 480) (by decide +kernel), List.mem_of_getElem? (i := 481) (by decide +kernel)⟩
theorem lw_p12 : lw_okq (⟨"WatchValley$Making", "tryWheel", "(III)V"⟩, 5) := ⟨⟨by decide +kernel, by decide +kernel⟩, List.mem_of_getElem? (i := 51) (by decide +kernel), List.mem_of_getElem? (i := 506) (by decide +kernel), List.mem_of_getElem? (i := 507) (by decide +kernel)⟩
theorem lw_p13 : lw_okq (⟨"WatchValley$Mates", "seatOrMove", "(II)Z"⟩, 5) := ⟨⟨by decide +kernel, by decide +kernel⟩, List.mem_of_getElem? (i := 57) (by decide +kernel), List.mem_of_getElem? (i := 514) (by decide +kernel), List.mem_of_getElem? (i := 515) (by decide +kernel)⟩
theorem lw_p14 : lw_okq (⟨"WatchValley$Mates", "firstPlaceFor", "(II)I"⟩, 5) := ⟨⟨by decide +kernel, by decide +kernel⟩, List.mem_of_getElem? (i := 57) (by decide +kernel), List.mem_of_getElem? (i := 534) (by decide +kernel), List.mem_of_getElem? (i := 535) (by decide +kernel)⟩
theorem lw_p15 : lw_okq (⟨"WatchValley$Mates", "canSeatBehind", "(II)Z"⟩, 5) := ⟨⟨by decide +kernel, by decide +kernel⟩, List.mem_of_getElem? (i := 57) (by decide +kernel), List.mem_of_getElem? (i := 538) (by decide +kernel), List.mem_of_getElem? (i := 539) (by decide +kernel)⟩
def lw_privs_1 : List (MethodName × Nat) := [(⟨"WatchValley", "newLot", "(I)LWatchValley$Lot;"⟩, 14), (⟨"WatchValley", "lotAtHouse", "(I)LWatchValley$Lot;"⟩, 14), (⟨"WatchValley", "lotNumbered", "(I)LWatchValley$Lot;"⟩, 14), (⟨"WatchValley", "homeNumbered", "(I)LWatchValley$Home;"⟩, 14), (⟨"WatchValley$Home", "release", "(LWatchValley$Lot;)V"⟩, 12), (⟨"WatchValley$Home", "workPiece", "(LWatchValley$Lot;LWatchValley$Piece;)V"⟩, 12), (⟨"WatchValley", "brokenPieces", "()I"⟩, 14), (⟨"WatchValley", "watchesBack", "()I"⟩, 14), (⟨"WatchValley", "watchNumbered", "(I)LWatchValley$Watch;"⟩, 14), (⟨"WatchValley", "lotsOut", "()I"⟩, 14), (⟨"WatchValley", "pieceNumbered", "(I)LWatchValley$Piece;"⟩, 14), (⟨"WatchValley", "lotForMaking", "(II)LWatchValley$Lot;"⟩, 14), (⟨"WatchValley$Making", "tryWheel", "(III)V"⟩, 5), (⟨"WatchValley$Mates", "seatOrMove", "(II)Z"⟩, 5), (⟨"WatchValley$Mates", "firstPlaceFor", "(II)I"⟩, 5), (⟨"WatchValley$Mates", "canSeatBehind", "(II)Z"⟩, 5)]
theorem lw_r1 : ∀ q ∈ lw_privs_1, lw_okq q := List.forall_mem_cons.mpr ⟨lw_p0, List.forall_mem_cons.mpr ⟨lw_p1, List.forall_mem_cons.mpr ⟨lw_p2, List.forall_mem_cons.mpr ⟨lw_p3, List.forall_mem_cons.mpr ⟨lw_p4, List.forall_mem_cons.mpr ⟨lw_p5, List.forall_mem_cons.mpr ⟨lw_p6, List.forall_mem_cons.mpr ⟨lw_p7, List.forall_mem_cons.mpr ⟨lw_p8, List.forall_mem_cons.mpr ⟨lw_p9, List.forall_mem_cons.mpr ⟨lw_p10, List.forall_mem_cons.mpr ⟨lw_p11, List.forall_mem_cons.mpr ⟨lw_p12, List.forall_mem_cons.mpr ⟨lw_p13, List.forall_mem_cons.mpr ⟨lw_p14, List.forall_mem_cons.mpr ⟨lw_p15, fun _ h => absurd h List.not_mem_nil⟩⟩⟩⟩⟩⟩⟩⟩⟩⟩⟩⟩⟩⟩⟩⟩
theorem lw_p16 : lw_okq (⟨"WatchValley", "assemble", "(LWatchValley$Piece;LWatchValley$Piece;LWatchValley$Piece;)V"⟩, 14) := ⟨⟨by decide +kernel, by decide +kernel⟩, List.mem_of_getElem? (i := 20) (by decide +kernel), List.mem_of_getElem? (i := 559) (by decide +kernel), List.mem_of_getElem? (i := 560) (by decide +kernel)⟩
theorem lw_p17 : lw_okq (⟨"WatchValley", "watchesOf", "(IZ)I"⟩, 14) := ⟨⟨by decide +kernel, by decide +kernel⟩, List.mem_of_getElem? (i := 20) (by decide +kernel), List.mem_of_getElem? (i := 605) (by decide +kernel), List.mem_of_getElem? (i := 606) (by decide +kernel)⟩
theorem lw_p18 : lw_okq (⟨"java/lang/Throwable", "fillInStackTrace", "(I)Ljava/lang/Throwable;"⟩, 6) := ⟨⟨by decide +kernel, by decide +kernel⟩, List.mem_of_getElem? (i := 670) (by decide +kernel), List.mem_of_getElem? (i := 668) (by decide +kernel), List.mem_of_getElem? (i := 669) (by decide +kernel)⟩
theorem lw_p19 : lw_okq (⟨"WatchValley$Home", "wageFor", "(II)I"⟩, 12) := ⟨⟨by decide +kernel, by decide +kernel⟩, List.mem_of_getElem? (i := 142) (by decide +kernel), List.mem_of_getElem? (i := 714) (by decide +kernel), List.mem_of_getElem? (i := 715) (by decide +kernel)⟩
theorem lw_p20 : lw_okq (⟨"WatchValleyModel", "newLot", "(I)I"⟩, 43) := ⟨⟨by decide +kernel, by decide +kernel⟩, List.mem_of_getElem? (i := 718) (by decide +kernel), List.mem_of_getElem? (i := 872) (by decide +kernel), List.mem_of_getElem? (i := 873) (by decide +kernel)⟩
theorem lw_p21 : lw_okq (⟨"WatchValleyModel", "add", "(II)V"⟩, 43) := ⟨⟨by decide +kernel, by decide +kernel⟩, List.mem_of_getElem? (i := 718) (by decide +kernel), List.mem_of_getElem? (i := 876) (by decide +kernel), List.mem_of_getElem? (i := 877) (by decide +kernel)⟩
theorem lw_p22 : lw_okq (⟨"WatchValleyModel", "isHere", "(I)Z"⟩, 43) := ⟨⟨by decide +kernel, by decide +kernel⟩, List.mem_of_getElem? (i := 718) (by decide +kernel), List.mem_of_getElem? (i := 884) (by decide +kernel), List.mem_of_getElem? (i := 885) (by decide +kernel)⟩
theorem lw_p23 : lw_okq (⟨"WatchValleyModel", "isLot", "(I)Z"⟩, 43) := ⟨⟨by decide +kernel, by decide +kernel⟩, List.mem_of_getElem? (i := 718) (by decide +kernel), List.mem_of_getElem? (i := 888) (by decide +kernel), List.mem_of_getElem? (i := 889) (by decide +kernel)⟩
theorem lw_p24 : lw_okq (⟨"WatchValleyModel", "take", "(II)V"⟩, 43) := ⟨⟨by decide +kernel, by decide +kernel⟩, List.mem_of_getElem? (i := 718) (by decide +kernel), List.mem_of_getElem? (i := 892) (by decide +kernel), List.mem_of_getElem? (i := 893) (by decide +kernel)⟩
theorem lw_p25 : lw_okq (⟨"WatchValleyModel", "goes", "(Z)V"⟩, 43) := ⟨⟨by decide +kernel, by decide +kernel⟩, List.mem_of_getElem? (i := 718) (by decide +kernel), List.mem_of_getElem? (i := 908) (by decide +kernel), List.mem_of_getElem? (i := 909) (by decide +kernel)⟩
theorem lw_p26 : lw_okq (⟨"WatchValleyModel", "first", "(I)I"⟩, 43) := ⟨⟨by decide +kernel, by decide +kernel⟩, List.mem_of_getElem? (i := 718) (by decide +kernel), List.mem_of_getElem? (i := 912) (by decide +kernel), List.mem_of_getElem? (i := 913) (by decide +kernel)⟩
theorem lw_p27 : lw_okq (⟨"WatchValleyModel", "work", "(II)V"⟩, 43) := ⟨⟨by decide +kernel, by decide +kernel⟩, List.mem_of_getElem? (i := 718) (by decide +kernel), List.mem_of_getElem? (i := 916) (by decide +kernel), List.mem_of_getElem? (i := 917) (by decide +kernel)⟩
theorem lw_p28 : lw_okq (⟨"WatchValleyModel", "outMany", "()I"⟩, 43) := ⟨⟨by decide +kernel, by decide +kernel⟩, List.mem_of_getElem? (i := 718) (by decide +kernel), List.mem_of_getElem? (i := 924) (by decide +kernel), List.mem_of_getElem? (i := 925) (by decide +kernel)⟩
theorem lw_p29 : lw_okq (⟨"WatchValleyModel", "wageFor", "(III)I"⟩, 43) := ⟨⟨by decide +kernel, by decide +kernel⟩, List.mem_of_getElem? (i := 718) (by decide +kernel), List.mem_of_getElem? (i := 952) (by decide +kernel), List.mem_of_getElem? (i := 953) (by decide +kernel)⟩
theorem lw_p30 : lw_okq (⟨"WatchValleyModel", "doFit", "(II)Z"⟩, 43) := ⟨⟨by decide +kernel, by decide +kernel⟩, List.mem_of_getElem? (i := 718) (by decide +kernel), List.mem_of_getElem? (i := 964) (by decide +kernel), List.mem_of_getElem? (i := 965) (by decide +kernel)⟩
theorem lw_p31 : lw_okq (⟨"WatchValleyModel", "areLots", "(III)Z"⟩, 43) := ⟨⟨by decide +kernel, by decide +kernel⟩, List.mem_of_getElem? (i := 718) (by decide +kernel), List.mem_of_getElem? (i := 972) (by decide +kernel), List.mem_of_getElem? (i := 973) (by decide +kernel)⟩
def lw_privs_2 : List (MethodName × Nat) := [(⟨"WatchValley", "assemble", "(LWatchValley$Piece;LWatchValley$Piece;LWatchValley$Piece;)V"⟩, 14), (⟨"WatchValley", "watchesOf", "(IZ)I"⟩, 14), (⟨"java/lang/Throwable", "fillInStackTrace", "(I)Ljava/lang/Throwable;"⟩, 6), (⟨"WatchValley$Home", "wageFor", "(II)I"⟩, 12), (⟨"WatchValleyModel", "newLot", "(I)I"⟩, 43), (⟨"WatchValleyModel", "add", "(II)V"⟩, 43), (⟨"WatchValleyModel", "isHere", "(I)Z"⟩, 43), (⟨"WatchValleyModel", "isLot", "(I)Z"⟩, 43), (⟨"WatchValleyModel", "take", "(II)V"⟩, 43), (⟨"WatchValleyModel", "goes", "(Z)V"⟩, 43), (⟨"WatchValleyModel", "first", "(I)I"⟩, 43), (⟨"WatchValleyModel", "work", "(II)V"⟩, 43), (⟨"WatchValleyModel", "outMany", "()I"⟩, 43), (⟨"WatchValleyModel", "wageFor", "(III)I"⟩, 43), (⟨"WatchValleyModel", "doFit", "(II)Z"⟩, 43), (⟨"WatchValleyModel", "areLots", "(III)Z"⟩, 43)]
theorem lw_r2 : ∀ q ∈ lw_privs_2, lw_okq q := List.forall_mem_cons.mpr ⟨lw_p16, List.forall_mem_cons.mpr ⟨lw_p17, List.forall_mem_cons.mpr ⟨lw_p18, List.forall_mem_cons.mpr ⟨lw_p19, List.forall_mem_cons.mpr ⟨lw_p20, List.forall_mem_cons.mpr ⟨lw_p21, List.forall_mem_cons.mpr ⟨lw_p22, List.forall_mem_cons.mpr ⟨lw_p23, List.forall_mem_cons.mpr ⟨lw_p24, List.forall_mem_cons.mpr ⟨lw_p25, List.forall_mem_cons.mpr ⟨lw_p26, List.forall_mem_cons.mpr ⟨lw_p27, List.forall_mem_cons.mpr ⟨lw_p28, List.forall_mem_cons.mpr ⟨lw_p29, List.forall_mem_cons.mpr ⟨lw_p30, List.forall_mem_cons.mpr ⟨lw_p31, fun _ h => absurd h List.not_mem_nil⟩⟩⟩⟩⟩⟩⟩⟩⟩⟩⟩⟩⟩⟩⟩⟩
theorem lw_p32 : lw_okq (⟨"WatchValleyModel", "taken", "(III)I"⟩, 43) := ⟨⟨by decide +kernel, by decide +kernel⟩, List.mem_of_getElem? (i := 718) (by decide +kernel), List.mem_of_getElem? (i := 976) (by decide +kernel), List.mem_of_getElem? (i := 977) (by decide +kernel)⟩
theorem lw_p33 : lw_okq (⟨"WatchValleyModel", "can", "(III)Z"⟩, 43) := ⟨⟨by decide +kernel, by decide +kernel⟩, List.mem_of_getElem? (i := 718) (by decide +kernel), List.mem_of_getElem? (i := 989) (by decide +kernel), List.mem_of_getElem? (i := 990) (by decide +kernel)⟩
theorem lw_p34 : lw_okq (⟨"WatchValleyModel", "firstFor", "(IIII)I"⟩, 43) := ⟨⟨by decide +kernel, by decide +kernel⟩, List.mem_of_getElem? (i := 718) (by decide +kernel), List.mem_of_getElem? (i := 1001) (by decide +kernel), List.mem_of_getElem? (i := 1002) (by decide +kernel)⟩
theorem lw_p35 : lw_okq (⟨"WatchValleyModel", "leave", "(II)V"⟩, 43) := ⟨⟨by decide +kernel, by decide +kernel⟩, List.mem_of_getElem? (i := 718) (by decide +kernel), List.mem_of_getElem? (i := 1005) (by decide +kernel), List.mem_of_getElem? (i := 1006) (by decide +kernel)⟩
theorem lw_p36 : lw_okq (⟨"WatchValleyModel", "homesOfWatch", "(I)I"⟩, 43) := ⟨⟨by decide +kernel, by decide +kernel⟩, List.mem_of_getElem? (i := 718) (by decide +kernel), List.mem_of_getElem? (i := 1013) (by decide +kernel), List.mem_of_getElem? (i := 1014) (by decide +kernel)⟩
theorem lw_p37 : lw_okq (⟨"WatchValleyModel", "countOf", "(IZ)I"⟩, 43) := ⟨⟨by decide +kernel, by decide +kernel⟩, List.mem_of_getElem? (i := 718) (by decide +kernel), List.mem_of_getElem? (i := 1025) (by decide +kernel), List.mem_of_getElem? (i := 1026) (by decide +kernel)⟩
def lw_privs_3 : List (MethodName × Nat) := [(⟨"WatchValleyModel", "taken", "(III)I"⟩, 43), (⟨"WatchValleyModel", "can", "(III)Z"⟩, 43), (⟨"WatchValleyModel", "firstFor", "(IIII)I"⟩, 43), (⟨"WatchValleyModel", "leave", "(II)V"⟩, 43), (⟨"WatchValleyModel", "homesOfWatch", "(I)I"⟩, 43), (⟨"WatchValleyModel", "countOf", "(IZ)I"⟩, 43)]
theorem lw_r3 : ∀ q ∈ lw_privs_3, lw_okq q := List.forall_mem_cons.mpr ⟨lw_p32, List.forall_mem_cons.mpr ⟨lw_p33, List.forall_mem_cons.mpr ⟨lw_p34, List.forall_mem_cons.mpr ⟨lw_p35, List.forall_mem_cons.mpr ⟨lw_p36, List.forall_mem_cons.mpr ⟨lw_p37, fun _ h => absurd h List.not_mem_nil⟩⟩⟩⟩⟩⟩
def lw_privs : List (MethodName × Nat) := lw_privs_1 ++ (lw_privs_2 ++ (lw_privs_3))
def lw_tbl : List Cond := k2_sels lw_privs ++ tables_1
theorem lw_privs_ok : ∀ q ∈ lw_privs, lw_okq q := by
  show ∀ q ∈ lw_privs_1 ++ (lw_privs_2 ++ (lw_privs_3)), lw_okq q
  exact List.forall_mem_append.mpr ⟨lw_r1, List.forall_mem_append.mpr ⟨lw_r2, lw_r3⟩⟩
/-! names: the classes whose objects the worlds hold, by number; the owners of code, by number -/
def T_0 : u_T := fun k => match k with
  | 0 => ("WatchValley$Fit", "low", "I", false)
  | _ => ("WatchValley$Fit", "high", "I", false)
def ty_0 : Nat → FieldType := fun k => match k with
  | 0 => .int
  | _ => .int
def T_1 : u_T := fun k => match k with
  | 0 => ("WatchValley$Home", "number", "I", true)
  | 1 => ("WatchValley$Home", "rate", "I", true)
  | 2 => ("WatchValley$Home", "off", "I", true)
  | 3 => ("WatchValley$Home", "breaks", "I", true)
  | 4 => ("WatchValley$Home", "way", "I", true)
  | 5 => ("WatchValley$Home", "worked", "I", false)
  | 6 => ("WatchValley$Home", "broke", "I", false)
  | 7 => ("WatchValley$Home", "waiting", "I", false)
  | 8 => ("WatchValley$Home", "firstWaiting", "LWatchValley$Lot;", false)
  | 9 => ("WatchValley$Home", "lastWaiting", "LWatchValley$Lot;", false)
  | 10 => ("WatchValley$Home", "lastSending", "LWatchValley$Sending;", false)
  | _ => ("WatchValley$Home", "lastWage", "LWatchValley$Wage;", false)
def ty_1 : Nat → FieldType := fun k => match k with
  | 0 => .int
  | 1 => .int
  | 2 => .int
  | 3 => .int
  | 4 => .int
  | 5 => .int
  | 6 => .int
  | 7 => .int
  | 8 => .object "WatchValley$Lot"
  | 9 => .object "WatchValley$Lot"
  | 10 => .object "WatchValley$Sending"
  | _ => .object "WatchValley$Wage"
def T_2 : u_T := fun k => match k with
  | 0 => ("WatchValley$Lot", "number", "I", true)
  | 1 => ("WatchValley$Lot", "kind", "I", true)
  | 2 => ("WatchValley$Lot", "first", "LWatchValley$Piece;", false)
  | 3 => ("WatchValley$Lot", "last", "LWatchValley$Piece;", false)
  | 4 => ("WatchValley$Lot", "size", "I", false)
  | 5 => ("WatchValley$Lot", "stand", "I", false)
  | 6 => ("WatchValley$Lot", "home", "LWatchValley$Home;", false)
  | 7 => ("WatchValley$Lot", "toGo", "I", false)
  | 8 => ("WatchValley$Lot", "lastWorked", "LWatchValley$Piece;", false)
  | 9 => ("WatchValley$Lot", "worked", "I", false)
  | _ => ("WatchValley$Lot", "nextWaiting", "LWatchValley$Lot;", false)
def ty_2 : Nat → FieldType := fun k => match k with
  | 0 => .int
  | 1 => .int
  | 2 => .object "WatchValley$Piece"
  | 3 => .object "WatchValley$Piece"
  | 4 => .int
  | 5 => .int
  | 6 => .object "WatchValley$Home"
  | 7 => .int
  | 8 => .object "WatchValley$Piece"
  | 9 => .int
  | _ => .object "WatchValley$Lot"
def T_3 : u_T := fun k => match k with
  | 0 => ("WatchValley$Making", "plates", "LWatchValley$Mates;", true)
  | 1 => ("WatchValley$Making", "stones", "LWatchValley$Mates;", true)
  | 2 => ("WatchValley$Making", "wheelCount", "I", false)
  | 3 => ("WatchValley$Making", "bestCount", "I", false)
  | _ => ("WatchValley$Making", "bestSet", "I", false)
def ty_3 : Nat → FieldType := fun k => match k with
  | 0 => .object "WatchValley$Mates"
  | 1 => .object "WatchValley$Mates"
  | 2 => .int
  | 3 => .int
  | _ => .int
def T_4 : u_T := fun k => match k with
  | 0 => ("WatchValley$Mates", "fitting", "[I", true)
  | 1 => ("WatchValley$Mates", "holder", "[I", true)
  | 2 => ("WatchValley$Mates", "settled", "[I", true)
  | 3 => ("WatchValley$Mates", "given", "I", false)
  | _ => ("WatchValley$Mates", "seen", "I", false)
def ty_4 : Nat → FieldType := fun k => match k with
  | 0 => .array .int
  | 1 => .array .int
  | 2 => .array .int
  | 3 => .int
  | _ => .int
def T_5 : u_T := fun k => match k with
  | 0 => ("WatchValley$Piece", "number", "I", true)
  | 1 => ("WatchValley$Piece", "kind", "I", true)
  | 2 => ("WatchValley$Piece", "raw", "I", true)
  | 3 => ("WatchValley$Piece", "size", "I", false)
  | 4 => ("WatchValley$Piece", "homes", "I", false)
  | 5 => ("WatchValley$Piece", "state", "I", false)
  | 6 => ("WatchValley$Piece", "place", "I", false)
  | _ => ("WatchValley$Piece", "next", "LWatchValley$Piece;", false)
def ty_5 : Nat → FieldType := fun k => match k with
  | 0 => .int
  | 1 => .int
  | 2 => .int
  | 3 => .int
  | 4 => .int
  | 5 => .int
  | 6 => .int
  | _ => .object "WatchValley$Piece"
def T_6 : u_T := fun k => match k with
  | 0 => ("WatchValley$Sending", "day", "I", true)
  | 1 => ("WatchValley$Sending", "pieces", "I", true)
  | _ => ("WatchValley$Sending", "before", "LWatchValley$Sending;", true)
def ty_6 : Nat → FieldType := fun k => match k with
  | 0 => .int
  | 1 => .int
  | _ => .object "WatchValley$Sending"
def T_7 : u_T := fun k => match k with
  | 0 => ("WatchValley$Wage", "toldOn", "I", true)
  | 1 => ("WatchValley$Wage", "from", "I", true)
  | 2 => ("WatchValley$Wage", "amount", "I", true)
  | _ => ("WatchValley$Wage", "before", "LWatchValley$Wage;", true)
def ty_7 : Nat → FieldType := fun k => match k with
  | 0 => .int
  | 1 => .int
  | 2 => .int
  | _ => .object "WatchValley$Wage"
def T_8 : u_T := fun k => match k with
  | 0 => ("WatchValley$Watch", "plate", "LWatchValley$Piece;", true)
  | 1 => ("WatchValley$Watch", "wheel", "LWatchValley$Piece;", true)
  | 2 => ("WatchValley$Watch", "stone", "LWatchValley$Piece;", true)
  | _ => ("WatchValley$Watch", "isBack", "Z", false)
def ty_8 : Nat → FieldType := fun k => match k with
  | 0 => .object "WatchValley$Piece"
  | 1 => .object "WatchValley$Piece"
  | 2 => .object "WatchValley$Piece"
  | _ => .boolean
def T_9 : u_T := fun k => match k with
  | 0 => ("WatchValley", "pieces", "[LWatchValley$Piece;", true)
  | 1 => ("WatchValley", "lots", "[LWatchValley$Lot;", true)
  | 2 => ("WatchValley", "homes", "[LWatchValley$Home;", true)
  | 3 => ("WatchValley", "watches", "[LWatchValley$Watch;", true)
  | 4 => ("WatchValley", "plateFit", "LWatchValley$Fit;", true)
  | 5 => ("WatchValley", "stoneFit", "LWatchValley$Fit;", true)
  | 6 => ("WatchValley", "making", "LWatchValley$Making;", true)
  | 7 => ("WatchValley", "pieceCount", "I", false)
  | 8 => ("WatchValley", "lotCount", "I", false)
  | 9 => ("WatchValley", "homeCount", "I", false)
  | 10 => ("WatchValley", "watchCount", "I", false)
  | 11 => ("WatchValley", "sendingCount", "I", false)
  | 12 => ("WatchValley", "wageCount", "I", false)
  | _ => ("WatchValley", "today", "I", false)
def ty_9 : Nat → FieldType := fun k => match k with
  | 0 => .array (.object "WatchValley$Piece")
  | 1 => .array (.object "WatchValley$Lot")
  | 2 => .array (.object "WatchValley$Home")
  | 3 => .array (.object "WatchValley$Watch")
  | 4 => .object "WatchValley$Fit"
  | 5 => .object "WatchValley$Fit"
  | 6 => .object "WatchValley$Making"
  | 7 => .int
  | 8 => .int
  | 9 => .int
  | 10 => .int
  | 11 => .int
  | 12 => .int
  | _ => .int
def T_10 : u_T := fun k => match k with
  | 0 => ("WatchValleyModel", "kind", "[I", true)
  | 1 => ("WatchValleyModel", "size", "[I", true)
  | 2 => ("WatchValleyModel", "raw", "[I", true)
  | 3 => ("WatchValleyModel", "homesOf", "[I", true)
  | 4 => ("WatchValleyModel", "state", "[I", true)
  | 5 => ("WatchValleyModel", "in", "[I", true)
  | 6 => ("WatchValleyModel", "pieces", "I", false)
  | 7 => ("WatchValleyModel", "lotKind", "[I", true)
  | 8 => ("WatchValleyModel", "row", "[I", true)
  | 9 => ("WatchValleyModel", "many", "[I", true)
  | 10 => ("WatchValleyModel", "where", "[I", true)
  | 11 => ("WatchValleyModel", "to", "[I", true)
  | 12 => ("WatchValleyModel", "toGo", "[I", true)
  | 13 => ("WatchValleyModel", "worked", "[I", true)
  | 14 => ("WatchValleyModel", "next", "[I", true)
  | 15 => ("WatchValleyModel", "turn", "[I", true)
  | 16 => ("WatchValleyModel", "lots", "I", false)
  | 17 => ("WatchValleyModel", "turns", "I", false)
  | 18 => ("WatchValleyModel", "rate", "[I", true)
  | 19 => ("WatchValleyModel", "off", "[I", true)
  | 20 => ("WatchValleyModel", "breaks", "[I", true)
  | 21 => ("WatchValleyModel", "way", "[I", true)
  | 22 => ("WatchValleyModel", "done", "[I", true)
  | 23 => ("WatchValleyModel", "broke", "[I", true)
  | 24 => ("WatchValleyModel", "homes", "I", false)
  | 25 => ("WatchValleyModel", "day", "I", false)
  | 26 => ("WatchValleyModel", "broken", "I", false)
  | 27 => ("WatchValleyModel", "sendHome", "[I", true)
  | 28 => ("WatchValleyModel", "sendDay", "[I", true)
  | 29 => ("WatchValleyModel", "sendMany", "[I", true)
  | 30 => ("WatchValleyModel", "sends", "I", false)
  | 31 => ("WatchValleyModel", "wageHome", "[I", true)
  | 32 => ("WatchValleyModel", "wageFrom", "[I", true)
  | 33 => ("WatchValleyModel", "wageOf", "[I", true)
  | 34 => ("WatchValleyModel", "wageTold", "[I", true)
  | 35 => ("WatchValleyModel", "wages", "I", false)
  | 36 => ("WatchValleyModel", "low", "[I", true)
  | 37 => ("WatchValleyModel", "high", "[I", true)
  | 38 => ("WatchValleyModel", "watch", "[I", true)
  | 39 => ("WatchValleyModel", "isBack", "[Z", true)
  | 40 => ("WatchValleyModel", "watches", "I", false)
  | 41 => ("WatchValleyModel", "thrown", "I", false)
  | _ => ("WatchValleyModel", "goesWith", "[I", true)
def ty_10 : Nat → FieldType := fun k => match k with
  | 0 => .array .int
  | 1 => .array .int
  | 2 => .array .int
  | 3 => .array .int
  | 4 => .array .int
  | 5 => .array .int
  | 6 => .int
  | 7 => .array .int
  | 8 => .array .int
  | 9 => .array .int
  | 10 => .array .int
  | 11 => .array .int
  | 12 => .array .int
  | 13 => .array .int
  | 14 => .array .int
  | 15 => .array .int
  | 16 => .int
  | 17 => .int
  | 18 => .array .int
  | 19 => .array .int
  | 20 => .array .int
  | 21 => .array .int
  | 22 => .array .int
  | 23 => .array .int
  | 24 => .int
  | 25 => .int
  | 26 => .int
  | 27 => .array .int
  | 28 => .array .int
  | 29 => .array .int
  | 30 => .int
  | 31 => .array .int
  | 32 => .array .int
  | 33 => .array .int
  | 34 => .array .int
  | 35 => .int
  | 36 => .array .int
  | 37 => .array .int
  | 38 => .array .int
  | 39 => .array .boolean
  | 40 => .int
  | 41 => .int
  | _ => .array .int
abbrev classes : List vw_C := [("WatchValley$Fit", T_0, 2), ("WatchValley$Home", T_1, 12), ("WatchValley$Lot", T_2, 11), ("WatchValley$Making", T_3, 5), ("WatchValley$Mates", T_4, 5), ("WatchValley$Piece", T_5, 8), ("WatchValley$Sending", T_6, 3), ("WatchValley$Wage", T_7, 4), ("WatchValley$Watch", T_8, 4), ("WatchValley", T_9, 14), ("WatchValleyModel", T_10, 43)]
def owns : List String := ["WatchValley$Fit", "WatchValley$Home", "WatchValley$Lot", "WatchValley$Making", "WatchValley$Mates", "WatchValley$Piece", "WatchValley$Sending", "WatchValley$Wage", "WatchValley$Watch", "WatchValley", "WatchValleyModel", "WatchValleyLaw", "java/lang/Integer", "java/lang/Math", "java/util/Arrays"]
def ownS (k : Nat) : String := owns.getD k ""
def clNs : List Nat := [2, 12, 11, 5, 5, 8, 3, 4, 4, 14, 43]
def clN (t : Nat) : Nat := clNs.getD t 0
def clT (t : Nat) : u_T := match t with
  | 0 => T_0
  | 1 => T_1
  | 2 => T_2
  | 3 => T_3
  | 4 => T_4
  | 5 => T_5
  | 6 => T_6
  | 7 => T_7
  | 8 => T_8
  | 9 => T_9
  | _ => T_10
def clTy (t : Nat) : Nat → FieldType := match t with
  | 0 => ty_0
  | 1 => ty_1
  | 2 => ty_2
  | 3 => ty_3
  | 4 => ty_4
  | 5 => ty_5
  | 6 => ty_6
  | 7 => ty_7
  | 8 => ty_8
  | 9 => ty_9
  | _ => ty_10
def rfT : List (List Bool) := [[false, false], [false, false, false, false, false, false, false, false, true, true, true, true], [false, false, true, true, false, false, true, false, true, false, true], [true, true, false, false, false], [true, true, true, false, false], [false, false, false, false, false, false, false, true], [false, false, true], [false, false, false, true], [true, true, true, false], [true, true, true, true, true, true, true, false, false, false, false, false, false, false], [true, true, true, true, true, true, false, true, true, true, true, true, true, true, true, true, false, false, true, true, true, true, true, true, false, false, false, true, true, true, false, true, true, true, true, false, true, true, true, true, false, false, true]]
/-- is the field a reference -/
def isRf (t k : Nat) : Bool := (rfT.getD t []).getD k false
def finT : List (List Bool) := [[false, false], [true, true, true, true, true, false, false, false, false, false, false, false], [true, true, false, false, false, false, false, false, false, false, false], [true, true, false, false, false], [true, true, true, false, false], [true, true, true, false, false, false, false, false], [true, true, true], [true, true, true, true], [true, true, true, false], [true, true, true, true, true, true, true, false, false, false, false, false, false, false], [true, true, true, true, true, true, false, true, true, true, true, true, true, true, true, true, false, false, true, true, true, true, true, true, false, false, false, true, true, true, false, true, true, true, true, false, true, true, true, true, false, false, true]]
def isFin (t k : Nat) : Bool := (finT.getD t []).getD k false
/-- the words that hold at every state of the run: those of the tables that keep -/
def tb : List Cond := lw_tbl.filter goodWord
theorem tb_good : ∀ w ∈ tb, goodWord w = true := fun w h => (List.mem_filter.mp h).2
theorem tb_sub : ∀ w ∈ tb, w ∈ lw_tbl := fun w h => (List.mem_filter.mp h).1
theorem tb_of (L : List Cond) (ps : List Nat) (h : L = ps.filterMap (fun i => lw_tbl[i]?)) (g : L.all goodWord = true) : ∀ w ∈ L, w ∈ tb := by
  intro w hw
  have h1 := List.all_eq_true.mp g w hw
  rw [h] at hw
  obtain ⟨i, -, hi⟩ := List.mem_filterMap.mp hw
  exact List.mem_filter.mpr ⟨List.mem_of_getElem? hi, h1⟩
theorem lw_of (L : List Cond) (ps : List Nat) (h : L = ps.filterMap (fun i => lw_tbl[i]?)) : ∀ w ∈ L, w ∈ lw_tbl := by
  intro w hw
  rw [h] at hw
  obtain ⟨i, -, hi⟩ := List.mem_filterMap.mp hw
  exact List.mem_of_getElem? hi
set_option maxRecDepth 100000 in
theorem cin_0 : ∀ w ∈ u_ws "WatchValley$Fit" T_0 2, w ∈ tb := tb_of _ [83, 85] rfl (by decide +kernel)
theorem cnm_0 : ∀ a, a < 2 → ∀ b, b < 2 → a ≠ b → (T_0 a).2.1 ≠ (T_0 b).2.1 := by decide +kernel
theorem cty_0 : ∀ k, k < 2 → parseFieldDescriptor (T_0 k).2.2.1 = some (ty_0 k) := by decide +kernel
theorem cfi_0 : ∀ k, k < 2 → (T_0 k).2.2.2 = isFin 0 k := by decide +kernel
theorem cdc_0 : ∀ k, k < 2 → (T_0 k).1 = "WatchValley$Fit" := by decide +kernel
set_option maxRecDepth 100000 in
theorem cin_1 : ∀ w ∈ u_ws "WatchValley$Home" T_1 12, w ∈ tb := tb_of _ [207, 209, 211, 213, 215, 217, 219, 221, 223, 225, 227, 229] rfl (by decide +kernel)
theorem cnm_1 : ∀ a, a < 12 → ∀ b, b < 12 → a ≠ b → (T_1 a).2.1 ≠ (T_1 b).2.1 := by decide +kernel
theorem cty_1 : ∀ k, k < 12 → parseFieldDescriptor (T_1 k).2.2.1 = some (ty_1 k) := by decide +kernel
theorem cfi_1 : ∀ k, k < 12 → (T_1 k).2.2.2 = isFin 1 k := by decide +kernel
theorem cdc_1 : ∀ k, k < 12 → (T_1 k).1 = "WatchValley$Home" := by decide +kernel
set_option maxRecDepth 100000 in
theorem cin_2 : ∀ w ∈ u_ws "WatchValley$Lot" T_2 11, w ∈ tb := tb_of _ [273, 275, 277, 279, 281, 283, 285, 287, 289, 291, 293] rfl (by decide +kernel)
theorem cnm_2 : ∀ a, a < 11 → ∀ b, b < 11 → a ≠ b → (T_2 a).2.1 ≠ (T_2 b).2.1 := by decide +kernel
theorem cty_2 : ∀ k, k < 11 → parseFieldDescriptor (T_2 k).2.2.1 = some (ty_2 k) := by decide +kernel
theorem cfi_2 : ∀ k, k < 11 → (T_2 k).2.2.2 = isFin 2 k := by decide +kernel
theorem cdc_2 : ∀ k, k < 11 → (T_2 k).1 = "WatchValley$Lot" := by decide +kernel
set_option maxRecDepth 100000 in
theorem cin_3 : ∀ w ∈ u_ws "WatchValley$Making" T_3 5, w ∈ tb := tb_of _ [122, 124, 126, 128, 130] rfl (by decide +kernel)
theorem cnm_3 : ∀ a, a < 5 → ∀ b, b < 5 → a ≠ b → (T_3 a).2.1 ≠ (T_3 b).2.1 := by decide +kernel
theorem cty_3 : ∀ k, k < 5 → parseFieldDescriptor (T_3 k).2.2.1 = some (ty_3 k) := by decide +kernel
theorem cfi_3 : ∀ k, k < 5 → (T_3 k).2.2.2 = isFin 3 k := by decide +kernel
theorem cdc_3 : ∀ k, k < 5 → (T_3 k).1 = "WatchValley$Making" := by decide +kernel
set_option maxRecDepth 100000 in
theorem cin_4 : ∀ w ∈ u_ws "WatchValley$Mates" T_4 5, w ∈ tb := tb_of _ [105, 107, 109, 111, 113] rfl (by decide +kernel)
theorem cnm_4 : ∀ a, a < 5 → ∀ b, b < 5 → a ≠ b → (T_4 a).2.1 ≠ (T_4 b).2.1 := by decide +kernel
theorem cty_4 : ∀ k, k < 5 → parseFieldDescriptor (T_4 k).2.2.1 = some (ty_4 k) := by decide +kernel
theorem cfi_4 : ∀ k, k < 5 → (T_4 k).2.2.2 = isFin 4 k := by decide +kernel
theorem cdc_4 : ∀ k, k < 5 → (T_4 k).1 = "WatchValley$Mates" := by decide +kernel
set_option maxRecDepth 100000 in
theorem cin_5 : ∀ w ∈ u_ws "WatchValley$Piece" T_5 8, w ∈ tb := tb_of _ [324, 326, 328, 330, 332, 334, 336, 338] rfl (by decide +kernel)
theorem cnm_5 : ∀ a, a < 8 → ∀ b, b < 8 → a ≠ b → (T_5 a).2.1 ≠ (T_5 b).2.1 := by decide +kernel
theorem cty_5 : ∀ k, k < 8 → parseFieldDescriptor (T_5 k).2.2.1 = some (ty_5 k) := by decide +kernel
theorem cfi_5 : ∀ k, k < 8 → (T_5 k).2.2.2 = isFin 5 k := by decide +kernel
theorem cdc_5 : ∀ k, k < 8 → (T_5 k).1 = "WatchValley$Piece" := by decide +kernel
set_option maxRecDepth 100000 in
theorem cin_6 : ∀ w ∈ u_ws "WatchValley$Sending" T_6 3, w ∈ tb := tb_of _ [390, 392, 394] rfl (by decide +kernel)
theorem cnm_6 : ∀ a, a < 3 → ∀ b, b < 3 → a ≠ b → (T_6 a).2.1 ≠ (T_6 b).2.1 := by decide +kernel
theorem cty_6 : ∀ k, k < 3 → parseFieldDescriptor (T_6 k).2.2.1 = some (ty_6 k) := by decide +kernel
theorem cfi_6 : ∀ k, k < 3 → (T_6 k).2.2.2 = isFin 6 k := by decide +kernel
theorem cdc_6 : ∀ k, k < 3 → (T_6 k).1 = "WatchValley$Sending" := by decide +kernel
set_option maxRecDepth 100000 in
theorem cin_7 : ∀ w ∈ u_ws "WatchValley$Wage" T_7 4, w ∈ tb := tb_of _ [488, 490, 492, 494] rfl (by decide +kernel)
theorem cnm_7 : ∀ a, a < 4 → ∀ b, b < 4 → a ≠ b → (T_7 a).2.1 ≠ (T_7 b).2.1 := by decide +kernel
theorem cty_7 : ∀ k, k < 4 → parseFieldDescriptor (T_7 k).2.2.1 = some (ty_7 k) := by decide +kernel
theorem cfi_7 : ∀ k, k < 4 → (T_7 k).2.2.2 = isFin 7 k := by decide +kernel
theorem cdc_7 : ∀ k, k < 4 → (T_7 k).1 = "WatchValley$Wage" := by decide +kernel
set_option maxRecDepth 100000 in
theorem cin_8 : ∀ w ∈ u_ws "WatchValley$Watch" T_8 4, w ∈ tb := tb_of _ [613, 615, 617, 619] rfl (by decide +kernel)
theorem cnm_8 : ∀ a, a < 4 → ∀ b, b < 4 → a ≠ b → (T_8 a).2.1 ≠ (T_8 b).2.1 := by decide +kernel
theorem cty_8 : ∀ k, k < 4 → parseFieldDescriptor (T_8 k).2.2.1 = some (ty_8 k) := by decide +kernel
theorem cfi_8 : ∀ k, k < 4 → (T_8 k).2.2.2 = isFin 8 k := by decide +kernel
theorem cdc_8 : ∀ k, k < 4 → (T_8 k).1 = "WatchValley$Watch" := by decide +kernel
set_option maxRecDepth 100000 in
theorem cin_9 : ∀ w ∈ u_ws "WatchValley" T_9 14, w ∈ tb := tb_of _ [147, 149, 151, 153, 155, 157, 159, 161, 163, 165, 167, 169, 171, 173] rfl (by decide +kernel)
theorem cnm_9 : ∀ a, a < 14 → ∀ b, b < 14 → a ≠ b → (T_9 a).2.1 ≠ (T_9 b).2.1 := by decide +kernel
theorem cty_9 : ∀ k, k < 14 → parseFieldDescriptor (T_9 k).2.2.1 = some (ty_9 k) := by decide +kernel
theorem cfi_9 : ∀ k, k < 14 → (T_9 k).2.2.2 = isFin 9 k := by decide +kernel
theorem cdc_9 : ∀ k, k < 14 → (T_9 k).1 = "WatchValley" := by decide +kernel
set_option maxRecDepth 100000 in
theorem cin_10 : ∀ w ∈ u_ws "WatchValleyModel" T_10 43, w ∈ tb := tb_of _ [804, 806, 808, 810, 812, 814, 816, 818, 820, 822, 824, 826, 828, 830, 832, 834, 836, 838, 840, 842, 844, 846, 848, 850, 852, 854, 856, 858, 860, 862, 864, 866, 868, 870, 872, 874, 876, 878, 880, 882, 884, 886, 888] rfl (by decide +kernel)
theorem cnm_10 : ∀ a, a < 43 → ∀ b, b < 43 → a ≠ b → (T_10 a).2.1 ≠ (T_10 b).2.1 := by decide +kernel
theorem cty_10 : ∀ k, k < 43 → parseFieldDescriptor (T_10 k).2.2.1 = some (ty_10 k) := by decide +kernel
theorem cfi_10 : ∀ k, k < 43 → (T_10 k).2.2.2 = isFin 10 k := by decide +kernel
theorem cdc_10 : ∀ k, k < 43 → (T_10 k).1 = "WatchValleyModel" := by decide +kernel
theorem cl_at : ∀ t, t < 11 → classes[t]? = some (ownS t, clT t, clN t)
  | 0, _ => rfl
  | 1, _ => rfl
  | 2, _ => rfl
  | 3, _ => rfl
  | 4, _ => rfl
  | 5, _ => rfl
  | 6, _ => rfl
  | 7, _ => rfl
  | 8, _ => rfl
  | 9, _ => rfl
  | 10, _ => rfl
  | n + 11, h => absurd h (by omega)
theorem cl_in : ∀ t, t < 11 → ∀ w ∈ u_ws (ownS t) (clT t) (clN t), w ∈ tb
  | 0, _ => cin_0
  | 1, _ => cin_1
  | 2, _ => cin_2
  | 3, _ => cin_3
  | 4, _ => cin_4
  | 5, _ => cin_5
  | 6, _ => cin_6
  | 7, _ => cin_7
  | 8, _ => cin_8
  | 9, _ => cin_9
  | 10, _ => cin_10
  | n + 11, h => absurd h (by omega)
theorem cl_nm : ∀ t, t < 11 → ∀ a, a < clN t → ∀ b, b < clN t → a ≠ b → (clT t a).2.1 ≠ (clT t b).2.1
  | 0, _ => cnm_0
  | 1, _ => cnm_1
  | 2, _ => cnm_2
  | 3, _ => cnm_3
  | 4, _ => cnm_4
  | 5, _ => cnm_5
  | 6, _ => cnm_6
  | 7, _ => cnm_7
  | 8, _ => cnm_8
  | 9, _ => cnm_9
  | 10, _ => cnm_10
  | n + 11, h => absurd h (by omega)
theorem cl_ty : ∀ t, t < 11 → ∀ k, k < clN t → parseFieldDescriptor (clT t k).2.2.1 = some (clTy t k)
  | 0, _ => cty_0
  | 1, _ => cty_1
  | 2, _ => cty_2
  | 3, _ => cty_3
  | 4, _ => cty_4
  | 5, _ => cty_5
  | 6, _ => cty_6
  | 7, _ => cty_7
  | 8, _ => cty_8
  | 9, _ => cty_9
  | 10, _ => cty_10
  | n + 11, h => absurd h (by omega)
theorem cl_fi : ∀ t, t < 11 → ∀ k, k < clN t → (clT t k).2.2.2 = isFin t k
  | 0, _ => cfi_0
  | 1, _ => cfi_1
  | 2, _ => cfi_2
  | 3, _ => cfi_3
  | 4, _ => cfi_4
  | 5, _ => cfi_5
  | 6, _ => cfi_6
  | 7, _ => cfi_7
  | 8, _ => cfi_8
  | 9, _ => cfi_9
  | 10, _ => cfi_10
  | n + 11, h => absurd h (by omega)
theorem cl_dc : ∀ t, t < 11 → ∀ k, k < clN t → (clT t k).1 = ownS t
  | 0, _ => cdc_0
  | 1, _ => cdc_1
  | 2, _ => cdc_2
  | 3, _ => cdc_3
  | 4, _ => cdc_4
  | 5, _ => cdc_5
  | 6, _ => cdc_6
  | 7, _ => cdc_7
  | 8, _ => cdc_8
  | 9, _ => cdc_9
  | 10, _ => cdc_10
  | n + 11, h => absurd h (by omega)
theorem cl_rf0 : ∀ t, t < 11 → ∀ k, k < clN t → isRf t k = true → (match clTy t k with | .object _ => true | .array _ => true | _ => false) = true := by decide +kernel
theorem cl_rf : ∀ t, t < 11 → ∀ k, k < clN t → isRf t k = true → (∃ C, clTy t k = .object C) ∨ (∃ C, clTy t k = .array C) := by
  intro t ht k hk hf
  have h := cl_rf0 t ht k hk hf
  split at h
  · exact Or.inl ⟨_, by assumption⟩
  · exact Or.inr ⟨_, by assumption⟩
  · cases h
/-! links: (owner, entry, number of the object kind, field) -/
def FL_0 : List (Nat × Nat × Nat × Nat) := [(0, 18, 0, 0), (9, 219, 0, 0), (0, 23, 0, 1), (9, 222, 0, 1), (4, 9, 4, 0), (4, 15, 4, 1), (4, 18, 4, 2), (4, 27, 4, 3), (4, 52, 4, 4), (3, 12, 3, 0), (3, 18, 3, 1), (3, 33, 3, 2), (3, 40, 3, 3), (3, 47, 3, 4), (9, 11, 9, 0), (9, 17, 9, 1), (9, 23, 9, 2), (9, 29, 9, 3), (9, 36, 9, 4), (9, 40, 9, 5), (9, 46, 9, 6), (9, 64, 9, 7), (9, 124, 9, 8), (9, 50, 9, 9), (9, 141, 9, 10), (9, 96, 9, 11), (9, 199, 9, 12), (9, 101, 9, 13), (1, 9, 1, 0), (9, 57, 1, 0), (1, 15, 1, 1), (9, 183, 1, 1), (1, 18, 1, 2), (9, 186, 1, 2), (1, 21, 1, 3), (9, 189, 1, 3), (1, 24, 1, 4), (9, 118, 1, 4), (1, 66, 1, 5), (9, 192, 1, 5), (1, 70, 1, 6), (9, 193, 1, 6)]
def FL_1 : List (Nat × Nat × Nat × Nat) := [(1, 39, 1, 7), (9, 196, 1, 7), (1, 31, 1, 8), (1, 27, 1, 9), (1, 85, 1, 10), (9, 104, 1, 10), (1, 104, 1, 11), (9, 204, 1, 11), (2, 15, 2, 0), (9, 71, 2, 0), (2, 18, 2, 1), (9, 85, 2, 1), (4, 31, 2, 2), (2, 33, 2, 2), (2, 30, 2, 3), (3, 21, 2, 4), (2, 36, 2, 4), (9, 82, 2, 4), (2, 9, 2, 5), (9, 115, 2, 5), (9, 111, 2, 6), (2, 53, 2, 6), (9, 121, 2, 7), (2, 57, 2, 7), (1, 77, 2, 8), (2, 50, 2, 8), (1, 69, 2, 9), (2, 66, 2, 9), (9, 150, 2, 9), (1, 34, 2, 10), (2, 69, 2, 10), (5, 15, 5, 0), (9, 157, 5, 0), (5, 18, 5, 1), (0, 9, 5, 1), (9, 168, 5, 1), (5, 24, 5, 2), (8, 29, 5, 2), (9, 170, 5, 2), (5, 21, 5, 3), (0, 15, 5, 3), (1, 58, 5, 3)]
def FL_2 : List (Nat × Nat × Nat × Nat) := [(9, 169, 5, 3), (8, 19, 5, 4), (1, 63, 5, 4), (9, 173, 5, 4), (5, 9, 5, 5), (2, 47, 5, 5), (9, 175, 5, 5), (2, 21, 5, 6), (5, 27, 5, 6), (9, 178, 5, 6), (2, 26, 5, 7), (4, 41, 5, 7), (6, 7, 6, 0), (1, 89, 6, 0), (6, 13, 6, 1), (1, 94, 6, 1), (6, 16, 6, 2), (1, 101, 6, 2), (7, 7, 7, 0), (1, 108, 7, 0), (7, 13, 7, 1), (1, 113, 7, 1), (7, 16, 7, 2), (1, 118, 7, 2), (7, 19, 7, 3), (1, 116, 7, 3), (8, 7, 8, 0), (9, 265, 8, 0), (8, 13, 8, 1), (9, 269, 8, 1), (8, 16, 8, 2), (9, 272, 8, 2), (9, 275, 8, 3), (10, 9, 10, 0), (10, 13, 10, 1), (10, 16, 10, 2), (10, 19, 10, 3), (10, 22, 10, 4), (10, 25, 10, 5), (10, 127, 10, 6), (10, 28, 10, 7), (10, 31, 10, 8)]
def FL_3 : List (Nat × Nat × Nat × Nat) := [(10, 34, 10, 9), (10, 37, 10, 10), (10, 40, 10, 11), (10, 43, 10, 12), (10, 46, 10, 13), (10, 49, 10, 14), (10, 52, 10, 15), (10, 114, 10, 16), (10, 154, 10, 17), (10, 55, 10, 18), (10, 58, 10, 19), (10, 61, 10, 20), (10, 64, 10, 21), (10, 67, 10, 22), (10, 70, 10, 23), (10, 124, 10, 24), (10, 151, 10, 25), (10, 157, 10, 26), (10, 73, 10, 27), (10, 76, 10, 28), (10, 79, 10, 29), (10, 148, 10, 30), (10, 82, 10, 31), (10, 85, 10, 32), (10, 88, 10, 33), (10, 91, 10, 34), (10, 177, 10, 35), (10, 94, 10, 36), (10, 97, 10, 37), (10, 100, 10, 38), (10, 103, 10, 39), (10, 170, 10, 40), (10, 110, 10, 41), (10, 107, 10, 42)]
def flW (q : Nat × Nat × Nat × Nat) : Cond := .fieldLink (ownS q.1) q.2.1 (ownS q.2.2.1) (clT q.2.2.1 q.2.2.2).2.1 (clT q.2.2.1 q.2.2.2).2.2.1
set_option maxRecDepth 100000 in
theorem FLok_0 : ∀ w ∈ FL_0.map flW, w ∈ tb := tb_of _ [79, 80, 81, 82, 100, 101, 102, 103, 104, 117, 118, 119, 120, 121, 133, 134, 135, 136, 137, 138, 139, 140, 141, 142, 143, 144, 145, 146, 185, 186, 187, 188, 189, 190, 191, 192, 193, 194, 195, 196, 197, 198] rfl (by decide +kernel)
set_option maxRecDepth 100000 in
theorem FLok_1 : ∀ w ∈ FL_1.map flW, w ∈ tb := tb_of _ [199, 200, 201, 202, 203, 204, 205, 206, 250, 251, 252, 253, 254, 255, 256, 257, 258, 259, 260, 261, 262, 263, 264, 265, 266, 267, 268, 269, 270, 271, 272, 301, 302, 303, 304, 305, 306, 307, 308, 309, 310, 311] rfl (by decide +kernel)
set_option maxRecDepth 100000 in
theorem FLok_2 : ∀ w ∈ FL_2.map flW, w ∈ tb := tb_of _ [312, 313, 314, 315, 316, 317, 318, 319, 320, 321, 322, 323, 384, 385, 386, 387, 388, 389, 480, 481, 482, 483, 484, 485, 486, 487, 606, 607, 608, 609, 610, 611, 612, 761, 762, 763, 764, 765, 766, 767, 768, 769] rfl (by decide +kernel)
set_option maxRecDepth 100000 in
theorem FLok_3 : ∀ w ∈ FL_3.map flW, w ∈ tb := tb_of _ [770, 771, 772, 773, 774, 775, 776, 777, 778, 779, 780, 781, 782, 783, 784, 785, 786, 787, 788, 789, 790, 791, 792, 793, 794, 795, 796, 797, 798, 799, 800, 801, 802, 803] rfl (by decide +kernel)
def FLT : List (Nat × Nat × Nat × Nat) := FL_0 ++ (FL_1 ++ (FL_2 ++ (FL_3)))
theorem FLT_ok : ∀ q ∈ FLT, flW q ∈ tb := by
  intro q hq
  unfold FLT at hq
  simp only [List.mem_append] at hq
  rcases hq with h | h | h | h
  · exact FLok_0 _ (List.mem_map.mpr ⟨q, h, rfl⟩)
  · exact FLok_1 _ (List.mem_map.mpr ⟨q, h, rfl⟩)
  · exact FLok_2 _ (List.mem_map.mpr ⟨q, h, rfl⟩)
  · exact FLok_3 _ (List.mem_map.mpr ⟨q, h, rfl⟩)
theorem FLT_lt : ∀ q ∈ FLT, q.2.2.1 < 11 ∧ q.2.2.2 < clN q.2.2.1 := by decide +kernel
def NWT : List (Nat × Nat × Nat) := [(11, 8, 9), (9, 9, 5), (9, 15, 2), (9, 21, 1), (9, 27, 8), (9, 33, 0), (9, 43, 3), (3, 9, 4), (9, 99, 6), (9, 202, 7), (11, 20, 10)]
def nwW (q : Nat × Nat × Nat) : List Cond := [.classLink (ownS q.1) q.2.1 (ownS q.2.2), .instantiable (ownS q.2.2) (clN q.2.2), .initialized (ownS q.2.2)]
set_option maxRecDepth 100000 in
theorem NWok : ∀ w ∈ NWT.flatMap nwW, w ∈ tb := tb_of _ [57, 58, 39, 65, 296, 46, 67, 245, 45, 69, 180, 44, 71, 601, 56, 73, 74, 40, 88, 89, 41, 94, 95, 42, 378, 379, 47, 474, 475, 52, 755, 756, 43] rfl (by decide +kernel)
theorem NWT_ok : ∀ q ∈ NWT, ∀ w ∈ nwW q, w ∈ tb := fun q hq w hw => NWok w (List.mem_flatMap.mpr ⟨q, hq, hw⟩)
theorem NWT_lt : ∀ q ∈ NWT, q.2.2 < 11 := by decide +kernel
/-! methods by number: name, code, locals, answer -/
abbrev MtT : Type := MethodName × ByteArray × Nat × Option FieldType
def MT_0 : List MtT := [(⟨"WatchValley", "<init>", "()V"⟩, prog_1_method_1_code, 1, none), (⟨"WatchValley$Fit", "<init>", "()V"⟩, prog_2_method_1_code, 1, none), (⟨"WatchValley$Making", "<init>", "()V"⟩, prog_5_method_1_code, 1, none), (⟨"WatchValley$Mates", "<init>", "()V"⟩, prog_6_method_1_code, 1, none), (⟨"WatchValley", "home", "(IIII)I"⟩, prog_1_method_2_code, 6, (some .int)), (⟨"WatchValley$Home", "<init>", "(IIIII)V"⟩, prog_3_method_1_code, 6, none), (⟨"WatchValley", "raw", "(IIII)I"⟩, prog_1_method_3_code, 10, (some .int)), (⟨"WatchValley", "isRawSize", "(J)Z"⟩, prog_1_method_36_code, 2, (some .boolean)), (⟨"WatchValley", "newLot", "(I)LWatchValley$Lot;"⟩, prog_1_method_30_code, 3, (some (.object "WatchValley$Lot"))), (⟨"WatchValley$Lot", "<init>", "(II)V"⟩, prog_4_method_1_code, 3, none), (⟨"WatchValley$Piece", "<init>", "(IIII)V"⟩, prog_7_method_1_code, 5, none), (⟨"WatchValley$Lot", "append", "(LWatchValley$Piece;)V"⟩, prog_4_method_2_code, 2, none), (⟨"WatchValley", "split", "(II)I"⟩, prog_1_method_4_code, 5, (some .int)), (⟨"WatchValley", "lotAtHouse", "(I)LWatchValley$Lot;"⟩, prog_1_method_28_code, 3, (some (.object "WatchValley$Lot"))), (⟨"WatchValley", "lotNumbered", "(I)LWatchValley$Lot;"⟩, prog_1_method_25_code, 2, (some (.object "WatchValley$Lot"))), (⟨"WatchValley$Lot", "moveFirst", "(ILWatchValley$Lot;)V"⟩, prog_4_method_3_code, 5, none), (⟨"WatchValley$Lot", "unlink", "(LWatchValley$Piece;LWatchValley$Piece;)V"⟩, prog_4_method_4_code, 3, none), (⟨"WatchValley", "join", "(II)I"⟩, prog_1_method_5_code, 5, (some .int)), (⟨"WatchValley", "send", "(II)Z"⟩, prog_1_method_6_code, 5, (some .boolean)), (⟨"WatchValley", "homeNumbered", "(I)LWatchValley$Home;"⟩, prog_1_method_24_code, 2, (some (.object "WatchValley$Home"))), (⟨"WatchValley$Sending", "<init>", "(IILWatchValley$Sending;)V"⟩, prog_8_method_1_code, 4, none), (⟨"WatchValley", "day", "(Z)I"⟩, prog_1_method_7_code, 5, (some .int)), (⟨"WatchValley$Lot", "travel", "(Z)V"⟩, prog_4_method_8_code, 2, none), (⟨"WatchValley$Home", "receive", "(LWatchValley$Lot;)V"⟩, prog_3_method_2_code, 2, none), (⟨"WatchValley$Home", "workDay", "()I"⟩, prog_3_method_3_code, 5, (some .int)), (⟨"WatchValley$Lot", "nextToWork", "()LWatchValley$Piece;"⟩, prog_4_method_7_code, 1, (some (.object "WatchValley$Piece"))), (⟨"WatchValley$Home", "release", "(LWatchValley$Lot;)V"⟩, prog_3_method_4_code, 2, none), (⟨"WatchValley$Lot", "turnHome", "(I)V"⟩, prog_4_method_9_code, 2, none), (⟨"WatchValley$Home", "workPiece", "(LWatchValley$Lot;LWatchValley$Piece;)V"⟩, prog_3_method_5_code, 3, none), (⟨"WatchValley$Piece", "leaveRow", "(II)V"⟩, prog_7_method_2_code, 3, none), (⟨"WatchValley", "count", "(I)I"⟩, prog_1_method_8_code, 2, (some .int)), (⟨"WatchValley", "brokenPieces", "()I"⟩, prog_1_method_32_code, 4, (some .int))]
def MT_1 : List MtT := [(⟨"WatchValley", "watchesBack", "()I"⟩, prog_1_method_34_code, 4, (some .int)), (⟨"WatchValley", "watchNumbered", "(I)LWatchValley$Watch;"⟩, prog_1_method_27_code, 2, (some (.object "WatchValley$Watch"))), (⟨"WatchValley", "lotsOut", "()I"⟩, prog_1_method_33_code, 4, (some .int)), (⟨"WatchValley", "lot", "(II)I"⟩, prog_1_method_9_code, 4, (some .int)), (⟨"WatchValley", "at", "(II)I"⟩, prog_1_method_10_code, 5, (some .int)), (⟨"WatchValley$Lot", "pieceAt", "(I)LWatchValley$Piece;"⟩, prog_4_method_6_code, 4, (some (.object "WatchValley$Piece"))), (⟨"WatchValley", "of", "(II)I"⟩, prog_1_method_12_code, 4, (some .int)), (⟨"WatchValley", "wage", "(III)I"⟩, prog_1_method_13_code, 5, (some .int)), (⟨"WatchValley$Wage", "<init>", "(IIILWatchValley$Wage;)V"⟩, prog_9_method_1_code, 5, none), (⟨"WatchValley", "fit", "(III)Z"⟩, prog_1_method_15_code, 5, (some .boolean)), (⟨"WatchValley", "fits", "(II)I"⟩, prog_1_method_16_code, 5, (some .int)), (⟨"WatchValley", "pieceNumbered", "(I)LWatchValley$Piece;"⟩, prog_1_method_26_code, 2, (some (.object "WatchValley$Piece"))), (⟨"WatchValley$Fit", "allows", "(LWatchValley$Piece;LWatchValley$Piece;)Z"⟩, prog_2_method_2_code, 4, (some .boolean)), (⟨"WatchValley", "most", "(III)I"⟩, prog_1_method_17_code, 7, (some .int)), (⟨"WatchValley", "lotForMaking", "(II)LWatchValley$Lot;"⟩, prog_1_method_29_code, 4, (some (.object "WatchValley$Lot"))), (⟨"WatchValley$Making", "readLots", "(LWatchValley$Lot;LWatchValley$Lot;LWatchValley$Lot;LWatchValley$Fit;LWatchValley$Fit;)V"⟩, prog_5_method_2_code, 6, none), (⟨"java/lang/Math", "min", "(II)I"⟩, prog_15_method_69_code, 2, (some .int)), (⟨"WatchValley$Mates", "readLots", "(LWatchValley$Lot;LWatchValley$Lot;LWatchValley$Fit;)V"⟩, prog_6_method_2_code, 6, none), (⟨"java/util/Arrays", "fill", "([II)V"⟩, prog_19_method_103_code, 4, none), (⟨"WatchValley$Mates", "placesFor", "(LWatchValley$Piece;LWatchValley$Lot;LWatchValley$Fit;)I"⟩, prog_6_method_3_code, 6, (some .int)), (⟨"WatchValley$Making", "chooseWheels", "()I"⟩, prog_5_method_3_code, 1, (some .int)), (⟨"WatchValley$Making", "tryWheel", "(III)V"⟩, prog_5_method_4_code, 4, none), (⟨"WatchValley$Mates", "seat", "(I)Z"⟩, prog_6_method_4_code, 2, (some .boolean)), (⟨"WatchValley$Mates", "seatOrMove", "(II)Z"⟩, prog_6_method_5_code, 5, (some .boolean)), (⟨"WatchValley$Mates", "unseat", "(I)V"⟩, prog_6_method_6_code, 3, none), (⟨"WatchValley", "make", "(III)I"⟩, prog_1_method_18_code, 9, (some .int)), (⟨"WatchValley$Making", "chooseMates", "()V"⟩, prog_5_method_5_code, 1, none), (⟨"WatchValley$Mates", "settle", "(I)V"⟩, prog_6_method_7_code, 3, none), (⟨"WatchValley$Mates", "firstPlaceFor", "(II)I"⟩, prog_6_method_8_code, 5, (some .int)), (⟨"WatchValley$Mates", "canSeatBehind", "(II)Z"⟩, prog_6_method_9_code, 4, (some .boolean)), (⟨"WatchValley$Making", "takes", "(I)Z"⟩, prog_5_method_6_code, 2, (some .boolean)), (⟨"WatchValley$Making", "plateFor", "(I)I"⟩, prog_5_method_7_code, 2, (some .int))]
def MT_2 : List MtT := [(⟨"WatchValley$Mates", "settledFor", "(I)I"⟩, prog_6_method_10_code, 2, (some .int)), (⟨"WatchValley$Making", "stoneFor", "(I)I"⟩, prog_5_method_8_code, 2, (some .int)), (⟨"WatchValley", "assemble", "(LWatchValley$Piece;LWatchValley$Piece;LWatchValley$Piece;)V"⟩, prog_1_method_31_code, 4, none), (⟨"WatchValley$Watch", "<init>", "(LWatchValley$Piece;LWatchValley$Piece;LWatchValley$Piece;)V"⟩, prog_10_method_1_code, 4, none), (⟨"WatchValley$Lot", "dropTaken", "()V"⟩, prog_4_method_5_code, 3, none), (⟨"WatchValley", "watch", "(II)I"⟩, prog_1_method_19_code, 4, (some .int)), (⟨"WatchValley$Watch", "homesThatWorked", "()I"⟩, prog_10_method_2_code, 1, (some .int)), (⟨"WatchValley", "back", "(IZ)Z"⟩, prog_1_method_20_code, 4, (some .boolean)), (⟨"WatchValley", "counts", "(II)I"⟩, prog_1_method_21_code, 3, (some .int)), (⟨"WatchValley", "watchesOf", "(IZ)I"⟩, prog_1_method_35_code, 6, (some .int)), (⟨"WatchValley$Watch", "wasWorkedBy", "(I)Z"⟩, prog_10_method_3_code, 2, (some .boolean)), (⟨"WatchValley", "suspect", "(I)I"⟩, prog_1_method_22_code, 8, (some .int)), (⟨"WatchValley", "recall", "(I)I"⟩, prog_1_method_23_code, 5, (some .int)), (⟨"WatchValley$Watch", "hasRaw", "(I)Z"⟩, prog_10_method_4_code, 2, (some .boolean)), (⟨"WatchValley", "piece", "(II)I"⟩, prog_1_method_11_code, 4, (some .int)), (⟨"WatchValley", "due", "(II)J"⟩, prog_1_method_14_code, 4, (some .long)), (⟨"WatchValley$Home", "dueAsKnown", "(I)J"⟩, prog_3_method_6_code, 5, (some .long)), (⟨"WatchValley$Home", "wageFor", "(II)I"⟩, prog_3_method_7_code, 5, (some .int)), (⟨"WatchValleyModel", "<init>", "()V"⟩, prog_12_method_1_code, 1, none), (⟨"WatchValleyModel", "thrown", "()I"⟩, prog_12_method_2_code, 1, (some .int)), (⟨"WatchValleyModel", "home", "(IIII)I"⟩, prog_12_method_6_code, 5, (some .int)), (⟨"WatchValleyModel", "in", "(III)Z"⟩, prog_12_method_3_code, 3, (some .boolean)), (⟨"WatchValleyModel", "raw", "(IIII)I"⟩, prog_12_method_10_code, 8, (some .int)), (⟨"WatchValleyModel", "newLot", "(I)I"⟩, prog_12_method_7_code, 2, (some .int)), (⟨"WatchValleyModel", "add", "(II)V"⟩, prog_12_method_8_code, 3, none), (⟨"WatchValleyModel", "split", "(II)I"⟩, prog_12_method_11_code, 5, (some .int)), (⟨"WatchValleyModel", "isHere", "(I)Z"⟩, prog_12_method_5_code, 2, (some .boolean)), (⟨"WatchValleyModel", "isLot", "(I)Z"⟩, prog_12_method_4_code, 2, (some .boolean)), (⟨"WatchValleyModel", "take", "(II)V"⟩, prog_12_method_9_code, 4, none), (⟨"WatchValleyModel", "join", "(II)I"⟩, prog_12_method_12_code, 4, (some .int)), (⟨"WatchValleyModel", "send", "(II)Z"⟩, prog_12_method_13_code, 3, (some .boolean)), (⟨"WatchValleyModel", "day", "(Z)I"⟩, prog_12_method_17_code, 7, (some .int))]
def MT_3 : List MtT := [(⟨"WatchValleyModel", "goes", "(Z)V"⟩, prog_12_method_14_code, 3, none), (⟨"WatchValleyModel", "first", "(I)I"⟩, prog_12_method_15_code, 4, (some .int)), (⟨"WatchValleyModel", "work", "(II)V"⟩, prog_12_method_16_code, 4, none), (⟨"WatchValleyModel", "count", "(I)I"⟩, prog_12_method_19_code, 4, (some .int)), (⟨"WatchValleyModel", "outMany", "()I"⟩, prog_12_method_18_code, 3, (some .int)), (⟨"WatchValleyModel", "lot", "(II)I"⟩, prog_12_method_20_code, 3, (some .int)), (⟨"WatchValleyModel", "at", "(II)I"⟩, prog_12_method_21_code, 3, (some .int)), (⟨"WatchValleyModel", "piece", "(II)I"⟩, prog_12_method_22_code, 3, (some .int)), (⟨"WatchValleyModel", "of", "(II)I"⟩, prog_12_method_23_code, 5, (some .int)), (⟨"WatchValleyModel", "wage", "(III)I"⟩, prog_12_method_24_code, 4, (some .int)), (⟨"WatchValleyModel", "due", "(II)J"⟩, prog_12_method_26_code, 6, (some .long)), (⟨"WatchValleyModel", "wageFor", "(III)I"⟩, prog_12_method_25_code, 6, (some .int)), (⟨"WatchValleyModel", "fit", "(III)Z"⟩, prog_12_method_27_code, 4, (some .boolean)), (⟨"WatchValleyModel", "fits", "(II)I"⟩, prog_12_method_29_code, 3, (some .int)), (⟨"WatchValleyModel", "doFit", "(II)Z"⟩, prog_12_method_28_code, 4, (some .boolean)), (⟨"WatchValleyModel", "most", "(III)I"⟩, prog_12_method_34_code, 4, (some .int)), (⟨"WatchValleyModel", "areLots", "(III)Z"⟩, prog_12_method_31_code, 4, (some .boolean)), (⟨"WatchValleyModel", "taken", "(III)I"⟩, prog_12_method_33_code, 9, (some .int)), (⟨"java/lang/Integer", "bitCount", "(I)I"⟩, prog_14_method_49_code, 1, (some .int)), (⟨"WatchValleyModel", "isAhead", "(II)Z"⟩, prog_12_method_32_code, 3, (some .boolean)), (⟨"WatchValleyModel", "can", "(III)Z"⟩, prog_12_method_30_code, 7, (some .boolean)), (⟨"java/lang/Integer", "numberOfTrailingZeros", "(I)I"⟩, prog_14_method_48_code, 2, (some .int)), (⟨"WatchValleyModel", "make", "(III)I"⟩, prog_12_method_37_code, 14, (some .int)), (⟨"WatchValleyModel", "firstFor", "(IIII)I"⟩, prog_12_method_35_code, 6, (some .int)), (⟨"WatchValleyModel", "leave", "(II)V"⟩, prog_12_method_36_code, 4, none), (⟨"WatchValleyModel", "watch", "(II)I"⟩, prog_12_method_39_code, 3, (some .int)), (⟨"WatchValleyModel", "homesOfWatch", "(I)I"⟩, prog_12_method_38_code, 2, (some .int)), (⟨"WatchValleyModel", "back", "(IZ)Z"⟩, prog_12_method_40_code, 3, (some .boolean)), (⟨"WatchValleyModel", "counts", "(II)I"⟩, prog_12_method_42_code, 3, (some .int)), (⟨"WatchValleyModel", "countOf", "(IZ)I"⟩, prog_12_method_41_code, 5, (some .int)), (⟨"WatchValleyModel", "suspect", "(I)I"⟩, prog_12_method_43_code, 4, (some .int)), (⟨"WatchValleyModel", "recall", "(I)I"⟩, prog_12_method_44_code, 4, (some .int))]
def MTT : List MtT := MT_0 ++ (MT_1 ++ (MT_2 ++ (MT_3)))
def mt (k : Nat) : MtT := MTT.getD k (⟨"", "", ""⟩, ⟨#[]⟩, 0, none)
def mtW (q : MtT) : Cond := .code q.1 q.2.1 q.2.2.1 q.2.2.2
set_option maxRecDepth 100000 in
theorem MTok_0 : ∀ w ∈ MT_0.map mtW, w ∈ tb := tb_of _ [61, 77, 92, 98, 179, 183, 235, 238, 244, 248, 299, 344, 348, 352, 356, 360, 364, 369, 373, 377, 382, 400, 404, 408, 412, 416, 420, 424, 428, 432, 437, 441] rfl (by decide +kernel)
set_option maxRecDepth 100000 in
theorem MTok_1 : ∀ w ∈ MT_1.map mtW, w ∈ tb := tb_of _ [445, 449, 453, 457, 461, 465, 469, 473, 478, 500, 504, 508, 512, 516, 520, 524, 527, 531, 534, 537, 542, 546, 550, 554, 558, 562, 566, 570, 574, 578, 583, 587] rfl (by decide +kernel)
set_option maxRecDepth 100000 in
theorem MTok_2 : ∀ w ∈ MT_2.map mtW, w ∈ tb := tb_of _ [591, 595, 599, 604, 625, 629, 633, 637, 641, 645, 649, 654, 658, 662, 670, 744, 750, 754, 759, 895, 899, 902, 906, 912, 916, 920, 924, 928, 932, 936, 940, 944] rfl (by decide +kernel)
set_option maxRecDepth 100000 in
theorem MTok_3 : ∀ w ∈ MT_3.map mtW, w ∈ tb := tb_of _ [948, 952, 956, 960, 964, 968, 972, 976, 980, 984, 988, 992, 996, 1000, 1004, 1008, 1012, 1016, 1019, 1025, 1029, 1032, 1037, 1041, 1045, 1049, 1053, 1057, 1061, 1065, 1069, 1073] rfl (by decide +kernel)
theorem MTT_ok : ∀ q ∈ MTT, mtW q ∈ tb := by
  intro q hq
  unfold MTT at hq
  simp only [List.mem_append] at hq
  rcases hq with h | h | h | h
  · exact MTok_0 _ (List.mem_map.mpr ⟨q, h, rfl⟩)
  · exact MTok_1 _ (List.mem_map.mpr ⟨q, h, rfl⟩)
  · exact MTok_2 _ (List.mem_map.mpr ⟨q, h, rfl⟩)
  · exact MTok_3 _ (List.mem_map.mpr ⟨q, h, rfl⟩)
theorem MTT_len : MTT.length = 128 := by decide +kernel
theorem mt_mem {k : Nat} (h : k < 128) : mt k ∈ MTT := by
  have h1 : k < MTT.length := by rw [MTT_len]; exact h
  unfold mt
  rw [List.getD_eq_getElem?_getD, List.getElem?_eq_getElem h1]
  exact List.getElem_mem h1
/-! calls: (owner, entry, number of the method) -/
def IV_0 : List (Nat × Nat × Nat) := [(11, 23, 4), (11, 28, 6), (9, 67, 8), (9, 75, 11), (11, 32, 12), (9, 79, 13), (9, 127, 14), (9, 88, 15), (2, 39, 16), (2, 43, 11), (11, 36, 17), (11, 40, 18), (9, 92, 19), (11, 45, 21), (9, 130, 22), (2, 60, 23), (9, 134, 24), (1, 42, 25), (1, 46, 26), (1, 54, 27), (1, 50, 28), (1, 73, 29), (1, 81, 16), (11, 50, 30)]
def IV_1 : List (Nat × Nat × Nat) := [(9, 138, 31), (9, 144, 32), (9, 261, 33), (9, 147, 34), (11, 55, 35), (11, 59, 36), (9, 153, 37), (11, 73, 38), (11, 77, 39), (11, 85, 41), (11, 90, 42), (9, 158, 43), (9, 225, 44), (11, 94, 45), (9, 229, 46), (9, 233, 47), (3, 36, 49), (4, 46, 44), (9, 237, 52), (3, 43, 53), (3, 50, 54), (4, 55, 55), (3, 54, 56), (11, 98, 57)]
def IV_2 : List (Nat × Nat × Nat) := [(9, 240, 58), (3, 58, 59), (4, 59, 60), (4, 63, 61), (4, 66, 54), (9, 243, 62), (9, 247, 63), (3, 61, 64), (9, 251, 65), (9, 254, 66), (9, 292, 29), (9, 258, 68), (11, 102, 69), (9, 279, 70), (11, 106, 71), (11, 111, 72), (9, 282, 73), (9, 297, 74), (8, 25, 70), (11, 115, 75), (11, 119, 76), (9, 286, 77), (11, 7, 78), (11, 15, 79)]
def IV_3 : List (Nat × Nat × Nat) := [(9, 215, 80), (1, 97, 81), (11, 69, 83), (11, 27, 84), (11, 31, 86), (10, 134, 87), (10, 138, 88), (11, 35, 89), (10, 142, 90), (10, 120, 91), (10, 145, 92), (11, 39, 93), (11, 44, 94), (11, 49, 95), (10, 160, 96), (10, 164, 97), (10, 167, 98), (11, 54, 99), (10, 173, 100), (11, 58, 101), (11, 62, 102), (11, 68, 103), (11, 76, 104), (11, 81, 105)]
def IV_4 : List (Nat × Nat × Nat) := [(11, 84, 106), (10, 180, 107), (11, 89, 108), (11, 93, 109), (10, 184, 110), (11, 97, 111), (10, 202, 112), (10, 205, 113), (10, 193, 116), (11, 101, 118), (10, 208, 119), (10, 212, 120), (11, 105, 121), (10, 215, 122), (11, 110, 123), (11, 114, 124), (10, 218, 125), (11, 118, 126), (11, 122, 127)]
def IVT : List (Nat × Nat × Nat) := IV_0 ++ (IV_1 ++ (IV_2 ++ (IV_3 ++ (IV_4))))
def IVW (q : Nat × Nat × Nat) : List Cond := [.methodLink (ownS q.1) q.2.1 (mt q.2.2).1, .instanceMethod (mt q.2.2).1, .selects (mt q.2.2).1.cls (mt q.2.2).1 (mt q.2.2).1, .initialized (mt q.2.2).1.cls]
set_option maxRecDepth 100000 in
theorem IVok_0 : ∀ w ∈ IV_0.flatMap IVW, w ∈ tb := tb_of _ [176, 177, 178, 39, 232, 233, 234, 39, 241, 243, 0, 39, 341, 342, 343, 45, 345, 346, 347, 39, 349, 351, 1, 39, 353, 355, 2, 39, 357, 358, 359, 45, 361, 362, 363, 45, 365, 342, 343, 45, 366, 367, 368, 39, 370, 371, 372, 39, 374, 376, 3, 39, 397, 398, 399, 39, 401, 402, 403, 45, 405, 406, 407, 44, 409, 410, 411, 44, 413, 414, 415, 45, 417, 419, 4, 44, 421, 422, 423, 45, 425, 427, 5, 44, 429, 430, 431, 46, 433, 362, 363, 45, 434, 435, 436, 39] rfl (by decide +kernel)
set_option maxRecDepth 100000 in
theorem IVok_1 : ∀ w ∈ IV_1.flatMap IVW, w ∈ tb := tb_of _ [438, 440, 6, 39, 442, 444, 7, 39, 446, 448, 8, 39, 450, 452, 9, 39, 454, 455, 456, 39, 458, 459, 460, 39, 462, 463, 464, 45, 466, 467, 468, 39, 470, 471, 472, 39, 497, 498, 499, 39, 501, 502, 503, 39, 505, 507, 10, 39, 509, 510, 511, 40, 513, 514, 515, 39, 517, 519, 11, 39, 521, 522, 523, 41, 528, 529, 530, 42, 538, 510, 511, 40, 539, 540, 541, 41, 543, 545, 12, 41, 547, 548, 549, 42, 551, 553, 13, 42, 555, 556, 557, 42, 559, 560, 561, 39] rfl (by decide +kernel)
set_option maxRecDepth 100000 in
theorem IVok_2 : ∀ w ∈ IV_2.flatMap IVW, w ∈ tb := tb_of _ [563, 564, 565, 41, 567, 568, 569, 42, 571, 573, 14, 42, 575, 577, 15, 42, 579, 548, 549, 42, 580, 581, 582, 41, 584, 585, 586, 41, 588, 589, 590, 42, 592, 593, 594, 41, 596, 598, 16, 39, 600, 430, 431, 46, 622, 623, 624, 45, 626, 627, 628, 39, 630, 631, 632, 56, 634, 635, 636, 39, 638, 639, 640, 39, 642, 644, 17, 39, 646, 647, 648, 56, 650, 631, 632, 56, 651, 652, 653, 39, 655, 656, 657, 39, 659, 660, 661, 56, 667, 668, 669, 39, 741, 742, 743, 39] rfl (by decide +kernel)
set_option maxRecDepth 100000 in
theorem IVok_3 : ∀ w ∈ IV_3.flatMap IVW, w ∈ tb := tb_of _ [747, 748, 749, 44, 751, 753, 19, 44, 892, 893, 894, 43, 896, 897, 898, 43, 903, 904, 905, 43, 909, 911, 20, 43, 913, 915, 21, 43, 917, 918, 919, 43, 921, 923, 22, 43, 925, 927, 23, 43, 929, 931, 24, 43, 933, 934, 935, 43, 937, 938, 939, 43, 941, 942, 943, 43, 945, 947, 25, 43, 949, 951, 26, 43, 953, 955, 27, 43, 957, 958, 959, 43, 961, 963, 28, 43, 965, 966, 967, 43, 969, 970, 971, 43, 973, 974, 975, 43, 977, 978, 979, 43, 981, 982, 983, 43] rfl (by decide +kernel)
set_option maxRecDepth 100000 in
theorem IVok_4 : ∀ w ∈ IV_4.flatMap IVW, w ∈ tb := tb_of _ [985, 986, 987, 43, 989, 991, 29, 43, 993, 994, 995, 43, 997, 998, 999, 43, 1001, 1003, 30, 43, 1005, 1006, 1007, 43, 1009, 1011, 31, 43, 1013, 1015, 32, 43, 1026, 1028, 33, 43, 1034, 1035, 1036, 43, 1038, 1040, 34, 43, 1042, 1044, 35, 43, 1046, 1047, 1048, 43, 1050, 1052, 36, 43, 1054, 1055, 1056, 43, 1058, 1059, 1060, 43, 1062, 1064, 37, 43, 1066, 1067, 1068, 43, 1070, 1071, 1072, 43] rfl (by decide +kernel)
theorem IVT_ok : ∀ q ∈ IVT, ∀ w ∈ IVW q, w ∈ tb := by
  intro q hq w hw
  unfold IVT at hq
  simp only [List.mem_append] at hq
  rcases hq with h | h | h | h | h
  · exact IVok_0 w (List.mem_flatMap.mpr ⟨q, h, hw⟩)
  · exact IVok_1 w (List.mem_flatMap.mpr ⟨q, h, hw⟩)
  · exact IVok_2 w (List.mem_flatMap.mpr ⟨q, h, hw⟩)
  · exact IVok_3 w (List.mem_flatMap.mpr ⟨q, h, hw⟩)
  · exact IVok_4 w (List.mem_flatMap.mpr ⟨q, h, hw⟩)
theorem IVT_lt : ∀ q ∈ IVT, q.2.2 < 128 := by decide +kernel
def IS_0 : List (Nat × Nat × Nat) := [(9, 60, 7), (3, 27, 48), (4, 21, 50), (4, 37, 51), (10, 117, 85), (10, 196, 114), (10, 199, 115), (10, 188, 117)]
def IST : List (Nat × Nat × Nat) := IS_0
def ISW (q : Nat × Nat × Nat) : List Cond := [.methodLink (ownS q.1) q.2.1 (mt q.2.2).1, .static (mt q.2.2).1, .initialized (mt q.2.2).1.cls]
set_option maxRecDepth 100000 in
theorem ISok_0 : ∀ w ∈ IS_0.flatMap ISW, w ∈ tb := tb_of _ [236, 237, 39, 525, 526, 53, 532, 533, 54, 535, 536, 42, 900, 901, 43, 1017, 1018, 55, 1023, 1024, 43, 1030, 1031, 55] rfl (by decide +kernel)
theorem IST_ok : ∀ q ∈ IST, ∀ w ∈ ISW q, w ∈ tb := by
  intro q hq w hw
  unfold IST at hq
  exact ISok_0 w (List.mem_flatMap.mpr ⟨q, hq, hw⟩)
theorem IST_lt : ∀ q ∈ IST, q.2.2 < 128 := by decide +kernel
def II_0 : List (Nat × Nat × Nat) := [(11, 19, 0), (9, 54, 5), (9, 289, 9), (9, 72, 10), (9, 108, 20), (9, 208, 40), (9, 295, 67), (11, 22, 82)]
def IIT : List (Nat × Nat × Nat) := II_0
def IIW (q : Nat × Nat × Nat) : List Cond := [.methodLink (ownS q.1) q.2.1 (mt q.2.2).1, .instanceMethod (mt q.2.2).1, .initialized (mt q.2.2).1.cls]
set_option maxRecDepth 100000 in
theorem IIok_0 : ∀ w ∈ II_0.flatMap IIW, w ∈ tb := tb_of _ [59, 60, 39, 181, 182, 44, 246, 247, 45, 297, 298, 46, 380, 381, 47, 476, 477, 52, 602, 603, 56, 757, 758, 43] rfl (by decide +kernel)
theorem IIT_ok : ∀ q ∈ IIT, ∀ w ∈ IIW q, w ∈ tb := by
  intro q hq w hw
  unfold IIT at hq
  exact IIok_0 w (List.mem_flatMap.mpr ⟨q, hq, hw⟩)
theorem IIT_lt : ∀ q ∈ IIT, q.2.2 < 128 := by decide +kernel
def IN_0 : List (Nat × Nat × Nat) := [(9, 35, 1), (9, 45, 2), (3, 11, 3)]
def INT : List (Nat × Nat × Nat) := IN_0
def INW (q : Nat × Nat × Nat) : List Cond := [.instanceMethod (mt q.2.2).1, .initialized (mt q.2.2).1.cls]
set_option maxRecDepth 100000 in
theorem INok_0 : ∀ w ∈ IN_0.flatMap INW, w ∈ tb := tb_of _ [76, 40, 91, 41, 97, 42] rfl (by decide +kernel)
theorem INT_ok : ∀ q ∈ INT, ∀ w ∈ INW q, w ∈ tb := by
  intro q hq w hw
  unfold INT at hq
  exact INok_0 w (List.mem_flatMap.mpr ⟨q, hq, hw⟩)
theorem INT_lt : ∀ q ∈ INT, q.2.2 < 128 := by decide +kernel
set_option maxRecDepth 100000 in
theorem INnest : ∀ w ∈ INT.map (fun q => Cond.methodLinkNest (ownS q.1) q.2.1 (mt q.2.2).1 "WatchValley"), w ∈ lw_tbl := lw_of _ [75, 90, 96] rfl
def IOT : List (Nat × Nat) := [(9, 3), (0, 3), (3, 3), (4, 3), (1, 3), (2, 3), (5, 3), (6, 1), (7, 1), (8, 1), (10, 1)]
set_option maxRecDepth 100000 in
theorem IOok : ∀ w ∈ IOT.map (fun q => Cond.methodLink (ownS q.1) q.2 objectInit), w ∈ tb := tb_of _ [62, 78, 93, 99, 184, 249, 300, 383, 479, 605, 760] rfl (by decide +kernel)
set_option maxRecDepth 100000 in
theorem IOin : ∀ w ∈ [Cond.instanceMethod objectInit, Cond.code objectInit ⟨#[0xb1]⟩ 1 none], w ∈ tb := tb_of _ [63, 64] rfl (by decide +kernel)
/-- the number of the object kind of a method, how many it takes beside the receiver -/
def mtC : List Nat := [9, 0, 3, 4, 9, 1, 9, 9, 9, 2, 5, 2, 9, 9, 9, 2, 2, 9, 9, 9, 6, 9, 2, 1, 1, 2, 1, 2, 1, 5, 9, 9, 9, 9, 9, 9, 9, 2, 9, 9, 7, 9, 9, 9, 0, 9, 9, 3, 13, 4, 14, 4, 3, 3, 4, 4, 4, 9, 3, 4, 4, 4, 3, 3, 4, 3, 9, 8, 2, 9, 8, 9, 9, 9, 8, 9, 9, 8, 9, 9, 1, 1, 10, 10, 10, 10, 10, 10, 10, 10, 10, 10, 10, 10, 10, 10, 10, 10, 10, 10, 10, 10, 10, 10, 10, 10, 10, 10, 10, 10, 10, 10, 10, 10, 12, 10, 10, 12, 10, 10, 10, 10, 10, 10, 10, 10, 10, 10]
def mtN : List Nat := [0, 0, 0, 0, 4, 5, 4, 1, 1, 2, 4, 1, 2, 1, 1, 2, 2, 2, 2, 1, 3, 1, 1, 1, 0, 0, 1, 1, 2, 2, 1, 0, 0, 1, 0, 2, 2, 1, 2, 3, 4, 3, 2, 1, 2, 3, 2, 5, 2, 3, 2, 3, 0, 3, 1, 2, 1, 3, 0, 1, 2, 2, 1, 1, 1, 1, 3, 3, 0, 2, 0, 2, 2, 2, 1, 1, 1, 1, 2, 2, 1, 2, 0, 0, 4, 3, 4, 1, 2, 2, 1, 1, 2, 2, 2, 1, 1, 1, 2, 1, 0, 2, 2, 2, 2, 3, 2, 3, 3, 2, 2, 3, 3, 3, 1, 2, 3, 1, 3, 4, 2, 2, 1, 2, 2, 2, 1, 1]
set_option maxRecDepth 100000 in
theorem mt_cls : ∀ k, k < 128 → (mt k).1.cls = ownS (mtC.getD k 0) := by decide +kernel
set_option maxRecDepth 100000 in
theorem mt_par : ∀ k, k < 128 → (parseMethodDescriptor (mt k).1.desc).map (fun d => d.parameters.length) = some (mtN.getD k 0) := by decide +kernel
set_option maxRecDepth 100000 in
theorem mt_mh : ∀ k, k < 128 → (mt k).1.cls ≠ "java/lang/invoke/MethodHandle" ∧ (mt k).1.cls ≠ "java/lang/invoke/VarHandle" := by decide +kernel
set_option maxRecDepth 100000 in
theorem mt_pf : ∀ k, k < 128 → plainFor (mt k).1 = true := by decide +kernel
def CKT : List (Nat × Nat × Int32) := [(12, 265, 1431655765), (12, 266, 858993459), (12, 267, 252645135), (12, 264, 65536)]
set_option maxRecDepth 100000 in
theorem CKok : ∀ w ∈ CKT.map (fun q => Cond.constant (ownS q.1) q.2.1 q.2.2), w ∈ tb := tb_of _ [1020, 1021, 1022, 1033] rfl (by decide +kernel)
def CJT : List (Nat × Nat × Int64) := [(9, 300, -100), (9, 302, 100), (10, 130, -100), (10, 132, 100)]
set_option maxRecDepth 100000 in
theorem CJok : ∀ w ∈ CJT.map (fun q => Cond.constantLong (ownS q.1) q.2.1 q.2.2), w ∈ tb := tb_of _ [239, 240, 907, 908] rfl (by decide +kernel)
set_option maxRecDepth 100000 in
theorem AOok : ∀ w ∈ [Cond.arrayOver (.object "WatchValley$Piece"), .arrayOver (.object "WatchValley$Lot"), .arrayOver (.object "WatchValley$Home"), .arrayOver (.object "WatchValley$Watch")], w ∈ lw_tbl := lw_of _ [66, 68, 70, 72] rfl
set_option maxRecDepth 100000 in
theorem ACok : ∀ w ∈ [Cond.arrayClass .int, .arrayClass .boolean, .arrayClass .long], w ∈ tb := tb_of _ [116, 891, 1074] rfl (by decide +kernel)
end
section
/-! THE STORE: what the heap holds, by kinds of addresses; fields by (kind, field, address); rows by (address, place); the heap's size -/
abbrev Hp : Type := (Nat → Option Nat) × (Nat → Nat → Nat → Int32) × (Nat → Nat → Nat → Option Nat) × (Nat → Nat) × (Nat → Nat → Int32) × (Nat → Nat → Option Nat) × (Nat → Nat → Int64) × Nat
def gK (S : Hp) : Nat → Option Nat := S.1
def gI (S : Hp) : Nat → Nat → Nat → Int32 := S.2.1
def gR (S : Hp) : Nat → Nat → Nat → Option Nat := S.2.2.1
def gN (S : Hp) : Nat → Nat := S.2.2.2.1
def gA (S : Hp) : Nat → Nat → Int32 := S.2.2.2.2.1
def gQ (S : Hp) : Nat → Nat → Option Nat := S.2.2.2.2.2.1
def gJ (S : Hp) : Nat → Nat → Int64 := S.2.2.2.2.2.2.1
def gZ (S : Hp) : Nat := S.2.2.2.2.2.2.2
def u3 {α : Type} (f : Nat → Nat → Nat → α) (c k a : Nat) (v : α) : Nat → Nat → Nat → α := fun c' k' a' => if c' = c ∧ k' = k ∧ a' = a then v else f c' k' a'
def u2 {α : Type} (f : Nat → Nat → α) (a j : Nat) (v : α) : Nat → Nat → α := fun a' j' => if a' = a ∧ j' = j then v else f a' j'
def sI (S : Hp) (c k a : Nat) (v : Int32) : Hp := (gK S, u3 (gI S) c k a v, gR S, gN S, gA S, gQ S, gJ S, gZ S)
def sR (S : Hp) (c k a : Nat) (v : Option Nat) : Hp := (gK S, gI S, u3 (gR S) c k a v, gN S, gA S, gQ S, gJ S, gZ S)
def sA (S : Hp) (a j : Nat) (v : Int32) : Hp := (gK S, gI S, gR S, gN S, u2 (gA S) a j v, gQ S, gJ S, gZ S)
def sQ (S : Hp) (a j : Nat) (v : Option Nat) : Hp := (gK S, gI S, gR S, gN S, gA S, u2 (gQ S) a j v, gJ S, gZ S)
def sJ (S : Hp) (a j : Nat) (v : Int64) : Hp := (gK S, gI S, gR S, gN S, gA S, gQ S, u2 (gJ S) a j v, gZ S)
def sNew (S : Hp) (t : Nat) : Hp := (fun a => if a = gZ S then some t else gK S a, fun c k a => if a = gZ S then 0 else gI S c k a, fun c k a => if a = gZ S then none else gR S c k a, gN S, gA S, gQ S, gJ S, gZ S + 1)
def sArr (S : Hp) (t n : Nat) : Hp := (fun a => if a = gZ S then some t else gK S a, gI S, gR S, fun a => if a = gZ S then n else gN S a, fun a j => if a = gZ S then 0 else gA S a j, fun a j => if a = gZ S then none else gQ S a j, fun a j => if a = gZ S then 0 else gJ S a j, gZ S + 1)
abbrev GG : Type := va_G × (Nat → ClassId)
def fv (S : Hp) (t k a : Nat) : Value := bif isRf t k then va_rf (gR S t k a) else .int (gI S t k a)
def encO (S : Hp) (t a : Nat) : List Value := (List.range (clN t)).map (fun k => fv S t k a)
def enc (G : GG) (S : Hp) (a : Nat) : va_E :=
  (gK S a).elim (.inr (0, [])) (fun t => if t < 20 then .inr (t, encO S t a) else if t < 22 then .inl (G.2 (t - 20), (gN S a, .inl (gA S a))) else if t = 22 then .inl (G.2 2, (gN S a, .inr (.inl (gJ S a)))) else .inl (G.2 (t - 20), (gN S a, .inr (.inr (.inr (.inr (gQ S a)))))))
def hd (G : GG) (A : Nat → Prop) (S : Hp) (H : Heap) : Prop := H.size = gZ S ∧ ∃ LP : List Nat, (∀ a, gK S a ≠ none ↔ a ∈ LP) ∧ va_P G.1 classes (va_pl LP (enc G S)) H ∧ va_D A (va_pl LP (enc G S))
abbrev tysG (G : GG) : List (ClassId × FieldType) := [(G.2 0, .int), (G.2 1, .boolean), (G.2 2, .long), (G.2 3, .object "WatchValley$Piece"), (G.2 4, .object "WatchValley$Lot"), (G.2 5, .object "WatchValley$Home"), (G.2 6, .object "WatchValley$Watch")]
abbrev nsW (q : Nat × Nat × Nat) : Cond := .methodLinkNest (ownS q.1) q.2.1 (mt q.2.2).1 "WatchValley"
/-- what the tables say of the run's classes -/
def kk (G : GG) (U : State) : Prop := va_K G.1 classes (tysG G) U ∧ (va_AO "WatchValley$Piece" U ∧ va_AO "WatchValley$Lot" U ∧ va_AO "WatchValley$Home" U ∧ va_AO "WatchValley$Watch" U) ∧ ∀ q ∈ INT, va_Nw (nsW q) U
theorem kk_same {G : GG} {u U : State} (h : u.vm = U.vm) (k : kk G u) : kk G U := by
  obtain ⟨k1, ⟨a1, a2, a3, a4⟩, k3⟩ := k
  have ha : u.vm.Alike U.vm := by rw [h]; exact Vm.Alike.refl _
  exact ⟨k1.moved ha, ⟨a1.moved ha, a2.moved ha, a3.moved ha, a4.moved ha⟩, fun q hq => va_Nw.same rfl h (k3 q hq)⟩
theorem kk_warm {G : GG} {s U : State} (h : s.WarmedH U.vm) (k : kk G s) : kk G U := by
  obtain ⟨k1, ⟨a1, a2, a3, a4⟩, k3⟩ := k
  have ha : s.vm.Alike U.vm := h.alike
  exact ⟨k1.moved ha, ⟨a1.moved ha, a2.moved ha, a3.moved ha, a4.moved ha⟩, fun q hq => va_Nw.warmM h (k3 q hq)⟩
theorem enc_o {G : GG} {S : Hp} {a t : Nat} (h : gK S a = some t) (ht : t < 20) : enc G S a = .inr (t, encO S t a) := by simp [enc, h, ht]
theorem enc_i {G : GG} {S : Hp} {a t : Nat} (h : gK S a = some t) (h1 : 20 ≤ t) (h2 : t < 22) : enc G S a = .inl (G.2 (t - 20), (gN S a, .inl (gA S a))) := by
  have h3 : ¬ t < 20 := by omega
  simp [enc, h, h3, h2]
theorem enc_j {G : GG} {S : Hp} {a : Nat} (h : gK S a = some 22) : enc G S a = .inl (G.2 2, (gN S a, .inr (.inl (gJ S a)))) := by simp [enc, h]
theorem enc_q {G : GG} {S : Hp} {a t : Nat} (h : gK S a = some t) (h1 : 23 ≤ t) : enc G S a = .inl (G.2 (t - 20), (gN S a, .inr (.inr (.inr (.inr (gQ S a)))))) := by
  have h3 : ¬ t < 20 := by omega
  have h4 : ¬ t < 22 := by omega
  have h5 : ¬ t = 22 := by omega
  simp [enc, h, h3, h4, h5]
theorem encO_get {S : Hp} {t a k : Nat} (h : k < clN t) : (encO S t a)[k]? = some (fv S t k a) := by simp [encO, h]
theorem encO_len {S : Hp} {t a : Nat} : (encO S t a).length = clN t := by simp [encO]
theorem encO_set {S S' : Hp} {t a k : Nat} {v : Value} (h : k < clN t) (h1 : fv S' t k a = v) (h2 : ∀ j, j ≠ k → fv S' t j a = fv S t j a) : (encO S t a).set k v = encO S' t a := by
  apply List.ext_getElem?
  intro j
  by_cases hj : j = k
  · subst hj
    rw [List.getElem?_set_self (by rw [encO_len]; exact h), encO_get h, h1]
  · rw [List.getElem?_set_ne (Ne.symm hj)]
    by_cases hl : j < clN t
    · rw [encO_get hl, encO_get hl, h2 j hj]
    · rw [List.getElem?_eq_none (by rw [encO_len]; omega), List.getElem?_eq_none (by rw [encO_len]; omega)]
/-- outside the address nothing has changed, at it the new row stands -/
theorem enc_up {G : GG} {S S' : Hp} {a : Nat} {e : va_E} (h1 : enc G S' a = e) (h2 : ∀ b, b ≠ a → enc G S' b = enc G S b) : ∀ b, va_up (enc G S) a e b = enc G S' b := by
  intro b
  by_cases hb : b = a
  · subst hb
    rw [va_up_self, h1]
  · rw [va_up_ne _ _ hb, h2 b hb]
theorem enc_eq {G : GG} {S S' : Hp} {b : Nat} (h0 : gK S' b = gK S b) (h1 : ∀ t k, gI S' t k b = gI S t k b) (h2 : ∀ t k, gR S' t k b = gR S t k b) (h3 : gN S' b = gN S b) (h4 : ∀ j, gA S' b j = gA S b j) (h5 : ∀ j, gQ S' b j = gQ S b j) (h6 : ∀ j, gJ S' b j = gJ S b j) : enc G S' b = enc G S b := by
  have e4 : gA S' b = gA S b := funext h4
  have e5 : gQ S' b = gQ S b := funext h5
  have e6 : gJ S' b = gJ S b := funext h6
  have e1 : ∀ t, encO S' t b = encO S t b := fun t => by simp [encO, fv, h1, h2]
  simp only [enc, h0, h3, e1, e4, e5, e6]
theorem u3_ne {α : Type} {f : Nat → Nat → Nat → α} {c k a c' k' a' : Nat} {v : α} (h : a' ≠ a) : u3 f c k a v c' k' a' = f c' k' a' := by simp [u3, h]
theorem u2_ne {α : Type} {f : Nat → Nat → α} {a j a' j' : Nat} {v : α} (h : a' ≠ a) : u2 f a j v a' j' = f a' j' := by simp [u2, h]
theorem fv_i {S : Hp} {t k a : Nat} (h : isRf t k = false) : fv S t k a = .int (gI S t k a) := by simp [fv, h]
theorem fv_r {S : Hp} {t k a : Nat} (h : isRf t k = true) : fv S t k a = va_rf (gR S t k a) := by simp [fv, h]
theorem up_sI {G : GG} {S : Hp} {t k a : Nat} {v : Int32} (hK : gK S a = some t) (ht : t < 20) (hk : k < clN t) (hr : isRf t k = false) : ∀ b, va_up (enc G S) a (.inr (t, (encO S t a).set k (.int v))) b = enc G (sI S t k a v) b := by
  refine enc_up ?_ ?_
  · rw [enc_o (S := sI S t k a v) hK ht, encO_set (S' := sI S t k a v) hk]
    · rw [fv_i hr]; simp [gI, sI, u3]
    · intro j hj
      by_cases hq : isRf t j = true
      · rw [fv_r hq, fv_r hq]; rfl
      · have hq : isRf t j = false := by simpa using hq
        rw [fv_i hq, fv_i hq]; simp [gI, sI, u3, hj]
  · intro b hb
    exact enc_eq rfl (fun t' k' => u3_ne hb) (fun _ _ => rfl) rfl (fun _ => rfl) (fun _ => rfl) (fun _ => rfl)
theorem up_sR {G : GG} {S : Hp} {t k a : Nat} {v : Option Nat} (hK : gK S a = some t) (ht : t < 20) (hk : k < clN t) (hr : isRf t k = true) : ∀ b, va_up (enc G S) a (.inr (t, (encO S t a).set k (va_rf v))) b = enc G (sR S t k a v) b := by
  refine enc_up ?_ ?_
  · rw [enc_o (S := sR S t k a v) hK ht, encO_set (S' := sR S t k a v) hk]
    · rw [fv_r hr]; simp [gR, sR, u3]
    · intro j hj
      by_cases hq : isRf t j = true
      · rw [fv_r hq, fv_r hq]; simp [gR, sR, u3, hj]
      · have hq : isRf t j = false := by simpa using hq
        rw [fv_i hq, fv_i hq]; rfl
  · intro b hb
    exact enc_eq rfl (fun _ _ => rfl) (fun t' k' => u3_ne hb) rfl (fun _ => rfl) (fun _ => rfl) (fun _ => rfl)
theorem upd_u2 {α : Type} (f : Nat → Nat → α) (a j : Nat) (v : α) : u2 f a j v a = fun q => if q = j then v else f a q := by
  funext q
  simp [u2]
theorem up_sA {G : GG} {S : Hp} {t a j : Nat} {v : Int32} (hK : gK S a = some t) (h1 : 20 ≤ t) (h2 : t < 22) : ∀ b, va_up (enc G S) a (.inl (G.2 (t - 20), (gN S a, .inl (upd (gA S a) j v)))) b = enc G (sA S a j v) b := by
  refine enc_up ?_ ?_
  · rw [enc_i (S := sA S a j v) hK h1 h2]
    have e : gA (sA S a j v) a = upd (gA S a) j v := upd_u2 _ _ _ _
    rw [e]; rfl
  · intro b hb
    exact enc_eq rfl (fun _ _ => rfl) (fun _ _ => rfl) rfl (fun _ => u2_ne hb) (fun _ => rfl) (fun _ => rfl)
theorem up_sQ {G : GG} {S : Hp} {t a j : Nat} {v : Option Nat} (hK : gK S a = some t) (h1 : 23 ≤ t) : ∀ b, va_up (enc G S) a (.inl (G.2 (t - 20), (gN S a, .inr (.inr (.inr (.inr (va_up (gQ S a) j v))))))) b = enc G (sQ S a j v) b := by
  refine enc_up ?_ ?_
  · rw [enc_q (S := sQ S a j v) hK h1]
    have e : gQ (sQ S a j v) a = va_up (gQ S a) j v := upd_u2 _ _ _ _
    rw [e]; rfl
  · intro b hb
    exact enc_eq rfl (fun _ _ => rfl) (fun _ _ => rfl) rfl (fun _ => rfl) (fun _ => u2_ne hb) (fun _ => rfl)
theorem up_sJ {G : GG} {S : Hp} {a j : Nat} {v : Int64} (hK : gK S a = some 22) : ∀ b, va_up (enc G S) a (.inl (G.2 2, (gN S a, .inr (.inl (vp_updL (gJ S a) j v))))) b = enc G (sJ S a j v) b := by
  refine enc_up ?_ ?_
  · rw [enc_j (S := sJ S a j v) hK]
    have e : gJ (sJ S a j v) a = vp_updL (gJ S a) j v := upd_u2 _ _ _ _
    rw [e]; rfl
  · intro b hb
    exact enc_eq rfl (fun _ _ => rfl) (fun _ _ => rfl) rfl (fun _ => rfl) (fun _ => rfl) (fun _ => u2_ne hb)
theorem hd_in {G : GG} {A : Nat → Prop} {S : Hp} {H : Heap} (h : hd G A S H) {a t : Nat} (hk : gK S a = some t) : ∃ (LP : List Nat) (q : Nat), a ∈ LP ∧ (va_pl LP (enc G S))[q]? = some (a, enc G S a) ∧ (∀ b, gK S b ≠ none ↔ b ∈ LP) ∧ va_P G.1 classes (va_pl LP (enc G S)) H ∧ va_D A (va_pl LP (enc G S)) := by
  obtain ⟨hz, LP, hL, hP, hD⟩ := h
  have ha : a ∈ LP := (hL a).mp (by rw [hk]; exact fun h => by cases h)
  obtain ⟨q, hq⟩ := va_pl_get (X := []) (f := enc G S) ha
  exact ⟨LP, q, ha, hq, hL, hP, hD⟩
theorem hd_lt {G : GG} {A : Nat → Prop} {S : Hp} {H : Heap} (h : hd G A S H) {a t : Nat} (hk : gK S a = some t) : a < gZ S := by
  obtain ⟨LP, q, ha, hq, hL, hP, hD⟩ := hd_in h hk
  have := (hP q _ hq).lt
  rw [h.1] at this
  exact this
/-- behind a store into the cell at a -/
theorem hd_put {G : GG} {A : Nat → Prop} {S S' : Hp} {H H1 : Heap} {LP : List Nat} {a q : Nat} {e : va_E} (ha : a ∈ LP) (hq : (va_pl LP (enc G S))[q]? = some (a, enc G S a)) (hL : ∀ b, gK S b ≠ none ↔ b ∈ LP) (hD : va_D A (va_pl LP (enc G S))) (hup : ∀ b, va_up (enc G S) a e b = enc G S' b) (hK : gK S' = gK S) (hz : H1.size = gZ S') (hP1 : va_P G.1 classes ((va_pl LP (enc G S)).set q (a, e)) H1) (hD1 : va_D A ((va_pl LP (enc G S)).set q (a, e))) : hd G A S' H1 := by
  have es : (va_pl LP (enc G S)).set q (a, e) = va_pl LP (enc G S') := by
    have := va_pl_set (X := []) (e := e) hD ha hq
    rw [List.nil_append, List.nil_append] at this
    rw [this]
    exact va_pl_congr hup
  rw [es] at hP1 hD1
  exact ⟨hz, LP, by rw [hK]; exact hL, hP1, hD1⟩
theorem enc_new {G : GG} {S : Hp} {t : Nat} (ht : t < 20) : enc G (sNew S t) (gZ S) = .inr (t, encO (sNew S t) t (gZ S)) := enc_o (by simp [gK, sNew]) ht
theorem hd_push {G : GG} {A : Nat → Prop} {S S' : Hp} {H H1 : Heap} {e : va_E} (h : hd G A S H) (he : enc G S' (gZ S) = e) (hn : gK S' (gZ S) ≠ none) (ho : ∀ b, b ≠ gZ S → enc G S' b = enc G S b ∧ gK S' b = gK S b) (hz : gZ S' = gZ S + 1) (hz1 : H1.size = H.size + 1) (hat : va_at G.1 classes (gZ S, e) H1) (o1 : ∀ q, q < H.size → H1[q]? = H[q]?) (hA : A (gZ S)) : hd G A S' H1 := by
  obtain ⟨h0, LP, hL, hP, hD⟩ := h
  have hf : gZ S ∉ LP := va_pl_fresh (X := []) (f := enc G S) hP (by rw [h0]; exact Nat.le_refl _)
  have e1 : va_pl LP (enc G S) ++ [(gZ S, e)] = va_pl (LP ++ [gZ S]) (enc G S') := by
    rw [va_pl_push hf]
    exact va_pl_congr (enc_up he (fun b hb => (ho b hb).1))
  refine ⟨by rw [hz1, h0, hz], LP ++ [gZ S], fun b => ?_, ?_, ?_⟩
  · by_cases hb : b = gZ S
    · subst hb
      exact ⟨fun _ => List.mem_append_right _ (List.mem_singleton.mpr rfl), fun _ => hn⟩
    · rw [(ho b hb).2, hL b]
      simp [hb]
  · rw [← e1]
    refine (hP.kept (fun k x hx => o1 x.1 ((hP k x hx).lt))).app (fun k x hx => ?_)
    have hk : k < 1 := (List.getElem?_eq_some_iff.mp hx).1
    rw [show k = 0 by omega] at hx
    cases hx
    exact hat
  · rw [← e1]
    rw [← h0]
    exact hD.push hP rfl (by rw [h0]; exact hA)
end
section
/-! ROWS: an instruction over the store -/
/-- what holds in a method's body -/
def Cx (p : Program) (s : State) (m : MethodId) (args : Array Value) (meth : Method) (c : Code) (cc : ByteArray) (nL ow : Nat) (G : GG) (rt : Option FieldType) : Prop :=
  p.tables.exec = Jvm.exec ∧ c.code = cc ∧ c.maxLocals = nL ∧ s.vm.findClass (ownS ow) = some m.cls ∧ (∀ w ∈ tb, w.before args s = true) ∧ kk G s ∧ meth.sig.returnType = rt ∧ meth.locks = false
section ROWS
variable {p : Program} {l : Launch} {e : Env} {R : Room} {s : State} {m : MethodId} {args : Array Value} {below : List Frame} {meth : Method} {c : Code} {H H0 : Heap} {locs : List Loc} {cells slots : Nat} {Q : State → Prop}
variable {cc : ByteArray} {pc nL ow : Nat} {G : GG} {rt : Option FieldType} {A : Nat → Prop} {ls : Array Slot} {rest : List Value} {S : Hp}
theorem r_get (C : Cx p s m args meth c cc nL ow G rt) (hh : hd G A S H) {idx t k a : Nat} (hq : (ow, idx, t, k) ∈ FLT) (hk : gK S a = some t) (hdg : decode cc pc = .ok (.getfield idx, 3))
    (kk : W p l e R s m args below meth c H locs cells slots Q (F0 m (pc + 3) ls (fv S t k a :: rest))) : W p l e R s m args below meth c H locs cells slots Q (F0 m pc ls (.ref a :: rest)) := by
  obtain ⟨hx, hb, hml, hown, hts, hK, hr, hlk⟩ := C
  obtain ⟨ht, hkN⟩ : t < 11 ∧ k < clN t := FLT_lt _ hq
  obtain ⟨LP, q, ha, h0, hL, hP, hD⟩ := hd_in hh hk
  rw [enc_o hk (by omega)] at h0
  have hl := hts _ (FLT_ok _ hq)
  exact va_get (D := G.1) (ci := t) (v := fv S t k a) (C := ownS t) (T := clT t) (N := clN t) hx hb hts (cl_in t ht) hown hK.1 hP q h0 (cl_at t ht) k hkN hl (fun _ h9 => by rw [cl_dc t ht k hkN] at h9; exact h9) (encO_get hkN) hdg kk
theorem r_put (C : Cx p s m args meth c cc nL ow G rt) (hh : hd G A S H) (hS : va_S A H0 H locs) {idx t k a : Nat} {v : Value} {S' : Hp} (hq : (ow, idx, t, k) ∈ FLT) (hk : gK S a = some t) (hfin : isFin t k = false ∨ (meth.name = "<init>" ∧ ow = t)) (hn : narrow (clTy t k) v = v) (hf : fits (clTy t k) v = true)
    (hup : ∀ b, va_up (enc G S) a (.inr (t, (encO S t a).set k v)) b = enc G S' b) (hKK : gK S' = gK S) (hZ : gZ S' = gZ S) (hdg : decode cc pc = .ok (.putfield idx, 3))
    (kk : ∀ (H1 : Heap) (locs1 : List Loc), hd G A S' H1 → va_S A H0 H1 locs1 → W p l e R s m args below meth c H1 locs1 cells slots Q (F0 m (pc + 3) ls rest)) : W p l e R s m args below meth c H locs cells slots Q (F0 m pc ls (v :: .ref a :: rest)) := by
  obtain ⟨hx, hb, hml, hown, hts, hK, hr, hlk⟩ := C
  obtain ⟨ht, hkN⟩ : t < 11 ∧ k < clN t := FLT_lt _ hq
  obtain ⟨LP, q, ha, h0, hL, hP, hD⟩ := hd_in hh hk
  have h0' := h0
  rw [enc_o hk (by omega)] at h0'
  have hlink := hts _ (FLT_ok _ hq)
  have hc := cl_at t ht
  have hap := va_apart (own := ownS ow) hts (cl_in t ht) (clTy t) (cl_ty t ht) (cl_nm t ht) hK.1 hc
  obtain ⟨r, h1, cell, q1, q2, q3, q4⟩ := hP q _ h0'
  have hr1 : r = (ownS t, clT t, clN t) := Option.some.inj (h1.symm.trans hc)
  subst hr1
  obtain ⟨hSl, hfc, kC, hkC, hkind⟩ := hK.1.1 t _ hc
  obtain ⟨cf, kf, fi, f, hi, hsl⟩ := hSl k hkN
  have hst := (u_facts hfc hkC (u_lays hts (cl_in t ht) hkN) hi).1
  have hlen : k < (encO S t a).length := by rw [encO_len]; exact hkN
  have hi2 : s.fieldFound? (ownS t) (clT t k).2.1 (clT t k).2.2.1 = some (cf, kf, fi, f) := by
    have h9 := hi
    rw [cl_dc t ht k hkN] at h9
    exact h9
  have fin : ∀ H' : Heap, H'[a]? = some (cell.setSlot (G.1.2 t k) v) → H'.size = H.size → (∀ q : Nat, q ≠ a → H'[q]? = H[q]?) → hd G A S' H' := by
    intro H' e1 e2 e3
    refine hd_put (H := H) ha h0 hL hD hup hKK (by rw [e2, hh.1, hZ]) (hP.set hD h0' ⟨_, hc, t_OB.to (V := updV (vp_V (encO S t a)) k v) ⟨_, e1, q2, q3, t_set q4 hap hkN v⟩ (fun j _ => vp_updV_set hlen v j)⟩ e3) (hD.set h0')
  have hlay := hts _ (cl_in t ht _ (u_in_lay hkN))
  by_cases hF : isFin t k = true
  · obtain ⟨hin, hot⟩ := hfin.resolve_left (by rw [hF]; decide)
    subst hot
    unfold u_lay at hlay
    rw [if_pos (by rw [cl_fi ow ht k hkN]; exact hF)] at hlay
    have hcf : m.cls = cf := by
      obtain ⟨_, _, c', _, _, _, -, -, hf', -, -, -, hown2, -⟩ := Cond.laysFinal_spec hlay
      have e1 : c' = cf := by have := hi.symm.trans hf'; simp at this; exact this.1.symm
      rw [cl_dc ow ht k hkN] at hown2
      rw [← e1]; exact Option.some.inj (hown.symm.trans hown2)
    have h6 := u_fits hfc hkC hkind (Or.inr hlay) hi (cl_ty ow ht k hkN) hn hf
    refine W.putFinK hx hb hown hlink hi2 hst hcf hin (by rw [q2]; exact h6) q1 q3 (by rw [hsl]; exact k2_hasslot (q4 k hkN)) rfl rfl hdg fun H' e1 e2 e3 => ?_
    rw [hsl] at e1
    exact kk H' _ (fin H' e1 e2 e3) (hS.put e2 e3 (hD.2 q _ h0'))
  · have hF : isFin t k = false := by simpa using hF
    unfold u_lay at hlay
    rw [if_neg (by rw [cl_fi t ht k hkN, hF]; decide)] at hlay
    have h6 := u_store hfc hkC hkind hlay hi (cl_ty t ht k hkN) hn hf
    refine W.putK hx hb (f := f) ⟨hown, hlink, ⟨_, _, _, hi2⟩, hst⟩ (by rw [q2]; exact h6) q1 q3 (by rw [hsl]; exact k2_hasslot (q4 k hkN)) rfl rfl hdg fun H' e1 e2 e3 => ?_
    rw [hsl] at e1
    exact kk H' _ (fin H' e1 e2 e3) (hS.put e2 e3 (hD.2 q _ h0'))
theorem vp_ix {j n : Nat} (h : j < n) (hj : j < 2147483648) : vp_in (nI j) n := by
  have hc : (nI j).toNatClampNeg = j := nI_clamp hj
  intro q
  rcases q with q | q
  · exact nI_pos hj q
  · rw [hc] at q; omega
theorem cl_ix {j : Nat} (hj : j < 2147483648) : (nI j).toNatClampNeg = j := nI_clamp hj
theorem r_iald (C : Cx p s m args meth c cc nL ow G rt) (hh : hd G A S H) {a j : Nat} (hk : gK S a = some 20) (hj : j < gN S a) (hj2 : j < 2147483648) (hdg : decode cc pc = .ok (.iaload, 1))
    (kk : W p l e R s m args below meth c H locs cells slots Q (F0 m (pc + 1) ls (.int (gA S a j) :: rest))) : W p l e R s m args below meth c H locs cells slots Q (F0 m pc ls (.int (nI j) :: .ref a :: rest)) := by
  obtain ⟨hx, hb, hml, hown, hts, hK, hr, hlk⟩ := C
  obtain ⟨LP, q, ha, h0, hL, hP, hD⟩ := hd_in hh hk
  rw [enc_i hk (by decide) (by decide)] at h0
  refine va_iald hx hb hK.1 hP q 0 h0 rfl (vp_ix hj hj2) hdg ?_
  rw [cl_ix hj2]
  exact kk
theorem r_zald (C : Cx p s m args meth c cc nL ow G rt) (hh : hd G A S H) {a j : Nat} (hk : gK S a = some 21) (hj : j < gN S a) (hj2 : j < 2147483648) (hdg : decode cc pc = .ok (.baload, 1))
    (kk : W p l e R s m args below meth c H locs cells slots Q (F0 m (pc + 1) ls (.int (gA S a j) :: rest))) : W p l e R s m args below meth c H locs cells slots Q (F0 m pc ls (.int (nI j) :: .ref a :: rest)) := by
  obtain ⟨hx, hb, hml, hown, hts, hK, hr, hlk⟩ := C
  obtain ⟨LP, q, ha, h0, hL, hP, hD⟩ := hd_in hh hk
  rw [enc_i hk (by decide) (by decide)] at h0
  refine va_zald hx hb hK.1 hP q 1 h0 rfl (vp_ix hj hj2) hdg ?_
  rw [cl_ix hj2]
  exact kk
theorem r_lald (C : Cx p s m args meth c cc nL ow G rt) (hh : hd G A S H) {a j : Nat} (hk : gK S a = some 22) (hj : j < gN S a) (hj2 : j < 2147483648) (hdg : decode cc pc = .ok (.laload, 1))
    (kk : W p l e R s m args below meth c H locs cells slots Q (F0 m (pc + 1) ls (.long (gJ S a j) :: rest))) : W p l e R s m args below meth c H locs cells slots Q (F0 m pc ls (.int (nI j) :: .ref a :: rest)) := by
  obtain ⟨hx, hb, hml, hown, hts, hK, hr, hlk⟩ := C
  obtain ⟨LP, q, ha, h0, hL, hP, hD⟩ := hd_in hh hk
  rw [enc_j hk] at h0
  refine va_lald hx hb hK.1 hP q 2 h0 rfl (vp_ix hj hj2) hdg ?_
  rw [cl_ix hj2]
  exact kk
/-- the rows of references, by kind: which objects they hold -/
def rwC : List Nat := [5, 2, 1, 8]
theorem tys_q (G : GG) : ∀ t, 23 ≤ t → t < 27 → (tysG G)[t - 20]? = some (G.2 (t - 20), .object (ownS (rwC.getD (t - 23) 0))) := by
  intro t h1 h2
  rcases (show t = 23 ∨ t = 24 ∨ t = 25 ∨ t = 26 by omega) with rfl | rfl | rfl | rfl <;> rfl
theorem r_aald (C : Cx p s m args meth c cc nL ow G rt) (hh : hd G A S H) {a j t : Nat} (hk : gK S a = some t) (ht : 23 ≤ t) (ht2 : t < 27) (hj : j < gN S a) (hj2 : j < 2147483648) (hdg : decode cc pc = .ok (.aaload, 1))
    (kk : W p l e R s m args below meth c H locs cells slots Q (F0 m (pc + 1) ls (va_rf (gQ S a j) :: rest))) : W p l e R s m args below meth c H locs cells slots Q (F0 m pc ls (.int (nI j) :: .ref a :: rest)) := by
  obtain ⟨hx, hb, hml, hown, hts, hK, hr, hlk⟩ := C
  obtain ⟨LP, q, ha, h0, hL, hP, hD⟩ := hd_in hh hk
  rw [enc_q hk ht] at h0
  refine va_aldq hx hb hK.1 hP q (t - 20) h0 (tys_q G t ht ht2) (vp_ix hj hj2) hdg ?_
  rw [cl_ix hj2]
  exact kk
theorem r_alen (C : Cx p s m args meth c cc nL ow G rt) (hh : hd G A S H) {a : Nat} (hk : gK S a = some 20) (hdg : decode cc pc = .ok (.arraylength, 1))
    (kk : W p l e R s m args below meth c H locs cells slots Q (F0 m (pc + 1) ls (.int (nI (gN S a)) :: rest))) : W p l e R s m args below meth c H locs cells slots Q (F0 m pc ls (.ref a :: rest)) := by
  obtain ⟨hx, hb, hml, hown, hts, hK, hr, hlk⟩ := C
  obtain ⟨LP, q, ha, h0, hL, hP, hD⟩ := hd_in hh hk
  rw [enc_i hk (by decide) (by decide)] at h0
  exact va_alen hx hb hK.1 hP q 0 h0 rfl rfl hdg kk
theorem r_iast (C : Cx p s m args meth c cc nL ow G rt) (hh : hd G A S H) (hS : va_S A H0 H locs) {a j : Nat} {x : Int32} (hk : gK S a = some 20) (hj : j < gN S a) (hj2 : j < 2147483648) (hdg : decode cc pc = .ok (.iastore, 1))
    (kk : ∀ (H1 : Heap) (locs1 : List Loc), hd G A (sA S a j x) H1 → va_S A H0 H1 locs1 → W p l e R s m args below meth c H1 locs1 cells slots Q (F0 m (pc + 1) ls rest)) : W p l e R s m args below meth c H locs cells slots Q (F0 m pc ls (.int x :: .int (nI j) :: .ref a :: rest)) := by
  obtain ⟨hx, hb, hml, hown, hts, hK, hr, hlk⟩ := C
  obtain ⟨LP, q, ha, h0, hL, hP, hD⟩ := hd_in hh hk
  have h0' := h0
  rw [enc_i hk (by decide) (by decide)] at h0'
  refine W.iast hx hb (hP q _ h0') ((hK.1.2 0 _ rfl).1 (gN S a) (fun j => .int (gA S a j))) (fun q => by cases q) (by show ¬ (nI j < 0 ∨ (arrV _ _ _).slots.size ≤ _); rw [arrV_size]; exact vp_ix hj hj2) rfl rfl hdg fun H1 e z oq => ?_
  refine kk H1 _ (hd_put (H := H) ha h0 hL hD (up_sA (j := j) (v := x) hk (by decide) (by decide)) rfl (by rw [z, hh.1]; rfl) (hP.set hD h0' ?_ oq) (hD.set h0')) (hS.put z oq (hD.2 q _ h0'))
  show H1[a]? = some (vp_cell _ _)
  rw [e, cl_ix hj2, vp_cell_i, vp_cell_i, arrV_store]
  congr 2
  funext q
  by_cases hq : q = j
  · subst hq
    simp [updV, upd]
  · simp [updV, upd, hq]
theorem nar_z {x : Int32} (h : x = 0 ∨ x = 1) : vp_nar .boolean x = x := by rcases h with rfl | rfl <;> decide
theorem r_zast (C : Cx p s m args meth c cc nL ow G rt) (hh : hd G A S H) (hS : va_S A H0 H locs) {a j : Nat} {x : Int32} (hk : gK S a = some 21) (hj : j < gN S a) (hj2 : j < 2147483648) (hx01 : x = 0 ∨ x = 1) (hdg : decode cc pc = .ok (.bastore, 1))
    (kk : ∀ (H1 : Heap) (locs1 : List Loc), hd G A (sA S a j x) H1 → va_S A H0 H1 locs1 → W p l e R s m args below meth c H1 locs1 cells slots Q (F0 m (pc + 1) ls rest)) : W p l e R s m args below meth c H locs cells slots Q (F0 m pc ls (.int x :: .int (nI j) :: .ref a :: rest)) := by
  obtain ⟨hx, hb, hml, hown, hts, hK, hr, hlk⟩ := C
  obtain ⟨LP, q, ha, h0, hL, hP, hD⟩ := hd_in hh hk
  have h0' := h0
  rw [enc_i hk (by decide) (by decide)] at h0'
  refine W.zast hx hb (hP q _ h0') ((hK.1.2 1 _ rfl).1 (gN S a) (fun j => .int (gA S a j))) (fun q => by cases q) (by show ¬ (nI j < 0 ∨ (arrV _ _ _).slots.size ≤ _); rw [arrV_size]; exact vp_ix hj hj2) rfl rfl hdg fun H1 e z oq => ?_
  refine kk H1 _ (hd_put (H := H) ha h0 hL hD (up_sA (j := j) (v := x) hk (by decide) (by decide)) rfl (by rw [z, hh.1]; rfl) (hP.set hD h0' ?_ oq) (hD.set h0')) (hS.put z oq (hD.2 q _ h0'))
  show H1[a]? = some (vp_cell _ _)
  rw [e, cl_ix hj2, vp_cell_i, vp_cell_i, arrV_store]
  congr 2
  have hz : narrow .boolean (.int x) = .int x := by rcases hx01 with rfl | rfl <;> rfl
  funext q
  by_cases hq : q = j
  · subst hq
    simp [updV, upd, hz]
  · simp [updV, upd, hq]
theorem r_last (C : Cx p s m args meth c cc nL ow G rt) (hh : hd G A S H) (hS : va_S A H0 H locs) {a j : Nat} {x : Int64} (hk : gK S a = some 22) (hj : j < gN S a) (hj2 : j < 2147483648) (hdg : decode cc pc = .ok (.lastore, 1))
    (kk : ∀ (H1 : Heap) (locs1 : List Loc), hd G A (sJ S a j x) H1 → va_S A H0 H1 locs1 → W p l e R s m args below meth c H1 locs1 cells slots Q (F0 m (pc + 1) ls rest)) : W p l e R s m args below meth c H locs cells slots Q (F0 m pc ls (.long x :: .int (nI j) :: .ref a :: rest)) := by
  obtain ⟨hx, hb, hml, hown, hts, hK, hr, hlk⟩ := C
  obtain ⟨LP, q, ha, h0, hL, hP, hD⟩ := hd_in hh hk
  have h0' := h0
  rw [enc_j hk] at h0'
  refine W.last hx hb (hP q _ h0') ((hK.1.2 2 _ rfl).1 (gN S a) (fun j => .long (gJ S a j))) (fun q => by cases q) (by show ¬ (nI j < 0 ∨ (arrV _ _ _).slots.size ≤ _); rw [arrV_size]; exact vp_ix hj hj2) rfl rfl hdg fun H1 e z oq => ?_
  refine kk H1 _ (hd_put (H := H) ha h0 hL hD (up_sJ (j := j) (v := x) hk) rfl (by rw [z, hh.1]; rfl) (hP.set hD h0' ?_ oq) (hD.set h0')) (hS.put z oq (hD.2 q _ h0'))
  show H1[a]? = some (vp_cell _ _)
  rw [e, cl_ix hj2, vp_cell_l, vp_cell_l, arrV_store]
  congr 2
  funext q
  by_cases hq : q = j
  · subst hq
    simp [updV, vp_updL]
  · simp [updV, vp_updL, hq]
theorem r_aast (C : Cx p s m args meth c cc nL ow G rt) (hh : hd G A S H) (hS : va_S A H0 H locs) {a j t v : Nat} (hk : gK S a = some t) (ht : 23 ≤ t) (ht2 : t < 27) (hv : gK S v = some (rwC.getD (t - 23) 0)) (hj : j < gN S a) (hj2 : j < 2147483648) (hdg : decode cc pc = .ok (.aastore, 1))
    (kk : ∀ (H1 : Heap) (locs1 : List Loc), hd G A (sQ S a j (some v)) H1 → va_S A H0 H1 locs1 → W p l e R s m args below meth c H1 locs1 cells slots Q (F0 m (pc + 1) ls rest)) : W p l e R s m args below meth c H locs cells slots Q (F0 m pc ls (.ref v :: .int (nI j) :: .ref a :: rest)) := by
  obtain ⟨hx, hb, hml, hown, hts, hK, hr, hlk⟩ := C
  obtain ⟨LP, q, ha, h0, hL, hP, hD⟩ := hd_in hh hk
  obtain ⟨LP2, q2, ha2, h02, hL2, hP2, hD2⟩ := hd_in hh hv
  have h0' := h0
  rw [enc_q hk ht] at h0'
  have hci : rwC.getD (t - 23) 0 < 11 := by
    rcases (show t = 23 ∨ t = 24 ∨ t = 25 ∨ t = 26 by omega) with rfl | rfl | rfl | rfl <;> decide
  rw [enc_o hv (by omega)] at h02
  have hc := cl_at _ hci
  have h0n : ¬ nI j < 0 := nI_pos hj2
  obtain ⟨r', hr', cellV, g1, g2, g3, -⟩ := hP2 q2 _ h02
  have hcls := (hK.1.1 _ _ hc).2
  obtain ⟨kA, comp, k1, k2, k3, -⟩ := (hK.1.2 _ _ (tys_q G t ht ht2)).2
  have hcomp : comp = G.1.1 (rwC.getD (t - 23) 0) := Option.some.inj (k3.symm.trans hcls.1)
  subst hcomp
  obtain ⟨kC, hkC, -⟩ := hcls.2
  refine W.aast hx hb (hP q _ h0') (fun q h => by cases h) (fun h => by cases h) k1 k2 rfl hkC ⟨h0n, by show _ < (arrV _ _ _).slots.size; rw [arrV_size, cl_ix hj2]; exact hj⟩ g1 (fun q h => by rw [g3] at h; cases h) (by rw [g2]; exact hkC) (by rw [g2]; exact va_assign hcls) rfl rfl hdg fun H1 e z oq => ?_
  refine kk H1 _ (hd_put (H := H) ha h0 hL hD (up_sQ (j := j) (v := some v) hk ht) rfl (by rw [z, hh.1]; rfl) (hP.set hD h0' ?_ oq) (hD.set h0')) (hS.put z oq (hD.2 q _ h0'))
  show H1[a]? = some (vp_cell _ _)
  rw [e, cl_ix hj2, vp_cell_q, vp_cell_q, arrV_store]
  congr 2
  funext q
  by_cases hq : q = j
  · subst hq
    simp [updV, va_up, va_rf]
  · simp [updV, va_up, hq]
theorem dfl_fv : ∀ t, t < 11 → ∀ j, j < clN t → defaultValue (clTy t j) = bif isRf t j then .null else .int 0 := by decide +kernel
theorem fv_new {S : Hp} {t j : Nat} : fv (sNew S t) t j (gZ S) = bif isRf t j then .null else .int 0 := by
  unfold fv
  cases isRf t j <;> simp [gI, gR, sNew, va_rf]
theorem r_new (C : Cx p s m args meth c cc nL ow G rt) (hh : hd G A S H) (hS : va_S A H0 H locs) (hA : ∀ q, gZ S ≤ q → A q) {idx t : Nat} (hq : (ow, idx, t) ∈ NWT) (hcells : cells + 1 ≤ R.cells) (hslots : slots + clN t ≤ R.slots) (hdg : decode cc pc = .ok (.new idx, 3))
    (kk : ∀ (H1 : Heap), hd G A (sNew S t) H1 → va_S A H0 H1 locs → W p l e R s m args below meth c H1 locs (cells + 1) (slots + clN t) Q (F0 m (pc + 3) ls (.ref (gZ S) :: rest))) : W p l e R s m args below meth c H locs cells slots Q (F0 m pc ls rest) := by
  obtain ⟨hx, hb, hml, hown, hts, hK, hr, hlk⟩ := C
  have ht : t < 11 := NWT_lt _ hq
  have hw := NWT_ok _ hq
  have hc := cl_at t ht
  have hKn := hK.1.1 t _ hc
  refine W.newcK hx hb hown (hts _ (hw _ (List.mem_of_getElem? (i := 0) rfl))) (hts _ (hw _ (List.mem_of_getElem? (i := 1) rfl))) (hts _ (hw _ (List.mem_of_getElem? (i := 2) rfl))) rfl hdg hcells hslots hKn.2.1 hh.1 fun H1 kC hkC e1 z1 o1 => ?_
  refine kk H1 (hd_push hh (enc_new (by omega)) (by simp [gK, sNew]) (fun b hb => ⟨enc_eq (by simp [gK, sNew, hb]) (fun _ _ => by simp [gI, sNew, hb]) (fun _ _ => by simp [gR, sNew, hb]) rfl (fun _ => rfl) (fun _ => rfl) (fun _ => rfl), by simp [gK, sNew, hb]⟩) rfl (by rw [z1, hh.1]) ⟨_, hc, (u_born (clTy t) hts (cl_in t ht) hKn hkC e1 (cl_ty t ht)).to (fun j hj => ?_)⟩ (by rw [hh.1]; exact o1) (hA _ (Nat.le_refl _))) ⟨Nat.le_trans hS.1 (by rw [z1, hh.1]; omega), fun x h1 h2 => (o1 x (by have := hS.1; rw [hh.1] at this; omega)).trans (hS.2.1 x h1 h2), hS.2.2⟩
  show _ = vp_V (encO (sNew S t) t (gZ S)) j
  rw [vp_V, List.getD_eq_getElem?_getD, encO_get hj, Option.getD_some, fv_new]
  exact dfl_fv t ht j hj
theorem arr_at {G : GG} {k : Nat} {ty : FieldType} {U : State} {cA : ClassId} (hK : va_K G.1 classes (tysG G) U) (ht : (tysG G)[k]? = some (G.2 k, ty)) (hty : ∀ C, ty ≠ .object C) (h : U.vm.findClass ("[" ++ ty.toString) = some cA) : cA = G.2 k := by
  have h2 := (hK.2 k _ ht).2
  cases ty with
  | object C => exact absurd rfl (hty C)
  | _ => exact Option.some.inj (h.symm.trans h2)
theorem r_newa (C : Cx p s m args meth c cc nL ow G rt) (hh : hd G A S H) (hS : va_S A H0 H locs) (hA : ∀ q, gZ S ≤ q → A q) {at0 : ArrayType} {n k : Nat} (hk : (at0 = .int ∧ k = 0) ∨ (at0 = .boolean ∧ k = 1) ∨ (at0 = .long ∧ k = 2)) (hn : n < 65536) (hcells : cells + 1 ≤ R.cells) (hslots : slots + n ≤ R.slots) (hdg : decode cc pc = .ok (.newarray at0, 2))
    (kk : ∀ (H1 : Heap), hd G A (sArr S (20 + k) n) H1 → va_S A H0 H1 locs → W p l e R s m args below meth c H1 locs (cells + 1) (slots + n) Q (F0 m (pc + 2) ls (.ref (gZ S) :: rest))) : W p l e R s m args below meth c H locs cells slots Q (F0 m pc ls (.int (nI n) :: rest)) := by
  obtain ⟨hx, hb, hml, hown, hts, hK, hr, hlk⟩ := C
  have hac : (Cond.arrayClass (newarray.typeOf at0)).before args s = true := by
    rcases hk with ⟨rfl, -⟩ | ⟨rfl, -⟩ | ⟨rfl, -⟩
    · exact hts _ (ACok _ (List.mem_of_getElem? (i := 0) rfl))
    · exact hts _ (ACok _ (List.mem_of_getElem? (i := 1) rfl))
    · exact hts _ (ACok _ (List.mem_of_getElem? (i := 2) rfl))
  refine va_newaK hx hb hac rfl hdg rfl (nI_pos (by omega)) (nI_clamp (by omega)) (by rcases hk with ⟨rfl, -⟩ | ⟨rfl, -⟩ | ⟨rfl, -⟩ <;> simp [newarray.typeOf, componentBytes] <;> omega) hcells hslots hh.1 fun H1 cA e1 z1 o1 hAr hNm => ?_
  have hcA : cA = G.2 k := by
    rcases hk with ⟨rfl, rfl⟩ | ⟨rfl, rfl⟩ | ⟨rfl, rfl⟩
    · exact arr_at hK.1 rfl (fun C h => by cases h) hNm
    · exact arr_at hK.1 rfl (fun C h => by cases h) hNm
    · exact arr_at hK.1 rfl (fun C h => by cases h) hNm
  subst hcA
  refine kk H1 (hd_push hh rfl (by simp [gK, sArr]) (fun b hb => ⟨enc_eq (by simp [gK, sArr, hb]) (fun _ _ => rfl) (fun _ _ => rfl) (by simp [gN, sArr, hb]) (fun _ => by simp [gA, sArr, hb]) (fun _ => by simp [gQ, sArr, hb]) (fun _ => by simp [gJ, sArr, hb]), by simp [gK, sArr, hb]⟩) rfl (by rw [z1, hh.1]) ?_ (by rw [hh.1]; exact o1) (hA _ (Nat.le_refl _))) ⟨Nat.le_trans hS.1 (by rw [z1, hh.1]; omega), fun x h1 h2 => (o1 x (by have := hS.1; rw [hh.1] at this; omega)).trans (hS.2.1 x h1 h2), hS.2.2⟩
  have hK2 : gK (sArr S (20 + k) n) (gZ S) = some (20 + k) := by simp [gK, sArr]
  have hN2 : gN (sArr S (20 + k) n) (gZ S) = n := by simp [gN, sArr]
  have hA2 : gA (sArr S (20 + k) n) (gZ S) = fun _ => 0 := by funext j; simp [gA, sArr]
  have hJ2 : gJ (sArr S (20 + k) n) (gZ S) = fun _ => 0 := by funext j; simp [gJ, sArr]
  rcases hk with ⟨rfl, rfl⟩ | ⟨rfl, rfl⟩ | ⟨rfl, rfl⟩
  · rw [enc_i hK2 (by decide) (by decide), hN2, hA2]; exact e1
  · rw [enc_i hK2 (by decide) (by decide), hN2, hA2]; exact e1
  · rw [enc_j hK2, hN2, hJ2]; exact e1
end ROWS
end
section
/-! THE CALCULUS: what must hold at an instruction, so that what must hold behind it does; calls by contract -/
abbrev CI : Type := Nat × Instr × Nat × Nat × Nat × Int32 × List Nat
abbrev Ls : Type := List (Nat × Value)
abbrev Kt : Type := Ls → List Value → Hp → Nat → Nat → Prop
abbrev Sp : Type := List Value → Hp → (Option Value → Hp → Prop) → Prop
abbrev Ev : Type := Nat → Option (Nat × Nat × Nat × Sp)
def lk : Ls → Nat → Option Value
  | [], _ => none
  | q :: t, k => bif Nat.beq q.1 k then some q.2 else lk t k
def st1 (L : Ls) (i : Nat) (v : Value) : Ls := (i, v) :: L.filter (fun q => !(q.1 == i) && !(q.1 + 1 == i && q.2.category == 2))
def st2 (L : Ls) (i : Nat) (v : Value) : Ls := (i, v) :: L.filter (fun q => !(q.1 == i) && (!(q.1 == i + 1) && !(q.1 + 1 == i && q.2.category == 2)))
def k1 (L : Ls) (k : Nat) (f : Int32 → Prop) : Prop := match lk L k with
  | some (.int x) => f x
  | _ => False
def kJ (L : Ls) (k : Nat) (f : Int64 → Prop) : Prop := match lk L k with
  | some (.long x) => f x
  | _ => False
def kR (L : Ls) (k : Nat) (f : Value → Prop) : Prop := match lk L k with
  | some (.ref x) => f (.ref x)
  | some .null => f .null
  | _ => False
def p1 (S : List Value) (f : Int32 → List Value → Prop) : Prop := match S with
  | .int x :: S' => f x S'
  | _ => False
def p2 (S : List Value) (f : Int32 → Int32 → List Value → Prop) : Prop := match S with
  | .int y :: .int x :: S' => f x y S'
  | _ => False
def pJ (S : List Value) (f : Int64 → List Value → Prop) : Prop := match S with
  | .long x :: S' => f x S'
  | _ => False
def pJ2 (S : List Value) (f : Int64 → Int64 → List Value → Prop) : Prop := match S with
  | .long y :: .long x :: S' => f x y S'
  | _ => False
def pR (S : List Value) (f : Value → List Value → Prop) : Prop := match S with
  | .ref x :: S' => f (.ref x) S'
  | .null :: S' => f .null S'
  | _ => False
def pA (S : List Value) (f : Nat → List Value → Prop) : Prop := match S with
  | .ref x :: S' => f x S'
  | _ => False
def pIx (S : List Value) (f : Int32 → Nat → List Value → Prop) : Prop := match S with
  | .int i :: .ref a :: S' => f i a S'
  | _ => False
def pVA (S : List Value) (f : Value → Nat → List Value → Prop) : Prop := match S with
  | v :: .ref a :: S' => f v a S'
  | _ => False
def pIs (S : List Value) (f : Value → Int32 → Nat → List Value → Prop) : Prop := match S with
  | v :: .int i :: .ref a :: S' => f v i a S'
  | _ => False
def vI (v : Value) (f : Int32 → Prop) : Prop := match v with
  | .int x => f x
  | _ => False
def vJ (v : Value) (f : Int64 → Prop) : Prop := match v with
  | .long x => f x
  | _ => False
def vA (v : Value) (f : Nat → Prop) : Prop := match v with
  | .ref x => f x
  | _ => False
/-- the place j of a row of n is meant by i -/
def ixO (i : Int32) (n j : Nat) : Prop := i = nI j ∧ j < n ∧ j < 2147483648
def catB (S : List Value) : Bool := Nat.ble ((S.map (fun v => v.category)).sum) 8
def cll (lv mc ms : Nat) (ev : Ev) (k nc ns : Nat) (f : Sp → Nat → Nat → Prop) : Prop := match ev k with
  | none => False
  | some r => (r.1 < lv ∧ nc + r.2.1 ≤ mc ∧ ns + r.2.2.1 ≤ ms) ∧ f r.2.2.2 (nc + r.2.1) (ns + r.2.2.1)
def cc6 (c : ClassFile.Cond) (x y : Int32) (t f : Prop) : Prop := match c with
  | .eq => (x = y → t) ∧ (¬ x = y → f)
  | .ne => (¬ x = y → t) ∧ (x = y → f)
  | .lt => (x < y → t) ∧ (¬ x < y → f)
  | .ge => (y ≤ x → t) ∧ (¬ y ≤ x → f)
  | .gt => (y < x → t) ∧ (¬ y < x → f)
  | .le => (x ≤ y → t) ∧ (¬ x ≤ y → f)
/-- a table: behind the places before j -/
def tsw (x : Int32) (lo : Int) (f : Nat → Prop) : List Nat → Prop
  | [] => True
  | t :: ts => (x.toInt = lo → f t) ∧ tsw x (lo + 1) f ts
/-- a table by keys -/
def lsw (x : Int32) (f : Nat → Prop) (d : Prop) : List (Int × Int) → List Nat → Prop
  | q :: ps, t :: ts => (x.toInt = q.1 → f t) ∧ (¬ x.toInt = q.1 → lsw x f d ps ts)
  | _, _ => d
def step (lv mc ms : Nat) (ev : Ev) (rt : Option FieldType) (Po : Option Value → Hp → Prop) (q : CI) (nx : Kt) (jp : Nat → Kt) : Kt := match q with | (_, ins, _, r1, r2, cv, ts) => fun L S w nc ns => match ins with
  | .aconst_null => nx L (.null :: S) w nc ns
  | .iconst _ => nx L (.int cv :: S) w nc ns
  | .bipush _ => nx L (.int cv :: S) w nc ns
  | .sipush _ => nx L (.int cv :: S) w nc ns
  | .ldc _ => nx L (.int cv :: S) w nc ns
  | .ldc_w _ => nx L (.int cv :: S) w nc ns
  | .ldc2_w _ => nx L (.long cv.toInt64 :: S) w nc ns
  | .lconst n => nx L (.long (Int64.ofNat n.val) :: S) w nc ns
  | .iload_n k => k1 L k.val fun x => nx L (.int x :: S) w nc ns
  | .iload k => k1 L k fun x => nx L (.int x :: S) w nc ns
  | .lload_n k => kJ L k.val fun x => nx L (.long x :: S) w nc ns
  | .lload k => kJ L k fun x => nx L (.long x :: S) w nc ns
  | .aload_n k => kR L k.val fun x => nx L (x :: S) w nc ns
  | .aload k => kR L k fun x => nx L (x :: S) w nc ns
  | .istore_n k => p1 S fun x S' => nx (st1 L k.val (.int x)) S' w nc ns
  | .istore k => p1 S fun x S' => nx (st1 L k (.int x)) S' w nc ns
  | .lstore_n k => pJ S fun x S' => nx (st2 L k.val (.long x)) S' w nc ns
  | .lstore k => pJ S fun x S' => nx (st2 L k (.long x)) S' w nc ns
  | .astore_n k => pR S fun x S' => nx (st1 L k.val x) S' w nc ns
  | .astore k => pR S fun x S' => nx (st1 L k x) S' w nc ns
  | .iinc k _ => k1 L k fun x => nx (st1 L k (.int (x + cv))) S w nc ns
  | .iadd => p2 S fun x y S' => nx L (.int (x + y) :: S') w nc ns
  | .isub => p2 S fun x y S' => nx L (.int (x - y) :: S') w nc ns
  | .imul => p2 S fun x y S' => nx L (.int (x * y) :: S') w nc ns
  | .iand => p2 S fun x y S' => nx L (.int (x &&& y) :: S') w nc ns
  | .ior => p2 S fun x y S' => nx L (.int (x ||| y) :: S') w nc ns
  | .ixor => p2 S fun x y S' => nx L (.int (x ^^^ y) :: S') w nc ns
  | .ishl => p2 S fun x y S' => nx L (.int (x <<< (y &&& 31)) :: S') w nc ns
  | .ishr => p2 S fun x y S' => nx L (.int (x >>> (y &&& 31)) :: S') w nc ns
  | .iushr => p2 S fun x y S' => nx L (.int ((x.toUInt32 >>> (y.toUInt32 &&& Int32.toUInt32 31)).toInt32) :: S') w nc ns
  | .irem => p2 S fun x y S' => ¬ y = 0 ∧ nx L (.int (x - x / y * y) :: S') w nc ns
  | .ineg => p1 S fun x S' => nx L (.int (-x) :: S') w nc ns
  | .ladd => pJ2 S fun x y S' => nx L (.long (x + y) :: S') w nc ns
  | .lsub => pJ2 S fun x y S' => nx L (.long (x - y) :: S') w nc ns
  | .lmul => pJ2 S fun x y S' => nx L (.long (x * y) :: S') w nc ns
  | .lcmp => pJ2 S fun x y S' => nx L (.int (lg_cmp x y) :: S') w nc ns
  | .i2l => p1 S fun x S' => nx L (.long x.toInt64 :: S') w nc ns
  | .dup => (match S with
    | .int x :: S' => nx L (.int x :: .int x :: S') w nc ns
    | .ref x :: S' => nx L (.ref x :: .ref x :: S') w nc ns
    | .null :: S' => nx L (.null :: .null :: S') w nc ns
    | _ => False)
  | .dup2 => pIx S fun i a S' => nx L (.int i :: .ref a :: .int i :: .ref a :: S') w nc ns
  | .ifCond c _ => p1 S fun x S' => cc6 c x 0 (jp r1 L S' w nc ns) (nx L S' w nc ns)
  | .if_icmp c _ => p2 S fun x y S' => cc6 c x y (jp r1 L S' w nc ns) (nx L S' w nc ns)
  | .ifnull _ => (match S with
    | .ref _ :: S' => nx L S' w nc ns
    | .null :: S' => jp r1 L S' w nc ns
    | _ => False)
  | .ifnonnull _ => (match S with
    | .ref _ :: S' => jp r1 L S' w nc ns
    | .null :: S' => nx L S' w nc ns
    | _ => False)
  | .goto _ => jp r1 L S w nc ns
  | .tableswitch _ lo hi _ => p1 S fun x S' => (x.toInt < lo ∨ hi < x.toInt → jp r1 L S' w nc ns) ∧ tsw x lo (fun t => jp t L S' w nc ns) ts
  | .lookupswitch _ ps => p1 S fun x S' => lsw x (fun t => jp t L S' w nc ns) (jp r1 L S' w nc ns) ps.toList ts
  | .getfield _ => pA S fun a S' => gK w a = some r1 ∧ (bif isRf r1 r2 then ∃ o, gR w r1 r2 a = o ∧ nx L (va_rf o :: S') w nc ns else ∃ x, gI w r1 r2 a = x ∧ nx L (.int x :: S') w nc ns)
  | .putfield _ => pVA S fun v a S' => gK w a = some r1 ∧ (bif isRf r1 r2 then ∃ o, v = va_rf o ∧ nx L S' (sR w r1 r2 a o) nc ns else vI v fun x => (match clTy r1 r2 with
    | .boolean => (x = 0 ∨ x = 1) ∧ nx L S' (sI w r1 r2 a x) nc ns
    | .int => nx L S' (sI w r1 r2 a x) nc ns
    | _ => False))
  | .iaload => pIx S fun i a S' => gK w a = some 20 ∧ ∃ j x, ixO i (gN w a) j ∧ gA w a j = x ∧ nx L (.int x :: S') w nc ns
  | .baload => pIx S fun i a S' => gK w a = some 21 ∧ ∃ j x, ixO i (gN w a) j ∧ gA w a j = x ∧ nx L (.int x :: S') w nc ns
  | .laload => pIx S fun i a S' => gK w a = some 22 ∧ ∃ j x, ixO i (gN w a) j ∧ gJ w a j = x ∧ nx L (.long x :: S') w nc ns
  | .aaload => pIx S fun i a S' => ∃ t, (gK w a = some t ∧ 23 ≤ t ∧ t < 27) ∧ ∃ j, ixO i (gN w a) j ∧ ∃ o, gQ w a j = o ∧ nx L (va_rf o :: S') w nc ns
  | .iastore => pIs S fun v i a S' => vI v fun x => gK w a = some 20 ∧ ∃ j, ixO i (gN w a) j ∧ nx L S' (sA w a j x) nc ns
  | .bastore => pIs S fun v i a S' => vI v fun x => gK w a = some 21 ∧ (x = 0 ∨ x = 1) ∧ ∃ j, ixO i (gN w a) j ∧ nx L S' (sA w a j x) nc ns
  | .lastore => pIs S fun v i a S' => vJ v fun x => gK w a = some 22 ∧ ∃ j, ixO i (gN w a) j ∧ nx L S' (sJ w a j x) nc ns
  | .aastore => pIs S fun v i a S' => vA v fun x => ∃ t, (gK w a = some t ∧ 23 ≤ t ∧ t < 27 ∧ gK w x = some (rwC.getD (t - 23) 0)) ∧ ∃ j, ixO i (gN w a) j ∧ nx L S' (sQ w a j (some x)) nc ns
  | .arraylength => pA S fun a S' => gK w a = some 20 ∧ nx L (.int (nI (gN w a)) :: S') w nc ns
  | .new _ => (nc + 1 ≤ mc ∧ ns + clN r1 ≤ ms) ∧ nx L (.ref (gZ w) :: S) (sNew w r1) (nc + 1) (ns + clN r1)
  | .newarray _ => p1 S fun i S' => ∃ n, (i = nI n ∧ n < 65536) ∧ (nc + 1 ≤ mc ∧ ns + n ≤ ms) ∧ nx L (.ref (gZ w) :: S') (sArr w (20 + r1) n) (nc + 1) (ns + n)
  | .anewarray _ => p1 S fun i S' => ∃ n, (i = nI n ∧ n < 65536) ∧ (nc + 1 ≤ mc ∧ ns + n ≤ ms) ∧ nx L (.ref (gZ w) :: S') (sArr w r1 n) (nc + 1) (ns + n)
  | .invokevirtual _ => cll lv mc ms ev r1 nc ns fun sp c' s' => pA (S.drop (mtN.getD r1 0)) fun b rest => catB rest = true ∧ gK w b = some (mtC.getD r1 0) ∧ sp (.ref b :: (S.take (mtN.getD r1 0)).reverse) w (fun r w' => nx L (r.toList ++ rest) w' c' s')
  | .invokestatic _ => cll lv mc ms ev r1 nc ns fun sp c' s' => catB (S.drop (mtN.getD r1 0)) = true ∧ mtN.getD r1 0 ≤ S.length ∧ sp (S.take (mtN.getD r1 0)).reverse w (fun r w' => nx L (r.toList ++ S.drop (mtN.getD r1 0)) w' c' s')
  | .invokespecial _ => if r2 = 2 then pA S fun _ rest => catB rest = true ∧ 0 < lv ∧ nx L rest w nc ns else cll lv mc ms ev r1 nc ns fun sp c' s' => pA (S.drop (mtN.getD r1 0)) fun b rest => catB rest = true ∧ sp (.ref b :: (S.take (mtN.getD r1 0)).reverse) w (fun r w' => nx L (r.toList ++ rest) w' c' s')
  | .ireturn => (match S with
    | [.int x] => (match rt with
      | some .boolean => (x = 0 ∨ x = 1) ∧ Po (some (.int x)) w
      | some .int => Po (some (.int x)) w
      | _ => False)
    | _ => False)
  | .lreturn => (match S with
    | [.long x] => (match rt with
      | some .long => Po (some (.long x)) w
      | _ => False)
    | _ => False)
  | .areturn => (match S with
    | [v] => (match rt with
      | some (.object _) => ∃ o, v = va_rf o ∧ Po (some v) w
      | _ => False)
    | _ => False)
  | .return_ => (match S with
    | [] => (match rt with
      | none => Po none w
      | _ => False)
    | _ => False)
  | _ => False
/-- how long an instruction is -/
def il : Instr → Nat
  | .bipush _ | .ldc _ | .iload _ | .lload _ | .aload _ | .istore _ | .lstore _ | .astore _ | .newarray _ => 2
  | .sipush _ | .ldc_w _ | .ldc2_w _ | .iinc _ _ | .ifCond _ _ | .if_icmp _ _ | .ifnull _ | .ifnonnull _ | .goto _ | .getfield _ | .putfield _ | .new _ | .anewarray _ | .invokevirtual _ | .invokestatic _ | .invokespecial _ => 3
  | _ => 1
def lkOK (ow nL : Nat) (ini : Bool) (q : CI) : Bool := match q.2.1 with
  | .iconst n => decide (Int32.ofInt n = q.2.2.2.2.2.1)
  | .bipush n => decide ((Int8.ofInt n).toInt32 = q.2.2.2.2.2.1)
  | .sipush n => decide ((Int16.ofInt n).toInt32 = q.2.2.2.2.2.1)
  | .ldc i => CKT.contains (ow, i, q.2.2.2.2.2.1)
  | .ldc_w i => CKT.contains (ow, i, q.2.2.2.2.2.1)
  | .ldc2_w i => CJT.contains (ow, i, q.2.2.2.2.2.1.toInt64)
  | .istore_n k => decide (k.val < nL)
  | .istore k => decide (k < nL)
  | .lstore_n k => decide (k.val + 1 < nL)
  | .lstore k => decide (k + 1 < nL)
  | .astore_n k => decide (k.val < nL)
  | .astore k => decide (k < nL)
  | .iinc k n => decide (k < nL) && decide (Int32.ofInt n = q.2.2.2.2.2.1)
  | .ifCond _ off => decide ((q.1 : Int) + off = (q.2.2.2.1 : Int))
  | .if_icmp _ off => decide ((q.1 : Int) + off = (q.2.2.2.1 : Int))
  | .ifnull off => decide ((q.1 : Int) + off = (q.2.2.2.1 : Int))
  | .ifnonnull off => decide ((q.1 : Int) + off = (q.2.2.2.1 : Int))
  | .goto off => decide ((q.1 : Int) + off = (q.2.2.2.1 : Int))
  | .tableswitch d lo hi offs => decide ((q.1 : Int) + d = (q.2.2.2.1 : Int)) && decide (offs.toList.map (fun o => (q.1 : Int) + o) = q.2.2.2.2.2.2.map Int.ofNat) && decide (lo + offs.size = hi + 1)
  | .lookupswitch d ps => decide ((q.1 : Int) + d = (q.2.2.2.1 : Int)) && decide (ps.toList.map (fun o => (q.1 : Int) + o.2) = q.2.2.2.2.2.2.map Int.ofNat) && (ps.toList.zip (ps.toList.drop 1)).all (fun (a, next) => a.1 < next.1)
  | .getfield i => FLT.contains (ow, i, q.2.2.2.1, q.2.2.2.2.1)
  | .putfield i => FLT.contains (ow, i, q.2.2.2.1, q.2.2.2.2.1) && (!(isFin q.2.2.2.1 q.2.2.2.2.1) || (ini && decide (ow = q.2.2.2.1)))
  | .new i => NWT.contains (ow, i, q.2.2.2.1)
  | .newarray t => decide ((t = .int ∧ q.2.2.2.1 = 0) ∨ (t = .boolean ∧ q.2.2.2.1 = 1) ∨ (t = .long ∧ q.2.2.2.1 = 2))
  | .anewarray i => NWT.contains (ow, i, rwC.getD (q.2.2.2.1 - 23) 0) && decide (23 ≤ q.2.2.2.1 ∧ q.2.2.2.1 < 27)
  | .invokevirtual i => IVT.contains (ow, i, q.2.2.2.1)
  | .invokestatic i => IST.contains (ow, i, q.2.2.2.1)
  | .invokespecial i => if q.2.2.2.2.1 = 2 then IOT.contains (ow, i) else if q.2.2.2.2.1 = 1 then INT.contains (ow, i, q.2.2.2.1) else IIT.contains (ow, i, q.2.2.2.1)
  | _ => true
def isSw : Instr → Bool
  | .tableswitch _ _ _ _ => true
  | .lookupswitch _ _ => true
  | _ => false
/-- a row of a method's code list -/
def ciOK (cc : ByteArray) (ow nL : Nat) (ini : Bool) (q : CI) : Prop := decode cc q.1 = .ok (q.2.1, q.2.2.1) ∧ (isSw q.2.1 || Nat.beq (il q.2.1) q.2.2.1) = true ∧ lkOK ow nL ini q = true
def chn : List CI → Bool
  | [] => true
  | [_] => true
  | q :: r :: t => Nat.beq (q.1 + q.2.2.1) r.1 && chn (r :: t)
def seek : List CI → Nat → List CI
  | [], _ => []
  | q :: t, pc => bif Nat.beq q.1 pc then q :: t else seek t pc
/-- at the head of the rows cd: a stop, or on -/
def gate (stops : List Nat) (K : Nat → Kt) (go : List CI → Kt) (cd : List CI) : Kt := fun L S w nc ns => match cd with
  | [] => False
  | q :: t => bif stops.contains q.1 then K q.1 L S w nc ns else go (q :: t) L S w nc ns
def wp (lv mc ms : Nat) (ev : Ev) (rt : Option FieldType) (Po : Option Value → Hp → Prop) (full : List CI) (stops : List Nat) (K : Nat → Kt) : Nat → List CI → Kt
  | 0, _ => fun _ _ _ _ _ => False
  | n + 1, cd => fun L S w nc ns => match cd with
    | [] => False
    | q :: t => step lv mc ms ev rt Po q (gate stops K (wp lv mc ms ev rt Po full stops K n) t) (fun pc => gate stops K (wp lv mc ms ev rt Po full stops K n) (seek full pc)) L S w nc ns
end
section
/-! CONTRACTS, and that the calculus speaks of the machine -/
def rmL (lv mc ms : Nat) : Room := { frames := lv, cells := mc, slots := ms, locals := 40 * lv }
def Pre (G : GG) (A : Nat → Prop) (as : List Value) (w : Hp) : Array Value → State → Prop := fun v U => v = as.toArray ∧ kk G U ∧ hd G A w U.heap ∧ ∀ q, gZ w ≤ q → A q
def Pst (G : GG) (A : Nat → Prop) (Po : Option Value → Hp → Prop) : Array Value → State → Outcome → State → Prop := fun _ st oc t => (∃ (r : Option Value) (w : Hp), oc = .returned r ∧ Po r w ∧ hd G A w t.heap) ∧ va_F A st t
def wsT (k : Nat) : List Cond := mtW (mt k) :: tb
/-- method k keeps the contract sp at the level lv, making at most mc cells of ms slots -/
def Ct (l : Launch) (k lv mc ms : Nat) (sp : Sp) : Prop := ∀ (G : GG) (A : Nat → Prop) (as : List Value) (w : Hp) (Po : Option Value → Hp → Prop), sp as w Po → Met l (mt k).1 (wsT k) (rmL lv mc ms) (Pre G A as w) (Pst G A Po) mc ms A
theorem goodT {k : Nat} (hk : k < 128) : GoodIn tb (wsT k) := by
  intro w hw
  rcases List.mem_cons.mp hw with rfl | h
  · exact ⟨MTT_ok _ (mt_mem hk), good_of_word (tb_good _ (MTT_ok _ (mt_mem hk)))⟩
  · exact ⟨h, good_of_word (tb_good _ h)⟩
theorem pre_blind {G : GG} {A : Nat → Prop} {as : List Value} {w : Hp} : FrameBlind (Pre G A as w) := fun a U g mk q => ⟨q.1, kk_same rfl q.2.1, q.2.2.1, q.2.2.2⟩
set_option maxRecDepth 100000 in
theorem mt_ml : ∀ k, k < 128 → (mt k).2.2.1 ≤ 21 := by decide +kernel
section SOUND
variable {p : Program} {l : Launch} {e : Env} {R : Room} {s : State} {m : MethodId} {args : Array Value} {below : List Frame} {meth : Method} {c : Code} {H H0 : Heap} {locs : List Loc} {cells slots : Nat} {Q : State → Prop}
variable {cc : ByteArray} {pc nL ow : Nat} {G : GG} {rt : Option FieldType} {A : Nat → Prop} {ls : Array Slot} {rest : List Value} {S : Hp}
theorem r_newq (C : Cx p s m args meth c cc nL ow G rt) (hh : hd G A S H) (hS : va_S A H0 H locs) (hA : ∀ q, gZ S ≤ q → A q) {idx t n : Nat} (hq : (ow, idx, rwC.getD (t - 23) 0) ∈ NWT) (h1 : 23 ≤ t) (h2 : t < 27) (hn : n < 65536) (hcells : cells + 1 ≤ R.cells) (hslots : slots + n ≤ R.slots) (hdg : decode cc pc = .ok (.anewarray idx, 3))
    (kk : ∀ (H1 : Heap), hd G A (sArr S t n) H1 → va_S A H0 H1 locs → W p l e R s m args below meth c H1 locs (cells + 1) (slots + n) Q (F0 m (pc + 3) ls (.ref (gZ S) :: rest))) : W p l e R s m args below meth c H locs cells slots Q (F0 m pc ls (.int (nI n) :: rest)) := by
  obtain ⟨hx, hb, hml, hown, hts, hK, hr, hlk⟩ := C
  have hw := NWT_ok _ hq
  have hcl : (nI n).toNatClampNeg = n := nI_clamp (by omega)
  have hov : va_AO (ownS (rwC.getD (t - 23) 0)) s := by
    rcases (show t = 23 ∨ t = 24 ∨ t = 25 ∨ t = 26 by omega) with rfl | rfl | rfl | rfl
    · exact hK.2.1.1
    · exact hK.2.1.2.1
    · exact hK.2.1.2.2.1
    · exact hK.2.1.2.2.2
  refine W.anew (C := ownS (rwC.getD (t - 23) 0)) hx hb hown (hts _ (hw _ (List.mem_of_getElem? (i := 0) rfl))) (va_AO.use hov) rfl hdg rfl (nI_pos (by omega)) (by rw [hcl]; omega) hcells (by rw [hcl]; exact hslots) fun cA kA comp f1 f2 f3 f4 => ?_
  rw [hcl]
  have hcA : cA = G.2 (t - 20) := by
    obtain ⟨_, _, _, _, _, g4⟩ := (hK.1.2 _ _ (tys_q G t h1 h2)).2
    exact Option.some.inj (f1.symm.trans g4)
  subst hcA
  generalize hH1 : H.push ({ cls := G.2 (t - 20), slots := Array.replicate n .null, vm := .none } : Cell) = H1
  have z1 : H1.size = H.size + 1 := by rw [← hH1, Array.size_push]
  have e1 : H1[H.size]? = some (arrV (G.2 (t - 20)) n (fun _ => .null)) := by rw [← hH1, Array.getElem?_push_size, ← arrV_new]
  have o1 : ∀ q : Nat, q < H.size → H1[q]? = H[q]? := fun q hq => by rw [← hH1, Array.getElem?_push, if_neg (Nat.ne_of_lt hq)]
  have hK2 : gK (sArr S t n) (gZ S) = some t := by simp [gK, sArr]
  have hN2 : gN (sArr S t n) (gZ S) = n := by simp [gN, sArr]
  have hQ2 : gQ (sArr S t n) (gZ S) = fun _ => none := by funext j; simp [gQ, sArr]
  have hW := kk H1 (hd_push hh rfl (by simp [gK, sArr]) (fun b hb => ⟨enc_eq (by simp [gK, sArr, hb]) (fun _ _ => rfl) (fun _ _ => rfl) (by simp [gN, sArr, hb]) (fun _ => by simp [gA, sArr, hb]) (fun _ => by simp [gQ, sArr, hb]) (fun _ => by simp [gJ, sArr, hb]), by simp [gK, sArr, hb]⟩) rfl z1 (by
    rw [enc_q hK2 h1, hN2, hQ2, ← hh.1]
    exact e1) o1 (hA _ (Nat.le_refl _))) ⟨Nat.le_trans hS.1 (by omega), fun x h1 h2 => (o1 x (Nat.lt_of_lt_of_le h1 hS.1)).trans (hS.2.1 x h1 h2), hS.2.2⟩
  rw [← hh.1] at hW
  exact hW
/-- behind a call -/
theorem r_back {st0 : List Value} {as : Array Value} {mc ms : Nat} {Po : Option Value → Hp → Prop} (hr : va_Run p l e R s m args below meth c H locs cells slots mc ms (F0 m pc ls st0) rest (Pst G A Po as) A) (hS : va_S A H0 H locs)
    (kk : ∀ (r : Option Value) (w : Hp) (H1 : Heap) (locs1 : List Loc), Po r w → hd G A w H1 → va_S A H0 H1 locs1 → W p l e R s m args below meth c H1 locs1 (cells + mc) (slots + ms) Q (F0 m (pc + 3) ls (r.toList ++ rest))) : W p l e R s m args below meth c H locs cells slots Q (F0 m pc ls st0) := by
  intro T hT X
  obtain ⟨v, st₀, t, T', L, h0, X', hL, e1, e2, ⟨⟨r, w, hv, hp, hw⟩, hz, hk⟩, st⟩ := hr T hT X
  cases hv
  rw [h0] at hz hk
  obtain ⟨t2, a1, b1⟩ := kk v w T'.heap (locs ++ L) hp (by rw [e1]; exact hw) ⟨Nat.le_trans hS.1 (by rw [e1]; exact hz), fun q h1 h2 => by rw [e1, hk q (Nat.lt_of_lt_of_le h1 hS.1) h2]; exact hS.2.1 q h1 h2, fun q hq => by
      rcases List.mem_append.mp hq with h | h
      · exact hS.2.2 q h
      · exact hL q h⟩ T' rfl X'
  exact ⟨t2, st t2 a1, b1⟩
theorem r_pre (C : Cx p s m args meth c cc nL ow G rt) (hh : hd G A S H) (hA : ∀ q, gZ S ≤ q → A q) (as : List Value) : PreS s H (Pre G A as S) as := ⟨pre_blind, fun U hU hW => ⟨rfl, kk_warm hW C.2.2.2.2.2.1, by rw [hU]; exact hh, hA⟩⟩
theorem r_recv (C : Cx p s m args meth c cc nL ow G rt) (hh : hd G A S H) {b t : Nat} (ht : t < 11) (hk : gK S b = some t) : ∃ cellB : Cell, H[b]? = some cellB ∧ cellB.vm.isStatics = false ∧ s.vm.findClass (ownS t) = some cellB.cls := by
  obtain ⟨LP, q, ha, h0, hL, hP, hD⟩ := hd_in hh hk
  rw [enc_o hk (by omega)] at h0
  exact va_recv C.2.2.2.2.2.1.1 hP (cl_at t ht) h0
theorem lvl {lv lv' mc' ms' k : Nat} (h : lv' < lv) (hk : k < 128) (hR : lv ≤ R.frames ∧ 40 * lv ≤ R.locals) : (rmL lv' mc' ms').frames + 1 ≤ R.frames ∧ 8 + ((mt k).2.2.1 + 11) + (rmL lv' mc' ms').locals ≤ R.locals := by
  have := mt_ml k hk
  refine ⟨?_, ?_⟩
  · show lv' + 1 ≤ R.frames; omega
  · show 8 + ((mt k).2.2.1 + 11) + 40 * lv' ≤ R.locals; omega
theorem r_callV (C : Cx p s m args meth c cc nL ow G rt) (hh : hd G A S H) (hS : va_S A H0 H locs) (hA : ∀ q, gZ S ≤ q → A q) (hls : ls.size = nL) {idx k lv lv' mc' ms' b : Nat} {sp : Sp} {As : List Value} {Po : Option Value → Hp → Prop} (hq : (ow, idx, k) ∈ IVT) (hC : Ct l k lv' mc' ms' sp) (hlv : lv' < lv) (hR : lv ≤ R.frames ∧ 40 * lv ≤ R.locals) (hc : cells + mc' ≤ R.cells) (hsl : slots + ms' ≤ R.slots) (hAs : As.length = mtN.getD k 0) (hcat : catB rest = true) (hci : mtC.getD k 0 < 11) (hb : gK S b = some (mtC.getD k 0)) (hsp : sp (.ref b :: As) S Po) (hdg : decode cc pc = .ok (.invokevirtual idx, 3))
    (kk : ∀ (r : Option Value) (w : Hp) (H1 : Heap) (locs1 : List Loc), Po r w → hd G A w H1 → va_S A H0 H1 locs1 → W p l e R s m args below meth c H1 locs1 (cells + mc') (slots + ms') Q (F0 m (pc + 3) ls (r.toList ++ rest))) : W p l e R s m args below meth c H locs cells slots Q (F0 m pc ls (As.reverse ++ .ref b :: rest)) := by
  obtain ⟨hx, hbb, hml, hown, hts, hK, hr, hlk⟩ := id C
  have hk : k < 128 := IVT_lt _ hq
  have hw := IVT_ok _ hq
  have hG : GoodIn tb (wsV (ownS ow) idx (mt k).1.cls (mt k).1 (wsT k)) := by
    intro w h
    unfold wsV at h
    rcases List.mem_append.mp h with h | h
    · have h2 : w ∈ IVW (ow, idx, k) := by
        simp only [List.mem_cons, List.not_mem_nil, or_false] at h
        rcases h with rfl | rfl | rfl | rfl <;> simp [IVW]
      exact ⟨hw _ h2, good_of_word (tb_good _ (hw _ h2))⟩
    · exact goodT hk w h
  refine r_back (va_runV (C := (mt k).1.cls) (b := b) (As := As) ⟨hx, hbb, hml, hown, hts⟩ (hC G A (.ref b :: As) S Po hsp) (cwV (mtN.getD k 0) hts hG rfl rfl rfl ⟨rfl, (mt_mh k hk).1, (mt_mh k hk).2, mt_par k hk⟩ (lvl hlv hk hR)) ⟨pre_blind, ?_, (r_pre C hh hA _).2⟩ rfl hAs hls rfl (lv_room (Nat.le_of_ble_eq_true hcat)) hdg ⟨hc, hsl⟩) hS kk
  rw [mt_cls k hk]
  exact r_recv C hh hci hb
theorem r_callS (C : Cx p s m args meth c cc nL ow G rt) (hh : hd G A S H) (hS : va_S A H0 H locs) (hA : ∀ q, gZ S ≤ q → A q) (hls : ls.size = nL) {idx k lv lv' mc' ms' : Nat} {sp : Sp} {As : List Value} {Po : Option Value → Hp → Prop} (hq : (ow, idx, k) ∈ IST) (hC : Ct l k lv' mc' ms' sp) (hlv : lv' < lv) (hR : lv ≤ R.frames ∧ 40 * lv ≤ R.locals) (hc : cells + mc' ≤ R.cells) (hsl : slots + ms' ≤ R.slots) (hAs : As.length = mtN.getD k 0) (hcat : catB rest = true) (hsp : sp As S Po) (hdg : decode cc pc = .ok (.invokestatic idx, 3))
    (kk : ∀ (r : Option Value) (w : Hp) (H1 : Heap) (locs1 : List Loc), Po r w → hd G A w H1 → va_S A H0 H1 locs1 → W p l e R s m args below meth c H1 locs1 (cells + mc') (slots + ms') Q (F0 m (pc + 3) ls (r.toList ++ rest))) : W p l e R s m args below meth c H locs cells slots Q (F0 m pc ls (As.reverse ++ rest)) := by
  obtain ⟨hx, hbb, hml, hown, hts, hK, hr, hlk⟩ := id C
  have hk : k < 128 := IST_lt _ hq
  have hw := IST_ok _ hq
  have hG : GoodIn tb (va_wsS (ownS ow) idx (mt k).1 (wsT k)) := by
    intro w h
    unfold va_wsS at h
    rcases List.mem_append.mp h with h | h
    · have h2 : w ∈ ISW (ow, idx, k) := by
        simp only [List.mem_cons, List.not_mem_nil, or_false] at h
        rcases h with rfl | rfl | rfl <;> simp [ISW]
      exact ⟨hw _ h2, good_of_word (tb_good _ (hw _ h2))⟩
    · exact goodT hk w h
  exact r_back (va_runS (As := As) ⟨hx, hbb, hml, hown, hts⟩ (hC G A As S Po hsp) (va_cwS (mtN.getD k 0) hts hG rfl rfl rfl ⟨(mt_mh k hk).1, (mt_mh k hk).2, mt_par k hk⟩ (lvl hlv hk hR)) (r_pre C hh hA _) rfl hAs hls rfl (lv_room (Nat.le_of_ble_eq_true hcat)) hdg ⟨hc, hsl⟩) hS kk
theorem iit_v : ∀ q ∈ IIT, (mt q.2.2).2.2.2 = none ∧ (mt q.2.2).1.name = "<init>" := by decide +kernel
theorem int_v : ∀ q ∈ INT, (mt q.2.2).2.2.2 = none ∧ (mt q.2.2).1.name = "<init>" := by decide +kernel
theorem r_callI (C : Cx p s m args meth c cc nL ow G rt) (hh : hd G A S H) (hS : va_S A H0 H locs) (hA : ∀ q, gZ S ≤ q → A q) (hls : ls.size = nL) {idx k lv lv' mc' ms' b : Nat} {sp : Sp} {As : List Value} {Po : Option Value → Hp → Prop} (hq : (ow, idx, k) ∈ IIT) (hC : Ct l k lv' mc' ms' sp) (hlv : lv' < lv) (hR : lv ≤ R.frames ∧ 40 * lv ≤ R.locals) (hc : cells + mc' ≤ R.cells) (hsl : slots + ms' ≤ R.slots) (hAs : As.length = mtN.getD k 0) (hcat : catB rest = true) (hsp : sp (.ref b :: As) S Po) (hdg : decode cc pc = .ok (.invokespecial idx, 3))
    (kk : ∀ (r : Option Value) (w : Hp) (H1 : Heap) (locs1 : List Loc), Po r w → hd G A w H1 → va_S A H0 H1 locs1 → W p l e R s m args below meth c H1 locs1 (cells + mc') (slots + ms') Q (F0 m (pc + 3) ls (r.toList ++ rest))) : W p l e R s m args below meth c H locs cells slots Q (F0 m pc ls (As.reverse ++ .ref b :: rest)) := by
  obtain ⟨hx, hbb, hml, hown, hts, hK, hr, hlk⟩ := id C
  have hk : k < 128 := IIT_lt _ hq
  have hw := IIT_ok _ hq
  have hv := iit_v _ hq
  have hv1 : (mt k).2.2.2 = none := hv.1
  have e1 : wsT k = Cond.code (mt k).1 (mt k).2.1 (mt k).2.2.1 none :: tb := by rw [← hv1]; rfl
  exact r_back (va_runI (b := b) (As := As) ⟨hx, hbb, hml, hown, hts⟩ (hC G A (.ref b :: As) S Po hsp) (cwI (mtN.getD k 0) hts (goodT hk) e1 rfl rfl (hts _ (hw _ (List.mem_of_getElem? (i := 2) rfl))) (hts _ (hw _ (List.mem_of_getElem? (i := 0) rfl))) (hts _ (hw _ (List.mem_of_getElem? (i := 1) rfl))) hv.2 ⟨(mt_mh k hk).1, (mt_mh k hk).2, mt_par k hk⟩ (lvl hlv hk hR)) (r_pre C hh hA _) rfl hAs hls rfl (lv_room (Nat.le_of_ble_eq_true hcat)) hdg ⟨hc, hsl⟩) hS kk
theorem r_callN (C : Cx p s m args meth c cc nL ow G rt) (hh : hd G A S H) (hS : va_S A H0 H locs) (hA : ∀ q, gZ S ≤ q → A q) (hls : ls.size = nL) {idx k lv lv' mc' ms' b : Nat} {sp : Sp} {As : List Value} {Po : Option Value → Hp → Prop} (hq : (ow, idx, k) ∈ INT) (hC : Ct l k lv' mc' ms' sp) (hlv : lv' < lv) (hR : lv ≤ R.frames ∧ 40 * lv ≤ R.locals) (hc : cells + mc' ≤ R.cells) (hsl : slots + ms' ≤ R.slots) (hAs : As.length = mtN.getD k 0) (hcat : catB rest = true) (hsp : sp (.ref b :: As) S Po) (hdg : decode cc pc = .ok (.invokespecial idx, 3))
    (kk : ∀ (r : Option Value) (w : Hp) (H1 : Heap) (locs1 : List Loc), Po r w → hd G A w H1 → va_S A H0 H1 locs1 → W p l e R s m args below meth c H1 locs1 (cells + mc') (slots + ms') Q (F0 m (pc + 3) ls (r.toList ++ rest))) : W p l e R s m args below meth c H locs cells slots Q (F0 m pc ls (As.reverse ++ .ref b :: rest)) := by
  obtain ⟨hx, hbb, hml, hown, hts, hK, hr, hlk⟩ := id C
  have hk : k < 128 := INT_lt _ hq
  have hw := INT_ok _ hq
  have hv := int_v _ hq
  have hv1 : (mt k).2.2.2 = none := hv.1
  have e1 : wsT k = Cond.code (mt k).1 (mt k).2.1 (mt k).2.2.1 none :: tb := by rw [← hv1]; rfl
  exact r_back (va_runIN (b := b) (As := As) ⟨hx, hbb, hml, hown, hts⟩ (hC G A (.ref b :: As) S Po hsp) ⟨va_cnB (mtN.getD k 0) hts (goodT hk) e1 rfl rfl (hK.2.2 _ hq) (hts _ (hw _ (List.mem_of_getElem? (i := 1) rfl))) ⟨(mt_mh k hk).1, (mt_mh k hk).2, mt_par k hk⟩ (lvl hlv hk hR), hv.2, hts _ (hw _ (List.mem_of_getElem? (i := 0) rfl))⟩ (r_pre C hh hA _) rfl hAs hls rfl (lv_room (Nat.le_of_ble_eq_true hcat)) hdg ⟨hc, hsl⟩) hS kk
end SOUND
end
section
/-! THAT THE CALCULUS SPEAKS OF THE MACHINE: one instruction; a run of them; a method's contract out of it -/
theorem k1_el {L : Ls} {k : Nat} {f : Int32 → Prop} (h : k1 L k f) : ∃ x, lk L k = some (.int x) ∧ f x := by
  unfold k1 at h
  split at h
  · exact ⟨_, by assumption, h⟩
  · exact h.elim
theorem kJ_el {L : Ls} {k : Nat} {f : Int64 → Prop} (h : kJ L k f) : ∃ x, lk L k = some (.long x) ∧ f x := by
  unfold kJ at h
  split at h
  · exact ⟨_, by assumption, h⟩
  · exact h.elim
theorem kR_el {L : Ls} {k : Nat} {f : Value → Prop} (h : kR L k f) : (∃ x, lk L k = some (.ref x) ∧ f (.ref x)) ∨ (lk L k = some .null ∧ f .null) := by
  unfold kR at h
  split at h
  · exact Or.inl ⟨_, by assumption, h⟩
  · exact Or.inr ⟨by assumption, h⟩
  · exact h.elim
theorem p1_el {S : List Value} {f : Int32 → List Value → Prop} (h : p1 S f) : ∃ x S', S = .int x :: S' ∧ f x S' := by
  unfold p1 at h
  split at h
  · exact ⟨_, _, rfl, h⟩
  · exact h.elim
theorem p2_el {S : List Value} {f : Int32 → Int32 → List Value → Prop} (h : p2 S f) : ∃ x y S', S = .int y :: .int x :: S' ∧ f x y S' := by
  unfold p2 at h
  split at h
  · exact ⟨_, _, _, rfl, h⟩
  · exact h.elim
theorem pJ_el {S : List Value} {f : Int64 → List Value → Prop} (h : pJ S f) : ∃ x S', S = .long x :: S' ∧ f x S' := by
  unfold pJ at h
  split at h
  · exact ⟨_, _, rfl, h⟩
  · exact h.elim
theorem pJ2_el {S : List Value} {f : Int64 → Int64 → List Value → Prop} (h : pJ2 S f) : ∃ x y S', S = .long y :: .long x :: S' ∧ f x y S' := by
  unfold pJ2 at h
  split at h
  · exact ⟨_, _, _, rfl, h⟩
  · exact h.elim
theorem pR_el {S : List Value} {f : Value → List Value → Prop} (h : pR S f) : (∃ x S', S = .ref x :: S' ∧ f (.ref x) S') ∨ (∃ S', S = .null :: S' ∧ f .null S') := by
  unfold pR at h
  split at h
  · exact Or.inl ⟨_, _, rfl, h⟩
  · exact Or.inr ⟨_, rfl, h⟩
  · exact h.elim
theorem pA_el {S : List Value} {f : Nat → List Value → Prop} (h : pA S f) : ∃ x S', S = .ref x :: S' ∧ f x S' := by
  unfold pA at h
  split at h
  · exact ⟨_, _, rfl, h⟩
  · exact h.elim
theorem pIx_el {S : List Value} {f : Int32 → Nat → List Value → Prop} (h : pIx S f) : ∃ i a S', S = .int i :: .ref a :: S' ∧ f i a S' := by
  unfold pIx at h
  split at h
  · exact ⟨_, _, _, rfl, h⟩
  · exact h.elim
theorem pVA_el {S : List Value} {f : Value → Nat → List Value → Prop} (h : pVA S f) : ∃ v a S', S = v :: .ref a :: S' ∧ f v a S' := by
  unfold pVA at h
  split at h
  · exact ⟨_, _, _, rfl, h⟩
  · exact h.elim
theorem pIs_el {S : List Value} {f : Value → Int32 → Nat → List Value → Prop} (h : pIs S f) : ∃ v i a S', S = v :: .int i :: .ref a :: S' ∧ f v i a S' := by
  unfold pIs at h
  split at h
  · exact ⟨_, _, _, _, rfl, h⟩
  · exact h.elim
theorem vI_el {v : Value} {f : Int32 → Prop} (h : vI v f) : ∃ x, v = .int x ∧ f x := by
  unfold vI at h
  split at h
  · exact ⟨_, rfl, h⟩
  · exact h.elim
theorem vJ_el {v : Value} {f : Int64 → Prop} (h : vJ v f) : ∃ x, v = .long x ∧ f x := by
  unfold vJ at h
  split at h
  · exact ⟨_, rfl, h⟩
  · exact h.elim
theorem vA_el {v : Value} {f : Nat → Prop} (h : vA v f) : ∃ x, v = .ref x ∧ f x := by
  unfold vA at h
  split at h
  · exact ⟨_, rfl, h⟩
  · exact h.elim
theorem cll_el {lv mc ms : Nat} {ev : Ev} {k nc ns : Nat} {f : Sp → Nat → Nat → Prop} (h : cll lv mc ms ev k nc ns f) : ∃ r, ev k = some r ∧ (r.1 < lv ∧ nc + r.2.1 ≤ mc ∧ ns + r.2.2.1 ≤ ms) ∧ f r.2.2.2 (nc + r.2.1) (ns + r.2.2.1) := by
  unfold cll at h
  split at h
  · exact h.elim
  · exact ⟨_, by assumption, h.1, h.2⟩
theorem lk_at {ls : Array Slot} {nL : Nat} {v : Value} {k : Nat} : ∀ {L : Ls}, lv_has ls nL L → lk L k = some v → ls[k]? = some (.val v)
  | [], _, h => by cases h
  | q :: t, hl, h => by
    unfold lk at h
    by_cases hq : Nat.beq q.1 k = true
    · rw [hq, cond_true] at h
      have e1 := Nat.eq_of_beq_eq_true hq
      have e2 := Option.some.inj h
      rw [← e1, ← e2]
      exact hl.2.2 q List.mem_cons_self
    · have hq2 : Nat.beq q.1 k = false := Bool.eq_false_iff.mpr hq
      rw [hq2, cond_false] at h
      exact lk_at ⟨hl.1, hl.2.1, fun r hr => hl.2.2 r (List.mem_cons_of_mem _ hr)⟩ h
theorem lk_ix {v : Value} {k : Nat} : ∀ {L : List (Nat × Value)}, lk L k = some v → ∃ j : Nat, L[j]? = some (k, v)
  | [], h => by cases h
  | q :: t, h => by
    unfold lk at h
    by_cases hq : Nat.beq q.1 k = true
    · rw [hq, cond_true] at h
      have e1 := Nat.eq_of_beq_eq_true hq
      have e2 := Option.some.inj h
      exact ⟨0, by rw [← e1, ← e2]; rfl⟩
    · have hq2 : Nat.beq q.1 k = false := Bool.eq_false_iff.mpr hq
      rw [hq2, cond_false] at h
      obtain ⟨j, hj⟩ := lk_ix h
      exact ⟨j + 1, by simpa using hj⟩
theorem tsw_at {x : Int32} {f : Nat → Prop} : ∀ {ts : List Nat} {lo : Int} (j : Nat) {t : Nat}, tsw x lo f ts → ts[j]? = some t → x.toInt = lo + j → f t
  | [], _, j, _, _, h, _ => by simp at h
  | a :: ts, lo, 0, t, h, h2, h3 => by
    have : a = t := by simpa using h2
    rw [← this]
    exact h.1 (by simpa using h3)
  | a :: ts, lo, j + 1, t, h, h2, h3 => tsw_at j h.2 (by simpa using h2) (by rw [h3]; push_cast; omega)
theorem lsw_at {x : Int32} {f : Nat → Prop} {pc d0 d : Int} {dt : Nat} (hd : pc + d = (dt : Int)) (Q : Nat → Prop) (hf : ∀ t, f t → Q t) (hd2 : d0 = d) {D : Prop} (hD : D → Q dt) : ∀ {ps : List (Int × Int)} {ts : List Nat}, ps.map (fun o => pc + o.2) = ts.map Int.ofNat → lsw x f D ps ts → ∃ tgt : Nat, pc + Op.lookupswitch.offset ps d x.toInt = (tgt : Int) ∧ Q tgt
  | [], _, _, h => ⟨dt, hd, hD h⟩
  | q :: ps, [], e, h => by simp at e
  | q :: ps, t :: ts, e, h => by
    obtain ⟨a, o⟩ := q
    simp only [List.map_cons, List.cons.injEq] at e
    by_cases hx : x.toInt = a
    · refine ⟨t, ?_, hf t (h.1 hx)⟩
      rw [Op.lookupswitch.offset_cons, if_pos hx.symm]
      exact e.1
    · obtain ⟨tgt, h1, h2⟩ := lsw_at (d0 := d0) hd Q hf hd2 hD e.2 (h.2 hx)
      refine ⟨tgt, ?_, h2⟩
      rw [Op.lookupswitch.offset_cons, if_neg (fun z => hx z.symm)]
      exact h1
theorem tak_drop {S rest : List Value} {n : Nat} (h : S.drop n = rest) : S = (S.take n).reverse.reverse ++ rest := by rw [List.reverse_reverse, ← h, List.take_append_drop]
theorem tak_len {S : List Value} {n : Nat} (h : n ≤ S.length) : (S.take n).reverse.length = n := by rw [List.length_reverse, List.length_take]; omega
theorem tak_len2 {S rest : List Value} {n : Nat} {v : Value} (h : S.drop n = v :: rest) : (S.take n).reverse.length = n := by
  apply tak_len
  rcases Nat.lt_or_ge n S.length with q | q
  · omega
  · rw [List.drop_eq_nil_of_le q] at h; cases h
theorem ivt_c : ∀ q ∈ IVT, mtC.getD q.2.2 0 < 11 := by decide +kernel
theorem con_mem {α : Type} [BEq α] [LawfulBEq α] {l : List α} {a : α} (h : l.contains a = true) : a ∈ l := by simpa using h
def Sf (p : Program) (l : Launch) (e : Env) (R : Room) (s : State) (m : MethodId) (args : Array Value) (below : List Frame) (meth : Method) (c : Code) (Q : State → Prop) (G : GG) (A : Nat → Prop) (nL : Nat) (pc : Nat) : Kt := fun L S w nc ns =>
  ∀ (H : Heap) (locs : List Loc) (ls : Array Slot), hd G A w H → va_S A s.heap H locs → lv_has ls nL L → W p l e R s m args below meth c H locs nc ns Q (F0 m pc ls S)
section STEPS
variable {p : Program} {l : Launch} {e : Env} {s : State} {m : MethodId} {args : Array Value} {below : List Frame} {meth : Method} {c : Code}
variable {cc : ByteArray} {nL ow : Nat} {G : GG} {rt : Option FieldType} {A : Nat → Prop} {lv mc ms : Nat} {ev : Ev} {Po : Option Value → Hp → Prop} {R : Room}
set_option maxHeartbeats 8000000 in
set_option maxRecDepth 100000 in
theorem step_ok (C : Cx p s m args meth c cc nL ow G rt) (hA : ∀ q, s.heap.size ≤ q → A q) (hR : lv ≤ R.frames ∧ 40 * lv ≤ R.locals) (hRc : R.cells = mc) (hRs : R.slots = ms) {ini : Bool} (hini : ini = true → meth.name = "<init>") (hev : ∀ k r, ev k = some r → Ct l k r.1 r.2.1 r.2.2.1 r.2.2.2) (q : CI) (hq : ciOK cc ow nL ini q) {nx : Kt} {jp : Nat → Kt}
    (hnx : ∀ L S w nc ns, nc ≤ mc ∧ ns ≤ ms → nx L S w nc ns → Sf p l e R s m args below meth c (MQ below (Pst G A Po) args s mc ms A) G A nL (q.1 + q.2.2.1) L S w nc ns)
    (hjp : ∀ t L S w nc ns, nc ≤ mc ∧ ns ≤ ms → jp t L S w nc ns → Sf p l e R s m args below meth c (MQ below (Pst G A Po) args s mc ms A) G A nL t L S w nc ns)
    {L : Ls} {S : List Value} {w : Hp} {nc ns : Nat} (hnc : nc ≤ mc ∧ ns ≤ ms) (h : step lv mc ms ev rt Po q nx jp L S w nc ns) : Sf p l e R s m args below meth c (MQ below (Pst G A Po) args s mc ms A) G A nL q.1 L S w nc ns := by
  obtain ⟨hx, hb, hml, hown, hts, hK, hr, hlk⟩ := id C
  obtain ⟨pc, i, len, r1, r2, v, ts⟩ := q
  obtain ⟨hdg, hlen, hok⟩ := hq
  dsimp only at hdg hlen hnx
  intro H locs ls hh hS hl
  have hAz : ∀ q, gZ w ≤ q → A q := fun q hq => hA q (Nat.le_trans hS.1 (by rw [hh.1]; exact hq))
  show W p l e R s m args below meth c H locs nc ns _ (F0 m pc ls S)
  cases i with
  | aconst_null => obtain rfl : 1 = len := Nat.eq_of_beq_eq_true hlen; exact lv_null hx hb hdg (hnx _ _ _ _ _ hnc h H locs ls hh hS hl)
  | iconst n => obtain rfl : 1 = len := Nat.eq_of_beq_eq_true hlen; exact lv_iconst hx hb hdg (of_decide_eq_true hok) (hnx _ _ _ _ _ hnc h H locs ls hh hS hl)
  | bipush n => obtain rfl : 2 = len := Nat.eq_of_beq_eq_true hlen; exact lv_bipush hx hb hdg (of_decide_eq_true hok) (hnx _ _ _ _ _ hnc h H locs ls hh hS hl)
  | sipush n => obtain rfl : 3 = len := Nat.eq_of_beq_eq_true hlen; exact lv_sipush hx hb hdg (of_decide_eq_true hok) (hnx _ _ _ _ _ hnc h H locs ls hh hS hl)
  | ldc i => obtain rfl : 2 = len := Nat.eq_of_beq_eq_true hlen; exact lv_ldc hx hb hown (hts _ (CKok _ (List.mem_map.mpr ⟨_, con_mem hok, rfl⟩))) hdg (hnx _ _ _ _ _ hnc h H locs ls hh hS hl)
  | ldc_w i => obtain rfl : 3 = len := Nat.eq_of_beq_eq_true hlen; exact lv_ldcw hx hb hown (hts _ (CKok _ (List.mem_map.mpr ⟨_, con_mem hok, rfl⟩))) hdg (hnx _ _ _ _ _ hnc h H locs ls hh hS hl)
  | ldc2_w i => obtain rfl : 3 = len := Nat.eq_of_beq_eq_true hlen; exact lv_ldc2 hx hb hown (hts _ (CJok _ (List.mem_map.mpr ⟨_, con_mem hok, rfl⟩))) hdg (hnx _ _ _ _ _ hnc h H locs ls hh hS hl)
  | lconst n => obtain rfl : 1 = len := Nat.eq_of_beq_eq_true hlen; exact lv_lconst hx hb hdg rfl (hnx _ _ _ _ _ hnc h H locs ls hh hS hl)
  | iload_n k => obtain rfl : 1 = len := Nat.eq_of_beq_eq_true hlen; obtain ⟨x, h1, h⟩ := k1_el h; exact lv_iload_n hx hb hdg rfl (lk_at hl h1) (hnx _ _ _ _ _ hnc h H locs ls hh hS hl)
  | iload k => obtain rfl : 2 = len := Nat.eq_of_beq_eq_true hlen; obtain ⟨x, h1, h⟩ := k1_el h; exact lv_iload hx hb hdg (lk_at hl h1) (hnx _ _ _ _ _ hnc h H locs ls hh hS hl)
  | lload_n k => obtain rfl : 1 = len := Nat.eq_of_beq_eq_true hlen; obtain ⟨x, h1, h⟩ := kJ_el h; exact lv_lload_n hx hb hdg rfl (lk_at hl h1) (hnx _ _ _ _ _ hnc h H locs ls hh hS hl)
  | lload k => obtain rfl : 2 = len := Nat.eq_of_beq_eq_true hlen; obtain ⟨x, h1, h⟩ := kJ_el h; exact lv_lload hx hb hdg (lk_at hl h1) (hnx _ _ _ _ _ hnc h H locs ls hh hS hl)
  | aload_n k =>
    obtain rfl : 1 = len := Nat.eq_of_beq_eq_true hlen
    unfold step at h; dsimp only at h
    rcases kR_el h with ⟨x, h1, h⟩ | ⟨h1, h⟩
    · exact lv_aload_n hx hb hdg rfl (lk_at hl h1) (hnx _ _ _ _ _ hnc h H locs ls hh hS hl)
    · exact lv_aload_nN hx hb hdg rfl (lk_at hl h1) (hnx _ _ _ _ _ hnc h H locs ls hh hS hl)
  | aload k =>
    obtain rfl : 2 = len := Nat.eq_of_beq_eq_true hlen
    unfold step at h; dsimp only at h
    rcases kR_el h with ⟨x, h1, h⟩ | ⟨h1, h⟩
    · exact lv_aload hx hb hdg (lk_at hl h1) (hnx _ _ _ _ _ hnc h H locs ls hh hS hl)
    · exact lv_aloadN hx hb hdg (lk_at hl h1) (hnx _ _ _ _ _ hnc h H locs ls hh hS hl)
  | istore_n k => obtain rfl : 1 = len := Nat.eq_of_beq_eq_true hlen; obtain ⟨x, S', rfl, h⟩ := p1_el h; exact lv_istore_n hx hb hdg rfl hl (of_decide_eq_true hok) rfl (fun ls hl => hnx _ _ _ _ _ hnc h H locs ls hh hS hl)
  | istore k => obtain rfl : 2 = len := Nat.eq_of_beq_eq_true hlen; obtain ⟨x, S', rfl, h⟩ := p1_el h; exact lv_istore hx hb hdg hl (of_decide_eq_true hok) rfl (fun ls hl => hnx _ _ _ _ _ hnc h H locs ls hh hS hl)
  | lstore_n k => obtain rfl : 1 = len := Nat.eq_of_beq_eq_true hlen; obtain ⟨x, S', rfl, h⟩ := pJ_el h; exact lv_lstore_n hx hb hdg rfl hl (of_decide_eq_true hok) rfl (fun ls hl => hnx _ _ _ _ _ hnc h H locs ls hh hS hl)
  | lstore k => obtain rfl : 2 = len := Nat.eq_of_beq_eq_true hlen; obtain ⟨x, S', rfl, h⟩ := pJ_el h; exact lv_lstore hx hb hdg hl (of_decide_eq_true hok) rfl (fun ls hl => hnx _ _ _ _ _ hnc h H locs ls hh hS hl)
  | astore_n k =>
    obtain rfl : 1 = len := Nat.eq_of_beq_eq_true hlen
    unfold step at h; dsimp only at h
    rcases pR_el h with ⟨x, S', rfl, h⟩ | ⟨S', rfl, h⟩
    · exact lv_astore_n hx hb hdg rfl hl (of_decide_eq_true hok) rfl (fun ls hl => hnx _ _ _ _ _ hnc h H locs ls hh hS hl)
    · exact lv_astore_nN hx hb hdg rfl hl (of_decide_eq_true hok) rfl (fun ls hl => hnx _ _ _ _ _ hnc h H locs ls hh hS hl)
  | astore k =>
    obtain rfl : 2 = len := Nat.eq_of_beq_eq_true hlen
    unfold step at h; dsimp only at h
    rcases pR_el h with ⟨x, S', rfl, h⟩ | ⟨S', rfl, h⟩
    · exact lv_astore hx hb hdg hl (of_decide_eq_true hok) rfl (fun ls hl => hnx _ _ _ _ _ hnc h H locs ls hh hS hl)
    · exact lv_astoreN hx hb hdg hl (of_decide_eq_true hok) rfl (fun ls hl => hnx _ _ _ _ _ hnc h H locs ls hh hS hl)
  | iinc k n =>
    obtain rfl : 3 = len := Nat.eq_of_beq_eq_true hlen
    obtain ⟨x, h1, h⟩ := k1_el h
    obtain ⟨j, hj⟩ := lk_ix h1
    have hok2 := Bool.and_eq_true_iff.mp hok
    exact lv_iinc hx hb hdg hl hj (by rw [of_decide_eq_true hok2.2]) (of_decide_eq_true hok2.1) rfl (fun ls hl => hnx _ _ _ _ _ hnc h H locs ls hh hS hl)
  | iadd => obtain rfl : 1 = len := Nat.eq_of_beq_eq_true hlen; obtain ⟨x, y, S', rfl, h⟩ := p2_el h; exact lv_iadd hx hb hdg (hnx _ _ _ _ _ hnc h H locs ls hh hS hl)
  | isub => obtain rfl : 1 = len := Nat.eq_of_beq_eq_true hlen; obtain ⟨x, y, S', rfl, h⟩ := p2_el h; exact lv_isub hx hb hdg (hnx _ _ _ _ _ hnc h H locs ls hh hS hl)
  | imul => obtain rfl : 1 = len := Nat.eq_of_beq_eq_true hlen; obtain ⟨x, y, S', rfl, h⟩ := p2_el h; exact lv_imul hx hb hdg (hnx _ _ _ _ _ hnc h H locs ls hh hS hl)
  | iand => obtain rfl : 1 = len := Nat.eq_of_beq_eq_true hlen; obtain ⟨x, y, S', rfl, h⟩ := p2_el h; exact lv_iand hx hb hdg (hnx _ _ _ _ _ hnc h H locs ls hh hS hl)
  | ior => obtain rfl : 1 = len := Nat.eq_of_beq_eq_true hlen; obtain ⟨x, y, S', rfl, h⟩ := p2_el h; exact lv_ior hx hb hdg (hnx _ _ _ _ _ hnc h H locs ls hh hS hl)
  | ixor => obtain rfl : 1 = len := Nat.eq_of_beq_eq_true hlen; obtain ⟨x, y, S', rfl, h⟩ := p2_el h; exact lv_ixor hx hb hdg (hnx _ _ _ _ _ hnc h H locs ls hh hS hl)
  | ishl => obtain rfl : 1 = len := Nat.eq_of_beq_eq_true hlen; obtain ⟨x, y, S', rfl, h⟩ := p2_el h; exact lv_ishl hx hb hdg (hnx _ _ _ _ _ hnc h H locs ls hh hS hl)
  | ishr => obtain rfl : 1 = len := Nat.eq_of_beq_eq_true hlen; obtain ⟨x, y, S', rfl, h⟩ := p2_el h; exact lv_ishr hx hb hdg (hnx _ _ _ _ _ hnc h H locs ls hh hS hl)
  | iushr => obtain rfl : 1 = len := Nat.eq_of_beq_eq_true hlen; obtain ⟨x, y, S', rfl, h⟩ := p2_el h; exact lv_iushr hx hb hdg rfl (hnx _ _ _ _ _ hnc h H locs ls hh hS hl)
  | irem => obtain rfl : 1 = len := Nat.eq_of_beq_eq_true hlen; obtain ⟨x, y, S', rfl, hy, h⟩ := p2_el h; exact lv_irem hx hb hdg hy (hnx _ _ _ _ _ hnc h H locs ls hh hS hl)
  | ineg => obtain rfl : 1 = len := Nat.eq_of_beq_eq_true hlen; obtain ⟨x, S', rfl, h⟩ := p1_el h; exact lv_ineg hx hb hdg (hnx _ _ _ _ _ hnc h H locs ls hh hS hl)
  | ladd => obtain rfl : 1 = len := Nat.eq_of_beq_eq_true hlen; obtain ⟨x, y, S', rfl, h⟩ := pJ2_el h; exact lv_ladd hx hb hdg (hnx _ _ _ _ _ hnc h H locs ls hh hS hl)
  | lsub => obtain rfl : 1 = len := Nat.eq_of_beq_eq_true hlen; obtain ⟨x, y, S', rfl, h⟩ := pJ2_el h; exact lv_lsub hx hb hdg (hnx _ _ _ _ _ hnc h H locs ls hh hS hl)
  | lmul => obtain rfl : 1 = len := Nat.eq_of_beq_eq_true hlen; obtain ⟨x, y, S', rfl, h⟩ := pJ2_el h; exact lv_lmul hx hb hdg (hnx _ _ _ _ _ hnc h H locs ls hh hS hl)
  | lcmp => obtain rfl : 1 = len := Nat.eq_of_beq_eq_true hlen; obtain ⟨x, y, S', rfl, h⟩ := pJ2_el h; exact W.lcmp hx hb hdg (hnx _ _ _ _ _ hnc h H locs ls hh hS hl)
  | i2l => obtain rfl : 1 = len := Nat.eq_of_beq_eq_true hlen; obtain ⟨x, S', rfl, h⟩ := p1_el h; exact lv_i2l hx hb hdg rfl (hnx _ _ _ _ _ hnc h H locs ls hh hS hl)
  | dup =>
    obtain rfl : 1 = len := Nat.eq_of_beq_eq_true hlen
    match S, h with
    | .int x :: S', h => exact lv_dup hx hb hdg rfl (hnx _ _ _ _ _ hnc h H locs ls hh hS hl)
    | .ref x :: S', h => exact lv_dup hx hb hdg rfl (hnx _ _ _ _ _ hnc h H locs ls hh hS hl)
    | .null :: S', h => exact lv_dup hx hb hdg rfl (hnx _ _ _ _ _ hnc h H locs ls hh hS hl)
  | dup2 => obtain rfl : 1 = len := Nat.eq_of_beq_eq_true hlen; obtain ⟨x, y, S', rfl, h⟩ := pIx_el h; exact lv_dup2_11 hx hb hdg rfl rfl (hnx _ _ _ _ _ hnc h H locs ls hh hS hl)
  | ifCond cd off =>
    obtain rfl : 3 = len := Nat.eq_of_beq_eq_true hlen
    obtain ⟨x, S', rfl, h⟩ := p1_el h
    have ht := of_decide_eq_true hok
    cases cd with
    | eq => exact lv_if_eq hx hb hdg ht (fun z => hjp _ _ _ _ _ _ hnc (h.1 z) H locs ls hh hS hl) (fun z => hnx _ _ _ _ _ hnc (h.2 z) H locs ls hh hS hl)
    | ne => exact lv_if_ne hx hb hdg ht (fun z => hjp _ _ _ _ _ _ hnc (h.1 z) H locs ls hh hS hl) (fun z => hnx _ _ _ _ _ hnc (h.2 z) H locs ls hh hS hl)
    | lt => exact lv_if_lt hx hb hdg ht (fun z => hjp _ _ _ _ _ _ hnc (h.1 z) H locs ls hh hS hl) (fun z => hnx _ _ _ _ _ hnc (h.2 z) H locs ls hh hS hl)
    | ge => exact lv_if_ge hx hb hdg ht (fun z => hjp _ _ _ _ _ _ hnc (h.1 z) H locs ls hh hS hl) (fun z => hnx _ _ _ _ _ hnc (h.2 z) H locs ls hh hS hl)
    | gt => exact lv_if_gt hx hb hdg ht (fun z => hjp _ _ _ _ _ _ hnc (h.1 z) H locs ls hh hS hl) (fun z => hnx _ _ _ _ _ hnc (h.2 z) H locs ls hh hS hl)
    | le => exact lv_if_le hx hb hdg ht (fun z => hjp _ _ _ _ _ _ hnc (h.1 z) H locs ls hh hS hl) (fun z => hnx _ _ _ _ _ hnc (h.2 z) H locs ls hh hS hl)
  | if_icmp cd off =>
    obtain rfl : 3 = len := Nat.eq_of_beq_eq_true hlen
    obtain ⟨x, y, S', rfl, h⟩ := p2_el h
    have ht := of_decide_eq_true hok
    cases cd with
    | eq => exact lv_icmp_eq hx hb hdg ht (fun z => hjp _ _ _ _ _ _ hnc (h.1 z) H locs ls hh hS hl) (fun z => hnx _ _ _ _ _ hnc (h.2 z) H locs ls hh hS hl)
    | ne => exact lv_icmp_ne hx hb hdg ht (fun z => hjp _ _ _ _ _ _ hnc (h.1 z) H locs ls hh hS hl) (fun z => hnx _ _ _ _ _ hnc (h.2 z) H locs ls hh hS hl)
    | lt => exact lv_icmp_lt hx hb hdg ht (fun z => hjp _ _ _ _ _ _ hnc (h.1 z) H locs ls hh hS hl) (fun z => hnx _ _ _ _ _ hnc (h.2 z) H locs ls hh hS hl)
    | ge => exact lv_icmp_ge hx hb hdg ht (fun z => hjp _ _ _ _ _ _ hnc (h.1 z) H locs ls hh hS hl) (fun z => hnx _ _ _ _ _ hnc (h.2 z) H locs ls hh hS hl)
    | gt => exact lv_icmp_gt hx hb hdg ht (fun z => hjp _ _ _ _ _ _ hnc (h.1 z) H locs ls hh hS hl) (fun z => hnx _ _ _ _ _ hnc (h.2 z) H locs ls hh hS hl)
    | le => exact lv_icmp_le hx hb hdg ht (fun z => hjp _ _ _ _ _ _ hnc (h.1 z) H locs ls hh hS hl) (fun z => hnx _ _ _ _ _ hnc (h.2 z) H locs ls hh hS hl)
  | ifnull off =>
    obtain rfl : 3 = len := Nat.eq_of_beq_eq_true hlen
    match S, h with
    | .ref x :: S', h => exact lv_ifnull hx hb hdg (hnx _ _ _ _ _ hnc h H locs ls hh hS hl)
    | .null :: S', h => exact lv_ifnullN hx hb hdg (of_decide_eq_true hok) (hjp _ _ _ _ _ _ hnc h H locs ls hh hS hl)
  | ifnonnull off =>
    obtain rfl : 3 = len := Nat.eq_of_beq_eq_true hlen
    match S, h with
    | .ref x :: S', h => exact lv_ifnonnull hx hb hdg (of_decide_eq_true hok) (hjp _ _ _ _ _ _ hnc h H locs ls hh hS hl)
    | .null :: S', h => exact lv_ifnonnullN hx hb hdg (hnx _ _ _ _ _ hnc h H locs ls hh hS hl)
  | goto off => obtain rfl : 3 = len := Nat.eq_of_beq_eq_true hlen; exact lv_goto hx hb hdg (of_decide_eq_true hok) (hjp _ _ _ _ _ _ hnc h H locs ls hh hS hl)
  | tableswitch d lo hi offs =>
    obtain ⟨x, S', rfl, h1, h2⟩ := p1_el h
    obtain ⟨hk1, hk3⟩ := Bool.and_eq_true_iff.mp hok
    obtain ⟨hk1, hk2⟩ := Bool.and_eq_true_iff.mp hk1
    have hk1 := of_decide_eq_true hk1
    have hk2 := of_decide_eq_true hk2
    have hk3 := of_decide_eq_true hk3
    by_cases hin : x.toInt < lo ∨ hi < x.toInt
    · exact lv_tableOut hx hb hdg hin hk1 (hjp _ _ _ _ _ _ hnc (h1 hin) H locs ls hh hS hl)
    · have hi1 : ¬ x.toInt < lo := fun z => hin (Or.inl z)
      have hi2 : ¬ hi < x.toInt := fun z => hin (Or.inr z)
      have hj : (x.toInt - lo).toNat < offs.size := by omega
      have hlen2 : ts.length = offs.size := by
        have := congrArg List.length hk2
        simpa using this.symm
      have hj2 : (x.toInt - lo).toNat < ts.length := by rw [hlen2]; exact hj
      have ht : ts[(x.toInt - lo).toNat]? = some (ts[(x.toInt - lo).toNat]'hj2) := List.getElem?_eq_getElem _
      have ho : offs[(x.toInt - lo).toNat]? = some (offs[(x.toInt - lo).toNat]'hj) := Array.getElem?_eq_getElem _
      have htg : (pc : Int) + offs[(x.toInt - lo).toNat]'hj = ((ts[(x.toInt - lo).toNat]'hj2 : Nat) : Int) := by
        have e := congrArg (fun l => l[(x.toInt - lo).toNat]?) hk2
        simp only [List.getElem?_map, Array.getElem?_toList, ho, ht, Option.map_some] at e
        exact Option.some.inj e
      have hxe : x.toInt = lo + ((x.toInt - lo).toNat : Int) := by omega
      have h2' : tsw x lo (fun t => jp t L S' w nc ns) ts := h2
      have h3 := tsw_at (f := fun t => jp t L S' w nc ns) _ h2' ht hxe
      exact lv_tableIn hx hb hdg hi1 hi2 ho htg (hjp _ _ _ _ _ _ hnc h3 H locs ls hh hS hl)
  | lookupswitch d ps =>
    obtain ⟨x, S', rfl, h⟩ := p1_el h
    obtain ⟨hk1, hk3⟩ := Bool.and_eq_true_iff.mp hok
    obtain ⟨hk1, hk2⟩ := Bool.and_eq_true_iff.mp hk1
    have hk1 := of_decide_eq_true hk1
    have hk2 := of_decide_eq_true hk2
    obtain ⟨tgt, h1, h2⟩ := lsw_at (d0 := d) hk1 (fun t => W p l e R s m args below meth c H locs nc ns (MQ below (Pst G A Po) args s mc ms A) (F0 m t ls S')) (fun t z => hjp _ _ _ _ _ _ hnc z H locs ls hh hS hl) rfl (fun z => hjp _ _ _ _ _ _ hnc z H locs ls hh hS hl) hk2 h
    exact lv_lookup hx hb hdg hk3 rfl h1 h2
  | getfield i =>
    obtain rfl : 3 = len := Nat.eq_of_beq_eq_true hlen
    obtain ⟨a, S', rfl, hk, h⟩ := pA_el h
    refine r_get C hh (con_mem hok) hk hdg ?_
    by_cases hf : isRf r1 r2 = true
    · rw [hf, cond_true] at h
      obtain ⟨o, rfl, h⟩ := h
      rw [fv_r hf]
      exact hnx _ _ _ _ _ hnc h H locs ls hh hS hl
    · have hf : isRf r1 r2 = false := by simpa using hf
      rw [hf, cond_false] at h
      obtain ⟨x, rfl, h⟩ := h
      rw [fv_i hf]
      exact hnx _ _ _ _ _ hnc h H locs ls hh hS hl
  | putfield i =>
    obtain rfl : 3 = len := Nat.eq_of_beq_eq_true hlen
    obtain ⟨x, a, S', rfl, hk, h⟩ := pVA_el h
    obtain ⟨hq1, hq2⟩ := Bool.and_eq_true_iff.mp hok
    have hq1 : (ow, i, r1, r2) ∈ FLT := con_mem hq1
    obtain ⟨ht, hkN⟩ : r1 < 11 ∧ r2 < clN r1 := FLT_lt _ hq1
    have hfin : isFin r1 r2 = false ∨ (meth.name = "<init>" ∧ ow = r1) := by
      dsimp only at hq2
      rcases Bool.or_eq_true_iff.mp hq2 with z | z
      · exact Or.inl (by simpa using z)
      · obtain ⟨z1, z2⟩ := Bool.and_eq_true_iff.mp z
        exact Or.inr ⟨hini z1, of_decide_eq_true z2⟩
    by_cases hf : isRf r1 r2 = true
    · rw [hf, cond_true] at h
      obtain ⟨o, rfl, g⟩ := h
      refine r_put C hh hS hq1 hk hfin ?_ ?_ (up_sR hk (by omega) hkN hf) rfl rfl hdg (fun H1 locs1 hh1 hS1 => hnx _ _ _ _ _ hnc g H1 locs1 ls hh1 hS1 hl)
      · rcases cl_rf r1 ht r2 hkN hf with ⟨C, z⟩ | ⟨C, z⟩ <;> rw [z] <;> cases o <;> rfl
      · rcases cl_rf r1 ht r2 hkN hf with ⟨C, z⟩ | ⟨C, z⟩ <;> rw [z] <;> cases o <;> rfl
    · have hf : isRf r1 r2 = false := by simpa using hf
      rw [hf, cond_false] at h
      obtain ⟨y, rfl, h⟩ := vI_el h
      split at h
      · rename_i hty
        obtain ⟨hy, h⟩ := h
        refine r_put C hh hS hq1 hk hfin ?_ ?_ (up_sI hk (by omega) hkN hf) rfl rfl hdg (fun H1 locs1 hh1 hS1 => hnx _ _ _ _ _ hnc h H1 locs1 ls hh1 hS1 hl)
        · rw [hty]; rcases hy with rfl | rfl <;> rfl
        · rw [hty]; rcases hy with rfl | rfl <;> rfl
      · rename_i hty
        refine r_put C hh hS hq1 hk hfin ?_ ?_ (up_sI hk (by omega) hkN hf) rfl rfl hdg (fun H1 locs1 hh1 hS1 => hnx _ _ _ _ _ hnc h H1 locs1 ls hh1 hS1 hl)
        · rw [hty]; rfl
        · rw [hty]; rfl
      · exact h.elim
  | iaload => obtain rfl : 1 = len := Nat.eq_of_beq_eq_true hlen; obtain ⟨i, a, S', rfl, hk, j, x, ⟨rfl, hj1, hj2⟩, rfl, g⟩ := pIx_el h; exact r_iald C hh hk hj1 hj2 hdg (hnx _ _ _ _ _ hnc g H locs ls hh hS hl)
  | baload => obtain rfl : 1 = len := Nat.eq_of_beq_eq_true hlen; obtain ⟨i, a, S', rfl, hk, j, x, ⟨rfl, hj1, hj2⟩, rfl, g⟩ := pIx_el h; exact r_zald C hh hk hj1 hj2 hdg (hnx _ _ _ _ _ hnc g H locs ls hh hS hl)
  | laload => obtain rfl : 1 = len := Nat.eq_of_beq_eq_true hlen; obtain ⟨i, a, S', rfl, hk, j, x, ⟨rfl, hj1, hj2⟩, rfl, g⟩ := pIx_el h; exact r_lald C hh hk hj1 hj2 hdg (hnx _ _ _ _ _ hnc g H locs ls hh hS hl)
  | aaload => obtain rfl : 1 = len := Nat.eq_of_beq_eq_true hlen; obtain ⟨i, a, S', rfl, t, ⟨hk, ht1, ht2⟩, j, ⟨rfl, hj1, hj2⟩, o, rfl, g⟩ := pIx_el h; exact r_aald C hh hk ht1 ht2 hj1 hj2 hdg (hnx _ _ _ _ _ hnc g H locs ls hh hS hl)
  | iastore => obtain rfl : 1 = len := Nat.eq_of_beq_eq_true hlen; obtain ⟨v0, i, a, S', rfl, g⟩ := pIs_el h; obtain ⟨x, rfl, hk, j, ⟨rfl, hj1, hj2⟩, g2⟩ := vI_el g; exact r_iast C hh hS hk hj1 hj2 hdg (fun H1 locs1 hh1 hS1 => hnx _ _ _ _ _ hnc g2 H1 locs1 ls hh1 hS1 hl)
  | bastore => obtain rfl : 1 = len := Nat.eq_of_beq_eq_true hlen; obtain ⟨v0, i, a, S', rfl, g⟩ := pIs_el h; obtain ⟨x, rfl, hk, hz, j, ⟨rfl, hj1, hj2⟩, g2⟩ := vI_el g; exact r_zast C hh hS hk hj1 hj2 hz hdg (fun H1 locs1 hh1 hS1 => hnx _ _ _ _ _ hnc g2 H1 locs1 ls hh1 hS1 hl)
  | lastore => obtain rfl : 1 = len := Nat.eq_of_beq_eq_true hlen; obtain ⟨v0, i, a, S', rfl, g⟩ := pIs_el h; obtain ⟨x, rfl, hk, j, ⟨rfl, hj1, hj2⟩, g2⟩ := vJ_el g; exact r_last C hh hS hk hj1 hj2 hdg (fun H1 locs1 hh1 hS1 => hnx _ _ _ _ _ hnc g2 H1 locs1 ls hh1 hS1 hl)
  | aastore => obtain rfl : 1 = len := Nat.eq_of_beq_eq_true hlen; obtain ⟨v0, i, a, S', rfl, g⟩ := pIs_el h; obtain ⟨x, rfl, t, ⟨hk, ht1, ht2, hv⟩, j, ⟨rfl, hj1, hj2⟩, g2⟩ := vA_el g; exact r_aast C hh hS hk ht1 ht2 hv hj1 hj2 hdg (fun H1 locs1 hh1 hS1 => hnx _ _ _ _ _ hnc g2 H1 locs1 ls hh1 hS1 hl)
  | arraylength => obtain rfl : 1 = len := Nat.eq_of_beq_eq_true hlen; obtain ⟨a, S', rfl, hk, h⟩ := pA_el h; exact r_alen C hh hk hdg (hnx _ _ _ _ _ hnc h H locs ls hh hS hl)
  | new i => obtain rfl : 3 = len := Nat.eq_of_beq_eq_true hlen; obtain ⟨⟨h1, h2⟩, h⟩ := h; exact r_new C hh hS hAz (con_mem hok) (by rw [hRc]; exact h1) (by rw [hRs]; exact h2) hdg (fun H1 hh1 hS1 => hnx _ _ _ _ _ ⟨h1, h2⟩ h H1 locs ls hh1 hS1 hl)
  | newarray t => obtain rfl : 2 = len := Nat.eq_of_beq_eq_true hlen; obtain ⟨i, S', rfl, n, ⟨rfl, hn⟩, ⟨h1, h2⟩, h⟩ := p1_el h; exact r_newa C hh hS hAz (of_decide_eq_true hok) hn (by rw [hRc]; exact h1) (by rw [hRs]; exact h2) hdg (fun H1 hh1 hS1 => hnx _ _ _ _ _ ⟨h1, h2⟩ h H1 locs ls hh1 hS1 hl)
  | anewarray i =>
    obtain rfl : 3 = len := Nat.eq_of_beq_eq_true hlen
    obtain ⟨x, S', rfl, n, ⟨rfl, hn⟩, ⟨h1, h2⟩, h⟩ := p1_el h
    obtain ⟨hq1, hq2⟩ := Bool.and_eq_true_iff.mp hok
    obtain ⟨hq2, hq3⟩ := of_decide_eq_true hq2
    exact r_newq C hh hS hAz (con_mem hq1) hq2 hq3 hn (by rw [hRc]; exact h1) (by rw [hRs]; exact h2) hdg (fun H1 hh1 hS1 => hnx _ _ _ _ _ ⟨h1, h2⟩ h H1 locs ls hh1 hS1 hl)
  | invokevirtual i =>
    obtain rfl : 3 = len := Nat.eq_of_beq_eq_true hlen
    unfold step at h; dsimp only at h
    obtain ⟨r, hr1, ⟨h1, h2, h3⟩, h⟩ := cll_el h
    obtain ⟨b, rest, hd1, hcat, hbk, hsp⟩ := pA_el h
    have hq : (ow, i, r1) ∈ IVT := con_mem hok
    rw [tak_drop hd1]
    exact r_callV C hh hS hAz hl.1 hq (hev _ _ hr1) h1 hR (by rw [hRc]; exact h2) (by rw [hRs]; exact h3) (tak_len2 hd1) hcat (ivt_c _ hq) hbk hsp hdg (fun r w' H1 locs1 hp hh1 hS1 => hnx _ _ _ _ _ ⟨h2, h3⟩ hp H1 locs1 ls hh1 hS1 hl)
  | invokestatic i =>
    obtain rfl : 3 = len := Nat.eq_of_beq_eq_true hlen
    unfold step at h; dsimp only at h
    obtain ⟨r, hr1, ⟨h1, h2, h3⟩, hcat, hle, hsp⟩ := cll_el h
    rw [tak_drop (S := S) (n := mtN.getD r1 0) rfl]
    exact r_callS C hh hS hAz hl.1 (con_mem hok) (hev _ _ hr1) h1 hR (by rw [hRc]; exact h2) (by rw [hRs]; exact h3) (tak_len hle) hcat hsp hdg (fun r w' H1 locs1 hp hh1 hS1 => hnx _ _ _ _ _ ⟨h2, h3⟩ hp H1 locs1 ls hh1 hS1 hl)
  | invokespecial i =>
    obtain rfl : 3 = len := Nat.eq_of_beq_eq_true hlen
    by_cases h2 : r2 = 2
    · subst h2
      obtain ⟨a, rest, rfl, hcat, h0, h⟩ := pA_el (show pA S _ from h)
      have hcat := Nat.le_of_ble_eq_true hcat
      exact W.objInit hx hb hown (hts _ (IOok _ (List.mem_map.mpr ⟨_, con_mem (show IOT.contains (ow, i) = true from hok), rfl⟩))) (hts _ (IOin _ (List.mem_of_getElem? (i := 0) rfl))) (hts _ (IOin _ (List.mem_of_getElem? (i := 1) rfl))) rfl (by rw [hml]; exact hl.1) rfl hdg (by omega) (by show 2 * 0 + _ + 12 ≤ _; omega) (hnx _ _ _ _ _ hnc h H locs ls hh hS hl)
    · have h' : step lv mc ms ev rt Po (pc, .invokespecial i, 3, r1, r2, v, ts) nx jp L S w nc ns := h
      unfold step at h'
      dsimp only at h'
      rw [if_neg h2] at h'
      obtain ⟨r, hr1, ⟨g1, g2, g3⟩, h⟩ := cll_el h'
      obtain ⟨b, rest, hd1, hcat, hsp⟩ := pA_el h
      have hok' : (if r2 = 1 then INT.contains (ow, i, r1) else IIT.contains (ow, i, r1)) = true := by
        have z : (if r2 = 2 then IOT.contains (ow, i) else if r2 = 1 then INT.contains (ow, i, r1) else IIT.contains (ow, i, r1)) = true := hok
        rw [if_neg h2] at z
        exact z
      rw [tak_drop hd1]
      by_cases h3 : r2 = 1
      · rw [if_pos h3] at hok'
        exact r_callN C hh hS hAz hl.1 (con_mem hok') (hev _ _ hr1) g1 hR (by rw [hRc]; exact g2) (by rw [hRs]; exact g3) (tak_len2 hd1) hcat hsp hdg (fun r w' H1 locs1 hp hh1 hS1 => hnx _ _ _ _ _ ⟨g2, g3⟩ hp H1 locs1 ls hh1 hS1 hl)
      · rw [if_neg h3] at hok'
        exact r_callI C hh hS hAz hl.1 (con_mem hok') (hev _ _ hr1) g1 hR (by rw [hRc]; exact g2) (by rw [hRs]; exact g3) (tak_len2 hd1) hcat hsp hdg (fun r w' H1 locs1 hp hh1 hS1 => hnx _ _ _ _ _ ⟨g2, g3⟩ hp H1 locs1 ls hh1 hS1 hl)
  | ireturn =>
    obtain rfl : 1 = len := Nat.eq_of_beq_eq_true hlen
    match S, h with
    | [.int x], h =>
      refine W.widen hnc.1 hnc.2 ?_
      match rt, hr, h with
      | some .boolean, hr, h => exact W.zret hx hb hr (by rcases h.1 with rfl | rfl <;> rfl) (fun t ht hW => ⟨⟨_, w, rfl, h.2, by rw [ht]; exact hh⟩, hS.F ht⟩) hS.2.2 hdg
      | some .int, hr, h => exact W.iret hx hb hr (fun t ht hW => ⟨⟨_, w, rfl, h, by rw [ht]; exact hh⟩, hS.F ht⟩) hS.2.2 hdg
  | lreturn =>
    obtain rfl : 1 = len := Nat.eq_of_beq_eq_true hlen
    match S, h with
    | [.long x], h =>
      refine W.widen hnc.1 hnc.2 ?_
      match rt, hr, h with
      | some .long, hr, h => exact W.lret hx hb hr (fun t ht hW => ⟨⟨_, w, rfl, h, by rw [ht]; exact hh⟩, hS.F ht⟩) hS.2.2 hdg
  | areturn =>
    obtain rfl : 1 = len := Nat.eq_of_beq_eq_true hlen
    match S, h with
    | [x], h =>
      refine W.widen hnc.1 hnc.2 ?_
      match rt, hr, h with
      | some (.object n), hr, ⟨o, hv, h⟩ => exact W.aret hx hb hr (Or.inl ⟨n, rfl⟩) (by rw [hv]; cases o with | none => exact Or.inl rfl | some z => exact Or.inr ⟨z, rfl⟩) (fun t ht hW => ⟨⟨_, w, rfl, h, by rw [ht]; exact hh⟩, hS.F ht⟩) hS.2.2 hdg
  | return_ =>
    obtain rfl : 1 = len := Nat.eq_of_beq_eq_true hlen
    match S, h with
    | [], h =>
      refine W.widen hnc.1 hnc.2 ?_
      match rt, hr, h with
      | none, hr, h => exact W.vret hx hb hr (fun t ht hW => ⟨⟨_, w, rfl, h, by rw [ht]; exact hh⟩, hS.F ht⟩) hS.2.2 hdg
  | _ => exact False.elim h
end STEPS
end
section
/-! A RUN of instructions, and a method's contract -/
/-- a method's code list: every row is an instruction of its bytes, rows follow each other -/
def cdOK (cc : ByteArray) (ow nL : Nat) (ini : Bool) (full : List CI) : Prop := (∀ q ∈ full, ciOK cc ow nL ini q) ∧ chn full = true
theorem seek_suf : ∀ {full : List CI} {pc : Nat}, seek full pc <:+ full
  | [], _ => List.suffix_refl _
  | q :: t, pc => by
    unfold seek
    cases Nat.beq q.1 pc with
    | true => exact List.suffix_refl _
    | false => exact List.IsSuffix.trans seek_suf (List.suffix_cons q t)
theorem seek_pc : ∀ {full : List CI} {pc : Nat} {q : CI} {t : List CI}, seek full pc = q :: t → q.1 = pc
  | [], _, _, _, h => by cases h
  | q :: t, pc, q', t', h => by
    unfold seek at h
    cases hq : Nat.beq q.1 pc with
    | true =>
      rw [hq, cond_true] at h
      have e1 : q = q' := (List.cons.inj h).1
      rw [← e1]
      exact Nat.eq_of_beq_eq_true hq
    | false =>
      rw [hq, cond_false] at h
      exact seek_pc h
theorem chn_suf : ∀ {full cd : List CI}, cd <:+ full → chn full = true → chn cd = true
  | [], cd, h, _ => by rw [List.suffix_nil.mp h]; rfl
  | q :: t, cd, h, hc => by
    rcases List.suffix_cons_iff.mp h with rfl | h2
    · exact hc
    · refine chn_suf h2 ?_
      cases t with
      | nil => rfl
      | cons r t => exact (Bool.and_eq_true_iff.mp hc).2
section RUNS
variable {p : Program} {l : Launch} {e : Env} {s : State} {m : MethodId} {args : Array Value} {below : List Frame} {meth : Method} {c : Code}
variable {cc : ByteArray} {nL ow : Nat} {G : GG} {rt : Option FieldType} {A : Nat → Prop} {lv mc ms : Nat} {ev : Ev} {Po : Option Value → Hp → Prop} {R : Room}
theorem wp_ok (C : Cx p s m args meth c cc nL ow G rt) (hA : ∀ q, s.heap.size ≤ q → A q) (hR : lv ≤ R.frames ∧ 40 * lv ≤ R.locals) (hRc : R.cells = mc) (hRs : R.slots = ms) {ini : Bool} (hini : ini = true → meth.name = "<init>") (hev : ∀ k r, ev k = some r → Ct l k r.1 r.2.1 r.2.2.1 r.2.2.2) {full : List CI} (hfull : cdOK cc ow nL ini full) {stops : List Nat} {K : Nat → Kt}
    (hK : ∀ pc L S w nc ns, nc ≤ mc ∧ ns ≤ ms → K pc L S w nc ns → Sf p l e R s m args below meth c (MQ below (Pst G A Po) args s mc ms A) G A nL pc L S w nc ns) :
    ∀ (n : Nat) (q : CI) (t : List CI) (L : Ls) (S : List Value) (w : Hp) (nc ns : Nat), (q :: t) <:+ full → nc ≤ mc ∧ ns ≤ ms → wp lv mc ms ev rt Po full stops K n (q :: t) L S w nc ns → Sf p l e R s m args below meth c (MQ below (Pst G A Po) args s mc ms A) G A nL q.1 L S w nc ns := by
  intro n
  induction n with
  | zero => intro q t L S w nc ns _ _ h; exact False.elim h
  | succ n ih =>
    intro q t L S w nc ns hsuf hn h
    have hq : ciOK cc ow nL ini q := hfull.1 q (hsuf.subset List.mem_cons_self)
    have hgate : ∀ (cd : List CI) (pc : Nat), cd <:+ full → (∀ q' t', cd = q' :: t' → q'.1 = pc) → ∀ L S w nc ns, nc ≤ mc ∧ ns ≤ ms → gate stops K (wp lv mc ms ev rt Po full stops K n) cd L S w nc ns → Sf p l e R s m args below meth c (MQ below (Pst G A Po) args s mc ms A) G A nL pc L S w nc ns := by
      intro cd pc hcd hpc L S w nc ns hn hg
      cases cd with
      | nil => exact False.elim hg
      | cons q' t' =>
        have e1 := hpc q' t' rfl
        unfold gate at hg
        dsimp only at hg
        cases hs : stops.contains q'.1 with
        | true =>
          rw [hs, cond_true] at hg
          rw [e1] at hg
          exact hK _ _ _ _ _ _ hn hg
        | false =>
          rw [hs, cond_false] at hg
          rw [← e1]
          exact ih q' t' L S w nc ns hcd hn hg
    have hseq : ∀ q' t', t = q' :: t' → q'.1 = q.1 + q.2.2.1 := by
      intro q' t' et
      have hc := chn_suf hsuf hfull.2
      rw [et] at hc
      exact (Nat.eq_of_beq_eq_true (Bool.and_eq_true_iff.mp hc).1).symm
    have htl : t <:+ full := List.IsSuffix.trans (List.suffix_cons q t) hsuf
    exact step_ok C hA hR hRc hRs hini hev q hq (fun L S w nc ns hn h => hgate t _ htl hseq L S w nc ns hn h) (fun pc L S w nc ns hn h => hgate _ pc seek_suf (fun q' t' h => seek_pc h) L S w nc ns hn h) hn h
end RUNS
end
section
/-! A METHOD's contract out of the calculus -/
def mtI (k : Nat) : Bool := decide ((mt k).1.name = "<init>")
/-- at the place pc of method k, with these locals, this stack and this store: the method ends as Po wants -/
def Jd (l : Launch) (k lv mc ms : Nat) (rt : Option FieldType) (Po : Option Value → Hp → Prop) (pc : Nat) : Kt := fun L S w nc ns =>
  ∀ (p : Program) (e : Env) (s : State) (m : MethodId) (args : Array Value) (below : List Frame) (meth : Method) (c : Code) (G : GG) (A : Nat → Prop) (R : Room), Cx p s m args meth c (mt k).2.1 (mt k).2.2.1 (mtC.getD k 0) G rt → (∀ q, s.heap.size ≤ q → A q) → (lv ≤ R.frames ∧ 40 * lv ≤ R.locals) → R.cells = mc → R.slots = ms → (mtI k = true → meth.name = "<init>") →
    Sf p l e R s m args below meth c (MQ below (Pst G A Po) args s mc ms A) G A (mt k).2.2.1 pc L S w nc ns
abbrev cdM (k : Nat) (full : List CI) : Prop := cdOK (mt k).2.1 (mtC.getD k 0) (mt k).2.2.1 (mtI k) full
section METH
variable {l : Launch} {k lv mc ms : Nat} {rt : Option FieldType} {ev : Ev} {Po : Option Value → Hp → Prop} {full : List CI} {stops : List Nat} {K : Nat → Kt}
theorem jd_wp (hcd : cdM k full) (hev : ∀ k r, ev k = some r → Ct l k r.1 r.2.1 r.2.2.1 r.2.2.2) (hK : ∀ pc L S w nc ns, nc ≤ mc ∧ ns ≤ ms → K pc L S w nc ns → Jd l k lv mc ms rt Po pc L S w nc ns) (n : Nat) {pc : Nat} {L : Ls} {S : List Value} {w : Hp} {nc ns : Nat} (hb : nc ≤ mc ∧ ns ≤ ms) (h : wp lv mc ms ev rt Po full stops K n (seek full pc) L S w nc ns) : Jd l k lv mc ms rt Po pc L S w nc ns := by
  intro p e s m args below meth c G A R C hA hR hRc hRs hini
  cases hs : seek full pc with
  | nil =>
    rw [hs] at h
    cases n <;> exact False.elim h
  | cons q t =>
    rw [hs] at h
    have e1 := seek_pc hs
    rw [← e1]
    exact wp_ok C hA hR hRc hRs hini hev hcd (fun pc L S w nc ns hb h => hK pc L S w nc ns hb h p e s m args below meth c G A R C hA hR hRc hRs hini) n q t L S w nc ns (by rw [← hs]; exact seek_suf) hb h
/-- no loop -/
theorem jd_run (hcd : cdM k full) (hev : ∀ k r, ev k = some r → Ct l k r.1 r.2.1 r.2.2.1 r.2.2.2) (n : Nat) {L : Ls} {S : List Value} {w : Hp} {pc : Nat} {nc ns : Nat} (hb : nc ≤ mc ∧ ns ≤ ms) (h : wp lv mc ms ev rt Po full [] (fun _ _ _ _ _ _ => False) n (seek full pc) L S w nc ns) : Jd l k lv mc ms rt Po pc L S w nc ns :=
  jd_wp hcd hev (fun _ _ _ _ _ _ _ h => False.elim h) n hb h
/-- a loop with its head at hp: the measure falls -/
theorem jd_loop (hcd : cdM k full) (hev : ∀ k r, ev k = some r → Ct l k r.1 r.2.1 r.2.2.1 r.2.2.2) (n hp : Nat) (I : Nat → Kt) (hst : stops.contains hp = true)
    (hb : ∀ i L S w nc ns, I i L S w nc ns → nc ≤ mc ∧ ns ≤ ms)
    (ho : ∀ pc L S w nc ns, ¬ pc = hp → nc ≤ mc ∧ ns ≤ ms → K pc L S w nc ns → Jd l k lv mc ms rt Po pc L S w nc ns)
    (h : ∀ i L S w nc ns, I i L S w nc ns → wp lv mc ms ev rt Po full stops (fun pc L S w nc ns => if pc = hp then ∃ j, j < i ∧ I j L S w nc ns else K pc L S w nc ns) n (seek full hp) L S w nc ns) :
    ∀ i L S w nc ns, I i L S w nc ns → Jd l k lv mc ms rt Po hp L S w nc ns := by
  intro i
  induction i using Nat.strongRecOn with
  | _ i ih =>
    intro L S w nc ns hI
    refine jd_wp hcd hev (fun pc L S w nc ns hbb hk => ?_) n (hb _ _ _ _ _ _ hI) (h i L S w nc ns hI)
    by_cases hpc : pc = hp
    · rw [if_pos hpc] at hk
      obtain ⟨j, hj, hk⟩ := hk
      rw [hpc]
      exact ih j hj L S w nc ns hk
    · rw [if_neg hpc] at hk
      exact ho _ _ _ _ _ _ hpc hbb hk
theorem ct_jd (hk : k < 128) (hrt : (mt k).2.2.2 = rt) {sp : Sp} (h : ∀ as w Po, sp as w Po → (lg_sl as).length ≤ (mt k).2.2.1 ∧ Jd l k lv mc ms rt Po 0 (lv_args 0 as) [] w 0 0) : Ct l k lv mc ms sp := by
  intro G A as w Po hsp
  obtain ⟨hlen, hJ⟩ := h as w Po hsp
  refine va_MetF (cc := (mt k).2.1) (maxL := (mt k).2.2.1) (ret := (mt k).2.2.2) (mt_pf k hk) rfl ?_
  intro p e s m args below meth c s₁ B hml hv
  obtain ⟨rfl, hK, hh, hA⟩ := hv
  have hts0 := atoms_spec (ws := wsT k) B.pre
  have hts : ∀ w ∈ tb, w.before as.toArray s = true := fun w h => hts0 w (List.mem_cons_of_mem _ h)
  have hown : s.vm.findClass (ownS (mtC.getD k 0)) = some m.cls := by rw [← mt_cls k hk]; exact findClass_of_methodNamed B.named
  have hr := B.returns
  rw [hrt] at hr
  have hin : mtI k = true → meth.name = "<init>" := fun h => (name_of_methodNamed B.named B.method).1.trans (of_decide_eq_true h)
  have hl := lv_entry as (n := (mt k).2.2.1) hlen
  rw [lg_entry_eq]
  exact hJ p e s m as.toArray below meth c G A (rmL lv mc ms) ⟨B.exec, B.bytes, hml, hown, hts, hK, hr, B.notSynchronized⟩ (fun q hq => hA q (by rw [← hh.1]; exact hq)) ⟨Nat.le_refl _, Nat.le_refl _⟩ rfl rfl hin s.heap [] _ hh va_S.rf hl
end METH
end
section
/-! CODE LISTS of the class and of the library's members -/
-- 0: WatchValley_init
def cd_0 : List CI := [(0, .aload_n 0, 1, 0, 0, 0, []), (1, .invokespecial 3, 3, 0, 2, 0, []), (4, .aload_n 0, 1, 0, 0, 0, []), (5, .sipush 300, 3, 0, 0, 300, []), (8, .anewarray 9, 3, 23, 0, 0, []), (11, .putfield 11, 3, 9, 0, 0, []), (14, .aload_n 0, 1, 0, 0, 0, []), (15, .bipush 60, 2, 0, 0, 60, []), (17, .anewarray 15, 3, 24, 0, 0, []), (20, .putfield 17, 3, 9, 1, 0, []), (23, .aload_n 0, 1, 0, 0, 0, []), (24, .bipush 9, 2, 0, 0, 9, []), (26, .anewarray 21, 3, 25, 0, 0, []), (29, .putfield 23, 3, 9, 2, 0, []), (32, .aload_n 0, 1, 0, 0, 0, []), (33, .bipush 100, 2, 0, 0, 100, []), (35, .anewarray 27, 3, 26, 0, 0, []), (38, .putfield 29, 3, 9, 3, 0, []), (41, .aload_n 0, 1, 0, 0, 0, []), (42, .new 33, 3, 0, 0, 0, []), (45, .dup, 1, 0, 0, 0, []), (46, .invokespecial 35, 3, 1, 1, 0, []), (49, .putfield 36, 3, 9, 4, 0, []), (52, .aload_n 0, 1, 0, 0, 0, []), (53, .new 33, 3, 0, 0, 0, []), (56, .dup, 1, 0, 0, 0, []), (57, .invokespecial 35, 3, 1, 1, 0, []), (60, .putfield 40, 3, 9, 5, 0, []), (63, .aload_n 0, 1, 0, 0, 0, []), (64, .new 43, 3, 3, 0, 0, []), (67, .dup, 1, 0, 0, 0, []), (68, .invokespecial 45, 3, 2, 1, 0, []), (71, .putfield 46, 3, 9, 6, 0, []), (74, .return_, 1, 0, 0, 0, [])]
set_option maxRecDepth 100000 in
theorem cdo_0 : cdM 0 cd_0 := (⟨by unfold ciOK; decide +kernel, by decide +kernel⟩ : cdOK prog_1_method_1_code 9 1 true cd_0)
-- 1: Fit_init
def cd_1 : List CI := [(0, .aload_n 0, 1, 0, 0, 0, []), (1, .invokespecial 3, 3, 0, 2, 0, []), (4, .return_, 1, 0, 0, 0, [])]
set_option maxRecDepth 100000 in
theorem cdo_1 : cdM 1 cd_1 := (⟨by unfold ciOK; decide +kernel, by decide +kernel⟩ : cdOK prog_2_method_1_code 0 1 true cd_1)
-- 2: Making_init
def cd_2 : List CI := [(0, .aload_n 0, 1, 0, 0, 0, []), (1, .invokespecial 3, 3, 0, 2, 0, []), (4, .aload_n 0, 1, 0, 0, 0, []), (5, .new 9, 3, 4, 0, 0, []), (8, .dup, 1, 0, 0, 0, []), (9, .invokespecial 11, 3, 3, 1, 0, []), (12, .putfield 12, 3, 3, 0, 0, []), (15, .aload_n 0, 1, 0, 0, 0, []), (16, .new 9, 3, 4, 0, 0, []), (19, .dup, 1, 0, 0, 0, []), (20, .invokespecial 11, 3, 3, 1, 0, []), (23, .putfield 18, 3, 3, 1, 0, []), (26, .return_, 1, 0, 0, 0, [])]
set_option maxRecDepth 100000 in
theorem cdo_2 : cdM 2 cd_2 := (⟨by unfold ciOK; decide +kernel, by decide +kernel⟩ : cdOK prog_5_method_1_code 3 1 true cd_2)
-- 3: Mates_init
def cd_3 : List CI := [(0, .aload_n 0, 1, 0, 0, 0, []), (1, .invokespecial 3, 3, 0, 2, 0, []), (4, .aload_n 0, 1, 0, 0, 0, []), (5, .bipush 10, 2, 0, 0, 10, []), (7, .newarray .int, 2, 0, 0, 0, []), (9, .putfield 9, 3, 4, 0, 0, []), (12, .aload_n 0, 1, 0, 0, 0, []), (13, .bipush 10, 2, 0, 0, 10, []), (15, .newarray .int, 2, 0, 0, 0, []), (17, .putfield 15, 3, 4, 1, 0, []), (20, .aload_n 0, 1, 0, 0, 0, []), (21, .bipush 10, 2, 0, 0, 10, []), (23, .newarray .int, 2, 0, 0, 0, []), (25, .putfield 18, 3, 4, 2, 0, []), (28, .return_, 1, 0, 0, 0, [])]
set_option maxRecDepth 100000 in
theorem cdo_3 : cdM 3 cd_3 := (⟨by unfold ciOK; decide +kernel, by decide +kernel⟩ : cdOK prog_6_method_1_code 4 1 true cd_3)
-- 4: WatchValley_home
def cd_4 : List CI := [(0, .iload_n 1, 1, 0, 0, 0, []), (1, .iconst 1, 1, 0, 0, 1, []), (2, .if_icmp .lt 21, 3, 23, 0, 0, []), (5, .iload_n 1, 1, 0, 0, 0, []), (6, .bipush 20, 2, 0, 0, 20, []), (8, .if_icmp .gt 15, 3, 23, 0, 0, []), (11, .iload_n 2, 1, 0, 0, 0, []), (12, .bipush (-9), 2, 0, 0, (-9), []), (14, .if_icmp .lt 9, 3, 23, 0, 0, []), (17, .iload_n 2, 1, 0, 0, 0, []), (18, .bipush 9, 2, 0, 0, 9, []), (20, .if_icmp .le 5, 3, 25, 0, 0, []), (23, .iconst (-1), 1, 0, 0, (-1), []), (24, .ireturn, 1, 0, 0, 0, []), (25, .iload_n 3, 1, 0, 0, 0, []), (26, .ifCond .lt 21, 3, 47, 0, 0, []), (29, .iload_n 3, 1, 0, 0, 0, []), (30, .bipush 30, 2, 0, 0, 30, []), (32, .if_icmp .gt 15, 3, 47, 0, 0, []), (35, .iload 4, 2, 0, 0, 0, []), (37, .ifCond .lt 10, 3, 47, 0, 0, []), (40, .iload 4, 2, 0, 0, 0, []), (42, .bipush 9, 2, 0, 0, 9, []), (44, .if_icmp .le 5, 3, 49, 0, 0, []), (47, .iconst (-1), 1, 0, 0, (-1), []), (48, .ireturn, 1, 0, 0, 0, []), (49, .aload_n 0, 1, 0, 0, 0, []), (50, .getfield 50, 3, 9, 9, 0, []), (53, .bipush 9, 2, 0, 0, 9, []), (55, .if_icmp .lt 5, 3, 60, 0, 0, []), (58, .iconst (-1), 1, 0, 0, (-1), []), (59, .ireturn, 1, 0, 0, 0, []), (60, .new 21, 3, 1, 0, 0, []), (63, .dup, 1, 0, 0, 0, []), (64, .aload_n 0, 1, 0, 0, 0, []), (65, .getfield 50, 3, 9, 9, 0, []), (68, .iload_n 1, 1, 0, 0, 0, []), (69, .iload_n 2, 1, 0, 0, 0, []), (70, .iload_n 3, 1, 0, 0, 0, []), (71, .iload 4, 2, 0, 0, 0, []), (73, .invokespecial 54, 3, 5, 0, 0, []), (76, .astore 5, 2, 0, 0, 0, []), (78, .aload_n 0, 1, 0, 0, 0, []), (79, .getfield 23, 3, 9, 2, 0, []), (82, .aload_n 0, 1, 0, 0, 0, []), (83, .getfield 50, 3, 9, 9, 0, []), (86, .aload 5, 2, 0, 0, 0, []), (88, .aastore, 1, 0, 0, 0, []), (89, .aload_n 0, 1, 0, 0, 0, []), (90, .dup, 1, 0, 0, 0, []), (91, .getfield 50, 3, 9, 9, 0, []), (94, .iconst 1, 1, 0, 0, 1, []), (95, .iadd, 1, 0, 0, 0, []), (96, .putfield 50, 3, 9, 9, 0, []), (99, .aload 5, 2, 0, 0, 0, []), (101, .getfield 57, 3, 1, 0, 0, []), (104, .ireturn, 1, 0, 0, 0, [])]
set_option maxRecDepth 100000 in
theorem cdo_4 : cdM 4 cd_4 := (⟨by unfold ciOK; decide +kernel, by decide +kernel⟩ : cdOK prog_1_method_2_code 9 6 false cd_4)
-- 5: Home_init
def cd_5 : List CI := [(0, .aload_n 0, 1, 0, 0, 0, []), (1, .invokespecial 3, 3, 0, 2, 0, []), (4, .aload_n 0, 1, 0, 0, 0, []), (5, .iload_n 1, 1, 0, 0, 0, []), (6, .putfield 9, 3, 1, 0, 0, []), (9, .aload_n 0, 1, 0, 0, 0, []), (10, .iload_n 2, 1, 0, 0, 0, []), (11, .putfield 15, 3, 1, 1, 0, []), (14, .aload_n 0, 1, 0, 0, 0, []), (15, .iload_n 3, 1, 0, 0, 0, []), (16, .putfield 18, 3, 1, 2, 0, []), (19, .aload_n 0, 1, 0, 0, 0, []), (20, .iload 4, 2, 0, 0, 0, []), (22, .putfield 21, 3, 1, 3, 0, []), (25, .aload_n 0, 1, 0, 0, 0, []), (26, .iload 5, 2, 0, 0, 0, []), (28, .putfield 24, 3, 1, 4, 0, []), (31, .return_, 1, 0, 0, 0, [])]
set_option maxRecDepth 100000 in
theorem cdo_5 : cdM 5 cd_5 := (⟨by unfold ciOK; decide +kernel, by decide +kernel⟩ : cdOK prog_3_method_1_code 1 6 true cd_5)
-- 6: WatchValley_raw
def cd_6 : List CI := [(0, .iload_n 1, 1, 0, 0, 0, []), (1, .ifCond .lt 19, 3, 20, 0, 0, []), (4, .iload_n 1, 1, 0, 0, 0, []), (5, .iconst 2, 1, 0, 0, 2, []), (6, .if_icmp .gt 14, 3, 20, 0, 0, []), (9, .iload_n 2, 1, 0, 0, 0, []), (10, .iconst 1, 1, 0, 0, 1, []), (11, .if_icmp .lt 9, 3, 20, 0, 0, []), (14, .iload_n 2, 1, 0, 0, 0, []), (15, .bipush 30, 2, 0, 0, 30, []), (17, .if_icmp .le 5, 3, 22, 0, 0, []), (20, .iconst (-1), 1, 0, 0, (-1), []), (21, .ireturn, 1, 0, 0, 0, []), (22, .iload_n 3, 1, 0, 0, 0, []), (23, .i2l, 1, 0, 0, 0, []), (24, .iload_n 2, 1, 0, 0, 0, []), (25, .i2l, 1, 0, 0, 0, []), (26, .lconst 1, 1, 0, 0, 0, []), (27, .lsub, 1, 0, 0, 0, []), (28, .iload 4, 2, 0, 0, 0, []), (30, .i2l, 1, 0, 0, 0, []), (31, .lmul, 1, 0, 0, 0, []), (32, .ladd, 1, 0, 0, 0, []), (33, .lstore 5, 2, 0, 0, 0, []), (35, .iload_n 3, 1, 0, 0, 0, []), (36, .i2l, 1, 0, 0, 0, []), (37, .invokestatic 60, 3, 7, 0, 0, []), (40, .ifCond .eq 23, 3, 63, 0, 0, []), (43, .lload 5, 2, 0, 0, 0, []), (45, .invokestatic 60, 3, 7, 0, 0, []), (48, .ifCond .eq 15, 3, 63, 0, 0, []), (51, .aload_n 0, 1, 0, 0, 0, []), (52, .getfield 64, 3, 9, 7, 0, []), (55, .iload_n 2, 1, 0, 0, 0, []), (56, .iadd, 1, 0, 0, 0, []), (57, .sipush 300, 3, 0, 0, 300, []), (60, .if_icmp .le 5, 3, 65, 0, 0, []), (63, .iconst (-1), 1, 0, 0, (-1), []), (64, .ireturn, 1, 0, 0, 0, []), (65, .aload_n 0, 1, 0, 0, 0, []), (66, .iload_n 1, 1, 0, 0, 0, []), (67, .invokevirtual 67, 3, 8, 0, 0, []), (70, .astore 7, 2, 0, 0, 0, []), (72, .aload 7, 2, 0, 0, 0, []), (74, .ifnonnull 5, 3, 79, 0, 0, []), (77, .iconst (-1), 1, 0, 0, (-1), []), (78, .ireturn, 1, 0, 0, 0, []), (79, .iconst 0, 1, 0, 0, 0, []), (80, .istore 8, 2, 0, 0, 0, []), (82, .iload 8, 2, 0, 0, 0, []), (84, .iload_n 2, 1, 0, 0, 0, []), (85, .if_icmp .ge 63, 3, 148, 0, 0, []), (88, .new 9, 3, 5, 0, 0, []), (91, .dup, 1, 0, 0, 0, []), (92, .aload_n 0, 1, 0, 0, 0, []), (93, .getfield 64, 3, 9, 7, 0, []), (96, .iload_n 1, 1, 0, 0, 0, []), (97, .iload_n 3, 1, 0, 0, 0, []), (98, .iload 8, 2, 0, 0, 0, []), (100, .iload 4, 2, 0, 0, 0, []), (102, .imul, 1, 0, 0, 0, []), (103, .iadd, 1, 0, 0, 0, []), (104, .aload 7, 2, 0, 0, 0, []), (106, .getfield 71, 3, 2, 0, 0, []), (109, .invokespecial 72, 3, 10, 0, 0, []), (112, .astore 9, 2, 0, 0, 0, []), (114, .aload_n 0, 1, 0, 0, 0, []), (115, .getfield 11, 3, 9, 0, 0, []), (118, .aload_n 0, 1, 0, 0, 0, []), (119, .getfield 64, 3, 9, 7, 0, []), (122, .aload 9, 2, 0, 0, 0, []), (124, .aastore, 1, 0, 0, 0, []), (125, .aload_n 0, 1, 0, 0, 0, []), (126, .dup, 1, 0, 0, 0, []), (127, .getfield 64, 3, 9, 7, 0, []), (130, .iconst 1, 1, 0, 0, 1, []), (131, .iadd, 1, 0, 0, 0, []), (132, .putfield 64, 3, 9, 7, 0, []), (135, .aload 7, 2, 0, 0, 0, []), (137, .aload 9, 2, 0, 0, 0, []), (139, .invokevirtual 75, 3, 11, 0, 0, []), (142, .iinc 8 1, 3, 0, 0, 1, []), (145, .goto (-63), 3, 82, 0, 0, []), (148, .aload 7, 2, 0, 0, 0, []), (150, .getfield 71, 3, 2, 0, 0, []), (153, .ireturn, 1, 0, 0, 0, [])]
set_option maxRecDepth 100000 in
theorem cdo_6 : cdM 6 cd_6 := (⟨by unfold ciOK; decide +kernel, by decide +kernel⟩ : cdOK prog_1_method_3_code 9 10 false cd_6)
-- 7: WatchValley_isRawSize
def cd_7 : List CI := [(0, .lload_n 0, 1, 0, 0, 0, []), (1, .ldc2_w 300, 3, 0, 0, (-100), []), (4, .lcmp, 1, 0, 0, 0, []), (5, .ifCond .lt 15, 3, 20, 0, 0, []), (8, .lload_n 0, 1, 0, 0, 0, []), (9, .ldc2_w 302, 3, 0, 0, 100, []), (12, .lcmp, 1, 0, 0, 0, []), (13, .ifCond .gt 7, 3, 20, 0, 0, []), (16, .iconst 1, 1, 0, 0, 1, []), (17, .goto 4, 3, 21, 0, 0, []), (20, .iconst 0, 1, 0, 0, 0, []), (21, .ireturn, 1, 0, 0, 0, [])]
set_option maxRecDepth 100000 in
theorem cdo_7 : cdM 7 cd_7 := (⟨by unfold ciOK; decide +kernel, by decide +kernel⟩ : cdOK prog_1_method_36_code 9 2 false cd_7)
-- 8: WatchValley_newLot
def cd_8 : List CI := [(0, .aload_n 0, 1, 0, 0, 0, []), (1, .getfield 124, 3, 9, 8, 0, []), (4, .bipush 60, 2, 0, 0, 60, []), (6, .if_icmp .lt 5, 3, 11, 0, 0, []), (9, .aconst_null, 1, 0, 0, 0, []), (10, .areturn, 1, 0, 0, 0, []), (11, .new 15, 3, 2, 0, 0, []), (14, .dup, 1, 0, 0, 0, []), (15, .aload_n 0, 1, 0, 0, 0, []), (16, .getfield 124, 3, 9, 8, 0, []), (19, .iload_n 1, 1, 0, 0, 0, []), (20, .invokespecial 289, 3, 9, 0, 0, []), (23, .astore_n 2, 1, 0, 0, 0, []), (24, .aload_n 0, 1, 0, 0, 0, []), (25, .getfield 17, 3, 9, 1, 0, []), (28, .aload_n 0, 1, 0, 0, 0, []), (29, .getfield 124, 3, 9, 8, 0, []), (32, .aload_n 2, 1, 0, 0, 0, []), (33, .aastore, 1, 0, 0, 0, []), (34, .aload_n 0, 1, 0, 0, 0, []), (35, .dup, 1, 0, 0, 0, []), (36, .getfield 124, 3, 9, 8, 0, []), (39, .iconst 1, 1, 0, 0, 1, []), (40, .iadd, 1, 0, 0, 0, []), (41, .putfield 124, 3, 9, 8, 0, []), (44, .aload_n 2, 1, 0, 0, 0, []), (45, .areturn, 1, 0, 0, 0, [])]
set_option maxRecDepth 100000 in
theorem cdo_8 : cdM 8 cd_8 := (⟨by unfold ciOK; decide +kernel, by decide +kernel⟩ : cdOK prog_1_method_30_code 9 3 false cd_8)
-- 9: Lot_init
def cd_9 : List CI := [(0, .aload_n 0, 1, 0, 0, 0, []), (1, .invokespecial 3, 3, 0, 2, 0, []), (4, .aload_n 0, 1, 0, 0, 0, []), (5, .iconst 0, 1, 0, 0, 0, []), (6, .putfield 9, 3, 2, 5, 0, []), (9, .aload_n 0, 1, 0, 0, 0, []), (10, .iload_n 1, 1, 0, 0, 0, []), (11, .putfield 15, 3, 2, 0, 0, []), (14, .aload_n 0, 1, 0, 0, 0, []), (15, .iload_n 2, 1, 0, 0, 0, []), (16, .putfield 18, 3, 2, 1, 0, []), (19, .return_, 1, 0, 0, 0, [])]
set_option maxRecDepth 100000 in
theorem cdo_9 : cdM 9 cd_9 := (⟨by unfold ciOK; decide +kernel, by decide +kernel⟩ : cdOK prog_4_method_1_code 2 3 true cd_9)
-- 10: Piece_init
def cd_10 : List CI := [(0, .aload_n 0, 1, 0, 0, 0, []), (1, .invokespecial 3, 3, 0, 2, 0, []), (4, .aload_n 0, 1, 0, 0, 0, []), (5, .iconst 0, 1, 0, 0, 0, []), (6, .putfield 9, 3, 5, 5, 0, []), (9, .aload_n 0, 1, 0, 0, 0, []), (10, .iload_n 1, 1, 0, 0, 0, []), (11, .putfield 15, 3, 5, 0, 0, []), (14, .aload_n 0, 1, 0, 0, 0, []), (15, .iload_n 2, 1, 0, 0, 0, []), (16, .putfield 18, 3, 5, 1, 0, []), (19, .aload_n 0, 1, 0, 0, 0, []), (20, .iload_n 3, 1, 0, 0, 0, []), (21, .putfield 21, 3, 5, 3, 0, []), (24, .aload_n 0, 1, 0, 0, 0, []), (25, .iload 4, 2, 0, 0, 0, []), (27, .putfield 24, 3, 5, 2, 0, []), (30, .return_, 1, 0, 0, 0, [])]
set_option maxRecDepth 100000 in
theorem cdo_10 : cdM 10 cd_10 := (⟨by unfold ciOK; decide +kernel, by decide +kernel⟩ : cdOK prog_7_method_1_code 5 5 true cd_10)
-- 11: Lot_append
def cd_11 : List CI := [(0, .aload_n 1, 1, 0, 0, 0, []), (1, .aload_n 0, 1, 0, 0, 0, []), (2, .getfield 15, 3, 2, 0, 0, []), (5, .putfield 21, 3, 5, 6, 0, []), (8, .aload_n 1, 1, 0, 0, 0, []), (9, .aconst_null, 1, 0, 0, 0, []), (10, .putfield 26, 3, 5, 7, 0, []), (13, .aload_n 0, 1, 0, 0, 0, []), (14, .getfield 30, 3, 2, 3, 0, []), (17, .ifnonnull 11, 3, 28, 0, 0, []), (20, .aload_n 0, 1, 0, 0, 0, []), (21, .aload_n 1, 1, 0, 0, 0, []), (22, .putfield 33, 3, 2, 2, 0, []), (25, .goto 11, 3, 36, 0, 0, []), (28, .aload_n 0, 1, 0, 0, 0, []), (29, .getfield 30, 3, 2, 3, 0, []), (32, .aload_n 1, 1, 0, 0, 0, []), (33, .putfield 26, 3, 5, 7, 0, []), (36, .aload_n 0, 1, 0, 0, 0, []), (37, .aload_n 1, 1, 0, 0, 0, []), (38, .putfield 30, 3, 2, 3, 0, []), (41, .aload_n 0, 1, 0, 0, 0, []), (42, .dup, 1, 0, 0, 0, []), (43, .getfield 36, 3, 2, 4, 0, []), (46, .iconst 1, 1, 0, 0, 1, []), (47, .iadd, 1, 0, 0, 0, []), (48, .putfield 36, 3, 2, 4, 0, []), (51, .return_, 1, 0, 0, 0, [])]
set_option maxRecDepth 100000 in
theorem cdo_11 : cdM 11 cd_11 := (⟨by unfold ciOK; decide +kernel, by decide +kernel⟩ : cdOK prog_4_method_2_code 2 2 false cd_11)
-- 12: WatchValley_split
def cd_12 : List CI := [(0, .aload_n 0, 1, 0, 0, 0, []), (1, .iload_n 1, 1, 0, 0, 0, []), (2, .invokevirtual 79, 3, 13, 0, 0, []), (5, .astore_n 3, 1, 0, 0, 0, []), (6, .aload_n 3, 1, 0, 0, 0, []), (7, .ifnull 15, 3, 22, 0, 0, []), (10, .iload_n 2, 1, 0, 0, 0, []), (11, .ifCond .lt 11, 3, 22, 0, 0, []), (14, .iload_n 2, 1, 0, 0, 0, []), (15, .aload_n 3, 1, 0, 0, 0, []), (16, .getfield 82, 3, 2, 4, 0, []), (19, .if_icmp .le 5, 3, 24, 0, 0, []), (22, .iconst (-1), 1, 0, 0, (-1), []), (23, .ireturn, 1, 0, 0, 0, []), (24, .aload_n 0, 1, 0, 0, 0, []), (25, .aload_n 3, 1, 0, 0, 0, []), (26, .getfield 85, 3, 2, 1, 0, []), (29, .invokevirtual 67, 3, 8, 0, 0, []), (32, .astore 4, 2, 0, 0, 0, []), (34, .aload 4, 2, 0, 0, 0, []), (36, .ifnonnull 5, 3, 41, 0, 0, []), (39, .iconst (-1), 1, 0, 0, (-1), []), (40, .ireturn, 1, 0, 0, 0, []), (41, .aload_n 3, 1, 0, 0, 0, []), (42, .iload_n 2, 1, 0, 0, 0, []), (43, .aload 4, 2, 0, 0, 0, []), (45, .invokevirtual 88, 3, 15, 0, 0, []), (48, .aload 4, 2, 0, 0, 0, []), (50, .getfield 71, 3, 2, 0, 0, []), (53, .ireturn, 1, 0, 0, 0, [])]
set_option maxRecDepth 100000 in
theorem cdo_12 : cdM 12 cd_12 := (⟨by unfold ciOK; decide +kernel, by decide +kernel⟩ : cdOK prog_1_method_4_code 9 5 false cd_12)
-- 13: WatchValley_lotAtHouse
def cd_13 : List CI := [(0, .aload_n 0, 1, 0, 0, 0, []), (1, .iload_n 1, 1, 0, 0, 0, []), (2, .invokevirtual 127, 3, 14, 0, 0, []), (5, .astore_n 2, 1, 0, 0, 0, []), (6, .aload_n 2, 1, 0, 0, 0, []), (7, .ifnull 14, 3, 21, 0, 0, []), (10, .aload_n 2, 1, 0, 0, 0, []), (11, .getfield 115, 3, 2, 5, 0, []), (14, .ifCond .ne 7, 3, 21, 0, 0, []), (17, .aload_n 2, 1, 0, 0, 0, []), (18, .goto 4, 3, 22, 0, 0, []), (21, .aconst_null, 1, 0, 0, 0, []), (22, .areturn, 1, 0, 0, 0, [])]
set_option maxRecDepth 100000 in
theorem cdo_13 : cdM 13 cd_13 := (⟨by unfold ciOK; decide +kernel, by decide +kernel⟩ : cdOK prog_1_method_28_code 9 3 false cd_13)
-- 14: WatchValley_lotNumbered
def cd_14 : List CI := [(0, .iload_n 1, 1, 0, 0, 0, []), (1, .ifCond .lt 26, 3, 27, 0, 0, []), (4, .iload_n 1, 1, 0, 0, 0, []), (5, .aload_n 0, 1, 0, 0, 0, []), (6, .getfield 124, 3, 9, 8, 0, []), (9, .if_icmp .ge 18, 3, 27, 0, 0, []), (12, .iload_n 1, 1, 0, 0, 0, []), (13, .bipush 60, 2, 0, 0, 60, []), (15, .if_icmp .ge 12, 3, 27, 0, 0, []), (18, .aload_n 0, 1, 0, 0, 0, []), (19, .getfield 17, 3, 9, 1, 0, []), (22, .iload_n 1, 1, 0, 0, 0, []), (23, .aaload, 1, 0, 0, 0, []), (24, .goto 4, 3, 28, 0, 0, []), (27, .aconst_null, 1, 0, 0, 0, []), (28, .areturn, 1, 0, 0, 0, [])]
set_option maxRecDepth 100000 in
theorem cdo_14 : cdM 14 cd_14 := (⟨by unfold ciOK; decide +kernel, by decide +kernel⟩ : cdOK prog_1_method_25_code 9 2 false cd_14)
-- 15: Lot_moveFirst
def cd_15 : List CI := [(0, .iconst 0, 1, 0, 0, 0, []), (1, .istore_n 3, 1, 0, 0, 0, []), (2, .iload_n 3, 1, 0, 0, 0, []), (3, .iload_n 1, 1, 0, 0, 0, []), (4, .if_icmp .ge 35, 3, 39, 0, 0, []), (7, .aload_n 0, 1, 0, 0, 0, []), (8, .getfield 33, 3, 2, 2, 0, []), (11, .ifnull 28, 3, 39, 0, 0, []), (14, .aload_n 0, 1, 0, 0, 0, []), (15, .getfield 33, 3, 2, 2, 0, []), (18, .astore 4, 2, 0, 0, 0, []), (20, .aload_n 0, 1, 0, 0, 0, []), (21, .aconst_null, 1, 0, 0, 0, []), (22, .aload 4, 2, 0, 0, 0, []), (24, .invokevirtual 39, 3, 16, 0, 0, []), (27, .aload_n 2, 1, 0, 0, 0, []), (28, .aload 4, 2, 0, 0, 0, []), (30, .invokevirtual 43, 3, 11, 0, 0, []), (33, .iinc 3 1, 3, 0, 0, 1, []), (36, .goto (-34), 3, 2, 0, 0, []), (39, .return_, 1, 0, 0, 0, [])]
set_option maxRecDepth 100000 in
theorem cdo_15 : cdM 15 cd_15 := (⟨by unfold ciOK; decide +kernel, by decide +kernel⟩ : cdOK prog_4_method_3_code 2 5 false cd_15)
-- 16: Lot_unlink
def cd_16 : List CI := [(0, .aload_n 1, 1, 0, 0, 0, []), (1, .ifnonnull 14, 3, 15, 0, 0, []), (4, .aload_n 0, 1, 0, 0, 0, []), (5, .aload_n 2, 1, 0, 0, 0, []), (6, .getfield 26, 3, 5, 7, 0, []), (9, .putfield 33, 3, 2, 2, 0, []), (12, .goto 11, 3, 23, 0, 0, []), (15, .aload_n 1, 1, 0, 0, 0, []), (16, .aload_n 2, 1, 0, 0, 0, []), (17, .getfield 26, 3, 5, 7, 0, []), (20, .putfield 26, 3, 5, 7, 0, []), (23, .aload_n 2, 1, 0, 0, 0, []), (24, .getfield 26, 3, 5, 7, 0, []), (27, .ifnonnull 8, 3, 35, 0, 0, []), (30, .aload_n 0, 1, 0, 0, 0, []), (31, .aload_n 1, 1, 0, 0, 0, []), (32, .putfield 30, 3, 2, 3, 0, []), (35, .aload_n 0, 1, 0, 0, 0, []), (36, .dup, 1, 0, 0, 0, []), (37, .getfield 36, 3, 2, 4, 0, []), (40, .iconst 1, 1, 0, 0, 1, []), (41, .isub, 1, 0, 0, 0, []), (42, .putfield 36, 3, 2, 4, 0, []), (45, .return_, 1, 0, 0, 0, [])]
set_option maxRecDepth 100000 in
theorem cdo_16 : cdM 16 cd_16 := (⟨by unfold ciOK; decide +kernel, by decide +kernel⟩ : cdOK prog_4_method_4_code 2 3 false cd_16)
-- 17: WatchValley_join
def cd_17 : List CI := [(0, .aload_n 0, 1, 0, 0, 0, []), (1, .iload_n 1, 1, 0, 0, 0, []), (2, .invokevirtual 79, 3, 13, 0, 0, []), (5, .astore_n 3, 1, 0, 0, 0, []), (6, .aload_n 0, 1, 0, 0, 0, []), (7, .iload_n 2, 1, 0, 0, 0, []), (8, .invokevirtual 79, 3, 13, 0, 0, []), (11, .astore 4, 2, 0, 0, 0, []), (13, .aload_n 3, 1, 0, 0, 0, []), (14, .ifnull 25, 3, 39, 0, 0, []), (17, .aload 4, 2, 0, 0, 0, []), (19, .ifnull 20, 3, 39, 0, 0, []), (22, .iload_n 1, 1, 0, 0, 0, []), (23, .iload_n 2, 1, 0, 0, 0, []), (24, .if_icmp .eq 15, 3, 39, 0, 0, []), (27, .aload_n 3, 1, 0, 0, 0, []), (28, .getfield 85, 3, 2, 1, 0, []), (31, .aload 4, 2, 0, 0, 0, []), (33, .getfield 85, 3, 2, 1, 0, []), (36, .if_icmp .eq 5, 3, 41, 0, 0, []), (39, .iconst (-1), 1, 0, 0, (-1), []), (40, .ireturn, 1, 0, 0, 0, []), (41, .aload 4, 2, 0, 0, 0, []), (43, .aload 4, 2, 0, 0, 0, []), (45, .getfield 82, 3, 2, 4, 0, []), (48, .aload_n 3, 1, 0, 0, 0, []), (49, .invokevirtual 88, 3, 15, 0, 0, []), (52, .aload_n 3, 1, 0, 0, 0, []), (53, .getfield 82, 3, 2, 4, 0, []), (56, .ireturn, 1, 0, 0, 0, [])]
set_option maxRecDepth 100000 in
theorem cdo_17 : cdM 17 cd_17 := (⟨by unfold ciOK; decide +kernel, by decide +kernel⟩ : cdOK prog_1_method_5_code 9 5 false cd_17)
-- 18: WatchValley_send
def cd_18 : List CI := [(0, .aload_n 0, 1, 0, 0, 0, []), (1, .iload_n 1, 1, 0, 0, 0, []), (2, .invokevirtual 79, 3, 13, 0, 0, []), (5, .astore_n 3, 1, 0, 0, 0, []), (6, .aload_n 0, 1, 0, 0, 0, []), (7, .iload_n 2, 1, 0, 0, 0, []), (8, .invokevirtual 92, 3, 19, 0, 0, []), (11, .astore 4, 2, 0, 0, 0, []), (13, .aload_n 3, 1, 0, 0, 0, []), (14, .ifnull 18, 3, 32, 0, 0, []), (17, .aload 4, 2, 0, 0, 0, []), (19, .ifnull 13, 3, 32, 0, 0, []), (22, .aload_n 0, 1, 0, 0, 0, []), (23, .getfield 96, 3, 9, 11, 0, []), (26, .sipush 500, 3, 0, 0, 500, []), (29, .if_icmp .lt 5, 3, 34, 0, 0, []), (32, .iconst 0, 1, 0, 0, 0, []), (33, .ireturn, 1, 0, 0, 0, []), (34, .aload_n 0, 1, 0, 0, 0, []), (35, .dup, 1, 0, 0, 0, []), (36, .getfield 96, 3, 9, 11, 0, []), (39, .iconst 1, 1, 0, 0, 1, []), (40, .iadd, 1, 0, 0, 0, []), (41, .putfield 96, 3, 9, 11, 0, []), (44, .aload 4, 2, 0, 0, 0, []), (46, .new 99, 3, 6, 0, 0, []), (49, .dup, 1, 0, 0, 0, []), (50, .aload_n 0, 1, 0, 0, 0, []), (51, .getfield 101, 3, 9, 13, 0, []), (54, .aload_n 3, 1, 0, 0, 0, []), (55, .getfield 82, 3, 2, 4, 0, []), (58, .aload 4, 2, 0, 0, 0, []), (60, .getfield 104, 3, 1, 10, 0, []), (63, .invokespecial 108, 3, 20, 0, 0, []), (66, .putfield 104, 3, 1, 10, 0, []), (69, .aload_n 3, 1, 0, 0, 0, []), (70, .aload 4, 2, 0, 0, 0, []), (72, .putfield 111, 3, 2, 6, 0, []), (75, .aload_n 3, 1, 0, 0, 0, []), (76, .iconst 1, 1, 0, 0, 1, []), (77, .putfield 115, 3, 2, 5, 0, []), (80, .aload_n 3, 1, 0, 0, 0, []), (81, .aload 4, 2, 0, 0, 0, []), (83, .getfield 118, 3, 1, 4, 0, []), (86, .putfield 121, 3, 2, 7, 0, []), (89, .iconst 1, 1, 0, 0, 1, []), (90, .ireturn, 1, 0, 0, 0, [])]
set_option maxRecDepth 100000 in
theorem cdo_18 : cdM 18 cd_18 := (⟨by unfold ciOK; decide +kernel, by decide +kernel⟩ : cdOK prog_1_method_6_code 9 5 false cd_18)
-- 19: WatchValley_homeNumbered
def cd_19 : List CI := [(0, .iload_n 1, 1, 0, 0, 0, []), (1, .ifCond .lt 26, 3, 27, 0, 0, []), (4, .iload_n 1, 1, 0, 0, 0, []), (5, .aload_n 0, 1, 0, 0, 0, []), (6, .getfield 50, 3, 9, 9, 0, []), (9, .if_icmp .ge 18, 3, 27, 0, 0, []), (12, .iload_n 1, 1, 0, 0, 0, []), (13, .bipush 9, 2, 0, 0, 9, []), (15, .if_icmp .ge 12, 3, 27, 0, 0, []), (18, .aload_n 0, 1, 0, 0, 0, []), (19, .getfield 23, 3, 9, 2, 0, []), (22, .iload_n 1, 1, 0, 0, 0, []), (23, .aaload, 1, 0, 0, 0, []), (24, .goto 4, 3, 28, 0, 0, []), (27, .aconst_null, 1, 0, 0, 0, []), (28, .areturn, 1, 0, 0, 0, [])]
set_option maxRecDepth 100000 in
theorem cdo_19 : cdM 19 cd_19 := (⟨by unfold ciOK; decide +kernel, by decide +kernel⟩ : cdOK prog_1_method_24_code 9 2 false cd_19)
-- 20: Sending_init
def cd_20 : List CI := [(0, .aload_n 0, 1, 0, 0, 0, []), (1, .invokespecial 1, 3, 0, 2, 0, []), (4, .aload_n 0, 1, 0, 0, 0, []), (5, .iload_n 1, 1, 0, 0, 0, []), (6, .putfield 7, 3, 6, 0, 0, []), (9, .aload_n 0, 1, 0, 0, 0, []), (10, .iload_n 2, 1, 0, 0, 0, []), (11, .putfield 13, 3, 6, 1, 0, []), (14, .aload_n 0, 1, 0, 0, 0, []), (15, .aload_n 3, 1, 0, 0, 0, []), (16, .putfield 16, 3, 6, 2, 0, []), (19, .return_, 1, 0, 0, 0, [])]
set_option maxRecDepth 100000 in
theorem cdo_20 : cdM 20 cd_20 := (⟨by unfold ciOK; decide +kernel, by decide +kernel⟩ : cdOK prog_8_method_1_code 6 4 true cd_20)
-- 21: WatchValley_day
def cd_21 : List CI := [(0, .aload_n 0, 1, 0, 0, 0, []), (1, .getfield 101, 3, 9, 13, 0, []), (4, .sipush 400, 3, 0, 0, 400, []), (7, .if_icmp .lt 5, 3, 12, 0, 0, []), (10, .iconst (-1), 1, 0, 0, (-1), []), (11, .ireturn, 1, 0, 0, 0, []), (12, .iconst 0, 1, 0, 0, 0, []), (13, .istore_n 2, 1, 0, 0, 0, []), (14, .iload_n 2, 1, 0, 0, 0, []), (15, .aload_n 0, 1, 0, 0, 0, []), (16, .getfield 124, 3, 9, 8, 0, []), (19, .if_icmp .ge 24, 3, 43, 0, 0, []), (22, .aload_n 0, 1, 0, 0, 0, []), (23, .iload_n 2, 1, 0, 0, 0, []), (24, .invokevirtual 127, 3, 14, 0, 0, []), (27, .astore_n 3, 1, 0, 0, 0, []), (28, .aload_n 3, 1, 0, 0, 0, []), (29, .ifnull 8, 3, 37, 0, 0, []), (32, .aload_n 3, 1, 0, 0, 0, []), (33, .iload_n 1, 1, 0, 0, 0, []), (34, .invokevirtual 130, 3, 22, 0, 0, []), (37, .iinc 2 1, 3, 0, 0, 1, []), (40, .goto (-26), 3, 14, 0, 0, []), (43, .iconst 0, 1, 0, 0, 0, []), (44, .istore_n 2, 1, 0, 0, 0, []), (45, .iconst 0, 1, 0, 0, 0, []), (46, .istore_n 3, 1, 0, 0, 0, []), (47, .iload_n 3, 1, 0, 0, 0, []), (48, .aload_n 0, 1, 0, 0, 0, []), (49, .getfield 50, 3, 9, 9, 0, []), (52, .if_icmp .ge 29, 3, 81, 0, 0, []), (55, .aload_n 0, 1, 0, 0, 0, []), (56, .iload_n 3, 1, 0, 0, 0, []), (57, .invokevirtual 92, 3, 19, 0, 0, []), (60, .astore 4, 2, 0, 0, 0, []), (62, .aload 4, 2, 0, 0, 0, []), (64, .ifnull 11, 3, 75, 0, 0, []), (67, .iload_n 2, 1, 0, 0, 0, []), (68, .aload 4, 2, 0, 0, 0, []), (70, .invokevirtual 134, 3, 24, 0, 0, []), (73, .iadd, 1, 0, 0, 0, []), (74, .istore_n 2, 1, 0, 0, 0, []), (75, .iinc 3 1, 3, 0, 0, 1, []), (78, .goto (-31), 3, 47, 0, 0, []), (81, .aload_n 0, 1, 0, 0, 0, []), (82, .dup, 1, 0, 0, 0, []), (83, .getfield 101, 3, 9, 13, 0, []), (86, .iconst 1, 1, 0, 0, 1, []), (87, .iadd, 1, 0, 0, 0, []), (88, .putfield 101, 3, 9, 13, 0, []), (91, .iload_n 2, 1, 0, 0, 0, []), (92, .ireturn, 1, 0, 0, 0, [])]
set_option maxRecDepth 100000 in
theorem cdo_21 : cdM 21 cd_21 := (⟨by unfold ciOK; decide +kernel, by decide +kernel⟩ : cdOK prog_1_method_7_code 9 5 false cd_21)
-- 22: Lot_travel
def cd_22 : List CI := [(0, .aload_n 0, 1, 0, 0, 0, []), (1, .getfield 53, 3, 2, 6, 0, []), (4, .ifnull 18, 3, 22, 0, 0, []), (7, .aload_n 0, 1, 0, 0, 0, []), (8, .getfield 9, 3, 2, 5, 0, []), (11, .ifCond .eq 11, 3, 22, 0, 0, []), (14, .aload_n 0, 1, 0, 0, 0, []), (15, .getfield 9, 3, 2, 5, 0, []), (18, .iconst 2, 1, 0, 0, 2, []), (19, .if_icmp .ne 4, 3, 23, 0, 0, []), (22, .return_, 1, 0, 0, 0, []), (23, .iload_n 1, 1, 0, 0, 0, []), (24, .ifCond .ne 20, 3, 44, 0, 0, []), (27, .aload_n 0, 1, 0, 0, 0, []), (28, .getfield 57, 3, 2, 7, 0, []), (31, .ifCond .le 13, 3, 44, 0, 0, []), (34, .aload_n 0, 1, 0, 0, 0, []), (35, .dup, 1, 0, 0, 0, []), (36, .getfield 57, 3, 2, 7, 0, []), (39, .iconst 1, 1, 0, 0, 1, []), (40, .isub, 1, 0, 0, 0, []), (41, .putfield 57, 3, 2, 7, 0, []), (44, .aload_n 0, 1, 0, 0, 0, []), (45, .getfield 57, 3, 2, 7, 0, []), (48, .ifCond .le 4, 3, 52, 0, 0, []), (51, .return_, 1, 0, 0, 0, []), (52, .aload_n 0, 1, 0, 0, 0, []), (53, .getfield 9, 3, 2, 5, 0, []), (56, .iconst 1, 1, 0, 0, 1, []), (57, .if_icmp .ne 19, 3, 76, 0, 0, []), (60, .aload_n 0, 1, 0, 0, 0, []), (61, .iconst 2, 1, 0, 0, 2, []), (62, .putfield 9, 3, 2, 5, 0, []), (65, .aload_n 0, 1, 0, 0, 0, []), (66, .getfield 53, 3, 2, 6, 0, []), (69, .aload_n 0, 1, 0, 0, 0, []), (70, .invokevirtual 60, 3, 23, 0, 0, []), (73, .goto 13, 3, 86, 0, 0, []), (76, .aload_n 0, 1, 0, 0, 0, []), (77, .iconst 0, 1, 0, 0, 0, []), (78, .putfield 9, 3, 2, 5, 0, []), (81, .aload_n 0, 1, 0, 0, 0, []), (82, .aconst_null, 1, 0, 0, 0, []), (83, .putfield 53, 3, 2, 6, 0, []), (86, .return_, 1, 0, 0, 0, [])]
set_option maxRecDepth 100000 in
theorem cdo_22 : cdM 22 cd_22 := (⟨by unfold ciOK; decide +kernel, by decide +kernel⟩ : cdOK prog_4_method_8_code 2 2 false cd_22)
-- 23: Home_receive
def cd_23 : List CI := [(0, .aload_n 0, 1, 0, 0, 0, []), (1, .getfield 27, 3, 1, 9, 0, []), (4, .ifnonnull 11, 3, 15, 0, 0, []), (7, .aload_n 0, 1, 0, 0, 0, []), (8, .aload_n 1, 1, 0, 0, 0, []), (9, .putfield 31, 3, 1, 8, 0, []), (12, .goto 11, 3, 23, 0, 0, []), (15, .aload_n 0, 1, 0, 0, 0, []), (16, .getfield 27, 3, 1, 9, 0, []), (19, .aload_n 1, 1, 0, 0, 0, []), (20, .putfield 34, 3, 2, 10, 0, []), (23, .aload_n 0, 1, 0, 0, 0, []), (24, .aload_n 1, 1, 0, 0, 0, []), (25, .putfield 27, 3, 1, 9, 0, []), (28, .aload_n 0, 1, 0, 0, 0, []), (29, .dup, 1, 0, 0, 0, []), (30, .getfield 39, 3, 1, 7, 0, []), (33, .iconst 1, 1, 0, 0, 1, []), (34, .iadd, 1, 0, 0, 0, []), (35, .putfield 39, 3, 1, 7, 0, []), (38, .return_, 1, 0, 0, 0, [])]
set_option maxRecDepth 100000 in
theorem cdo_23 : cdM 23 cd_23 := (⟨by unfold ciOK; decide +kernel, by decide +kernel⟩ : cdOK prog_3_method_2_code 1 2 false cd_23)
-- 24: Home_workDay
def cd_24 : List CI := [(0, .iconst 0, 1, 0, 0, 0, []), (1, .istore_n 1, 1, 0, 0, 0, []), (2, .iconst 0, 1, 0, 0, 0, []), (3, .istore_n 2, 1, 0, 0, 0, []), (4, .iload_n 2, 1, 0, 0, 0, []), (5, .bipush 80, 2, 0, 0, 80, []), (7, .if_icmp .ge 58, 3, 65, 0, 0, []), (10, .aload_n 0, 1, 0, 0, 0, []), (11, .getfield 31, 3, 1, 8, 0, []), (14, .astore_n 3, 1, 0, 0, 0, []), (15, .aload_n 3, 1, 0, 0, 0, []), (16, .ifnonnull 6, 3, 22, 0, 0, []), (19, .goto 46, 3, 65, 0, 0, []), (22, .aload_n 3, 1, 0, 0, 0, []), (23, .invokevirtual 42, 3, 25, 0, 0, []), (26, .astore 4, 2, 0, 0, 0, []), (28, .aload 4, 2, 0, 0, 0, []), (30, .ifnonnull 11, 3, 41, 0, 0, []), (33, .aload_n 0, 1, 0, 0, 0, []), (34, .aload_n 3, 1, 0, 0, 0, []), (35, .invokevirtual 46, 3, 26, 0, 0, []), (38, .goto 21, 3, 59, 0, 0, []), (41, .iload_n 1, 1, 0, 0, 0, []), (42, .aload_n 0, 1, 0, 0, 0, []), (43, .getfield 15, 3, 1, 1, 0, []), (46, .if_icmp .ge 19, 3, 65, 0, 0, []), (49, .aload_n 0, 1, 0, 0, 0, []), (50, .aload_n 3, 1, 0, 0, 0, []), (51, .aload 4, 2, 0, 0, 0, []), (53, .invokevirtual 50, 3, 28, 0, 0, []), (56, .iinc 1 1, 3, 0, 0, 1, []), (59, .iinc 2 1, 3, 0, 0, 1, []), (62, .goto (-58), 3, 4, 0, 0, []), (65, .iload_n 1, 1, 0, 0, 0, []), (66, .ireturn, 1, 0, 0, 0, [])]
set_option maxRecDepth 100000 in
theorem cdo_24 : cdM 24 cd_24 := (⟨by unfold ciOK; decide +kernel, by decide +kernel⟩ : cdOK prog_3_method_3_code 1 5 false cd_24)
-- 25: Lot_nextToWork
def cd_25 : List CI := [(0, .aload_n 0, 1, 0, 0, 0, []), (1, .getfield 50, 3, 2, 8, 0, []), (4, .ifnonnull 10, 3, 14, 0, 0, []), (7, .aload_n 0, 1, 0, 0, 0, []), (8, .getfield 33, 3, 2, 2, 0, []), (11, .goto 10, 3, 21, 0, 0, []), (14, .aload_n 0, 1, 0, 0, 0, []), (15, .getfield 50, 3, 2, 8, 0, []), (18, .getfield 26, 3, 5, 7, 0, []), (21, .areturn, 1, 0, 0, 0, [])]
set_option maxRecDepth 100000 in
theorem cdo_25 : cdM 25 cd_25 := (⟨by unfold ciOK; decide +kernel, by decide +kernel⟩ : cdOK prog_4_method_7_code 2 1 false cd_25)
-- 26: Home_release
def cd_26 : List CI := [(0, .aload_n 0, 1, 0, 0, 0, []), (1, .aload_n 1, 1, 0, 0, 0, []), (2, .getfield 34, 3, 2, 10, 0, []), (5, .putfield 31, 3, 1, 8, 0, []), (8, .aload_n 0, 1, 0, 0, 0, []), (9, .getfield 31, 3, 1, 8, 0, []), (12, .ifnonnull 8, 3, 20, 0, 0, []), (15, .aload_n 0, 1, 0, 0, 0, []), (16, .aconst_null, 1, 0, 0, 0, []), (17, .putfield 27, 3, 1, 9, 0, []), (20, .aload_n 0, 1, 0, 0, 0, []), (21, .dup, 1, 0, 0, 0, []), (22, .getfield 39, 3, 1, 7, 0, []), (25, .iconst 1, 1, 0, 0, 1, []), (26, .isub, 1, 0, 0, 0, []), (27, .putfield 39, 3, 1, 7, 0, []), (30, .aload_n 1, 1, 0, 0, 0, []), (31, .aload_n 0, 1, 0, 0, 0, []), (32, .getfield 24, 3, 1, 4, 0, []), (35, .invokevirtual 54, 3, 27, 0, 0, []), (38, .return_, 1, 0, 0, 0, [])]
set_option maxRecDepth 100000 in
theorem cdo_26 : cdM 26 cd_26 := (⟨by unfold ciOK; decide +kernel, by decide +kernel⟩ : cdOK prog_3_method_4_code 1 2 false cd_26)
-- 27: Lot_turnHome
def cd_27 : List CI := [(0, .aload_n 0, 1, 0, 0, 0, []), (1, .iconst 3, 1, 0, 0, 3, []), (2, .putfield 9, 3, 2, 5, 0, []), (5, .aload_n 0, 1, 0, 0, 0, []), (6, .iload_n 1, 1, 0, 0, 0, []), (7, .putfield 57, 3, 2, 7, 0, []), (10, .aload_n 0, 1, 0, 0, 0, []), (11, .aconst_null, 1, 0, 0, 0, []), (12, .putfield 50, 3, 2, 8, 0, []), (15, .aload_n 0, 1, 0, 0, 0, []), (16, .iconst 0, 1, 0, 0, 0, []), (17, .putfield 66, 3, 2, 9, 0, []), (20, .aload_n 0, 1, 0, 0, 0, []), (21, .aconst_null, 1, 0, 0, 0, []), (22, .putfield 69, 3, 2, 10, 0, []), (25, .return_, 1, 0, 0, 0, [])]
set_option maxRecDepth 100000 in
theorem cdo_27 : cdM 27 cd_27 := (⟨by unfold ciOK; decide +kernel, by decide +kernel⟩ : cdOK prog_4_method_9_code 2 2 false cd_27)
-- 28: Home_workPiece
def cd_28 : List CI := [(0, .aload_n 2, 1, 0, 0, 0, []), (1, .dup, 1, 0, 0, 0, []), (2, .getfield 58, 3, 5, 3, 0, []), (5, .aload_n 0, 1, 0, 0, 0, []), (6, .getfield 18, 3, 1, 2, 0, []), (9, .iadd, 1, 0, 0, 0, []), (10, .putfield 58, 3, 5, 3, 0, []), (13, .aload_n 2, 1, 0, 0, 0, []), (14, .dup, 1, 0, 0, 0, []), (15, .getfield 63, 3, 5, 4, 0, []), (18, .iconst 1, 1, 0, 0, 1, []), (19, .aload_n 0, 1, 0, 0, 0, []), (20, .getfield 9, 3, 1, 0, 0, []), (23, .ishl, 1, 0, 0, 0, []), (24, .ior, 1, 0, 0, 0, []), (25, .putfield 63, 3, 5, 4, 0, []), (28, .aload_n 0, 1, 0, 0, 0, []), (29, .dup, 1, 0, 0, 0, []), (30, .getfield 66, 3, 1, 5, 0, []), (33, .iconst 1, 1, 0, 0, 1, []), (34, .iadd, 1, 0, 0, 0, []), (35, .putfield 66, 3, 1, 5, 0, []), (38, .aload_n 1, 1, 0, 0, 0, []), (39, .dup, 1, 0, 0, 0, []), (40, .getfield 69, 3, 2, 9, 0, []), (43, .iconst 1, 1, 0, 0, 1, []), (44, .iadd, 1, 0, 0, 0, []), (45, .putfield 69, 3, 2, 9, 0, []), (48, .aload_n 0, 1, 0, 0, 0, []), (49, .getfield 21, 3, 1, 3, 0, []), (52, .ifCond .le 46, 3, 98, 0, 0, []), (55, .aload_n 0, 1, 0, 0, 0, []), (56, .getfield 66, 3, 1, 5, 0, []), (59, .aload_n 0, 1, 0, 0, 0, []), (60, .getfield 21, 3, 1, 3, 0, []), (63, .irem, 1, 0, 0, 0, []), (64, .ifCond .ne 34, 3, 98, 0, 0, []), (67, .aload_n 0, 1, 0, 0, 0, []), (68, .dup, 1, 0, 0, 0, []), (69, .getfield 70, 3, 1, 6, 0, []), (72, .iconst 1, 1, 0, 0, 1, []), (73, .iadd, 1, 0, 0, 0, []), (74, .putfield 70, 3, 1, 6, 0, []), (77, .aload_n 2, 1, 0, 0, 0, []), (78, .iconst 1, 1, 0, 0, 1, []), (79, .aload_n 0, 1, 0, 0, 0, []), (80, .getfield 9, 3, 1, 0, 0, []), (83, .invokevirtual 73, 3, 29, 0, 0, []), (86, .aload_n 1, 1, 0, 0, 0, []), (87, .aload_n 1, 1, 0, 0, 0, []), (88, .getfield 77, 3, 2, 8, 0, []), (91, .aload_n 2, 1, 0, 0, 0, []), (92, .invokevirtual 81, 3, 16, 0, 0, []), (95, .goto 8, 3, 103, 0, 0, []), (98, .aload_n 1, 1, 0, 0, 0, []), (99, .aload_n 2, 1, 0, 0, 0, []), (100, .putfield 77, 3, 2, 8, 0, []), (103, .return_, 1, 0, 0, 0, [])]
set_option maxRecDepth 100000 in
theorem cdo_28 : cdM 28 cd_28 := (⟨by unfold ciOK; decide +kernel, by decide +kernel⟩ : cdOK prog_3_method_5_code 1 3 false cd_28)
-- 29: Piece_leaveRow
def cd_29 : List CI := [(0, .aload_n 0, 1, 0, 0, 0, []), (1, .iload_n 1, 1, 0, 0, 0, []), (2, .putfield 9, 3, 5, 5, 0, []), (5, .aload_n 0, 1, 0, 0, 0, []), (6, .iload_n 2, 1, 0, 0, 0, []), (7, .putfield 27, 3, 5, 6, 0, []), (10, .return_, 1, 0, 0, 0, [])]
set_option maxRecDepth 100000 in
theorem cdo_29 : cdM 29 cd_29 := (⟨by unfold ciOK; decide +kernel, by decide +kernel⟩ : cdOK prog_7_method_2_code 5 3 false cd_29)
-- 30: WatchValley_count
def cd_30 : List CI := [(0, .iload_n 1, 1, 0, 0, 0, []), (1, .tableswitch 87 0 7 #[47, 52, 57, 62, 67, 72, 77, 82], 47, 88, 0, 0, [48, 53, 58, 63, 68, 73, 78, 83]), (48, .aload_n 0, 1, 0, 0, 0, []), (49, .getfield 101, 3, 9, 13, 0, []), (52, .ireturn, 1, 0, 0, 0, []), (53, .aload_n 0, 1, 0, 0, 0, []), (54, .getfield 50, 3, 9, 9, 0, []), (57, .ireturn, 1, 0, 0, 0, []), (58, .aload_n 0, 1, 0, 0, 0, []), (59, .getfield 124, 3, 9, 8, 0, []), (62, .ireturn, 1, 0, 0, 0, []), (63, .aload_n 0, 1, 0, 0, 0, []), (64, .getfield 64, 3, 9, 7, 0, []), (67, .ireturn, 1, 0, 0, 0, []), (68, .aload_n 0, 1, 0, 0, 0, []), (69, .invokevirtual 138, 3, 31, 0, 0, []), (72, .ireturn, 1, 0, 0, 0, []), (73, .aload_n 0, 1, 0, 0, 0, []), (74, .getfield 141, 3, 9, 10, 0, []), (77, .ireturn, 1, 0, 0, 0, []), (78, .aload_n 0, 1, 0, 0, 0, []), (79, .invokevirtual 144, 3, 32, 0, 0, []), (82, .ireturn, 1, 0, 0, 0, []), (83, .aload_n 0, 1, 0, 0, 0, []), (84, .invokevirtual 147, 3, 34, 0, 0, []), (87, .ireturn, 1, 0, 0, 0, []), (88, .iconst (-1), 1, 0, 0, (-1), []), (89, .ireturn, 1, 0, 0, 0, [])]
set_option maxRecDepth 100000 in
theorem cdo_30 : cdM 30 cd_30 := (⟨by unfold ciOK; decide +kernel, by decide +kernel⟩ : cdOK prog_1_method_8_code 9 2 false cd_30)
-- 31: WatchValley_brokenPieces
def cd_31 : List CI := [(0, .iconst 0, 1, 0, 0, 0, []), (1, .istore_n 1, 1, 0, 0, 0, []), (2, .iconst 0, 1, 0, 0, 0, []), (3, .istore_n 2, 1, 0, 0, 0, []), (4, .iload_n 2, 1, 0, 0, 0, []), (5, .aload_n 0, 1, 0, 0, 0, []), (6, .getfield 50, 3, 9, 9, 0, []), (9, .if_icmp .ge 26, 3, 35, 0, 0, []), (12, .aload_n 0, 1, 0, 0, 0, []), (13, .iload_n 2, 1, 0, 0, 0, []), (14, .invokevirtual 92, 3, 19, 0, 0, []), (17, .astore_n 3, 1, 0, 0, 0, []), (18, .aload_n 3, 1, 0, 0, 0, []), (19, .ifnull 10, 3, 29, 0, 0, []), (22, .iload_n 1, 1, 0, 0, 0, []), (23, .aload_n 3, 1, 0, 0, 0, []), (24, .getfield 193, 3, 1, 6, 0, []), (27, .iadd, 1, 0, 0, 0, []), (28, .istore_n 1, 1, 0, 0, 0, []), (29, .iinc 2 1, 3, 0, 0, 1, []), (32, .goto (-28), 3, 4, 0, 0, []), (35, .iload_n 1, 1, 0, 0, 0, []), (36, .ireturn, 1, 0, 0, 0, [])]
set_option maxRecDepth 100000 in
theorem cdo_31 : cdM 31 cd_31 := (⟨by unfold ciOK; decide +kernel, by decide +kernel⟩ : cdOK prog_1_method_32_code 9 4 false cd_31)
-- 32: WatchValley_watchesBack
def cd_32 : List CI := [(0, .iconst 0, 1, 0, 0, 0, []), (1, .istore_n 1, 1, 0, 0, 0, []), (2, .iconst 0, 1, 0, 0, 0, []), (3, .istore_n 2, 1, 0, 0, 0, []), (4, .iload_n 2, 1, 0, 0, 0, []), (5, .aload_n 0, 1, 0, 0, 0, []), (6, .getfield 141, 3, 9, 10, 0, []), (9, .if_icmp .ge 29, 3, 38, 0, 0, []), (12, .aload_n 0, 1, 0, 0, 0, []), (13, .iload_n 2, 1, 0, 0, 0, []), (14, .invokevirtual 261, 3, 33, 0, 0, []), (17, .astore_n 3, 1, 0, 0, 0, []), (18, .aload_n 3, 1, 0, 0, 0, []), (19, .ifnull 13, 3, 32, 0, 0, []), (22, .aload_n 3, 1, 0, 0, 0, []), (23, .getfield 275, 3, 8, 3, 0, []), (26, .ifCond .eq 6, 3, 32, 0, 0, []), (29, .iinc 1 1, 3, 0, 0, 1, []), (32, .iinc 2 1, 3, 0, 0, 1, []), (35, .goto (-31), 3, 4, 0, 0, []), (38, .iload_n 1, 1, 0, 0, 0, []), (39, .ireturn, 1, 0, 0, 0, [])]
set_option maxRecDepth 100000 in
theorem cdo_32 : cdM 32 cd_32 := (⟨by unfold ciOK; decide +kernel, by decide +kernel⟩ : cdOK prog_1_method_34_code 9 4 false cd_32)
-- 33: WatchValley_watchNumbered
def cd_33 : List CI := [(0, .iload_n 1, 1, 0, 0, 0, []), (1, .ifCond .lt 26, 3, 27, 0, 0, []), (4, .iload_n 1, 1, 0, 0, 0, []), (5, .aload_n 0, 1, 0, 0, 0, []), (6, .getfield 141, 3, 9, 10, 0, []), (9, .if_icmp .ge 18, 3, 27, 0, 0, []), (12, .iload_n 1, 1, 0, 0, 0, []), (13, .bipush 100, 2, 0, 0, 100, []), (15, .if_icmp .ge 12, 3, 27, 0, 0, []), (18, .aload_n 0, 1, 0, 0, 0, []), (19, .getfield 29, 3, 9, 3, 0, []), (22, .iload_n 1, 1, 0, 0, 0, []), (23, .aaload, 1, 0, 0, 0, []), (24, .goto 4, 3, 28, 0, 0, []), (27, .aconst_null, 1, 0, 0, 0, []), (28, .areturn, 1, 0, 0, 0, [])]
set_option maxRecDepth 100000 in
theorem cdo_33 : cdM 33 cd_33 := (⟨by unfold ciOK; decide +kernel, by decide +kernel⟩ : cdOK prog_1_method_27_code 9 2 false cd_33)
-- 34: WatchValley_lotsOut
def cd_34 : List CI := [(0, .iconst 0, 1, 0, 0, 0, []), (1, .istore_n 1, 1, 0, 0, 0, []), (2, .iconst 0, 1, 0, 0, 0, []), (3, .istore_n 2, 1, 0, 0, 0, []), (4, .iload_n 2, 1, 0, 0, 0, []), (5, .aload_n 0, 1, 0, 0, 0, []), (6, .getfield 124, 3, 9, 8, 0, []), (9, .if_icmp .ge 29, 3, 38, 0, 0, []), (12, .aload_n 0, 1, 0, 0, 0, []), (13, .iload_n 2, 1, 0, 0, 0, []), (14, .invokevirtual 127, 3, 14, 0, 0, []), (17, .astore_n 3, 1, 0, 0, 0, []), (18, .aload_n 3, 1, 0, 0, 0, []), (19, .ifnull 13, 3, 32, 0, 0, []), (22, .aload_n 3, 1, 0, 0, 0, []), (23, .getfield 115, 3, 2, 5, 0, []), (26, .ifCond .eq 6, 3, 32, 0, 0, []), (29, .iinc 1 1, 3, 0, 0, 1, []), (32, .iinc 2 1, 3, 0, 0, 1, []), (35, .goto (-31), 3, 4, 0, 0, []), (38, .iload_n 1, 1, 0, 0, 0, []), (39, .ireturn, 1, 0, 0, 0, [])]
set_option maxRecDepth 100000 in
theorem cdo_34 : cdM 34 cd_34 := (⟨by unfold ciOK; decide +kernel, by decide +kernel⟩ : cdOK prog_1_method_33_code 9 4 false cd_34)
-- 35: WatchValley_lot
def cd_35 : List CI := [(0, .aload_n 0, 1, 0, 0, 0, []), (1, .iload_n 1, 1, 0, 0, 0, []), (2, .invokevirtual 127, 3, 14, 0, 0, []), (5, .astore_n 3, 1, 0, 0, 0, []), (6, .aload_n 3, 1, 0, 0, 0, []), (7, .ifnonnull 5, 3, 12, 0, 0, []), (10, .iconst (-1), 1, 0, 0, (-1), []), (11, .ireturn, 1, 0, 0, 0, []), (12, .iload_n 2, 1, 0, 0, 0, []), (13, .tableswitch 83 0 5 #[39, 44, 49, 54, 73, 78], 39, 96, 0, 0, [52, 57, 62, 67, 86, 91]), (52, .aload_n 3, 1, 0, 0, 0, []), (53, .getfield 85, 3, 2, 1, 0, []), (56, .ireturn, 1, 0, 0, 0, []), (57, .aload_n 3, 1, 0, 0, 0, []), (58, .getfield 82, 3, 2, 4, 0, []), (61, .ireturn, 1, 0, 0, 0, []), (62, .aload_n 3, 1, 0, 0, 0, []), (63, .getfield 115, 3, 2, 5, 0, []), (66, .ireturn, 1, 0, 0, 0, []), (67, .aload_n 3, 1, 0, 0, 0, []), (68, .getfield 111, 3, 2, 6, 0, []), (71, .ifnonnull 7, 3, 78, 0, 0, []), (74, .iconst (-1), 1, 0, 0, (-1), []), (75, .goto 10, 3, 85, 0, 0, []), (78, .aload_n 3, 1, 0, 0, 0, []), (79, .getfield 111, 3, 2, 6, 0, []), (82, .getfield 57, 3, 1, 0, 0, []), (85, .ireturn, 1, 0, 0, 0, []), (86, .aload_n 3, 1, 0, 0, 0, []), (87, .getfield 121, 3, 2, 7, 0, []), (90, .ireturn, 1, 0, 0, 0, []), (91, .aload_n 3, 1, 0, 0, 0, []), (92, .getfield 150, 3, 2, 9, 0, []), (95, .ireturn, 1, 0, 0, 0, []), (96, .iconst (-1), 1, 0, 0, (-1), []), (97, .ireturn, 1, 0, 0, 0, [])]
set_option maxRecDepth 100000 in
theorem cdo_35 : cdM 35 cd_35 := (⟨by unfold ciOK; decide +kernel, by decide +kernel⟩ : cdOK prog_1_method_9_code 9 4 false cd_35)
-- 36: WatchValley_at
def cd_36 : List CI := [(0, .aload_n 0, 1, 0, 0, 0, []), (1, .iload_n 1, 1, 0, 0, 0, []), (2, .invokevirtual 127, 3, 14, 0, 0, []), (5, .astore_n 3, 1, 0, 0, 0, []), (6, .aload_n 3, 1, 0, 0, 0, []), (7, .ifnonnull 5, 3, 12, 0, 0, []), (10, .iconst (-1), 1, 0, 0, (-1), []), (11, .ireturn, 1, 0, 0, 0, []), (12, .aload_n 3, 1, 0, 0, 0, []), (13, .iload_n 2, 1, 0, 0, 0, []), (14, .invokevirtual 153, 3, 37, 0, 0, []), (17, .astore 4, 2, 0, 0, 0, []), (19, .aload 4, 2, 0, 0, 0, []), (21, .ifnonnull 7, 3, 28, 0, 0, []), (24, .iconst (-1), 1, 0, 0, (-1), []), (25, .goto 8, 3, 33, 0, 0, []), (28, .aload 4, 2, 0, 0, 0, []), (30, .getfield 157, 3, 5, 0, 0, []), (33, .ireturn, 1, 0, 0, 0, [])]
set_option maxRecDepth 100000 in
theorem cdo_36 : cdM 36 cd_36 := (⟨by unfold ciOK; decide +kernel, by decide +kernel⟩ : cdOK prog_1_method_10_code 9 5 false cd_36)
-- 37: Lot_pieceAt
def cd_37 : List CI := [(0, .iload_n 1, 1, 0, 0, 0, []), (1, .ifCond .lt 11, 3, 12, 0, 0, []), (4, .iload_n 1, 1, 0, 0, 0, []), (5, .aload_n 0, 1, 0, 0, 0, []), (6, .getfield 36, 3, 2, 4, 0, []), (9, .if_icmp .lt 5, 3, 14, 0, 0, []), (12, .aconst_null, 1, 0, 0, 0, []), (13, .areturn, 1, 0, 0, 0, []), (14, .aload_n 0, 1, 0, 0, 0, []), (15, .getfield 33, 3, 2, 2, 0, []), (18, .astore_n 2, 1, 0, 0, 0, []), (19, .iconst 0, 1, 0, 0, 0, []), (20, .istore_n 3, 1, 0, 0, 0, []), (21, .iload_n 3, 1, 0, 0, 0, []), (22, .iload_n 1, 1, 0, 0, 0, []), (23, .if_icmp .ge 18, 3, 41, 0, 0, []), (26, .aload_n 2, 1, 0, 0, 0, []), (27, .ifnull 14, 3, 41, 0, 0, []), (30, .aload_n 2, 1, 0, 0, 0, []), (31, .getfield 26, 3, 5, 7, 0, []), (34, .astore_n 2, 1, 0, 0, 0, []), (35, .iinc 3 1, 3, 0, 0, 1, []), (38, .goto (-17), 3, 21, 0, 0, []), (41, .aload_n 2, 1, 0, 0, 0, []), (42, .areturn, 1, 0, 0, 0, [])]
set_option maxRecDepth 100000 in
theorem cdo_37 : cdM 37 cd_37 := (⟨by unfold ciOK; decide +kernel, by decide +kernel⟩ : cdOK prog_4_method_6_code 2 4 false cd_37)
-- 38: WatchValley_of
def cd_38 : List CI := [(0, .aload_n 0, 1, 0, 0, 0, []), (1, .iload_n 1, 1, 0, 0, 0, []), (2, .invokevirtual 92, 3, 19, 0, 0, []), (5, .astore_n 3, 1, 0, 0, 0, []), (6, .aload_n 3, 1, 0, 0, 0, []), (7, .ifnonnull 5, 3, 12, 0, 0, []), (10, .iconst (-1), 1, 0, 0, (-1), []), (11, .ireturn, 1, 0, 0, 0, []), (12, .iload_n 2, 1, 0, 0, 0, []), (13, .tableswitch 78 0 6 #[43, 48, 53, 58, 63, 68, 73], 43, 91, 0, 0, [56, 61, 66, 71, 76, 81, 86]), (56, .aload_n 3, 1, 0, 0, 0, []), (57, .getfield 183, 3, 1, 1, 0, []), (60, .ireturn, 1, 0, 0, 0, []), (61, .aload_n 3, 1, 0, 0, 0, []), (62, .getfield 186, 3, 1, 2, 0, []), (65, .ireturn, 1, 0, 0, 0, []), (66, .aload_n 3, 1, 0, 0, 0, []), (67, .getfield 189, 3, 1, 3, 0, []), (70, .ireturn, 1, 0, 0, 0, []), (71, .aload_n 3, 1, 0, 0, 0, []), (72, .getfield 118, 3, 1, 4, 0, []), (75, .ireturn, 1, 0, 0, 0, []), (76, .aload_n 3, 1, 0, 0, 0, []), (77, .getfield 192, 3, 1, 5, 0, []), (80, .ireturn, 1, 0, 0, 0, []), (81, .aload_n 3, 1, 0, 0, 0, []), (82, .getfield 193, 3, 1, 6, 0, []), (85, .ireturn, 1, 0, 0, 0, []), (86, .aload_n 3, 1, 0, 0, 0, []), (87, .getfield 196, 3, 1, 7, 0, []), (90, .ireturn, 1, 0, 0, 0, []), (91, .iconst (-1), 1, 0, 0, (-1), []), (92, .ireturn, 1, 0, 0, 0, [])]
set_option maxRecDepth 100000 in
theorem cdo_38 : cdM 38 cd_38 := (⟨by unfold ciOK; decide +kernel, by decide +kernel⟩ : cdOK prog_1_method_12_code 9 4 false cd_38)
-- 39: WatchValley_wage
def cd_39 : List CI := [(0, .aload_n 0, 1, 0, 0, 0, []), (1, .iload_n 1, 1, 0, 0, 0, []), (2, .invokevirtual 92, 3, 19, 0, 0, []), (5, .astore 4, 2, 0, 0, 0, []), (7, .aload 4, 2, 0, 0, 0, []), (9, .ifnull 25, 3, 34, 0, 0, []), (12, .iload_n 2, 1, 0, 0, 0, []), (13, .ifCond .lt 21, 3, 34, 0, 0, []), (16, .iload_n 2, 1, 0, 0, 0, []), (17, .sipush 400, 3, 0, 0, 400, []), (20, .if_icmp .gt 14, 3, 34, 0, 0, []), (23, .iload_n 3, 1, 0, 0, 0, []), (24, .ifCond .lt 10, 3, 34, 0, 0, []), (27, .iload_n 3, 1, 0, 0, 0, []), (28, .sipush 1000, 3, 0, 0, 1000, []), (31, .if_icmp .le 5, 3, 36, 0, 0, []), (34, .iconst (-1), 1, 0, 0, (-1), []), (35, .ireturn, 1, 0, 0, 0, []), (36, .aload_n 0, 1, 0, 0, 0, []), (37, .getfield 199, 3, 9, 12, 0, []), (40, .bipush 100, 2, 0, 0, 100, []), (42, .if_icmp .lt 5, 3, 47, 0, 0, []), (45, .iconst (-1), 1, 0, 0, (-1), []), (46, .ireturn, 1, 0, 0, 0, []), (47, .aload_n 0, 1, 0, 0, 0, []), (48, .dup, 1, 0, 0, 0, []), (49, .getfield 199, 3, 9, 12, 0, []), (52, .iconst 1, 1, 0, 0, 1, []), (53, .iadd, 1, 0, 0, 0, []), (54, .putfield 199, 3, 9, 12, 0, []), (57, .aload 4, 2, 0, 0, 0, []), (59, .new 202, 3, 7, 0, 0, []), (62, .dup, 1, 0, 0, 0, []), (63, .aload_n 0, 1, 0, 0, 0, []), (64, .getfield 101, 3, 9, 13, 0, []), (67, .iload_n 2, 1, 0, 0, 0, []), (68, .iload_n 3, 1, 0, 0, 0, []), (69, .aload 4, 2, 0, 0, 0, []), (71, .getfield 204, 3, 1, 11, 0, []), (74, .invokespecial 208, 3, 40, 0, 0, []), (77, .putfield 204, 3, 1, 11, 0, []), (80, .aload_n 0, 1, 0, 0, 0, []), (81, .getfield 199, 3, 9, 12, 0, []), (84, .ireturn, 1, 0, 0, 0, [])]
set_option maxRecDepth 100000 in
theorem cdo_39 : cdM 39 cd_39 := (⟨by unfold ciOK; decide +kernel, by decide +kernel⟩ : cdOK prog_1_method_13_code 9 5 false cd_39)
-- 40: Wage_init
def cd_40 : List CI := [(0, .aload_n 0, 1, 0, 0, 0, []), (1, .invokespecial 1, 3, 0, 2, 0, []), (4, .aload_n 0, 1, 0, 0, 0, []), (5, .iload_n 1, 1, 0, 0, 0, []), (6, .putfield 7, 3, 7, 0, 0, []), (9, .aload_n 0, 1, 0, 0, 0, []), (10, .iload_n 2, 1, 0, 0, 0, []), (11, .putfield 13, 3, 7, 1, 0, []), (14, .aload_n 0, 1, 0, 0, 0, []), (15, .iload_n 3, 1, 0, 0, 0, []), (16, .putfield 16, 3, 7, 2, 0, []), (19, .aload_n 0, 1, 0, 0, 0, []), (20, .aload 4, 2, 0, 0, 0, []), (22, .putfield 19, 3, 7, 3, 0, []), (25, .return_, 1, 0, 0, 0, [])]
set_option maxRecDepth 100000 in
theorem cdo_40 : cdM 40 cd_40 := (⟨by unfold ciOK; decide +kernel, by decide +kernel⟩ : cdOK prog_9_method_1_code 7 5 true cd_40)
-- 41: WatchValley_fit
def cd_41 : List CI := [(0, .iload_n 1, 1, 0, 0, 0, []), (1, .ifCond .lt 13, 3, 14, 0, 0, []), (4, .iload_n 1, 1, 0, 0, 0, []), (5, .iconst 1, 1, 0, 0, 1, []), (6, .if_icmp .gt 8, 3, 14, 0, 0, []), (9, .iload_n 2, 1, 0, 0, 0, []), (10, .iload_n 3, 1, 0, 0, 0, []), (11, .if_icmp .le 5, 3, 16, 0, 0, []), (14, .iconst 0, 1, 0, 0, 0, []), (15, .ireturn, 1, 0, 0, 0, []), (16, .iload_n 1, 1, 0, 0, 0, []), (17, .ifCond .ne 10, 3, 27, 0, 0, []), (20, .aload_n 0, 1, 0, 0, 0, []), (21, .getfield 36, 3, 9, 4, 0, []), (24, .goto 7, 3, 31, 0, 0, []), (27, .aload_n 0, 1, 0, 0, 0, []), (28, .getfield 40, 3, 9, 5, 0, []), (31, .astore 4, 2, 0, 0, 0, []), (33, .aload 4, 2, 0, 0, 0, []), (35, .iload_n 2, 1, 0, 0, 0, []), (36, .putfield 219, 3, 0, 0, 0, []), (39, .aload 4, 2, 0, 0, 0, []), (41, .iload_n 3, 1, 0, 0, 0, []), (42, .putfield 222, 3, 0, 1, 0, []), (45, .iconst 1, 1, 0, 0, 1, []), (46, .ireturn, 1, 0, 0, 0, [])]
set_option maxRecDepth 100000 in
theorem cdo_41 : cdM 41 cd_41 := (⟨by unfold ciOK; decide +kernel, by decide +kernel⟩ : cdOK prog_1_method_15_code 9 5 false cd_41)
-- 42: WatchValley_fits
def cd_42 : List CI := [(0, .aload_n 0, 1, 0, 0, 0, []), (1, .iload_n 1, 1, 0, 0, 0, []), (2, .invokevirtual 158, 3, 43, 0, 0, []), (5, .astore_n 3, 1, 0, 0, 0, []), (6, .aload_n 0, 1, 0, 0, 0, []), (7, .iload_n 2, 1, 0, 0, 0, []), (8, .invokevirtual 158, 3, 43, 0, 0, []), (11, .astore 4, 2, 0, 0, 0, []), (13, .aload_n 3, 1, 0, 0, 0, []), (14, .ifnull 8, 3, 22, 0, 0, []), (17, .aload 4, 2, 0, 0, 0, []), (19, .ifnonnull 5, 3, 24, 0, 0, []), (22, .iconst (-1), 1, 0, 0, (-1), []), (23, .ireturn, 1, 0, 0, 0, []), (24, .aload_n 3, 1, 0, 0, 0, []), (25, .getfield 168, 3, 5, 1, 0, []), (28, .ifCond .ne 31, 3, 59, 0, 0, []), (31, .aload 4, 2, 0, 0, 0, []), (33, .getfield 168, 3, 5, 1, 0, []), (36, .iconst 1, 1, 0, 0, 1, []), (37, .if_icmp .ne 22, 3, 59, 0, 0, []), (40, .aload_n 0, 1, 0, 0, 0, []), (41, .getfield 36, 3, 9, 4, 0, []), (44, .aload 4, 2, 0, 0, 0, []), (46, .aload_n 3, 1, 0, 0, 0, []), (47, .invokevirtual 225, 3, 44, 0, 0, []), (50, .ifCond .eq 7, 3, 57, 0, 0, []), (53, .iconst 1, 1, 0, 0, 1, []), (54, .goto 4, 3, 58, 0, 0, []), (57, .iconst 0, 1, 0, 0, 0, []), (58, .ireturn, 1, 0, 0, 0, []), (59, .aload_n 3, 1, 0, 0, 0, []), (60, .getfield 168, 3, 5, 1, 0, []), (63, .iconst 1, 1, 0, 0, 1, []), (64, .if_icmp .ne 31, 3, 95, 0, 0, []), (67, .aload 4, 2, 0, 0, 0, []), (69, .getfield 168, 3, 5, 1, 0, []), (72, .iconst 2, 1, 0, 0, 2, []), (73, .if_icmp .ne 22, 3, 95, 0, 0, []), (76, .aload_n 0, 1, 0, 0, 0, []), (77, .getfield 40, 3, 9, 5, 0, []), (80, .aload_n 3, 1, 0, 0, 0, []), (81, .aload 4, 2, 0, 0, 0, []), (83, .invokevirtual 225, 3, 44, 0, 0, []), (86, .ifCond .eq 7, 3, 93, 0, 0, []), (89, .iconst 1, 1, 0, 0, 1, []), (90, .goto 4, 3, 94, 0, 0, []), (93, .iconst 0, 1, 0, 0, 0, []), (94, .ireturn, 1, 0, 0, 0, []), (95, .iconst (-1), 1, 0, 0, (-1), []), (96, .ireturn, 1, 0, 0, 0, [])]
set_option maxRecDepth 100000 in
theorem cdo_42 : cdM 42 cd_42 := (⟨by unfold ciOK; decide +kernel, by decide +kernel⟩ : cdOK prog_1_method_16_code 9 5 false cd_42)
-- 43: WatchValley_pieceNumbered
def cd_43 : List CI := [(0, .iload_n 1, 1, 0, 0, 0, []), (1, .ifCond .lt 27, 3, 28, 0, 0, []), (4, .iload_n 1, 1, 0, 0, 0, []), (5, .aload_n 0, 1, 0, 0, 0, []), (6, .getfield 64, 3, 9, 7, 0, []), (9, .if_icmp .ge 19, 3, 28, 0, 0, []), (12, .iload_n 1, 1, 0, 0, 0, []), (13, .sipush 300, 3, 0, 0, 300, []), (16, .if_icmp .ge 12, 3, 28, 0, 0, []), (19, .aload_n 0, 1, 0, 0, 0, []), (20, .getfield 11, 3, 9, 0, 0, []), (23, .iload_n 1, 1, 0, 0, 0, []), (24, .aaload, 1, 0, 0, 0, []), (25, .goto 4, 3, 29, 0, 0, []), (28, .aconst_null, 1, 0, 0, 0, []), (29, .areturn, 1, 0, 0, 0, [])]
set_option maxRecDepth 100000 in
theorem cdo_43 : cdM 43 cd_43 := (⟨by unfold ciOK; decide +kernel, by decide +kernel⟩ : cdOK prog_1_method_26_code 9 2 false cd_43)
-- 44: Fit_allows
def cd_44 : List CI := [(0, .aload_n 2, 1, 0, 0, 0, []), (1, .getfield 9, 3, 5, 1, 0, []), (4, .ifCond .ne 15, 3, 19, 0, 0, []), (7, .aload_n 2, 1, 0, 0, 0, []), (8, .getfield 15, 3, 5, 3, 0, []), (11, .aload_n 1, 1, 0, 0, 0, []), (12, .getfield 15, 3, 5, 3, 0, []), (15, .isub, 1, 0, 0, 0, []), (16, .goto 12, 3, 28, 0, 0, []), (19, .aload_n 1, 1, 0, 0, 0, []), (20, .getfield 15, 3, 5, 3, 0, []), (23, .aload_n 2, 1, 0, 0, 0, []), (24, .getfield 15, 3, 5, 3, 0, []), (27, .isub, 1, 0, 0, 0, []), (28, .istore_n 3, 1, 0, 0, 0, []), (29, .aload_n 0, 1, 0, 0, 0, []), (30, .getfield 18, 3, 0, 0, 0, []), (33, .iload_n 3, 1, 0, 0, 0, []), (34, .if_icmp .gt 15, 3, 49, 0, 0, []), (37, .iload_n 3, 1, 0, 0, 0, []), (38, .aload_n 0, 1, 0, 0, 0, []), (39, .getfield 23, 3, 0, 1, 0, []), (42, .if_icmp .gt 7, 3, 49, 0, 0, []), (45, .iconst 1, 1, 0, 0, 1, []), (46, .goto 4, 3, 50, 0, 0, []), (49, .iconst 0, 1, 0, 0, 0, []), (50, .ireturn, 1, 0, 0, 0, [])]
set_option maxRecDepth 100000 in
theorem cdo_44 : cdM 44 cd_44 := (⟨by unfold ciOK; decide +kernel, by decide +kernel⟩ : cdOK prog_2_method_2_code 0 4 false cd_44)
-- 45: WatchValley_most
def cd_45 : List CI := [(0, .aload_n 0, 1, 0, 0, 0, []), (1, .iload_n 1, 1, 0, 0, 0, []), (2, .iconst 0, 1, 0, 0, 0, []), (3, .invokevirtual 229, 3, 46, 0, 0, []), (6, .astore 4, 2, 0, 0, 0, []), (8, .aload_n 0, 1, 0, 0, 0, []), (9, .iload_n 2, 1, 0, 0, 0, []), (10, .iconst 1, 1, 0, 0, 1, []), (11, .invokevirtual 229, 3, 46, 0, 0, []), (14, .astore 5, 2, 0, 0, 0, []), (16, .aload_n 0, 1, 0, 0, 0, []), (17, .iload_n 3, 1, 0, 0, 0, []), (18, .iconst 2, 1, 0, 0, 2, []), (19, .invokevirtual 229, 3, 46, 0, 0, []), (22, .astore 6, 2, 0, 0, 0, []), (24, .aload 4, 2, 0, 0, 0, []), (26, .ifnull 13, 3, 39, 0, 0, []), (29, .aload 5, 2, 0, 0, 0, []), (31, .ifnull 8, 3, 39, 0, 0, []), (34, .aload 6, 2, 0, 0, 0, []), (36, .ifnonnull 5, 3, 41, 0, 0, []), (39, .iconst (-1), 1, 0, 0, (-1), []), (40, .ireturn, 1, 0, 0, 0, []), (41, .aload_n 0, 1, 0, 0, 0, []), (42, .getfield 46, 3, 9, 6, 0, []), (45, .aload 4, 2, 0, 0, 0, []), (47, .aload 5, 2, 0, 0, 0, []), (49, .aload 6, 2, 0, 0, 0, []), (51, .aload_n 0, 1, 0, 0, 0, []), (52, .getfield 36, 3, 9, 4, 0, []), (55, .aload_n 0, 1, 0, 0, 0, []), (56, .getfield 40, 3, 9, 5, 0, []), (59, .invokevirtual 233, 3, 47, 0, 0, []), (62, .aload_n 0, 1, 0, 0, 0, []), (63, .getfield 46, 3, 9, 6, 0, []), (66, .invokevirtual 237, 3, 52, 0, 0, []), (69, .ireturn, 1, 0, 0, 0, [])]
set_option maxRecDepth 100000 in
theorem cdo_45 : cdM 45 cd_45 := (⟨by unfold ciOK; decide +kernel, by decide +kernel⟩ : cdOK prog_1_method_17_code 9 7 false cd_45)
-- 46: WatchValley_lotForMaking
def cd_46 : List CI := [(0, .aload_n 0, 1, 0, 0, 0, []), (1, .iload_n 1, 1, 0, 0, 0, []), (2, .invokevirtual 79, 3, 13, 0, 0, []), (5, .astore_n 3, 1, 0, 0, 0, []), (6, .aload_n 3, 1, 0, 0, 0, []), (7, .ifnull 24, 3, 31, 0, 0, []), (10, .aload_n 3, 1, 0, 0, 0, []), (11, .getfield 85, 3, 2, 1, 0, []), (14, .iload_n 2, 1, 0, 0, 0, []), (15, .if_icmp .ne 16, 3, 31, 0, 0, []), (18, .aload_n 3, 1, 0, 0, 0, []), (19, .getfield 82, 3, 2, 4, 0, []), (22, .bipush 10, 2, 0, 0, 10, []), (24, .if_icmp .gt 7, 3, 31, 0, 0, []), (27, .aload_n 3, 1, 0, 0, 0, []), (28, .goto 4, 3, 32, 0, 0, []), (31, .aconst_null, 1, 0, 0, 0, []), (32, .areturn, 1, 0, 0, 0, [])]
set_option maxRecDepth 100000 in
theorem cdo_46 : cdM 46 cd_46 := (⟨by unfold ciOK; decide +kernel, by decide +kernel⟩ : cdOK prog_1_method_29_code 9 4 false cd_46)
-- 47: Making_readLots
def cd_47 : List CI := [(0, .aload_n 0, 1, 0, 0, 0, []), (1, .aload_n 2, 1, 0, 0, 0, []), (2, .getfield 21, 3, 2, 4, 0, []), (5, .bipush 10, 2, 0, 0, 10, []), (7, .invokestatic 27, 3, 48, 0, 0, []), (10, .putfield 33, 3, 3, 2, 0, []), (13, .aload_n 0, 1, 0, 0, 0, []), (14, .getfield 12, 3, 3, 0, 0, []), (17, .aload_n 2, 1, 0, 0, 0, []), (18, .aload_n 1, 1, 0, 0, 0, []), (19, .aload 4, 2, 0, 0, 0, []), (21, .invokevirtual 36, 3, 49, 0, 0, []), (24, .aload_n 0, 1, 0, 0, 0, []), (25, .getfield 18, 3, 3, 1, 0, []), (28, .aload_n 2, 1, 0, 0, 0, []), (29, .aload_n 3, 1, 0, 0, 0, []), (30, .aload 5, 2, 0, 0, 0, []), (32, .invokevirtual 36, 3, 49, 0, 0, []), (35, .return_, 1, 0, 0, 0, [])]
set_option maxRecDepth 100000 in
theorem cdo_47 : cdM 47 cd_47 := (⟨by unfold ciOK; decide +kernel, by decide +kernel⟩ : cdOK prog_5_method_2_code 3 6 false cd_47)
-- 48: Math_min
def cd_48 : List CI := [(0, .iload_n 0, 1, 0, 0, 0, []), (1, .iload_n 1, 1, 0, 0, 0, []), (2, .if_icmp .gt 7, 3, 9, 0, 0, []), (5, .iload_n 0, 1, 0, 0, 0, []), (6, .goto 4, 3, 10, 0, 0, []), (9, .iload_n 1, 1, 0, 0, 0, []), (10, .ireturn, 1, 0, 0, 0, [])]
set_option maxRecDepth 100000 in
theorem cdo_48 : cdM 48 cd_48 := (⟨by unfold ciOK; decide +kernel, by decide +kernel⟩ : cdOK prog_15_method_69_code 13 2 false cd_48)
-- 49: Mates_readLots
def cd_49 : List CI := [(0, .aload_n 0, 1, 0, 0, 0, []), (1, .getfield 15, 3, 4, 1, 0, []), (4, .iconst (-1), 1, 0, 0, (-1), []), (5, .invokestatic 21, 3, 50, 0, 0, []), (8, .aload_n 0, 1, 0, 0, 0, []), (9, .iconst 0, 1, 0, 0, 0, []), (10, .putfield 27, 3, 4, 3, 0, []), (13, .aload_n 1, 1, 0, 0, 0, []), (14, .getfield 31, 3, 2, 2, 0, []), (17, .astore 4, 2, 0, 0, 0, []), (19, .iconst 0, 1, 0, 0, 0, []), (20, .istore 5, 2, 0, 0, 0, []), (22, .iload 5, 2, 0, 0, 0, []), (24, .bipush 10, 2, 0, 0, 10, []), (26, .if_icmp .ge 35, 3, 61, 0, 0, []), (29, .aload 4, 2, 0, 0, 0, []), (31, .ifnull 30, 3, 61, 0, 0, []), (34, .aload_n 0, 1, 0, 0, 0, []), (35, .getfield 9, 3, 4, 0, 0, []), (38, .iload 5, 2, 0, 0, 0, []), (40, .aload 4, 2, 0, 0, 0, []), (42, .aload_n 2, 1, 0, 0, 0, []), (43, .aload_n 3, 1, 0, 0, 0, []), (44, .invokestatic 37, 3, 51, 0, 0, []), (47, .iastore, 1, 0, 0, 0, []), (48, .aload 4, 2, 0, 0, 0, []), (50, .getfield 41, 3, 5, 7, 0, []), (53, .astore 4, 2, 0, 0, 0, []), (55, .iinc 5 1, 3, 0, 0, 1, []), (58, .goto (-36), 3, 22, 0, 0, []), (61, .return_, 1, 0, 0, 0, [])]
set_option maxRecDepth 100000 in
theorem cdo_49 : cdM 49 cd_49 := (⟨by unfold ciOK; decide +kernel, by decide +kernel⟩ : cdOK prog_6_method_2_code 4 6 false cd_49)
-- 50: Arrays_fill
def cd_50 : List CI := [(0, .iconst 0, 1, 0, 0, 0, []), (1, .istore_n 2, 1, 0, 0, 0, []), (2, .aload_n 0, 1, 0, 0, 0, []), (3, .arraylength, 1, 0, 0, 0, []), (4, .istore_n 3, 1, 0, 0, 0, []), (5, .iload_n 2, 1, 0, 0, 0, []), (6, .iload_n 3, 1, 0, 0, 0, []), (7, .if_icmp .ge 13, 3, 20, 0, 0, []), (10, .aload_n 0, 1, 0, 0, 0, []), (11, .iload_n 2, 1, 0, 0, 0, []), (12, .iload_n 1, 1, 0, 0, 0, []), (13, .iastore, 1, 0, 0, 0, []), (14, .iinc 2 1, 3, 0, 0, 1, []), (17, .goto (-12), 3, 5, 0, 0, []), (20, .return_, 1, 0, 0, 0, [])]
set_option maxRecDepth 100000 in
theorem cdo_50 : cdM 50 cd_50 := (⟨by unfold ciOK; decide +kernel, by decide +kernel⟩ : cdOK prog_19_method_103_code 14 4 false cd_50)
-- 51: Mates_placesFor
def cd_51 : List CI := [(0, .iconst 0, 1, 0, 0, 0, []), (1, .istore_n 3, 1, 0, 0, 0, []), (2, .iconst 1, 1, 0, 0, 1, []), (3, .istore 4, 2, 0, 0, 0, []), (5, .aload_n 1, 1, 0, 0, 0, []), (6, .getfield 31, 3, 2, 2, 0, []), (9, .astore 5, 2, 0, 0, 0, []), (11, .aload 5, 2, 0, 0, 0, []), (13, .ifnull 34, 3, 47, 0, 0, []), (16, .aload_n 2, 1, 0, 0, 0, []), (17, .aload_n 0, 1, 0, 0, 0, []), (18, .aload 5, 2, 0, 0, 0, []), (20, .invokevirtual 46, 3, 44, 0, 0, []), (23, .ifCond .eq 8, 3, 31, 0, 0, []), (26, .iload_n 3, 1, 0, 0, 0, []), (27, .iload 4, 2, 0, 0, 0, []), (29, .ior, 1, 0, 0, 0, []), (30, .istore_n 3, 1, 0, 0, 0, []), (31, .iload 4, 2, 0, 0, 0, []), (33, .iconst 1, 1, 0, 0, 1, []), (34, .ishl, 1, 0, 0, 0, []), (35, .istore 4, 2, 0, 0, 0, []), (37, .aload 5, 2, 0, 0, 0, []), (39, .getfield 41, 3, 5, 7, 0, []), (42, .astore 5, 2, 0, 0, 0, []), (44, .goto (-33), 3, 11, 0, 0, []), (47, .iload_n 3, 1, 0, 0, 0, []), (48, .ireturn, 1, 0, 0, 0, [])]
set_option maxRecDepth 100000 in
theorem cdo_51 : cdM 51 cd_51 := (⟨by unfold ciOK; decide +kernel, by decide +kernel⟩ : cdOK prog_6_method_3_code 4 6 false cd_51)
-- 52: Making_chooseWheels
def cd_52 : List CI := [(0, .aload_n 0, 1, 0, 0, 0, []), (1, .iconst (-1), 1, 0, 0, (-1), []), (2, .putfield 40, 3, 3, 3, 0, []), (5, .aload_n 0, 1, 0, 0, 0, []), (6, .iconst 0, 1, 0, 0, 0, []), (7, .iconst 0, 1, 0, 0, 0, []), (8, .iconst 0, 1, 0, 0, 0, []), (9, .invokevirtual 43, 3, 53, 0, 0, []), (12, .aload_n 0, 1, 0, 0, 0, []), (13, .getfield 40, 3, 3, 3, 0, []), (16, .ireturn, 1, 0, 0, 0, [])]
set_option maxRecDepth 100000 in
theorem cdo_52 : cdM 52 cd_52 := (⟨by unfold ciOK; decide +kernel, by decide +kernel⟩ : cdOK prog_5_method_3_code 3 1 false cd_52)
-- 53: Making_tryWheel
def cd_53 : List CI := [(0, .iload_n 2, 1, 0, 0, 0, []), (1, .aload_n 0, 1, 0, 0, 0, []), (2, .getfield 33, 3, 3, 2, 0, []), (5, .iadd, 1, 0, 0, 0, []), (6, .iload_n 1, 1, 0, 0, 0, []), (7, .isub, 1, 0, 0, 0, []), (8, .aload_n 0, 1, 0, 0, 0, []), (9, .getfield 40, 3, 3, 3, 0, []), (12, .if_icmp .gt 4, 3, 16, 0, 0, []), (15, .return_, 1, 0, 0, 0, []), (16, .iload_n 1, 1, 0, 0, 0, []), (17, .aload_n 0, 1, 0, 0, 0, []), (18, .getfield 33, 3, 3, 2, 0, []), (21, .if_icmp .ge 9, 3, 30, 0, 0, []), (24, .iload_n 1, 1, 0, 0, 0, []), (25, .bipush 10, 2, 0, 0, 10, []), (27, .if_icmp .lt 14, 3, 41, 0, 0, []), (30, .aload_n 0, 1, 0, 0, 0, []), (31, .iload_n 2, 1, 0, 0, 0, []), (32, .putfield 40, 3, 3, 3, 0, []), (35, .aload_n 0, 1, 0, 0, 0, []), (36, .iload_n 3, 1, 0, 0, 0, []), (37, .putfield 47, 3, 3, 4, 0, []), (40, .return_, 1, 0, 0, 0, []), (41, .aload_n 0, 1, 0, 0, 0, []), (42, .getfield 12, 3, 3, 0, 0, []), (45, .iload_n 1, 1, 0, 0, 0, []), (46, .invokevirtual 50, 3, 54, 0, 0, []), (49, .ifCond .eq 45, 3, 94, 0, 0, []), (52, .aload_n 0, 1, 0, 0, 0, []), (53, .getfield 18, 3, 3, 1, 0, []), (56, .iload_n 1, 1, 0, 0, 0, []), (57, .invokevirtual 50, 3, 54, 0, 0, []), (60, .ifCond .eq 26, 3, 86, 0, 0, []), (63, .aload_n 0, 1, 0, 0, 0, []), (64, .iload_n 1, 1, 0, 0, 0, []), (65, .iconst 1, 1, 0, 0, 1, []), (66, .iadd, 1, 0, 0, 0, []), (67, .iload_n 2, 1, 0, 0, 0, []), (68, .iconst 1, 1, 0, 0, 1, []), (69, .iadd, 1, 0, 0, 0, []), (70, .iload_n 3, 1, 0, 0, 0, []), (71, .iconst 1, 1, 0, 0, 1, []), (72, .iload_n 1, 1, 0, 0, 0, []), (73, .ishl, 1, 0, 0, 0, []), (74, .ior, 1, 0, 0, 0, []), (75, .invokevirtual 43, 3, 53, 0, 0, []), (78, .aload_n 0, 1, 0, 0, 0, []), (79, .getfield 18, 3, 3, 1, 0, []), (82, .iload_n 1, 1, 0, 0, 0, []), (83, .invokevirtual 54, 3, 56, 0, 0, []), (86, .aload_n 0, 1, 0, 0, 0, []), (87, .getfield 12, 3, 3, 0, 0, []), (90, .iload_n 1, 1, 0, 0, 0, []), (91, .invokevirtual 54, 3, 56, 0, 0, []), (94, .aload_n 0, 1, 0, 0, 0, []), (95, .iload_n 1, 1, 0, 0, 0, []), (96, .iconst 1, 1, 0, 0, 1, []), (97, .iadd, 1, 0, 0, 0, []), (98, .iload_n 2, 1, 0, 0, 0, []), (99, .iload_n 3, 1, 0, 0, 0, []), (100, .invokevirtual 43, 3, 53, 0, 0, []), (103, .return_, 1, 0, 0, 0, [])]
set_option maxRecDepth 100000 in
theorem cdo_53 : cdM 53 cd_53 := (⟨by unfold ciOK; decide +kernel, by decide +kernel⟩ : cdOK prog_5_method_4_code 3 4 false cd_53)
-- 54: Mates_seat
def cd_54 : List CI := [(0, .aload_n 0, 1, 0, 0, 0, []), (1, .iconst 0, 1, 0, 0, 0, []), (2, .putfield 52, 3, 4, 4, 0, []), (5, .aload_n 0, 1, 0, 0, 0, []), (6, .iload_n 1, 1, 0, 0, 0, []), (7, .iconst 0, 1, 0, 0, 0, []), (8, .invokevirtual 55, 3, 55, 0, 0, []), (11, .ireturn, 1, 0, 0, 0, [])]
set_option maxRecDepth 100000 in
theorem cdo_54 : cdM 54 cd_54 := (⟨by unfold ciOK; decide +kernel, by decide +kernel⟩ : cdOK prog_6_method_4_code 4 2 false cd_54)
-- 55: Mates_seatOrMove
def cd_55 : List CI := [(0, .iload_n 1, 1, 0, 0, 0, []), (1, .ifCond .lt 15, 3, 16, 0, 0, []), (4, .iload_n 1, 1, 0, 0, 0, []), (5, .bipush 10, 2, 0, 0, 10, []), (7, .if_icmp .ge 9, 3, 16, 0, 0, []), (10, .iload_n 2, 1, 0, 0, 0, []), (11, .bipush 10, 2, 0, 0, 10, []), (13, .if_icmp .le 5, 3, 18, 0, 0, []), (16, .iconst 0, 1, 0, 0, 0, []), (17, .ireturn, 1, 0, 0, 0, []), (18, .iconst 0, 1, 0, 0, 0, []), (19, .istore_n 3, 1, 0, 0, 0, []), (20, .iload_n 3, 1, 0, 0, 0, []), (21, .bipush 10, 2, 0, 0, 10, []), (23, .if_icmp .ge 89, 3, 112, 0, 0, []), (26, .iconst 1, 1, 0, 0, 1, []), (27, .iload_n 3, 1, 0, 0, 0, []), (28, .ishl, 1, 0, 0, 0, []), (29, .istore 4, 2, 0, 0, 0, []), (31, .aload_n 0, 1, 0, 0, 0, []), (32, .getfield 9, 3, 4, 0, 0, []), (35, .iload_n 1, 1, 0, 0, 0, []), (36, .iaload, 1, 0, 0, 0, []), (37, .aload_n 0, 1, 0, 0, 0, []), (38, .getfield 27, 3, 4, 3, 0, []), (41, .iconst (-1), 1, 0, 0, (-1), []), (42, .ixor, 1, 0, 0, 0, []), (43, .iand, 1, 0, 0, 0, []), (44, .aload_n 0, 1, 0, 0, 0, []), (45, .getfield 52, 3, 4, 4, 0, []), (48, .iconst (-1), 1, 0, 0, (-1), []), (49, .ixor, 1, 0, 0, 0, []), (50, .iand, 1, 0, 0, 0, []), (51, .iload 4, 2, 0, 0, 0, []), (53, .iand, 1, 0, 0, 0, []), (54, .ifCond .ne 6, 3, 60, 0, 0, []), (57, .goto 49, 3, 106, 0, 0, []), (60, .aload_n 0, 1, 0, 0, 0, []), (61, .dup, 1, 0, 0, 0, []), (62, .getfield 52, 3, 4, 4, 0, []), (65, .iload 4, 2, 0, 0, 0, []), (67, .ior, 1, 0, 0, 0, []), (68, .putfield 52, 3, 4, 4, 0, []), (71, .aload_n 0, 1, 0, 0, 0, []), (72, .getfield 15, 3, 4, 1, 0, []), (75, .iload_n 3, 1, 0, 0, 0, []), (76, .iaload, 1, 0, 0, 0, []), (77, .iconst (-1), 1, 0, 0, (-1), []), (78, .if_icmp .eq 19, 3, 97, 0, 0, []), (81, .aload_n 0, 1, 0, 0, 0, []), (82, .aload_n 0, 1, 0, 0, 0, []), (83, .getfield 15, 3, 4, 1, 0, []), (86, .iload_n 3, 1, 0, 0, 0, []), (87, .iaload, 1, 0, 0, 0, []), (88, .iload_n 2, 1, 0, 0, 0, []), (89, .iconst 1, 1, 0, 0, 1, []), (90, .iadd, 1, 0, 0, 0, []), (91, .invokevirtual 55, 3, 55, 0, 0, []), (94, .ifCond .eq 12, 3, 106, 0, 0, []), (97, .aload_n 0, 1, 0, 0, 0, []), (98, .getfield 15, 3, 4, 1, 0, []), (101, .iload_n 3, 1, 0, 0, 0, []), (102, .iload_n 1, 1, 0, 0, 0, []), (103, .iastore, 1, 0, 0, 0, []), (104, .iconst 1, 1, 0, 0, 1, []), (105, .ireturn, 1, 0, 0, 0, []), (106, .iinc 3 1, 3, 0, 0, 1, []), (109, .goto (-89), 3, 20, 0, 0, []), (112, .iconst 0, 1, 0, 0, 0, []), (113, .ireturn, 1, 0, 0, 0, [])]
set_option maxRecDepth 100000 in
theorem cdo_55 : cdM 55 cd_55 := (⟨by unfold ciOK; decide +kernel, by decide +kernel⟩ : cdOK prog_6_method_5_code 4 5 false cd_55)
-- 56: Mates_unseat
def cd_56 : List CI := [(0, .iconst 0, 1, 0, 0, 0, []), (1, .istore_n 2, 1, 0, 0, 0, []), (2, .iload_n 2, 1, 0, 0, 0, []), (3, .bipush 10, 2, 0, 0, 10, []), (5, .if_icmp .ge 26, 3, 31, 0, 0, []), (8, .aload_n 0, 1, 0, 0, 0, []), (9, .getfield 15, 3, 4, 1, 0, []), (12, .iload_n 2, 1, 0, 0, 0, []), (13, .iaload, 1, 0, 0, 0, []), (14, .iload_n 1, 1, 0, 0, 0, []), (15, .if_icmp .ne 10, 3, 25, 0, 0, []), (18, .aload_n 0, 1, 0, 0, 0, []), (19, .getfield 15, 3, 4, 1, 0, []), (22, .iload_n 2, 1, 0, 0, 0, []), (23, .iconst (-1), 1, 0, 0, (-1), []), (24, .iastore, 1, 0, 0, 0, []), (25, .iinc 2 1, 3, 0, 0, 1, []), (28, .goto (-26), 3, 2, 0, 0, []), (31, .return_, 1, 0, 0, 0, [])]
set_option maxRecDepth 100000 in
theorem cdo_56 : cdM 56 cd_56 := (⟨by unfold ciOK; decide +kernel, by decide +kernel⟩ : cdOK prog_6_method_6_code 4 3 false cd_56)
-- 57: WatchValley_make
def cd_57 : List CI := [(0, .aload_n 0, 1, 0, 0, 0, []), (1, .iload_n 1, 1, 0, 0, 0, []), (2, .iconst 0, 1, 0, 0, 0, []), (3, .invokevirtual 229, 3, 46, 0, 0, []), (6, .astore 4, 2, 0, 0, 0, []), (8, .aload_n 0, 1, 0, 0, 0, []), (9, .iload_n 2, 1, 0, 0, 0, []), (10, .iconst 1, 1, 0, 0, 1, []), (11, .invokevirtual 229, 3, 46, 0, 0, []), (14, .astore 5, 2, 0, 0, 0, []), (16, .aload_n 0, 1, 0, 0, 0, []), (17, .iload_n 3, 1, 0, 0, 0, []), (18, .iconst 2, 1, 0, 0, 2, []), (19, .invokevirtual 229, 3, 46, 0, 0, []), (22, .astore 6, 2, 0, 0, 0, []), (24, .aload 4, 2, 0, 0, 0, []), (26, .ifnull 13, 3, 39, 0, 0, []), (29, .aload 5, 2, 0, 0, 0, []), (31, .ifnull 8, 3, 39, 0, 0, []), (34, .aload 6, 2, 0, 0, 0, []), (36, .ifnonnull 5, 3, 41, 0, 0, []), (39, .iconst (-1), 1, 0, 0, (-1), []), (40, .ireturn, 1, 0, 0, 0, []), (41, .aload_n 0, 1, 0, 0, 0, []), (42, .getfield 46, 3, 9, 6, 0, []), (45, .aload 4, 2, 0, 0, 0, []), (47, .aload 5, 2, 0, 0, 0, []), (49, .aload 6, 2, 0, 0, 0, []), (51, .aload_n 0, 1, 0, 0, 0, []), (52, .getfield 36, 3, 9, 4, 0, []), (55, .aload_n 0, 1, 0, 0, 0, []), (56, .getfield 40, 3, 9, 5, 0, []), (59, .invokevirtual 233, 3, 47, 0, 0, []), (62, .aload_n 0, 1, 0, 0, 0, []), (63, .getfield 46, 3, 9, 6, 0, []), (66, .invokevirtual 237, 3, 52, 0, 0, []), (69, .istore 7, 2, 0, 0, 0, []), (71, .aload_n 0, 1, 0, 0, 0, []), (72, .getfield 46, 3, 9, 6, 0, []), (75, .invokevirtual 240, 3, 58, 0, 0, []), (78, .iconst 0, 1, 0, 0, 0, []), (79, .istore 8, 2, 0, 0, 0, []), (81, .iload 8, 2, 0, 0, 0, []), (83, .bipush 10, 2, 0, 0, 10, []), (85, .if_icmp .ge 60, 3, 145, 0, 0, []), (88, .aload_n 0, 1, 0, 0, 0, []), (89, .getfield 46, 3, 9, 6, 0, []), (92, .iload 8, 2, 0, 0, 0, []), (94, .invokevirtual 243, 3, 62, 0, 0, []), (97, .ifCond .eq 42, 3, 139, 0, 0, []), (100, .aload_n 0, 1, 0, 0, 0, []), (101, .aload 4, 2, 0, 0, 0, []), (103, .aload_n 0, 1, 0, 0, 0, []), (104, .getfield 46, 3, 9, 6, 0, []), (107, .iload 8, 2, 0, 0, 0, []), (109, .invokevirtual 247, 3, 63, 0, 0, []), (112, .invokevirtual 153, 3, 37, 0, 0, []), (115, .aload 5, 2, 0, 0, 0, []), (117, .iload 8, 2, 0, 0, 0, []), (119, .invokevirtual 153, 3, 37, 0, 0, []), (122, .aload 6, 2, 0, 0, 0, []), (124, .aload_n 0, 1, 0, 0, 0, []), (125, .getfield 46, 3, 9, 6, 0, []), (128, .iload 8, 2, 0, 0, 0, []), (130, .invokevirtual 251, 3, 65, 0, 0, []), (133, .invokevirtual 153, 3, 37, 0, 0, []), (136, .invokevirtual 254, 3, 66, 0, 0, []), (139, .iinc 8 1, 3, 0, 0, 1, []), (142, .goto (-61), 3, 81, 0, 0, []), (145, .aload 4, 2, 0, 0, 0, []), (147, .invokevirtual 258, 3, 68, 0, 0, []), (150, .aload 5, 2, 0, 0, 0, []), (152, .invokevirtual 258, 3, 68, 0, 0, []), (155, .aload 6, 2, 0, 0, 0, []), (157, .invokevirtual 258, 3, 68, 0, 0, []), (160, .iload 7, 2, 0, 0, 0, []), (162, .ireturn, 1, 0, 0, 0, [])]
set_option maxRecDepth 100000 in
theorem cdo_57 : cdM 57 cd_57 := (⟨by unfold ciOK; decide +kernel, by decide +kernel⟩ : cdOK prog_1_method_18_code 9 9 false cd_57)
-- 58: Making_chooseMates
def cd_58 : List CI := [(0, .aload_n 0, 1, 0, 0, 0, []), (1, .getfield 12, 3, 3, 0, 0, []), (4, .aload_n 0, 1, 0, 0, 0, []), (5, .getfield 47, 3, 3, 4, 0, []), (8, .invokevirtual 58, 3, 59, 0, 0, []), (11, .aload_n 0, 1, 0, 0, 0, []), (12, .getfield 18, 3, 3, 1, 0, []), (15, .aload_n 0, 1, 0, 0, 0, []), (16, .getfield 47, 3, 3, 4, 0, []), (19, .invokevirtual 58, 3, 59, 0, 0, []), (22, .return_, 1, 0, 0, 0, [])]
set_option maxRecDepth 100000 in
theorem cdo_58 : cdM 58 cd_58 := (⟨by unfold ciOK; decide +kernel, by decide +kernel⟩ : cdOK prog_5_method_5_code 3 1 false cd_58)
-- 59: Mates_settle
def cd_59 : List CI := [(0, .iconst 0, 1, 0, 0, 0, []), (1, .istore_n 2, 1, 0, 0, 0, []), (2, .iload_n 2, 1, 0, 0, 0, []), (3, .bipush 10, 2, 0, 0, 10, []), (5, .if_icmp .ge 30, 3, 35, 0, 0, []), (8, .iload_n 1, 1, 0, 0, 0, []), (9, .iload_n 2, 1, 0, 0, 0, []), (10, .ishr, 1, 0, 0, 0, []), (11, .iconst 1, 1, 0, 0, 1, []), (12, .iand, 1, 0, 0, 0, []), (13, .iconst 1, 1, 0, 0, 1, []), (14, .if_icmp .ne 15, 3, 29, 0, 0, []), (17, .aload_n 0, 1, 0, 0, 0, []), (18, .getfield 18, 3, 4, 2, 0, []), (21, .iload_n 2, 1, 0, 0, 0, []), (22, .aload_n 0, 1, 0, 0, 0, []), (23, .iload_n 2, 1, 0, 0, 0, []), (24, .iload_n 1, 1, 0, 0, 0, []), (25, .invokevirtual 59, 3, 60, 0, 0, []), (28, .iastore, 1, 0, 0, 0, []), (29, .iinc 2 1, 3, 0, 0, 1, []), (32, .goto (-30), 3, 2, 0, 0, []), (35, .return_, 1, 0, 0, 0, [])]
set_option maxRecDepth 100000 in
theorem cdo_59 : cdM 59 cd_59 := (⟨by unfold ciOK; decide +kernel, by decide +kernel⟩ : cdOK prog_6_method_7_code 4 3 false cd_59)
-- 60: Mates_firstPlaceFor
def cd_60 : List CI := [(0, .iload_n 1, 1, 0, 0, 0, []), (1, .ifCond .lt 9, 3, 10, 0, 0, []), (4, .iload_n 1, 1, 0, 0, 0, []), (5, .bipush 10, 2, 0, 0, 10, []), (7, .if_icmp .lt 5, 3, 12, 0, 0, []), (10, .iconst (-1), 1, 0, 0, (-1), []), (11, .ireturn, 1, 0, 0, 0, []), (12, .iconst 0, 1, 0, 0, 0, []), (13, .istore_n 3, 1, 0, 0, 0, []), (14, .iload_n 3, 1, 0, 0, 0, []), (15, .bipush 10, 2, 0, 0, 10, []), (17, .if_icmp .ge 71, 3, 88, 0, 0, []), (20, .iconst 1, 1, 0, 0, 1, []), (21, .iload_n 3, 1, 0, 0, 0, []), (22, .ishl, 1, 0, 0, 0, []), (23, .istore 4, 2, 0, 0, 0, []), (25, .aload_n 0, 1, 0, 0, 0, []), (26, .getfield 9, 3, 4, 0, 0, []), (29, .iload_n 1, 1, 0, 0, 0, []), (30, .iaload, 1, 0, 0, 0, []), (31, .aload_n 0, 1, 0, 0, 0, []), (32, .getfield 27, 3, 4, 3, 0, []), (35, .iconst (-1), 1, 0, 0, (-1), []), (36, .ixor, 1, 0, 0, 0, []), (37, .iand, 1, 0, 0, 0, []), (38, .iload 4, 2, 0, 0, 0, []), (40, .iand, 1, 0, 0, 0, []), (41, .ifCond .ne 6, 3, 47, 0, 0, []), (44, .goto 38, 3, 82, 0, 0, []), (47, .aload_n 0, 1, 0, 0, 0, []), (48, .dup, 1, 0, 0, 0, []), (49, .getfield 27, 3, 4, 3, 0, []), (52, .iload 4, 2, 0, 0, 0, []), (54, .ior, 1, 0, 0, 0, []), (55, .putfield 27, 3, 4, 3, 0, []), (58, .aload_n 0, 1, 0, 0, 0, []), (59, .iload_n 1, 1, 0, 0, 0, []), (60, .iload_n 2, 1, 0, 0, 0, []), (61, .invokevirtual 63, 3, 61, 0, 0, []), (64, .ifCond .eq 5, 3, 69, 0, 0, []), (67, .iload_n 3, 1, 0, 0, 0, []), (68, .ireturn, 1, 0, 0, 0, []), (69, .aload_n 0, 1, 0, 0, 0, []), (70, .dup, 1, 0, 0, 0, []), (71, .getfield 27, 3, 4, 3, 0, []), (74, .iload 4, 2, 0, 0, 0, []), (76, .iconst (-1), 1, 0, 0, (-1), []), (77, .ixor, 1, 0, 0, 0, []), (78, .iand, 1, 0, 0, 0, []), (79, .putfield 27, 3, 4, 3, 0, []), (82, .iinc 3 1, 3, 0, 0, 1, []), (85, .goto (-71), 3, 14, 0, 0, []), (88, .iconst (-1), 1, 0, 0, (-1), []), (89, .ireturn, 1, 0, 0, 0, [])]
set_option maxRecDepth 100000 in
theorem cdo_60 : cdM 60 cd_60 := (⟨by unfold ciOK; decide +kernel, by decide +kernel⟩ : cdOK prog_6_method_8_code 4 5 false cd_60)
-- 61: Mates_canSeatBehind
def cd_61 : List CI := [(0, .aload_n 0, 1, 0, 0, 0, []), (1, .getfield 15, 3, 4, 1, 0, []), (4, .iconst (-1), 1, 0, 0, (-1), []), (5, .invokestatic 21, 3, 50, 0, 0, []), (8, .iload_n 1, 1, 0, 0, 0, []), (9, .iconst 1, 1, 0, 0, 1, []), (10, .iadd, 1, 0, 0, 0, []), (11, .istore_n 3, 1, 0, 0, 0, []), (12, .iload_n 3, 1, 0, 0, 0, []), (13, .bipush 10, 2, 0, 0, 10, []), (15, .if_icmp .ge 28, 3, 43, 0, 0, []), (18, .iload_n 2, 1, 0, 0, 0, []), (19, .iload_n 3, 1, 0, 0, 0, []), (20, .ishr, 1, 0, 0, 0, []), (21, .iconst 1, 1, 0, 0, 1, []), (22, .iand, 1, 0, 0, 0, []), (23, .iconst 1, 1, 0, 0, 1, []), (24, .if_icmp .ne 13, 3, 37, 0, 0, []), (27, .aload_n 0, 1, 0, 0, 0, []), (28, .iload_n 3, 1, 0, 0, 0, []), (29, .invokevirtual 66, 3, 54, 0, 0, []), (32, .ifCond .ne 5, 3, 37, 0, 0, []), (35, .iconst 0, 1, 0, 0, 0, []), (36, .ireturn, 1, 0, 0, 0, []), (37, .iinc 3 1, 3, 0, 0, 1, []), (40, .goto (-28), 3, 12, 0, 0, []), (43, .iconst 1, 1, 0, 0, 1, []), (44, .ireturn, 1, 0, 0, 0, [])]
set_option maxRecDepth 100000 in
theorem cdo_61 : cdM 61 cd_61 := (⟨by unfold ciOK; decide +kernel, by decide +kernel⟩ : cdOK prog_6_method_9_code 4 4 false cd_61)
-- 62: Making_takes
def cd_62 : List CI := [(0, .aload_n 0, 1, 0, 0, 0, []), (1, .getfield 47, 3, 3, 4, 0, []), (4, .iload_n 1, 1, 0, 0, 0, []), (5, .ishr, 1, 0, 0, 0, []), (6, .iconst 1, 1, 0, 0, 1, []), (7, .iand, 1, 0, 0, 0, []), (8, .iconst 1, 1, 0, 0, 1, []), (9, .if_icmp .ne 7, 3, 16, 0, 0, []), (12, .iconst 1, 1, 0, 0, 1, []), (13, .goto 4, 3, 17, 0, 0, []), (16, .iconst 0, 1, 0, 0, 0, []), (17, .ireturn, 1, 0, 0, 0, [])]
set_option maxRecDepth 100000 in
theorem cdo_62 : cdM 62 cd_62 := (⟨by unfold ciOK; decide +kernel, by decide +kernel⟩ : cdOK prog_5_method_6_code 3 2 false cd_62)
-- 63: Making_plateFor
def cd_63 : List CI := [(0, .aload_n 0, 1, 0, 0, 0, []), (1, .getfield 12, 3, 3, 0, 0, []), (4, .iload_n 1, 1, 0, 0, 0, []), (5, .invokevirtual 61, 3, 64, 0, 0, []), (8, .ireturn, 1, 0, 0, 0, [])]
set_option maxRecDepth 100000 in
theorem cdo_63 : cdM 63 cd_63 := (⟨by unfold ciOK; decide +kernel, by decide +kernel⟩ : cdOK prog_5_method_7_code 3 2 false cd_63)
-- 64: Mates_settledFor
def cd_64 : List CI := [(0, .iload_n 1, 1, 0, 0, 0, []), (1, .ifCond .lt 18, 3, 19, 0, 0, []), (4, .iload_n 1, 1, 0, 0, 0, []), (5, .bipush 10, 2, 0, 0, 10, []), (7, .if_icmp .ge 12, 3, 19, 0, 0, []), (10, .aload_n 0, 1, 0, 0, 0, []), (11, .getfield 18, 3, 4, 2, 0, []), (14, .iload_n 1, 1, 0, 0, 0, []), (15, .iaload, 1, 0, 0, 0, []), (16, .goto 4, 3, 20, 0, 0, []), (19, .iconst (-1), 1, 0, 0, (-1), []), (20, .ireturn, 1, 0, 0, 0, [])]
set_option maxRecDepth 100000 in
theorem cdo_64 : cdM 64 cd_64 := (⟨by unfold ciOK; decide +kernel, by decide +kernel⟩ : cdOK prog_6_method_10_code 4 2 false cd_64)
-- 65: Making_stoneFor
def cd_65 : List CI := [(0, .aload_n 0, 1, 0, 0, 0, []), (1, .getfield 18, 3, 3, 1, 0, []), (4, .iload_n 1, 1, 0, 0, 0, []), (5, .invokevirtual 61, 3, 64, 0, 0, []), (8, .ireturn, 1, 0, 0, 0, [])]
set_option maxRecDepth 100000 in
theorem cdo_65 : cdM 65 cd_65 := (⟨by unfold ciOK; decide +kernel, by decide +kernel⟩ : cdOK prog_5_method_8_code 3 2 false cd_65)
-- 66: WatchValley_assemble
def cd_66 : List CI := [(0, .aload_n 1, 1, 0, 0, 0, []), (1, .ifnull 20, 3, 21, 0, 0, []), (4, .aload_n 2, 1, 0, 0, 0, []), (5, .ifnull 16, 3, 21, 0, 0, []), (8, .aload_n 3, 1, 0, 0, 0, []), (9, .ifnull 12, 3, 21, 0, 0, []), (12, .aload_n 0, 1, 0, 0, 0, []), (13, .getfield 141, 3, 9, 10, 0, []), (16, .bipush 100, 2, 0, 0, 100, []), (18, .if_icmp .lt 4, 3, 22, 0, 0, []), (21, .return_, 1, 0, 0, 0, []), (22, .aload_n 1, 1, 0, 0, 0, []), (23, .iconst 2, 1, 0, 0, 2, []), (24, .aload_n 0, 1, 0, 0, 0, []), (25, .getfield 141, 3, 9, 10, 0, []), (28, .invokevirtual 292, 3, 29, 0, 0, []), (31, .aload_n 2, 1, 0, 0, 0, []), (32, .iconst 2, 1, 0, 0, 2, []), (33, .aload_n 0, 1, 0, 0, 0, []), (34, .getfield 141, 3, 9, 10, 0, []), (37, .invokevirtual 292, 3, 29, 0, 0, []), (40, .aload_n 3, 1, 0, 0, 0, []), (41, .iconst 2, 1, 0, 0, 2, []), (42, .aload_n 0, 1, 0, 0, 0, []), (43, .getfield 141, 3, 9, 10, 0, []), (46, .invokevirtual 292, 3, 29, 0, 0, []), (49, .aload_n 0, 1, 0, 0, 0, []), (50, .getfield 29, 3, 9, 3, 0, []), (53, .aload_n 0, 1, 0, 0, 0, []), (54, .getfield 141, 3, 9, 10, 0, []), (57, .new 27, 3, 8, 0, 0, []), (60, .dup, 1, 0, 0, 0, []), (61, .aload_n 1, 1, 0, 0, 0, []), (62, .aload_n 2, 1, 0, 0, 0, []), (63, .aload_n 3, 1, 0, 0, 0, []), (64, .invokespecial 295, 3, 67, 0, 0, []), (67, .aastore, 1, 0, 0, 0, []), (68, .aload_n 0, 1, 0, 0, 0, []), (69, .dup, 1, 0, 0, 0, []), (70, .getfield 141, 3, 9, 10, 0, []), (73, .iconst 1, 1, 0, 0, 1, []), (74, .iadd, 1, 0, 0, 0, []), (75, .putfield 141, 3, 9, 10, 0, []), (78, .return_, 1, 0, 0, 0, [])]
set_option maxRecDepth 100000 in
theorem cdo_66 : cdM 66 cd_66 := (⟨by unfold ciOK; decide +kernel, by decide +kernel⟩ : cdOK prog_1_method_31_code 9 4 false cd_66)
-- 67: Watch_init
def cd_67 : List CI := [(0, .aload_n 0, 1, 0, 0, 0, []), (1, .invokespecial 1, 3, 0, 2, 0, []), (4, .aload_n 0, 1, 0, 0, 0, []), (5, .aload_n 1, 1, 0, 0, 0, []), (6, .putfield 7, 3, 8, 0, 0, []), (9, .aload_n 0, 1, 0, 0, 0, []), (10, .aload_n 2, 1, 0, 0, 0, []), (11, .putfield 13, 3, 8, 1, 0, []), (14, .aload_n 0, 1, 0, 0, 0, []), (15, .aload_n 3, 1, 0, 0, 0, []), (16, .putfield 16, 3, 8, 2, 0, []), (19, .return_, 1, 0, 0, 0, [])]
set_option maxRecDepth 100000 in
theorem cdo_67 : cdM 67 cd_67 := (⟨by unfold ciOK; decide +kernel, by decide +kernel⟩ : cdOK prog_10_method_1_code 8 4 true cd_67)
-- 68: Lot_dropTaken
def cd_68 : List CI := [(0, .aconst_null, 1, 0, 0, 0, []), (1, .astore_n 1, 1, 0, 0, 0, []), (2, .aload_n 0, 1, 0, 0, 0, []), (3, .getfield 33, 3, 2, 2, 0, []), (6, .astore_n 2, 1, 0, 0, 0, []), (7, .aload_n 2, 1, 0, 0, 0, []), (8, .ifnull 29, 3, 37, 0, 0, []), (11, .aload_n 2, 1, 0, 0, 0, []), (12, .getfield 47, 3, 5, 5, 0, []), (15, .ifCond .ne 8, 3, 23, 0, 0, []), (18, .aload_n 2, 1, 0, 0, 0, []), (19, .astore_n 1, 1, 0, 0, 0, []), (20, .goto 9, 3, 29, 0, 0, []), (23, .aload_n 0, 1, 0, 0, 0, []), (24, .aload_n 1, 1, 0, 0, 0, []), (25, .aload_n 2, 1, 0, 0, 0, []), (26, .invokevirtual 39, 3, 16, 0, 0, []), (29, .aload_n 2, 1, 0, 0, 0, []), (30, .getfield 26, 3, 5, 7, 0, []), (33, .astore_n 2, 1, 0, 0, 0, []), (34, .goto (-27), 3, 7, 0, 0, []), (37, .return_, 1, 0, 0, 0, [])]
set_option maxRecDepth 100000 in
theorem cdo_68 : cdM 68 cd_68 := (⟨by unfold ciOK; decide +kernel, by decide +kernel⟩ : cdOK prog_4_method_5_code 2 3 false cd_68)
-- 69: WatchValley_watch
def cd_69 : List CI := [(0, .aload_n 0, 1, 0, 0, 0, []), (1, .iload_n 1, 1, 0, 0, 0, []), (2, .invokevirtual 261, 3, 33, 0, 0, []), (5, .astore_n 3, 1, 0, 0, 0, []), (6, .aload_n 3, 1, 0, 0, 0, []), (7, .ifnonnull 5, 3, 12, 0, 0, []), (10, .iconst (-1), 1, 0, 0, (-1), []), (11, .ireturn, 1, 0, 0, 0, []), (12, .iload_n 2, 1, 0, 0, 0, []), (13, .tableswitch 77 0 4 #[35, 43, 51, 59, 72], 35, 90, 0, 0, [48, 56, 64, 72, 85]), (48, .aload_n 3, 1, 0, 0, 0, []), (49, .getfield 265, 3, 8, 0, 0, []), (52, .getfield 157, 3, 5, 0, 0, []), (55, .ireturn, 1, 0, 0, 0, []), (56, .aload_n 3, 1, 0, 0, 0, []), (57, .getfield 269, 3, 8, 1, 0, []), (60, .getfield 157, 3, 5, 0, 0, []), (63, .ireturn, 1, 0, 0, 0, []), (64, .aload_n 3, 1, 0, 0, 0, []), (65, .getfield 272, 3, 8, 2, 0, []), (68, .getfield 157, 3, 5, 0, 0, []), (71, .ireturn, 1, 0, 0, 0, []), (72, .aload_n 3, 1, 0, 0, 0, []), (73, .getfield 275, 3, 8, 3, 0, []), (76, .ifCond .eq 7, 3, 83, 0, 0, []), (79, .iconst 1, 1, 0, 0, 1, []), (80, .goto 4, 3, 84, 0, 0, []), (83, .iconst 0, 1, 0, 0, 0, []), (84, .ireturn, 1, 0, 0, 0, []), (85, .aload_n 3, 1, 0, 0, 0, []), (86, .invokevirtual 279, 3, 70, 0, 0, []), (89, .ireturn, 1, 0, 0, 0, []), (90, .iconst (-1), 1, 0, 0, (-1), []), (91, .ireturn, 1, 0, 0, 0, [])]
set_option maxRecDepth 100000 in
theorem cdo_69 : cdM 69 cd_69 := (⟨by unfold ciOK; decide +kernel, by decide +kernel⟩ : cdOK prog_1_method_19_code 9 4 false cd_69)
-- 70: Watch_homesThatWorked
def cd_70 : List CI := [(0, .aload_n 0, 1, 0, 0, 0, []), (1, .getfield 7, 3, 8, 0, 0, []), (4, .getfield 19, 3, 5, 4, 0, []), (7, .aload_n 0, 1, 0, 0, 0, []), (8, .getfield 13, 3, 8, 1, 0, []), (11, .getfield 19, 3, 5, 4, 0, []), (14, .ior, 1, 0, 0, 0, []), (15, .aload_n 0, 1, 0, 0, 0, []), (16, .getfield 16, 3, 8, 2, 0, []), (19, .getfield 19, 3, 5, 4, 0, []), (22, .ior, 1, 0, 0, 0, []), (23, .ireturn, 1, 0, 0, 0, [])]
set_option maxRecDepth 100000 in
theorem cdo_70 : cdM 70 cd_70 := (⟨by unfold ciOK; decide +kernel, by decide +kernel⟩ : cdOK prog_10_method_2_code 8 1 false cd_70)
-- 71: WatchValley_back
def cd_71 : List CI := [(0, .aload_n 0, 1, 0, 0, 0, []), (1, .iload_n 1, 1, 0, 0, 0, []), (2, .invokevirtual 261, 3, 33, 0, 0, []), (5, .astore_n 3, 1, 0, 0, 0, []), (6, .aload_n 3, 1, 0, 0, 0, []), (7, .ifnonnull 5, 3, 12, 0, 0, []), (10, .iconst 0, 1, 0, 0, 0, []), (11, .ireturn, 1, 0, 0, 0, []), (12, .aload_n 3, 1, 0, 0, 0, []), (13, .iload_n 2, 1, 0, 0, 0, []), (14, .putfield 275, 3, 8, 3, 0, []), (17, .iconst 1, 1, 0, 0, 1, []), (18, .ireturn, 1, 0, 0, 0, [])]
set_option maxRecDepth 100000 in
theorem cdo_71 : cdM 71 cd_71 := (⟨by unfold ciOK; decide +kernel, by decide +kernel⟩ : cdOK prog_1_method_20_code 9 4 false cd_71)
-- 72: WatchValley_counts
def cd_72 : List CI := [(0, .aload_n 0, 1, 0, 0, 0, []), (1, .iload_n 1, 1, 0, 0, 0, []), (2, .invokevirtual 92, 3, 19, 0, 0, []), (5, .ifnonnull 5, 3, 10, 0, 0, []), (8, .iconst (-1), 1, 0, 0, (-1), []), (9, .ireturn, 1, 0, 0, 0, []), (10, .iload_n 2, 1, 0, 0, 0, []), (11, .lookupswitch 39 #[(0, 25), (1, 32)], 25, 50, 0, 0, [36, 43]), (36, .aload_n 0, 1, 0, 0, 0, []), (37, .iload_n 1, 1, 0, 0, 0, []), (38, .iconst 0, 1, 0, 0, 0, []), (39, .invokevirtual 282, 3, 73, 0, 0, []), (42, .ireturn, 1, 0, 0, 0, []), (43, .aload_n 0, 1, 0, 0, 0, []), (44, .iload_n 1, 1, 0, 0, 0, []), (45, .iconst 1, 1, 0, 0, 1, []), (46, .invokevirtual 282, 3, 73, 0, 0, []), (49, .ireturn, 1, 0, 0, 0, []), (50, .iconst (-1), 1, 0, 0, (-1), []), (51, .ireturn, 1, 0, 0, 0, [])]
set_option maxRecDepth 100000 in
theorem cdo_72 : cdM 72 cd_72 := (⟨by unfold ciOK; decide +kernel, by decide +kernel⟩ : cdOK prog_1_method_21_code 9 3 false cd_72)
-- 73: WatchValley_watchesOf
def cd_73 : List CI := [(0, .iconst 0, 1, 0, 0, 0, []), (1, .istore_n 3, 1, 0, 0, 0, []), (2, .iconst 0, 1, 0, 0, 0, []), (3, .istore 4, 2, 0, 0, 0, []), (5, .iload 4, 2, 0, 0, 0, []), (7, .aload_n 0, 1, 0, 0, 0, []), (8, .getfield 141, 3, 9, 10, 0, []), (11, .if_icmp .ge 46, 3, 57, 0, 0, []), (14, .aload_n 0, 1, 0, 0, 0, []), (15, .iload 4, 2, 0, 0, 0, []), (17, .invokevirtual 261, 3, 33, 0, 0, []), (20, .astore 5, 2, 0, 0, 0, []), (22, .aload 5, 2, 0, 0, 0, []), (24, .ifnull 27, 3, 51, 0, 0, []), (27, .aload 5, 2, 0, 0, 0, []), (29, .iload_n 1, 1, 0, 0, 0, []), (30, .invokevirtual 297, 3, 74, 0, 0, []), (33, .ifCond .eq 18, 3, 51, 0, 0, []), (36, .aload 5, 2, 0, 0, 0, []), (38, .getfield 275, 3, 8, 3, 0, []), (41, .ifCond .ne 7, 3, 48, 0, 0, []), (44, .iload_n 2, 1, 0, 0, 0, []), (45, .ifCond .ne 6, 3, 51, 0, 0, []), (48, .iinc 3 1, 3, 0, 0, 1, []), (51, .iinc 4 1, 3, 0, 0, 1, []), (54, .goto (-49), 3, 5, 0, 0, []), (57, .iload_n 3, 1, 0, 0, 0, []), (58, .ireturn, 1, 0, 0, 0, [])]
set_option maxRecDepth 100000 in
theorem cdo_73 : cdM 73 cd_73 := (⟨by unfold ciOK; decide +kernel, by decide +kernel⟩ : cdOK prog_1_method_35_code 9 6 false cd_73)
-- 74: Watch_wasWorkedBy
def cd_74 : List CI := [(0, .aload_n 0, 1, 0, 0, 0, []), (1, .invokevirtual 25, 3, 70, 0, 0, []), (4, .iload_n 1, 1, 0, 0, 0, []), (5, .ishr, 1, 0, 0, 0, []), (6, .iconst 1, 1, 0, 0, 1, []), (7, .iand, 1, 0, 0, 0, []), (8, .iconst 1, 1, 0, 0, 1, []), (9, .if_icmp .ne 7, 3, 16, 0, 0, []), (12, .iconst 1, 1, 0, 0, 1, []), (13, .goto 4, 3, 17, 0, 0, []), (16, .iconst 0, 1, 0, 0, 0, []), (17, .ireturn, 1, 0, 0, 0, [])]
set_option maxRecDepth 100000 in
theorem cdo_74 : cdM 74 cd_74 := (⟨by unfold ciOK; decide +kernel, by decide +kernel⟩ : cdOK prog_10_method_3_code 8 2 false cd_74)
-- 75: WatchValley_suspect
def cd_75 : List CI := [(0, .iload_n 1, 1, 0, 0, 0, []), (1, .iconst 1, 1, 0, 0, 1, []), (2, .if_icmp .lt 9, 3, 11, 0, 0, []), (5, .iload_n 1, 1, 0, 0, 0, []), (6, .bipush 100, 2, 0, 0, 100, []), (8, .if_icmp .le 5, 3, 13, 0, 0, []), (11, .iconst (-1), 1, 0, 0, (-1), []), (12, .ireturn, 1, 0, 0, 0, []), (13, .iconst (-1), 1, 0, 0, (-1), []), (14, .istore_n 2, 1, 0, 0, 0, []), (15, .iconst 0, 1, 0, 0, 0, []), (16, .istore_n 3, 1, 0, 0, 0, []), (17, .iconst 1, 1, 0, 0, 1, []), (18, .istore 4, 2, 0, 0, 0, []), (20, .iconst 0, 1, 0, 0, 0, []), (21, .istore 5, 2, 0, 0, 0, []), (23, .iload 5, 2, 0, 0, 0, []), (25, .aload_n 0, 1, 0, 0, 0, []), (26, .getfield 50, 3, 9, 9, 0, []), (29, .if_icmp .ge 55, 3, 84, 0, 0, []), (32, .aload_n 0, 1, 0, 0, 0, []), (33, .iload 5, 2, 0, 0, 0, []), (35, .iconst 1, 1, 0, 0, 1, []), (36, .invokevirtual 282, 3, 73, 0, 0, []), (39, .istore 6, 2, 0, 0, 0, []), (41, .aload_n 0, 1, 0, 0, 0, []), (42, .iload 5, 2, 0, 0, 0, []), (44, .iconst 0, 1, 0, 0, 0, []), (45, .invokevirtual 282, 3, 73, 0, 0, []), (48, .istore 7, 2, 0, 0, 0, []), (50, .iload 6, 2, 0, 0, 0, []), (52, .iload_n 1, 1, 0, 0, 0, []), (53, .if_icmp .lt 25, 3, 78, 0, 0, []), (56, .iload 6, 2, 0, 0, 0, []), (58, .iload 4, 2, 0, 0, 0, []), (60, .imul, 1, 0, 0, 0, []), (61, .iload_n 3, 1, 0, 0, 0, []), (62, .iload 7, 2, 0, 0, 0, []), (64, .imul, 1, 0, 0, 0, []), (65, .if_icmp .le 13, 3, 78, 0, 0, []), (68, .iload 5, 2, 0, 0, 0, []), (70, .istore_n 2, 1, 0, 0, 0, []), (71, .iload 6, 2, 0, 0, 0, []), (73, .istore_n 3, 1, 0, 0, 0, []), (74, .iload 7, 2, 0, 0, 0, []), (76, .istore 4, 2, 0, 0, 0, []), (78, .iinc 5 1, 3, 0, 0, 1, []), (81, .goto (-58), 3, 23, 0, 0, []), (84, .iload_n 2, 1, 0, 0, 0, []), (85, .ireturn, 1, 0, 0, 0, [])]
set_option maxRecDepth 100000 in
theorem cdo_75 : cdM 75 cd_75 := (⟨by unfold ciOK; decide +kernel, by decide +kernel⟩ : cdOK prog_1_method_22_code 9 8 false cd_75)
-- 76: WatchValley_recall
def cd_76 : List CI := [(0, .aload_n 0, 1, 0, 0, 0, []), (1, .iload_n 1, 1, 0, 0, 0, []), (2, .invokevirtual 127, 3, 14, 0, 0, []), (5, .ifnonnull 5, 3, 10, 0, 0, []), (8, .iconst (-1), 1, 0, 0, (-1), []), (9, .ireturn, 1, 0, 0, 0, []), (10, .iconst 0, 1, 0, 0, 0, []), (11, .istore_n 2, 1, 0, 0, 0, []), (12, .iconst 0, 1, 0, 0, 0, []), (13, .istore_n 3, 1, 0, 0, 0, []), (14, .iload_n 3, 1, 0, 0, 0, []), (15, .aload_n 0, 1, 0, 0, 0, []), (16, .getfield 141, 3, 9, 10, 0, []), (19, .if_icmp .ge 33, 3, 52, 0, 0, []), (22, .aload_n 0, 1, 0, 0, 0, []), (23, .iload_n 3, 1, 0, 0, 0, []), (24, .invokevirtual 261, 3, 33, 0, 0, []), (27, .astore 4, 2, 0, 0, 0, []), (29, .aload 4, 2, 0, 0, 0, []), (31, .ifnull 15, 3, 46, 0, 0, []), (34, .aload 4, 2, 0, 0, 0, []), (36, .iload_n 1, 1, 0, 0, 0, []), (37, .invokevirtual 286, 3, 77, 0, 0, []), (40, .ifCond .eq 6, 3, 46, 0, 0, []), (43, .iinc 2 1, 3, 0, 0, 1, []), (46, .iinc 3 1, 3, 0, 0, 1, []), (49, .goto (-35), 3, 14, 0, 0, []), (52, .iload_n 2, 1, 0, 0, 0, []), (53, .ireturn, 1, 0, 0, 0, [])]
set_option maxRecDepth 100000 in
theorem cdo_76 : cdM 76 cd_76 := (⟨by unfold ciOK; decide +kernel, by decide +kernel⟩ : cdOK prog_1_method_23_code 9 5 false cd_76)
-- 77: Watch_hasRaw
def cd_77 : List CI := [(0, .aload_n 0, 1, 0, 0, 0, []), (1, .getfield 7, 3, 8, 0, 0, []), (4, .getfield 29, 3, 5, 2, 0, []), (7, .iload_n 1, 1, 0, 0, 0, []), (8, .if_icmp .eq 25, 3, 33, 0, 0, []), (11, .aload_n 0, 1, 0, 0, 0, []), (12, .getfield 13, 3, 8, 1, 0, []), (15, .getfield 29, 3, 5, 2, 0, []), (18, .iload_n 1, 1, 0, 0, 0, []), (19, .if_icmp .eq 14, 3, 33, 0, 0, []), (22, .aload_n 0, 1, 0, 0, 0, []), (23, .getfield 16, 3, 8, 2, 0, []), (26, .getfield 29, 3, 5, 2, 0, []), (29, .iload_n 1, 1, 0, 0, 0, []), (30, .if_icmp .ne 7, 3, 37, 0, 0, []), (33, .iconst 1, 1, 0, 0, 1, []), (34, .goto 4, 3, 38, 0, 0, []), (37, .iconst 0, 1, 0, 0, 0, []), (38, .ireturn, 1, 0, 0, 0, [])]
set_option maxRecDepth 100000 in
theorem cdo_77 : cdM 77 cd_77 := (⟨by unfold ciOK; decide +kernel, by decide +kernel⟩ : cdOK prog_10_method_4_code 8 2 false cd_77)
-- 80: Home_dueAsKnown
def cd_80 : List CI := [(0, .lconst 0, 1, 0, 0, 0, []), (1, .lstore_n 2, 1, 0, 0, 0, []), (2, .aload_n 0, 1, 0, 0, 0, []), (3, .getfield 85, 3, 1, 10, 0, []), (6, .astore 4, 2, 0, 0, 0, []), (8, .aload 4, 2, 0, 0, 0, []), (10, .ifnull 43, 3, 53, 0, 0, []), (13, .aload 4, 2, 0, 0, 0, []), (15, .getfield 89, 3, 6, 0, 0, []), (18, .iload_n 1, 1, 0, 0, 0, []), (19, .if_icmp .gt 24, 3, 43, 0, 0, []), (22, .lload_n 2, 1, 0, 0, 0, []), (23, .aload 4, 2, 0, 0, 0, []), (25, .getfield 94, 3, 6, 1, 0, []), (28, .i2l, 1, 0, 0, 0, []), (29, .aload_n 0, 1, 0, 0, 0, []), (30, .aload 4, 2, 0, 0, 0, []), (32, .getfield 89, 3, 6, 0, 0, []), (35, .iload_n 1, 1, 0, 0, 0, []), (36, .invokevirtual 97, 3, 81, 0, 0, []), (39, .i2l, 1, 0, 0, 0, []), (40, .lmul, 1, 0, 0, 0, []), (41, .ladd, 1, 0, 0, 0, []), (42, .lstore_n 2, 1, 0, 0, 0, []), (43, .aload 4, 2, 0, 0, 0, []), (45, .getfield 101, 3, 6, 2, 0, []), (48, .astore 4, 2, 0, 0, 0, []), (50, .goto (-42), 3, 8, 0, 0, []), (53, .lload_n 2, 1, 0, 0, 0, []), (54, .lreturn, 1, 0, 0, 0, [])]
set_option maxRecDepth 100000 in
theorem cdo_80 : cdM 80 cd_80 := (⟨by unfold ciOK; decide +kernel, by decide +kernel⟩ : cdOK prog_3_method_6_code 1 5 false cd_80)
-- 81: Home_wageFor
def cd_81 : List CI := [(0, .aconst_null, 1, 0, 0, 0, []), (1, .astore_n 3, 1, 0, 0, 0, []), (2, .aload_n 0, 1, 0, 0, 0, []), (3, .getfield 104, 3, 1, 11, 0, []), (6, .astore 4, 2, 0, 0, 0, []), (8, .aload 4, 2, 0, 0, 0, []), (10, .ifnull 50, 3, 60, 0, 0, []), (13, .aload 4, 2, 0, 0, 0, []), (15, .getfield 108, 3, 7, 0, 0, []), (18, .iload_n 2, 1, 0, 0, 0, []), (19, .if_icmp .gt 31, 3, 50, 0, 0, []), (22, .aload 4, 2, 0, 0, 0, []), (24, .getfield 113, 3, 7, 1, 0, []), (27, .iload_n 1, 1, 0, 0, 0, []), (28, .if_icmp .gt 22, 3, 50, 0, 0, []), (31, .aload_n 3, 1, 0, 0, 0, []), (32, .ifnull 15, 3, 47, 0, 0, []), (35, .aload 4, 2, 0, 0, 0, []), (37, .getfield 113, 3, 7, 1, 0, []), (40, .aload_n 3, 1, 0, 0, 0, []), (41, .getfield 113, 3, 7, 1, 0, []), (44, .if_icmp .le 6, 3, 50, 0, 0, []), (47, .aload 4, 2, 0, 0, 0, []), (49, .astore_n 3, 1, 0, 0, 0, []), (50, .aload 4, 2, 0, 0, 0, []), (52, .getfield 116, 3, 7, 3, 0, []), (55, .astore 4, 2, 0, 0, 0, []), (57, .goto (-49), 3, 8, 0, 0, []), (60, .aload_n 3, 1, 0, 0, 0, []), (61, .ifnonnull 7, 3, 68, 0, 0, []), (64, .iconst 0, 1, 0, 0, 0, []), (65, .goto 7, 3, 72, 0, 0, []), (68, .aload_n 3, 1, 0, 0, 0, []), (69, .getfield 118, 3, 7, 2, 0, []), (72, .ireturn, 1, 0, 0, 0, [])]
set_option maxRecDepth 100000 in
theorem cdo_81 : cdM 81 cd_81 := (⟨by unfold ciOK; decide +kernel, by decide +kernel⟩ : cdOK prog_3_method_7_code 1 5 false cd_81)
-- 114: Integer_bitCount
def cd_114 : List CI := [(0, .iload_n 0, 1, 0, 0, 0, []), (1, .iload_n 0, 1, 0, 0, 0, []), (2, .iconst 1, 1, 0, 0, 1, []), (3, .iushr, 1, 0, 0, 0, []), (4, .ldc_w 265, 3, 0, 0, 1431655765, []), (7, .iand, 1, 0, 0, 0, []), (8, .isub, 1, 0, 0, 0, []), (9, .istore_n 0, 1, 0, 0, 0, []), (10, .iload_n 0, 1, 0, 0, 0, []), (11, .ldc_w 266, 3, 0, 0, 858993459, []), (14, .iand, 1, 0, 0, 0, []), (15, .iload_n 0, 1, 0, 0, 0, []), (16, .iconst 2, 1, 0, 0, 2, []), (17, .iushr, 1, 0, 0, 0, []), (18, .ldc_w 266, 3, 0, 0, 858993459, []), (21, .iand, 1, 0, 0, 0, []), (22, .iadd, 1, 0, 0, 0, []), (23, .istore_n 0, 1, 0, 0, 0, []), (24, .iload_n 0, 1, 0, 0, 0, []), (25, .iload_n 0, 1, 0, 0, 0, []), (26, .iconst 4, 1, 0, 0, 4, []), (27, .iushr, 1, 0, 0, 0, []), (28, .iadd, 1, 0, 0, 0, []), (29, .ldc_w 267, 3, 0, 0, 252645135, []), (32, .iand, 1, 0, 0, 0, []), (33, .istore_n 0, 1, 0, 0, 0, []), (34, .iload_n 0, 1, 0, 0, 0, []), (35, .iload_n 0, 1, 0, 0, 0, []), (36, .bipush 8, 2, 0, 0, 8, []), (38, .iushr, 1, 0, 0, 0, []), (39, .iadd, 1, 0, 0, 0, []), (40, .istore_n 0, 1, 0, 0, 0, []), (41, .iload_n 0, 1, 0, 0, 0, []), (42, .iload_n 0, 1, 0, 0, 0, []), (43, .bipush 16, 2, 0, 0, 16, []), (45, .iushr, 1, 0, 0, 0, []), (46, .iadd, 1, 0, 0, 0, []), (47, .istore_n 0, 1, 0, 0, 0, []), (48, .iload_n 0, 1, 0, 0, 0, []), (49, .bipush 63, 2, 0, 0, 63, []), (51, .iand, 1, 0, 0, 0, []), (52, .ireturn, 1, 0, 0, 0, [])]
set_option maxRecDepth 100000 in
theorem cdo_114 : cdM 114 cd_114 := (⟨by unfold ciOK; decide +kernel, by decide +kernel⟩ : cdOK prog_14_method_49_code 12 1 false cd_114)
-- 117: Integer_numberOfTrailingZeros
def cd_117 : List CI := [(0, .iload_n 0, 1, 0, 0, 0, []), (1, .iconst (-1), 1, 0, 0, (-1), []), (2, .ixor, 1, 0, 0, 0, []), (3, .iload_n 0, 1, 0, 0, 0, []), (4, .iconst 1, 1, 0, 0, 1, []), (5, .isub, 1, 0, 0, 0, []), (6, .iand, 1, 0, 0, 0, []), (7, .istore_n 0, 1, 0, 0, 0, []), (8, .iload_n 0, 1, 0, 0, 0, []), (9, .ifCond .gt 8, 3, 17, 0, 0, []), (12, .iload_n 0, 1, 0, 0, 0, []), (13, .bipush 32, 2, 0, 0, 32, []), (15, .iand, 1, 0, 0, 0, []), (16, .ireturn, 1, 0, 0, 0, []), (17, .iconst 1, 1, 0, 0, 1, []), (18, .istore_n 1, 1, 0, 0, 0, []), (19, .iload_n 0, 1, 0, 0, 0, []), (20, .ldc_w 264, 3, 0, 0, 65536, []), (23, .if_icmp .le 11, 3, 34, 0, 0, []), (26, .iinc 1 16, 3, 0, 0, 16, []), (29, .iload_n 0, 1, 0, 0, 0, []), (30, .bipush 16, 2, 0, 0, 16, []), (32, .iushr, 1, 0, 0, 0, []), (33, .istore_n 0, 1, 0, 0, 0, []), (34, .iload_n 0, 1, 0, 0, 0, []), (35, .sipush 256, 3, 0, 0, 256, []), (38, .if_icmp .le 11, 3, 49, 0, 0, []), (41, .iinc 1 8, 3, 0, 0, 8, []), (44, .iload_n 0, 1, 0, 0, 0, []), (45, .bipush 8, 2, 0, 0, 8, []), (47, .iushr, 1, 0, 0, 0, []), (48, .istore_n 0, 1, 0, 0, 0, []), (49, .iload_n 0, 1, 0, 0, 0, []), (50, .bipush 16, 2, 0, 0, 16, []), (52, .if_icmp .le 10, 3, 62, 0, 0, []), (55, .iinc 1 4, 3, 0, 0, 4, []), (58, .iload_n 0, 1, 0, 0, 0, []), (59, .iconst 4, 1, 0, 0, 4, []), (60, .iushr, 1, 0, 0, 0, []), (61, .istore_n 0, 1, 0, 0, 0, []), (62, .iload_n 0, 1, 0, 0, 0, []), (63, .iconst 4, 1, 0, 0, 4, []), (64, .if_icmp .le 10, 3, 74, 0, 0, []), (67, .iinc 1 2, 3, 0, 0, 2, []), (70, .iload_n 0, 1, 0, 0, 0, []), (71, .iconst 2, 1, 0, 0, 2, []), (72, .iushr, 1, 0, 0, 0, []), (73, .istore_n 0, 1, 0, 0, 0, []), (74, .iload_n 1, 1, 0, 0, 0, []), (75, .iload_n 0, 1, 0, 0, 0, []), (76, .iconst 1, 1, 0, 0, 1, []), (77, .iushr, 1, 0, 0, 0, []), (78, .iadd, 1, 0, 0, 0, []), (79, .ireturn, 1, 0, 0, 0, [])]
set_option maxRecDepth 100000 in
theorem cdo_117 : cdM 117 cd_117 := (⟨by unfold ciOK; decide +kernel, by decide +kernel⟩ : cdOK prog_14_method_48_code 12 2 false cd_117)
end
section
/-! CODE LISTS of the reference -/
-- 82: WatchValleyModel_init
def cd_82 : List CI := [(0, .aload_n 0, 1, 0, 0, 0, []), (1, .invokespecial 1, 3, 0, 2, 0, []), (4, .aload_n 0, 1, 0, 0, 0, []), (5, .sipush 300, 3, 0, 0, 300, []), (8, .newarray .int, 2, 0, 0, 0, []), (10, .putfield 9, 3, 10, 0, 0, []), (13, .aload_n 0, 1, 0, 0, 0, []), (14, .sipush 300, 3, 0, 0, 300, []), (17, .newarray .int, 2, 0, 0, 0, []), (19, .putfield 13, 3, 10, 1, 0, []), (22, .aload_n 0, 1, 0, 0, 0, []), (23, .sipush 300, 3, 0, 0, 300, []), (26, .newarray .int, 2, 0, 0, 0, []), (28, .putfield 16, 3, 10, 2, 0, []), (31, .aload_n 0, 1, 0, 0, 0, []), (32, .sipush 300, 3, 0, 0, 300, []), (35, .newarray .int, 2, 0, 0, 0, []), (37, .putfield 19, 3, 10, 3, 0, []), (40, .aload_n 0, 1, 0, 0, 0, []), (41, .sipush 300, 3, 0, 0, 300, []), (44, .newarray .int, 2, 0, 0, 0, []), (46, .putfield 22, 3, 10, 4, 0, []), (49, .aload_n 0, 1, 0, 0, 0, []), (50, .sipush 300, 3, 0, 0, 300, []), (53, .newarray .int, 2, 0, 0, 0, []), (55, .putfield 25, 3, 10, 5, 0, []), (58, .aload_n 0, 1, 0, 0, 0, []), (59, .bipush 60, 2, 0, 0, 60, []), (61, .newarray .int, 2, 0, 0, 0, []), (63, .putfield 28, 3, 10, 7, 0, []), (66, .aload_n 0, 1, 0, 0, 0, []), (67, .sipush 18000, 3, 0, 0, 18000, []), (70, .newarray .int, 2, 0, 0, 0, []), (72, .putfield 31, 3, 10, 8, 0, []), (75, .aload_n 0, 1, 0, 0, 0, []), (76, .bipush 60, 2, 0, 0, 60, []), (78, .newarray .int, 2, 0, 0, 0, []), (80, .putfield 34, 3, 10, 9, 0, []), (83, .aload_n 0, 1, 0, 0, 0, []), (84, .bipush 60, 2, 0, 0, 60, []), (86, .newarray .int, 2, 0, 0, 0, []), (88, .putfield 37, 3, 10, 10, 0, []), (91, .aload_n 0, 1, 0, 0, 0, []), (92, .bipush 60, 2, 0, 0, 60, []), (94, .newarray .int, 2, 0, 0, 0, []), (96, .putfield 40, 3, 10, 11, 0, []), (99, .aload_n 0, 1, 0, 0, 0, []), (100, .bipush 60, 2, 0, 0, 60, []), (102, .newarray .int, 2, 0, 0, 0, []), (104, .putfield 43, 3, 10, 12, 0, []), (107, .aload_n 0, 1, 0, 0, 0, []), (108, .bipush 60, 2, 0, 0, 60, []), (110, .newarray .int, 2, 0, 0, 0, []), (112, .putfield 46, 3, 10, 13, 0, []), (115, .aload_n 0, 1, 0, 0, 0, []), (116, .bipush 60, 2, 0, 0, 60, []), (118, .newarray .int, 2, 0, 0, 0, []), (120, .putfield 49, 3, 10, 14, 0, []), (123, .aload_n 0, 1, 0, 0, 0, []), (124, .bipush 60, 2, 0, 0, 60, []), (126, .newarray .int, 2, 0, 0, 0, []), (128, .putfield 52, 3, 10, 15, 0, []), (131, .aload_n 0, 1, 0, 0, 0, []), (132, .bipush 9, 2, 0, 0, 9, []), (134, .newarray .int, 2, 0, 0, 0, []), (136, .putfield 55, 3, 10, 18, 0, []), (139, .aload_n 0, 1, 0, 0, 0, []), (140, .bipush 9, 2, 0, 0, 9, []), (142, .newarray .int, 2, 0, 0, 0, []), (144, .putfield 58, 3, 10, 19, 0, []), (147, .aload_n 0, 1, 0, 0, 0, []), (148, .bipush 9, 2, 0, 0, 9, []), (150, .newarray .int, 2, 0, 0, 0, []), (152, .putfield 61, 3, 10, 20, 0, []), (155, .aload_n 0, 1, 0, 0, 0, []), (156, .bipush 9, 2, 0, 0, 9, []), (158, .newarray .int, 2, 0, 0, 0, []), (160, .putfield 64, 3, 10, 21, 0, []), (163, .aload_n 0, 1, 0, 0, 0, []), (164, .bipush 9, 2, 0, 0, 9, []), (166, .newarray .int, 2, 0, 0, 0, []), (168, .putfield 67, 3, 10, 22, 0, []), (171, .aload_n 0, 1, 0, 0, 0, []), (172, .bipush 9, 2, 0, 0, 9, []), (174, .newarray .int, 2, 0, 0, 0, []), (176, .putfield 70, 3, 10, 23, 0, []), (179, .aload_n 0, 1, 0, 0, 0, []), (180, .sipush 500, 3, 0, 0, 500, []), (183, .newarray .int, 2, 0, 0, 0, []), (185, .putfield 73, 3, 10, 27, 0, []), (188, .aload_n 0, 1, 0, 0, 0, []), (189, .sipush 500, 3, 0, 0, 500, []), (192, .newarray .int, 2, 0, 0, 0, []), (194, .putfield 76, 3, 10, 28, 0, []), (197, .aload_n 0, 1, 0, 0, 0, []), (198, .sipush 500, 3, 0, 0, 500, []), (201, .newarray .int, 2, 0, 0, 0, []), (203, .putfield 79, 3, 10, 29, 0, []), (206, .aload_n 0, 1, 0, 0, 0, []), (207, .bipush 100, 2, 0, 0, 100, []), (209, .newarray .int, 2, 0, 0, 0, []), (211, .putfield 82, 3, 10, 31, 0, []), (214, .aload_n 0, 1, 0, 0, 0, []), (215, .bipush 100, 2, 0, 0, 100, []), (217, .newarray .int, 2, 0, 0, 0, []), (219, .putfield 85, 3, 10, 32, 0, []), (222, .aload_n 0, 1, 0, 0, 0, []), (223, .bipush 100, 2, 0, 0, 100, []), (225, .newarray .int, 2, 0, 0, 0, []), (227, .putfield 88, 3, 10, 33, 0, []), (230, .aload_n 0, 1, 0, 0, 0, []), (231, .bipush 100, 2, 0, 0, 100, []), (233, .newarray .int, 2, 0, 0, 0, []), (235, .putfield 91, 3, 10, 34, 0, []), (238, .aload_n 0, 1, 0, 0, 0, []), (239, .iconst 2, 1, 0, 0, 2, []), (240, .newarray .int, 2, 0, 0, 0, []), (242, .putfield 94, 3, 10, 36, 0, []), (245, .aload_n 0, 1, 0, 0, 0, []), (246, .iconst 2, 1, 0, 0, 2, []), (247, .newarray .int, 2, 0, 0, 0, []), (249, .putfield 97, 3, 10, 37, 0, []), (252, .aload_n 0, 1, 0, 0, 0, []), (253, .sipush 300, 3, 0, 0, 300, []), (256, .newarray .int, 2, 0, 0, 0, []), (258, .putfield 100, 3, 10, 38, 0, []), (261, .aload_n 0, 1, 0, 0, 0, []), (262, .bipush 100, 2, 0, 0, 100, []), (264, .newarray .boolean, 2, 1, 0, 0, []), (266, .putfield 103, 3, 10, 39, 0, []), (269, .aload_n 0, 1, 0, 0, 0, []), (270, .bipush 20, 2, 0, 0, 20, []), (272, .newarray .int, 2, 0, 0, 0, []), (274, .putfield 107, 3, 10, 42, 0, []), (277, .return_, 1, 0, 0, 0, [])]
set_option maxRecDepth 100000 in
theorem cdo_82 : cdM 82 cd_82 := (⟨by unfold ciOK; decide +kernel, by decide +kernel⟩ : cdOK prog_12_method_1_code 10 1 true cd_82)
-- 83: WatchValleyModel_thrown
def cd_83 : List CI := [(0, .aload_n 0, 1, 0, 0, 0, []), (1, .getfield 110, 3, 10, 41, 0, []), (4, .ireturn, 1, 0, 0, 0, [])]
set_option maxRecDepth 100000 in
theorem cdo_83 : cdM 83 cd_83 := (⟨by unfold ciOK; decide +kernel, by decide +kernel⟩ : cdOK prog_12_method_2_code 10 1 false cd_83)
-- 84: WatchValleyModel_home
def cd_84 : List CI := [(0, .aload_n 0, 1, 0, 0, 0, []), (1, .iconst 0, 1, 0, 0, 0, []), (2, .putfield 110, 3, 10, 41, 0, []), (5, .iload_n 1, 1, 0, 0, 0, []), (6, .iconst 1, 1, 0, 0, 1, []), (7, .bipush 20, 2, 0, 0, 20, []), (9, .invokestatic 117, 3, 85, 0, 0, []), (12, .ifCond .eq 44, 3, 56, 0, 0, []), (15, .iload_n 2, 1, 0, 0, 0, []), (16, .bipush (-9), 2, 0, 0, (-9), []), (18, .bipush 9, 2, 0, 0, 9, []), (20, .invokestatic 117, 3, 85, 0, 0, []), (23, .ifCond .eq 33, 3, 56, 0, 0, []), (26, .iload_n 3, 1, 0, 0, 0, []), (27, .iconst 0, 1, 0, 0, 0, []), (28, .bipush 30, 2, 0, 0, 30, []), (30, .invokestatic 117, 3, 85, 0, 0, []), (33, .ifCond .eq 23, 3, 56, 0, 0, []), (36, .iload 4, 2, 0, 0, 0, []), (38, .iconst 0, 1, 0, 0, 0, []), (39, .bipush 9, 2, 0, 0, 9, []), (41, .invokestatic 117, 3, 85, 0, 0, []), (44, .ifCond .eq 12, 3, 56, 0, 0, []), (47, .aload_n 0, 1, 0, 0, 0, []), (48, .getfield 124, 3, 10, 24, 0, []), (51, .bipush 9, 2, 0, 0, 9, []), (53, .if_icmp .ne 5, 3, 58, 0, 0, []), (56, .iconst (-1), 1, 0, 0, (-1), []), (57, .ireturn, 1, 0, 0, 0, []), (58, .aload_n 0, 1, 0, 0, 0, []), (59, .getfield 55, 3, 10, 18, 0, []), (62, .aload_n 0, 1, 0, 0, 0, []), (63, .getfield 124, 3, 10, 24, 0, []), (66, .iload_n 1, 1, 0, 0, 0, []), (67, .iastore, 1, 0, 0, 0, []), (68, .aload_n 0, 1, 0, 0, 0, []), (69, .getfield 58, 3, 10, 19, 0, []), (72, .aload_n 0, 1, 0, 0, 0, []), (73, .getfield 124, 3, 10, 24, 0, []), (76, .iload_n 2, 1, 0, 0, 0, []), (77, .iastore, 1, 0, 0, 0, []), (78, .aload_n 0, 1, 0, 0, 0, []), (79, .getfield 61, 3, 10, 20, 0, []), (82, .aload_n 0, 1, 0, 0, 0, []), (83, .getfield 124, 3, 10, 24, 0, []), (86, .iload_n 3, 1, 0, 0, 0, []), (87, .iastore, 1, 0, 0, 0, []), (88, .aload_n 0, 1, 0, 0, 0, []), (89, .getfield 64, 3, 10, 21, 0, []), (92, .aload_n 0, 1, 0, 0, 0, []), (93, .getfield 124, 3, 10, 24, 0, []), (96, .iload 4, 2, 0, 0, 0, []), (98, .iastore, 1, 0, 0, 0, []), (99, .aload_n 0, 1, 0, 0, 0, []), (100, .dup, 1, 0, 0, 0, []), (101, .getfield 124, 3, 10, 24, 0, []), (104, .iconst 1, 1, 0, 0, 1, []), (105, .iadd, 1, 0, 0, 0, []), (106, .putfield 124, 3, 10, 24, 0, []), (109, .aload_n 0, 1, 0, 0, 0, []), (110, .getfield 124, 3, 10, 24, 0, []), (113, .iconst 1, 1, 0, 0, 1, []), (114, .isub, 1, 0, 0, 0, []), (115, .ireturn, 1, 0, 0, 0, [])]
set_option maxRecDepth 100000 in
theorem cdo_84 : cdM 84 cd_84 := (⟨by unfold ciOK; decide +kernel, by decide +kernel⟩ : cdOK prog_12_method_6_code 10 5 false cd_84)
-- 85: WatchValleyModel_in
def cd_85 : List CI := [(0, .iload_n 0, 1, 0, 0, 0, []), (1, .iload_n 1, 1, 0, 0, 0, []), (2, .if_icmp .lt 12, 3, 14, 0, 0, []), (5, .iload_n 0, 1, 0, 0, 0, []), (6, .iload_n 2, 1, 0, 0, 0, []), (7, .if_icmp .gt 7, 3, 14, 0, 0, []), (10, .iconst 1, 1, 0, 0, 1, []), (11, .goto 4, 3, 15, 0, 0, []), (14, .iconst 0, 1, 0, 0, 0, []), (15, .ireturn, 1, 0, 0, 0, [])]
set_option maxRecDepth 100000 in
theorem cdo_85 : cdM 85 cd_85 := (⟨by unfold ciOK; decide +kernel, by decide +kernel⟩ : cdOK prog_12_method_3_code 10 3 false cd_85)
-- 86: WatchValleyModel_raw
def cd_86 : List CI := [(0, .aload_n 0, 1, 0, 0, 0, []), (1, .iconst 0, 1, 0, 0, 0, []), (2, .putfield 110, 3, 10, 41, 0, []), (5, .iload_n 1, 1, 0, 0, 0, []), (6, .iconst 0, 1, 0, 0, 0, []), (7, .iconst 2, 1, 0, 0, 2, []), (8, .invokestatic 117, 3, 85, 0, 0, []), (11, .ifCond .eq 34, 3, 45, 0, 0, []), (14, .iload_n 2, 1, 0, 0, 0, []), (15, .iconst 1, 1, 0, 0, 1, []), (16, .bipush 30, 2, 0, 0, 30, []), (18, .invokestatic 117, 3, 85, 0, 0, []), (21, .ifCond .eq 24, 3, 45, 0, 0, []), (24, .aload_n 0, 1, 0, 0, 0, []), (25, .getfield 114, 3, 10, 16, 0, []), (28, .bipush 60, 2, 0, 0, 60, []), (30, .if_icmp .eq 15, 3, 45, 0, 0, []), (33, .aload_n 0, 1, 0, 0, 0, []), (34, .getfield 127, 3, 10, 6, 0, []), (37, .iload_n 2, 1, 0, 0, 0, []), (38, .iadd, 1, 0, 0, 0, []), (39, .sipush 300, 3, 0, 0, 300, []), (42, .if_icmp .le 5, 3, 47, 0, 0, []), (45, .iconst (-1), 1, 0, 0, (-1), []), (46, .ireturn, 1, 0, 0, 0, []), (47, .iconst 0, 1, 0, 0, 0, []), (48, .istore 5, 2, 0, 0, 0, []), (50, .iload 5, 2, 0, 0, 0, []), (52, .iload_n 2, 1, 0, 0, 0, []), (53, .if_icmp .ge 41, 3, 94, 0, 0, []), (56, .iload_n 3, 1, 0, 0, 0, []), (57, .i2l, 1, 0, 0, 0, []), (58, .iload 5, 2, 0, 0, 0, []), (60, .i2l, 1, 0, 0, 0, []), (61, .iload 4, 2, 0, 0, 0, []), (63, .i2l, 1, 0, 0, 0, []), (64, .lmul, 1, 0, 0, 0, []), (65, .ladd, 1, 0, 0, 0, []), (66, .lstore 6, 2, 0, 0, 0, []), (68, .lload 6, 2, 0, 0, 0, []), (70, .ldc2_w 130, 3, 0, 0, (-100), []), (73, .lcmp, 1, 0, 0, 0, []), (74, .ifCond .lt 12, 3, 86, 0, 0, []), (77, .lload 6, 2, 0, 0, 0, []), (79, .ldc2_w 132, 3, 0, 0, 100, []), (82, .lcmp, 1, 0, 0, 0, []), (83, .ifCond .le 5, 3, 88, 0, 0, []), (86, .iconst (-1), 1, 0, 0, (-1), []), (87, .ireturn, 1, 0, 0, 0, []), (88, .iinc 5 1, 3, 0, 0, 1, []), (91, .goto (-41), 3, 50, 0, 0, []), (94, .aload_n 0, 1, 0, 0, 0, []), (95, .iload_n 1, 1, 0, 0, 0, []), (96, .invokevirtual 134, 3, 87, 0, 0, []), (99, .istore 5, 2, 0, 0, 0, []), (101, .iconst 0, 1, 0, 0, 0, []), (102, .istore 6, 2, 0, 0, 0, []), (104, .iload 6, 2, 0, 0, 0, []), (106, .iload_n 2, 1, 0, 0, 0, []), (107, .if_icmp .ge 86, 3, 193, 0, 0, []), (110, .aload_n 0, 1, 0, 0, 0, []), (111, .getfield 9, 3, 10, 0, 0, []), (114, .aload_n 0, 1, 0, 0, 0, []), (115, .getfield 127, 3, 10, 6, 0, []), (118, .iload_n 1, 1, 0, 0, 0, []), (119, .iastore, 1, 0, 0, 0, []), (120, .aload_n 0, 1, 0, 0, 0, []), (121, .getfield 13, 3, 10, 1, 0, []), (124, .aload_n 0, 1, 0, 0, 0, []), (125, .getfield 127, 3, 10, 6, 0, []), (128, .iload_n 3, 1, 0, 0, 0, []), (129, .iload 6, 2, 0, 0, 0, []), (131, .iload 4, 2, 0, 0, 0, []), (133, .imul, 1, 0, 0, 0, []), (134, .iadd, 1, 0, 0, 0, []), (135, .iastore, 1, 0, 0, 0, []), (136, .aload_n 0, 1, 0, 0, 0, []), (137, .getfield 16, 3, 10, 2, 0, []), (140, .aload_n 0, 1, 0, 0, 0, []), (141, .getfield 127, 3, 10, 6, 0, []), (144, .iload 5, 2, 0, 0, 0, []), (146, .iastore, 1, 0, 0, 0, []), (147, .aload_n 0, 1, 0, 0, 0, []), (148, .getfield 19, 3, 10, 3, 0, []), (151, .aload_n 0, 1, 0, 0, 0, []), (152, .getfield 127, 3, 10, 6, 0, []), (155, .iconst 0, 1, 0, 0, 0, []), (156, .iastore, 1, 0, 0, 0, []), (157, .aload_n 0, 1, 0, 0, 0, []), (158, .getfield 22, 3, 10, 4, 0, []), (161, .aload_n 0, 1, 0, 0, 0, []), (162, .getfield 127, 3, 10, 6, 0, []), (165, .iconst 0, 1, 0, 0, 0, []), (166, .iastore, 1, 0, 0, 0, []), (167, .aload_n 0, 1, 0, 0, 0, []), (168, .iload 5, 2, 0, 0, 0, []), (170, .aload_n 0, 1, 0, 0, 0, []), (171, .getfield 127, 3, 10, 6, 0, []), (174, .invokevirtual 138, 3, 88, 0, 0, []), (177, .aload_n 0, 1, 0, 0, 0, []), (178, .dup, 1, 0, 0, 0, []), (179, .getfield 127, 3, 10, 6, 0, []), (182, .iconst 1, 1, 0, 0, 1, []), (183, .iadd, 1, 0, 0, 0, []), (184, .putfield 127, 3, 10, 6, 0, []), (187, .iinc 6 1, 3, 0, 0, 1, []), (190, .goto (-86), 3, 104, 0, 0, []), (193, .iload 5, 2, 0, 0, 0, []), (195, .ireturn, 1, 0, 0, 0, [])]
set_option maxRecDepth 100000 in
theorem cdo_86 : cdM 86 cd_86 := (⟨by unfold ciOK; decide +kernel, by decide +kernel⟩ : cdOK prog_12_method_10_code 10 8 false cd_86)
-- 87: WatchValleyModel_newLot
def cd_87 : List CI := [(0, .aload_n 0, 1, 0, 0, 0, []), (1, .getfield 28, 3, 10, 7, 0, []), (4, .aload_n 0, 1, 0, 0, 0, []), (5, .getfield 114, 3, 10, 16, 0, []), (8, .iload_n 1, 1, 0, 0, 0, []), (9, .iastore, 1, 0, 0, 0, []), (10, .aload_n 0, 1, 0, 0, 0, []), (11, .getfield 34, 3, 10, 9, 0, []), (14, .aload_n 0, 1, 0, 0, 0, []), (15, .getfield 114, 3, 10, 16, 0, []), (18, .iconst 0, 1, 0, 0, 0, []), (19, .iastore, 1, 0, 0, 0, []), (20, .aload_n 0, 1, 0, 0, 0, []), (21, .getfield 37, 3, 10, 10, 0, []), (24, .aload_n 0, 1, 0, 0, 0, []), (25, .getfield 114, 3, 10, 16, 0, []), (28, .iconst 0, 1, 0, 0, 0, []), (29, .iastore, 1, 0, 0, 0, []), (30, .aload_n 0, 1, 0, 0, 0, []), (31, .dup, 1, 0, 0, 0, []), (32, .getfield 114, 3, 10, 16, 0, []), (35, .iconst 1, 1, 0, 0, 1, []), (36, .iadd, 1, 0, 0, 0, []), (37, .putfield 114, 3, 10, 16, 0, []), (40, .aload_n 0, 1, 0, 0, 0, []), (41, .getfield 114, 3, 10, 16, 0, []), (44, .iconst 1, 1, 0, 0, 1, []), (45, .isub, 1, 0, 0, 0, []), (46, .ireturn, 1, 0, 0, 0, [])]
set_option maxRecDepth 100000 in
theorem cdo_87 : cdM 87 cd_87 := (⟨by unfold ciOK; decide +kernel, by decide +kernel⟩ : cdOK prog_12_method_7_code 10 2 false cd_87)
-- 88: WatchValleyModel_add
def cd_88 : List CI := [(0, .aload_n 0, 1, 0, 0, 0, []), (1, .getfield 31, 3, 10, 8, 0, []), (4, .sipush 300, 3, 0, 0, 300, []), (7, .iload_n 1, 1, 0, 0, 0, []), (8, .imul, 1, 0, 0, 0, []), (9, .aload_n 0, 1, 0, 0, 0, []), (10, .getfield 34, 3, 10, 9, 0, []), (13, .iload_n 1, 1, 0, 0, 0, []), (14, .iaload, 1, 0, 0, 0, []), (15, .iadd, 1, 0, 0, 0, []), (16, .iload_n 2, 1, 0, 0, 0, []), (17, .iastore, 1, 0, 0, 0, []), (18, .aload_n 0, 1, 0, 0, 0, []), (19, .getfield 34, 3, 10, 9, 0, []), (22, .iload_n 1, 1, 0, 0, 0, []), (23, .dup2, 1, 0, 0, 0, []), (24, .iaload, 1, 0, 0, 0, []), (25, .iconst 1, 1, 0, 0, 1, []), (26, .iadd, 1, 0, 0, 0, []), (27, .iastore, 1, 0, 0, 0, []), (28, .aload_n 0, 1, 0, 0, 0, []), (29, .getfield 25, 3, 10, 5, 0, []), (32, .iload_n 2, 1, 0, 0, 0, []), (33, .iload_n 1, 1, 0, 0, 0, []), (34, .iastore, 1, 0, 0, 0, []), (35, .return_, 1, 0, 0, 0, [])]
set_option maxRecDepth 100000 in
theorem cdo_88 : cdM 88 cd_88 := (⟨by unfold ciOK; decide +kernel, by decide +kernel⟩ : cdOK prog_12_method_8_code 10 3 false cd_88)
-- 89: WatchValleyModel_split
def cd_89 : List CI := [(0, .aload_n 0, 1, 0, 0, 0, []), (1, .iconst 0, 1, 0, 0, 0, []), (2, .putfield 110, 3, 10, 41, 0, []), (5, .aload_n 0, 1, 0, 0, 0, []), (6, .iload_n 1, 1, 0, 0, 0, []), (7, .invokevirtual 142, 3, 90, 0, 0, []), (10, .ifCond .eq 26, 3, 36, 0, 0, []), (13, .iload_n 2, 1, 0, 0, 0, []), (14, .iconst 0, 1, 0, 0, 0, []), (15, .aload_n 0, 1, 0, 0, 0, []), (16, .getfield 34, 3, 10, 9, 0, []), (19, .iload_n 1, 1, 0, 0, 0, []), (20, .iaload, 1, 0, 0, 0, []), (21, .invokestatic 117, 3, 85, 0, 0, []), (24, .ifCond .eq 12, 3, 36, 0, 0, []), (27, .aload_n 0, 1, 0, 0, 0, []), (28, .getfield 114, 3, 10, 16, 0, []), (31, .bipush 60, 2, 0, 0, 60, []), (33, .if_icmp .ne 5, 3, 38, 0, 0, []), (36, .iconst (-1), 1, 0, 0, (-1), []), (37, .ireturn, 1, 0, 0, 0, []), (38, .aload_n 0, 1, 0, 0, 0, []), (39, .aload_n 0, 1, 0, 0, 0, []), (40, .getfield 28, 3, 10, 7, 0, []), (43, .iload_n 1, 1, 0, 0, 0, []), (44, .iaload, 1, 0, 0, 0, []), (45, .invokevirtual 134, 3, 87, 0, 0, []), (48, .istore_n 3, 1, 0, 0, 0, []), (49, .iconst 0, 1, 0, 0, 0, []), (50, .istore 4, 2, 0, 0, 0, []), (52, .iload 4, 2, 0, 0, 0, []), (54, .iload_n 2, 1, 0, 0, 0, []), (55, .if_icmp .ge 30, 3, 85, 0, 0, []), (58, .aload_n 0, 1, 0, 0, 0, []), (59, .iload_n 3, 1, 0, 0, 0, []), (60, .aload_n 0, 1, 0, 0, 0, []), (61, .getfield 31, 3, 10, 8, 0, []), (64, .sipush 300, 3, 0, 0, 300, []), (67, .iload_n 1, 1, 0, 0, 0, []), (68, .imul, 1, 0, 0, 0, []), (69, .iaload, 1, 0, 0, 0, []), (70, .invokevirtual 138, 3, 88, 0, 0, []), (73, .aload_n 0, 1, 0, 0, 0, []), (74, .iload_n 1, 1, 0, 0, 0, []), (75, .iconst 0, 1, 0, 0, 0, []), (76, .invokevirtual 145, 3, 92, 0, 0, []), (79, .iinc 4 1, 3, 0, 0, 1, []), (82, .goto (-30), 3, 52, 0, 0, []), (85, .iload_n 3, 1, 0, 0, 0, []), (86, .ireturn, 1, 0, 0, 0, [])]
set_option maxRecDepth 100000 in
theorem cdo_89 : cdM 89 cd_89 := (⟨by unfold ciOK; decide +kernel, by decide +kernel⟩ : cdOK prog_12_method_11_code 10 5 false cd_89)
-- 90: WatchValleyModel_isHere
def cd_90 : List CI := [(0, .aload_n 0, 1, 0, 0, 0, []), (1, .iload_n 1, 1, 0, 0, 0, []), (2, .invokevirtual 120, 3, 91, 0, 0, []), (5, .ifCond .eq 16, 3, 21, 0, 0, []), (8, .aload_n 0, 1, 0, 0, 0, []), (9, .getfield 37, 3, 10, 10, 0, []), (12, .iload_n 1, 1, 0, 0, 0, []), (13, .iaload, 1, 0, 0, 0, []), (14, .ifCond .ne 7, 3, 21, 0, 0, []), (17, .iconst 1, 1, 0, 0, 1, []), (18, .goto 4, 3, 22, 0, 0, []), (21, .iconst 0, 1, 0, 0, 0, []), (22, .ireturn, 1, 0, 0, 0, [])]
set_option maxRecDepth 100000 in
theorem cdo_90 : cdM 90 cd_90 := (⟨by unfold ciOK; decide +kernel, by decide +kernel⟩ : cdOK prog_12_method_5_code 10 2 false cd_90)
-- 91: WatchValleyModel_isLot
def cd_91 : List CI := [(0, .iload_n 1, 1, 0, 0, 0, []), (1, .iconst 0, 1, 0, 0, 0, []), (2, .aload_n 0, 1, 0, 0, 0, []), (3, .getfield 114, 3, 10, 16, 0, []), (6, .iconst 1, 1, 0, 0, 1, []), (7, .isub, 1, 0, 0, 0, []), (8, .invokestatic 117, 3, 85, 0, 0, []), (11, .ireturn, 1, 0, 0, 0, [])]
set_option maxRecDepth 100000 in
theorem cdo_91 : cdM 91 cd_91 := (⟨by unfold ciOK; decide +kernel, by decide +kernel⟩ : cdOK prog_12_method_4_code 10 2 false cd_91)
-- 92: WatchValleyModel_take
def cd_92 : List CI := [(0, .aload_n 0, 1, 0, 0, 0, []), (1, .getfield 34, 3, 10, 9, 0, []), (4, .iload_n 1, 1, 0, 0, 0, []), (5, .dup2, 1, 0, 0, 0, []), (6, .iaload, 1, 0, 0, 0, []), (7, .iconst 1, 1, 0, 0, 1, []), (8, .isub, 1, 0, 0, 0, []), (9, .iastore, 1, 0, 0, 0, []), (10, .iload_n 2, 1, 0, 0, 0, []), (11, .istore_n 3, 1, 0, 0, 0, []), (12, .iload_n 3, 1, 0, 0, 0, []), (13, .aload_n 0, 1, 0, 0, 0, []), (14, .getfield 34, 3, 10, 9, 0, []), (17, .iload_n 1, 1, 0, 0, 0, []), (18, .iaload, 1, 0, 0, 0, []), (19, .if_icmp .ge 35, 3, 54, 0, 0, []), (22, .aload_n 0, 1, 0, 0, 0, []), (23, .getfield 31, 3, 10, 8, 0, []), (26, .sipush 300, 3, 0, 0, 300, []), (29, .iload_n 1, 1, 0, 0, 0, []), (30, .imul, 1, 0, 0, 0, []), (31, .iload_n 3, 1, 0, 0, 0, []), (32, .iadd, 1, 0, 0, 0, []), (33, .aload_n 0, 1, 0, 0, 0, []), (34, .getfield 31, 3, 10, 8, 0, []), (37, .sipush 300, 3, 0, 0, 300, []), (40, .iload_n 1, 1, 0, 0, 0, []), (41, .imul, 1, 0, 0, 0, []), (42, .iload_n 3, 1, 0, 0, 0, []), (43, .iadd, 1, 0, 0, 0, []), (44, .iconst 1, 1, 0, 0, 1, []), (45, .iadd, 1, 0, 0, 0, []), (46, .iaload, 1, 0, 0, 0, []), (47, .iastore, 1, 0, 0, 0, []), (48, .iinc 3 1, 3, 0, 0, 1, []), (51, .goto (-39), 3, 12, 0, 0, []), (54, .return_, 1, 0, 0, 0, [])]
set_option maxRecDepth 100000 in
theorem cdo_92 : cdM 92 cd_92 := (⟨by unfold ciOK; decide +kernel, by decide +kernel⟩ : cdOK prog_12_method_9_code 10 4 false cd_92)
-- 93: WatchValleyModel_join
def cd_93 : List CI := [(0, .aload_n 0, 1, 0, 0, 0, []), (1, .iconst 0, 1, 0, 0, 0, []), (2, .putfield 110, 3, 10, 41, 0, []), (5, .aload_n 0, 1, 0, 0, 0, []), (6, .iload_n 1, 1, 0, 0, 0, []), (7, .invokevirtual 142, 3, 90, 0, 0, []), (10, .ifCond .eq 31, 3, 41, 0, 0, []), (13, .aload_n 0, 1, 0, 0, 0, []), (14, .iload_n 2, 1, 0, 0, 0, []), (15, .invokevirtual 142, 3, 90, 0, 0, []), (18, .ifCond .eq 23, 3, 41, 0, 0, []), (21, .iload_n 1, 1, 0, 0, 0, []), (22, .iload_n 2, 1, 0, 0, 0, []), (23, .if_icmp .eq 18, 3, 41, 0, 0, []), (26, .aload_n 0, 1, 0, 0, 0, []), (27, .getfield 28, 3, 10, 7, 0, []), (30, .iload_n 1, 1, 0, 0, 0, []), (31, .iaload, 1, 0, 0, 0, []), (32, .aload_n 0, 1, 0, 0, 0, []), (33, .getfield 28, 3, 10, 7, 0, []), (36, .iload_n 2, 1, 0, 0, 0, []), (37, .iaload, 1, 0, 0, 0, []), (38, .if_icmp .eq 5, 3, 43, 0, 0, []), (41, .iconst (-1), 1, 0, 0, (-1), []), (42, .ireturn, 1, 0, 0, 0, []), (43, .iconst 0, 1, 0, 0, 0, []), (44, .istore_n 3, 1, 0, 0, 0, []), (45, .iload_n 3, 1, 0, 0, 0, []), (46, .aload_n 0, 1, 0, 0, 0, []), (47, .getfield 34, 3, 10, 9, 0, []), (50, .iload_n 2, 1, 0, 0, 0, []), (51, .iaload, 1, 0, 0, 0, []), (52, .if_icmp .ge 26, 3, 78, 0, 0, []), (55, .aload_n 0, 1, 0, 0, 0, []), (56, .iload_n 1, 1, 0, 0, 0, []), (57, .aload_n 0, 1, 0, 0, 0, []), (58, .getfield 31, 3, 10, 8, 0, []), (61, .sipush 300, 3, 0, 0, 300, []), (64, .iload_n 2, 1, 0, 0, 0, []), (65, .imul, 1, 0, 0, 0, []), (66, .iload_n 3, 1, 0, 0, 0, []), (67, .iadd, 1, 0, 0, 0, []), (68, .iaload, 1, 0, 0, 0, []), (69, .invokevirtual 138, 3, 88, 0, 0, []), (72, .iinc 3 1, 3, 0, 0, 1, []), (75, .goto (-30), 3, 45, 0, 0, []), (78, .aload_n 0, 1, 0, 0, 0, []), (79, .getfield 34, 3, 10, 9, 0, []), (82, .iload_n 2, 1, 0, 0, 0, []), (83, .iconst 0, 1, 0, 0, 0, []), (84, .iastore, 1, 0, 0, 0, []), (85, .aload_n 0, 1, 0, 0, 0, []), (86, .getfield 34, 3, 10, 9, 0, []), (89, .iload_n 1, 1, 0, 0, 0, []), (90, .iaload, 1, 0, 0, 0, []), (91, .ireturn, 1, 0, 0, 0, [])]
set_option maxRecDepth 100000 in
theorem cdo_93 : cdM 93 cd_93 := (⟨by unfold ciOK; decide +kernel, by decide +kernel⟩ : cdOK prog_12_method_12_code 10 4 false cd_93)
-- 94: WatchValleyModel_send
def cd_94 : List CI := [(0, .aload_n 0, 1, 0, 0, 0, []), (1, .iconst 0, 1, 0, 0, 0, []), (2, .putfield 110, 3, 10, 41, 0, []), (5, .aload_n 0, 1, 0, 0, 0, []), (6, .iload_n 1, 1, 0, 0, 0, []), (7, .invokevirtual 142, 3, 90, 0, 0, []), (10, .ifCond .eq 27, 3, 37, 0, 0, []), (13, .iload_n 2, 1, 0, 0, 0, []), (14, .iconst 0, 1, 0, 0, 0, []), (15, .aload_n 0, 1, 0, 0, 0, []), (16, .getfield 124, 3, 10, 24, 0, []), (19, .iconst 1, 1, 0, 0, 1, []), (20, .isub, 1, 0, 0, 0, []), (21, .invokestatic 117, 3, 85, 0, 0, []), (24, .ifCond .eq 13, 3, 37, 0, 0, []), (27, .aload_n 0, 1, 0, 0, 0, []), (28, .getfield 148, 3, 10, 30, 0, []), (31, .sipush 500, 3, 0, 0, 500, []), (34, .if_icmp .ne 5, 3, 39, 0, 0, []), (37, .iconst 0, 1, 0, 0, 0, []), (38, .ireturn, 1, 0, 0, 0, []), (39, .aload_n 0, 1, 0, 0, 0, []), (40, .getfield 37, 3, 10, 10, 0, []), (43, .iload_n 1, 1, 0, 0, 0, []), (44, .iconst 1, 1, 0, 0, 1, []), (45, .iastore, 1, 0, 0, 0, []), (46, .aload_n 0, 1, 0, 0, 0, []), (47, .getfield 40, 3, 10, 11, 0, []), (50, .iload_n 1, 1, 0, 0, 0, []), (51, .iload_n 2, 1, 0, 0, 0, []), (52, .iastore, 1, 0, 0, 0, []), (53, .aload_n 0, 1, 0, 0, 0, []), (54, .getfield 43, 3, 10, 12, 0, []), (57, .iload_n 1, 1, 0, 0, 0, []), (58, .aload_n 0, 1, 0, 0, 0, []), (59, .getfield 64, 3, 10, 21, 0, []), (62, .iload_n 2, 1, 0, 0, 0, []), (63, .iaload, 1, 0, 0, 0, []), (64, .iastore, 1, 0, 0, 0, []), (65, .aload_n 0, 1, 0, 0, 0, []), (66, .getfield 73, 3, 10, 27, 0, []), (69, .aload_n 0, 1, 0, 0, 0, []), (70, .getfield 148, 3, 10, 30, 0, []), (73, .iload_n 2, 1, 0, 0, 0, []), (74, .iastore, 1, 0, 0, 0, []), (75, .aload_n 0, 1, 0, 0, 0, []), (76, .getfield 76, 3, 10, 28, 0, []), (79, .aload_n 0, 1, 0, 0, 0, []), (80, .getfield 148, 3, 10, 30, 0, []), (83, .aload_n 0, 1, 0, 0, 0, []), (84, .getfield 151, 3, 10, 25, 0, []), (87, .iastore, 1, 0, 0, 0, []), (88, .aload_n 0, 1, 0, 0, 0, []), (89, .getfield 79, 3, 10, 29, 0, []), (92, .aload_n 0, 1, 0, 0, 0, []), (93, .getfield 148, 3, 10, 30, 0, []), (96, .aload_n 0, 1, 0, 0, 0, []), (97, .getfield 34, 3, 10, 9, 0, []), (100, .iload_n 1, 1, 0, 0, 0, []), (101, .iaload, 1, 0, 0, 0, []), (102, .iastore, 1, 0, 0, 0, []), (103, .aload_n 0, 1, 0, 0, 0, []), (104, .dup, 1, 0, 0, 0, []), (105, .getfield 148, 3, 10, 30, 0, []), (108, .iconst 1, 1, 0, 0, 1, []), (109, .iadd, 1, 0, 0, 0, []), (110, .putfield 148, 3, 10, 30, 0, []), (113, .iconst 1, 1, 0, 0, 1, []), (114, .ireturn, 1, 0, 0, 0, [])]
set_option maxRecDepth 100000 in
theorem cdo_94 : cdM 94 cd_94 := (⟨by unfold ciOK; decide +kernel, by decide +kernel⟩ : cdOK prog_12_method_13_code 10 3 false cd_94)
-- 95: WatchValleyModel_day
def cd_95 : List CI := [(0, .aload_n 0, 1, 0, 0, 0, []), (1, .iconst 0, 1, 0, 0, 0, []), (2, .putfield 110, 3, 10, 41, 0, []), (5, .aload_n 0, 1, 0, 0, 0, []), (6, .getfield 151, 3, 10, 25, 0, []), (9, .sipush 400, 3, 0, 0, 400, []), (12, .if_icmp .ne 5, 3, 17, 0, 0, []), (15, .iconst (-1), 1, 0, 0, (-1), []), (16, .ireturn, 1, 0, 0, 0, []), (17, .aload_n 0, 1, 0, 0, 0, []), (18, .iload_n 1, 1, 0, 0, 0, []), (19, .invokevirtual 160, 3, 96, 0, 0, []), (22, .iconst 0, 1, 0, 0, 0, []), (23, .istore_n 2, 1, 0, 0, 0, []), (24, .iconst 0, 1, 0, 0, 0, []), (25, .istore_n 3, 1, 0, 0, 0, []), (26, .iload_n 3, 1, 0, 0, 0, []), (27, .aload_n 0, 1, 0, 0, 0, []), (28, .getfield 124, 3, 10, 24, 0, []), (31, .if_icmp .ge 130, 3, 161, 0, 0, []), (34, .aload_n 0, 1, 0, 0, 0, []), (35, .getfield 55, 3, 10, 18, 0, []), (38, .iload_n 3, 1, 0, 0, 0, []), (39, .iaload, 1, 0, 0, 0, []), (40, .istore 4, 2, 0, 0, 0, []), (42, .aload_n 0, 1, 0, 0, 0, []), (43, .iload_n 3, 1, 0, 0, 0, []), (44, .invokevirtual 164, 3, 97, 0, 0, []), (47, .istore 5, 2, 0, 0, 0, []), (49, .iload 5, 2, 0, 0, 0, []), (51, .iconst (-1), 1, 0, 0, (-1), []), (52, .if_icmp .eq 7, 3, 59, 0, 0, []), (55, .iconst 1, 1, 0, 0, 1, []), (56, .goto 4, 3, 60, 0, 0, []), (59, .iconst 0, 1, 0, 0, 0, []), (60, .istore 6, 2, 0, 0, 0, []), (62, .iload 6, 2, 0, 0, 0, []), (64, .ifCond .eq 91, 3, 155, 0, 0, []), (67, .aload_n 0, 1, 0, 0, 0, []), (68, .getfield 49, 3, 10, 14, 0, []), (71, .iload 5, 2, 0, 0, 0, []), (73, .iaload, 1, 0, 0, 0, []), (74, .aload_n 0, 1, 0, 0, 0, []), (75, .getfield 34, 3, 10, 9, 0, []), (78, .iload 5, 2, 0, 0, 0, []), (80, .iaload, 1, 0, 0, 0, []), (81, .if_icmp .lt 47, 3, 128, 0, 0, []), (84, .aload_n 0, 1, 0, 0, 0, []), (85, .getfield 37, 3, 10, 10, 0, []), (88, .iload 5, 2, 0, 0, 0, []), (90, .iconst 3, 1, 0, 0, 3, []), (91, .iastore, 1, 0, 0, 0, []), (92, .aload_n 0, 1, 0, 0, 0, []), (93, .getfield 43, 3, 10, 12, 0, []), (96, .iload 5, 2, 0, 0, 0, []), (98, .aload_n 0, 1, 0, 0, 0, []), (99, .getfield 64, 3, 10, 21, 0, []), (102, .iload_n 3, 1, 0, 0, 0, []), (103, .iaload, 1, 0, 0, 0, []), (104, .iastore, 1, 0, 0, 0, []), (105, .aload_n 0, 1, 0, 0, 0, []), (106, .iload_n 3, 1, 0, 0, 0, []), (107, .invokevirtual 164, 3, 97, 0, 0, []), (110, .istore 5, 2, 0, 0, 0, []), (112, .iload 5, 2, 0, 0, 0, []), (114, .iconst (-1), 1, 0, 0, (-1), []), (115, .if_icmp .eq 7, 3, 122, 0, 0, []), (118, .iconst 1, 1, 0, 0, 1, []), (119, .goto 4, 3, 123, 0, 0, []), (122, .iconst 0, 1, 0, 0, 0, []), (123, .istore 6, 2, 0, 0, 0, []), (125, .goto (-63), 3, 62, 0, 0, []), (128, .iload 4, 2, 0, 0, 0, []), (130, .ifCond .le 19, 3, 149, 0, 0, []), (133, .aload_n 0, 1, 0, 0, 0, []), (134, .iload_n 3, 1, 0, 0, 0, []), (135, .iload 5, 2, 0, 0, 0, []), (137, .invokevirtual 167, 3, 98, 0, 0, []), (140, .iinc 4 (-1), 3, 0, 0, (-1), []), (143, .iinc 2 1, 3, 0, 0, 1, []), (146, .goto (-84), 3, 62, 0, 0, []), (149, .iconst 0, 1, 0, 0, 0, []), (150, .istore 6, 2, 0, 0, 0, []), (152, .goto (-90), 3, 62, 0, 0, []), (155, .iinc 3 1, 3, 0, 0, 1, []), (158, .goto (-132), 3, 26, 0, 0, []), (161, .aload_n 0, 1, 0, 0, 0, []), (162, .dup, 1, 0, 0, 0, []), (163, .getfield 151, 3, 10, 25, 0, []), (166, .iconst 1, 1, 0, 0, 1, []), (167, .iadd, 1, 0, 0, 0, []), (168, .putfield 151, 3, 10, 25, 0, []), (171, .iload_n 2, 1, 0, 0, 0, []), (172, .ireturn, 1, 0, 0, 0, [])]
set_option maxRecDepth 100000 in
theorem cdo_95 : cdM 95 cd_95 := (⟨by unfold ciOK; decide +kernel, by decide +kernel⟩ : cdOK prog_12_method_17_code 10 7 false cd_95)
-- 96: WatchValleyModel_goes
def cd_96 : List CI := [(0, .iconst 0, 1, 0, 0, 0, []), (1, .istore_n 2, 1, 0, 0, 0, []), (2, .iload_n 2, 1, 0, 0, 0, []), (3, .aload_n 0, 1, 0, 0, 0, []), (4, .getfield 114, 3, 10, 16, 0, []), (7, .if_icmp .ge 128, 3, 135, 0, 0, []), (10, .aload_n 0, 1, 0, 0, 0, []), (11, .getfield 37, 3, 10, 10, 0, []), (14, .iload_n 2, 1, 0, 0, 0, []), (15, .iaload, 1, 0, 0, 0, []), (16, .iconst 1, 1, 0, 0, 1, []), (17, .if_icmp .eq 16, 3, 33, 0, 0, []), (20, .aload_n 0, 1, 0, 0, 0, []), (21, .getfield 37, 3, 10, 10, 0, []), (24, .iload_n 2, 1, 0, 0, 0, []), (25, .iaload, 1, 0, 0, 0, []), (26, .iconst 3, 1, 0, 0, 3, []), (27, .if_icmp .eq 6, 3, 33, 0, 0, []), (30, .goto 99, 3, 129, 0, 0, []), (33, .iload_n 1, 1, 0, 0, 0, []), (34, .ifCond .ne 22, 3, 56, 0, 0, []), (37, .aload_n 0, 1, 0, 0, 0, []), (38, .getfield 43, 3, 10, 12, 0, []), (41, .iload_n 2, 1, 0, 0, 0, []), (42, .iaload, 1, 0, 0, 0, []), (43, .ifCond .le 13, 3, 56, 0, 0, []), (46, .aload_n 0, 1, 0, 0, 0, []), (47, .getfield 43, 3, 10, 12, 0, []), (50, .iload_n 2, 1, 0, 0, 0, []), (51, .dup2, 1, 0, 0, 0, []), (52, .iaload, 1, 0, 0, 0, []), (53, .iconst 1, 1, 0, 0, 1, []), (54, .isub, 1, 0, 0, 0, []), (55, .iastore, 1, 0, 0, 0, []), (56, .aload_n 0, 1, 0, 0, 0, []), (57, .getfield 43, 3, 10, 12, 0, []), (60, .iload_n 2, 1, 0, 0, 0, []), (61, .iaload, 1, 0, 0, 0, []), (62, .ifCond .le 6, 3, 68, 0, 0, []), (65, .goto 64, 3, 129, 0, 0, []), (68, .aload_n 0, 1, 0, 0, 0, []), (69, .getfield 37, 3, 10, 10, 0, []), (72, .iload_n 2, 1, 0, 0, 0, []), (73, .iaload, 1, 0, 0, 0, []), (74, .iconst 3, 1, 0, 0, 3, []), (75, .if_icmp .ne 13, 3, 88, 0, 0, []), (78, .aload_n 0, 1, 0, 0, 0, []), (79, .getfield 37, 3, 10, 10, 0, []), (82, .iload_n 2, 1, 0, 0, 0, []), (83, .iconst 0, 1, 0, 0, 0, []), (84, .iastore, 1, 0, 0, 0, []), (85, .goto 44, 3, 129, 0, 0, []), (88, .aload_n 0, 1, 0, 0, 0, []), (89, .getfield 37, 3, 10, 10, 0, []), (92, .iload_n 2, 1, 0, 0, 0, []), (93, .iconst 2, 1, 0, 0, 2, []), (94, .iastore, 1, 0, 0, 0, []), (95, .aload_n 0, 1, 0, 0, 0, []), (96, .getfield 46, 3, 10, 13, 0, []), (99, .iload_n 2, 1, 0, 0, 0, []), (100, .iconst 0, 1, 0, 0, 0, []), (101, .iastore, 1, 0, 0, 0, []), (102, .aload_n 0, 1, 0, 0, 0, []), (103, .getfield 49, 3, 10, 14, 0, []), (106, .iload_n 2, 1, 0, 0, 0, []), (107, .iconst 0, 1, 0, 0, 0, []), (108, .iastore, 1, 0, 0, 0, []), (109, .aload_n 0, 1, 0, 0, 0, []), (110, .getfield 52, 3, 10, 15, 0, []), (113, .iload_n 2, 1, 0, 0, 0, []), (114, .aload_n 0, 1, 0, 0, 0, []), (115, .getfield 154, 3, 10, 17, 0, []), (118, .iastore, 1, 0, 0, 0, []), (119, .aload_n 0, 1, 0, 0, 0, []), (120, .dup, 1, 0, 0, 0, []), (121, .getfield 154, 3, 10, 17, 0, []), (124, .iconst 1, 1, 0, 0, 1, []), (125, .iadd, 1, 0, 0, 0, []), (126, .putfield 154, 3, 10, 17, 0, []), (129, .iinc 2 1, 3, 0, 0, 1, []), (132, .goto (-130), 3, 2, 0, 0, []), (135, .return_, 1, 0, 0, 0, [])]
set_option maxRecDepth 100000 in
theorem cdo_96 : cdM 96 cd_96 := (⟨by unfold ciOK; decide +kernel, by decide +kernel⟩ : cdOK prog_12_method_14_code 10 3 false cd_96)
-- 97: WatchValleyModel_first
def cd_97 : List CI := [(0, .iconst (-1), 1, 0, 0, (-1), []), (1, .istore_n 2, 1, 0, 0, 0, []), (2, .iconst 0, 1, 0, 0, 0, []), (3, .istore_n 3, 1, 0, 0, 0, []), (4, .iload_n 3, 1, 0, 0, 0, []), (5, .aload_n 0, 1, 0, 0, 0, []), (6, .getfield 114, 3, 10, 16, 0, []), (9, .if_icmp .ge 51, 3, 60, 0, 0, []), (12, .aload_n 0, 1, 0, 0, 0, []), (13, .getfield 37, 3, 10, 10, 0, []), (16, .iload_n 3, 1, 0, 0, 0, []), (17, .iaload, 1, 0, 0, 0, []), (18, .iconst 2, 1, 0, 0, 2, []), (19, .if_icmp .ne 35, 3, 54, 0, 0, []), (22, .aload_n 0, 1, 0, 0, 0, []), (23, .getfield 40, 3, 10, 11, 0, []), (26, .iload_n 3, 1, 0, 0, 0, []), (27, .iaload, 1, 0, 0, 0, []), (28, .iload_n 1, 1, 0, 0, 0, []), (29, .if_icmp .ne 25, 3, 54, 0, 0, []), (32, .iload_n 2, 1, 0, 0, 0, []), (33, .iconst (-1), 1, 0, 0, (-1), []), (34, .if_icmp .eq 18, 3, 52, 0, 0, []), (37, .aload_n 0, 1, 0, 0, 0, []), (38, .getfield 52, 3, 10, 15, 0, []), (41, .iload_n 3, 1, 0, 0, 0, []), (42, .iaload, 1, 0, 0, 0, []), (43, .aload_n 0, 1, 0, 0, 0, []), (44, .getfield 52, 3, 10, 15, 0, []), (47, .iload_n 2, 1, 0, 0, 0, []), (48, .iaload, 1, 0, 0, 0, []), (49, .if_icmp .ge 5, 3, 54, 0, 0, []), (52, .iload_n 3, 1, 0, 0, 0, []), (53, .istore_n 2, 1, 0, 0, 0, []), (54, .iinc 3 1, 3, 0, 0, 1, []), (57, .goto (-53), 3, 4, 0, 0, []), (60, .iload_n 2, 1, 0, 0, 0, []), (61, .ireturn, 1, 0, 0, 0, [])]
set_option maxRecDepth 100000 in
theorem cdo_97 : cdM 97 cd_97 := (⟨by unfold ciOK; decide +kernel, by decide +kernel⟩ : cdOK prog_12_method_15_code 10 4 false cd_97)
-- 98: WatchValleyModel_work
def cd_98 : List CI := [(0, .aload_n 0, 1, 0, 0, 0, []), (1, .getfield 31, 3, 10, 8, 0, []), (4, .sipush 300, 3, 0, 0, 300, []), (7, .iload_n 2, 1, 0, 0, 0, []), (8, .imul, 1, 0, 0, 0, []), (9, .aload_n 0, 1, 0, 0, 0, []), (10, .getfield 49, 3, 10, 14, 0, []), (13, .iload_n 2, 1, 0, 0, 0, []), (14, .iaload, 1, 0, 0, 0, []), (15, .iadd, 1, 0, 0, 0, []), (16, .iaload, 1, 0, 0, 0, []), (17, .istore_n 3, 1, 0, 0, 0, []), (18, .aload_n 0, 1, 0, 0, 0, []), (19, .getfield 13, 3, 10, 1, 0, []), (22, .iload_n 3, 1, 0, 0, 0, []), (23, .dup2, 1, 0, 0, 0, []), (24, .iaload, 1, 0, 0, 0, []), (25, .aload_n 0, 1, 0, 0, 0, []), (26, .getfield 58, 3, 10, 19, 0, []), (29, .iload_n 1, 1, 0, 0, 0, []), (30, .iaload, 1, 0, 0, 0, []), (31, .iadd, 1, 0, 0, 0, []), (32, .iastore, 1, 0, 0, 0, []), (33, .aload_n 0, 1, 0, 0, 0, []), (34, .getfield 19, 3, 10, 3, 0, []), (37, .iload_n 3, 1, 0, 0, 0, []), (38, .dup2, 1, 0, 0, 0, []), (39, .iaload, 1, 0, 0, 0, []), (40, .iconst 1, 1, 0, 0, 1, []), (41, .iload_n 1, 1, 0, 0, 0, []), (42, .ishl, 1, 0, 0, 0, []), (43, .ior, 1, 0, 0, 0, []), (44, .iastore, 1, 0, 0, 0, []), (45, .aload_n 0, 1, 0, 0, 0, []), (46, .getfield 67, 3, 10, 22, 0, []), (49, .iload_n 1, 1, 0, 0, 0, []), (50, .dup2, 1, 0, 0, 0, []), (51, .iaload, 1, 0, 0, 0, []), (52, .iconst 1, 1, 0, 0, 1, []), (53, .iadd, 1, 0, 0, 0, []), (54, .iastore, 1, 0, 0, 0, []), (55, .aload_n 0, 1, 0, 0, 0, []), (56, .getfield 46, 3, 10, 13, 0, []), (59, .iload_n 2, 1, 0, 0, 0, []), (60, .dup2, 1, 0, 0, 0, []), (61, .iaload, 1, 0, 0, 0, []), (62, .iconst 1, 1, 0, 0, 1, []), (63, .iadd, 1, 0, 0, 0, []), (64, .iastore, 1, 0, 0, 0, []), (65, .aload_n 0, 1, 0, 0, 0, []), (66, .getfield 61, 3, 10, 20, 0, []), (69, .iload_n 1, 1, 0, 0, 0, []), (70, .iaload, 1, 0, 0, 0, []), (71, .ifCond .eq 19, 3, 90, 0, 0, []), (74, .aload_n 0, 1, 0, 0, 0, []), (75, .getfield 67, 3, 10, 22, 0, []), (78, .iload_n 1, 1, 0, 0, 0, []), (79, .iaload, 1, 0, 0, 0, []), (80, .aload_n 0, 1, 0, 0, 0, []), (81, .getfield 61, 3, 10, 20, 0, []), (84, .iload_n 1, 1, 0, 0, 0, []), (85, .iaload, 1, 0, 0, 0, []), (86, .irem, 1, 0, 0, 0, []), (87, .ifCond .eq 14, 3, 101, 0, 0, []), (90, .aload_n 0, 1, 0, 0, 0, []), (91, .getfield 49, 3, 10, 14, 0, []), (94, .iload_n 2, 1, 0, 0, 0, []), (95, .dup2, 1, 0, 0, 0, []), (96, .iaload, 1, 0, 0, 0, []), (97, .iconst 1, 1, 0, 0, 1, []), (98, .iadd, 1, 0, 0, 0, []), (99, .iastore, 1, 0, 0, 0, []), (100, .return_, 1, 0, 0, 0, []), (101, .aload_n 0, 1, 0, 0, 0, []), (102, .getfield 22, 3, 10, 4, 0, []), (105, .iload_n 3, 1, 0, 0, 0, []), (106, .iconst 1, 1, 0, 0, 1, []), (107, .iastore, 1, 0, 0, 0, []), (108, .aload_n 0, 1, 0, 0, 0, []), (109, .getfield 25, 3, 10, 5, 0, []), (112, .iload_n 3, 1, 0, 0, 0, []), (113, .iload_n 1, 1, 0, 0, 0, []), (114, .iastore, 1, 0, 0, 0, []), (115, .aload_n 0, 1, 0, 0, 0, []), (116, .getfield 70, 3, 10, 23, 0, []), (119, .iload_n 1, 1, 0, 0, 0, []), (120, .dup2, 1, 0, 0, 0, []), (121, .iaload, 1, 0, 0, 0, []), (122, .iconst 1, 1, 0, 0, 1, []), (123, .iadd, 1, 0, 0, 0, []), (124, .iastore, 1, 0, 0, 0, []), (125, .aload_n 0, 1, 0, 0, 0, []), (126, .dup, 1, 0, 0, 0, []), (127, .getfield 157, 3, 10, 26, 0, []), (130, .iconst 1, 1, 0, 0, 1, []), (131, .iadd, 1, 0, 0, 0, []), (132, .putfield 157, 3, 10, 26, 0, []), (135, .aload_n 0, 1, 0, 0, 0, []), (136, .iload_n 2, 1, 0, 0, 0, []), (137, .aload_n 0, 1, 0, 0, 0, []), (138, .getfield 49, 3, 10, 14, 0, []), (141, .iload_n 2, 1, 0, 0, 0, []), (142, .iaload, 1, 0, 0, 0, []), (143, .invokevirtual 145, 3, 92, 0, 0, []), (146, .return_, 1, 0, 0, 0, [])]
set_option maxRecDepth 100000 in
theorem cdo_98 : cdM 98 cd_98 := (⟨by unfold ciOK; decide +kernel, by decide +kernel⟩ : cdOK prog_12_method_16_code 10 4 false cd_98)
-- 99: WatchValleyModel_count
def cd_99 : List CI := [(0, .aload_n 0, 1, 0, 0, 0, []), (1, .iconst 0, 1, 0, 0, 0, []), (2, .putfield 110, 3, 10, 41, 0, []), (5, .iconst 0, 1, 0, 0, 0, []), (6, .istore_n 2, 1, 0, 0, 0, []), (7, .iload_n 1, 1, 0, 0, 0, []), (8, .tableswitch 113 0 7 #[48, 53, 58, 63, 68, 73, 78, 108], 48, 121, 0, 0, [56, 61, 66, 71, 76, 81, 86, 116]), (56, .aload_n 0, 1, 0, 0, 0, []), (57, .getfield 151, 3, 10, 25, 0, []), (60, .ireturn, 1, 0, 0, 0, []), (61, .aload_n 0, 1, 0, 0, 0, []), (62, .getfield 124, 3, 10, 24, 0, []), (65, .ireturn, 1, 0, 0, 0, []), (66, .aload_n 0, 1, 0, 0, 0, []), (67, .getfield 114, 3, 10, 16, 0, []), (70, .ireturn, 1, 0, 0, 0, []), (71, .aload_n 0, 1, 0, 0, 0, []), (72, .getfield 127, 3, 10, 6, 0, []), (75, .ireturn, 1, 0, 0, 0, []), (76, .aload_n 0, 1, 0, 0, 0, []), (77, .getfield 157, 3, 10, 26, 0, []), (80, .ireturn, 1, 0, 0, 0, []), (81, .aload_n 0, 1, 0, 0, 0, []), (82, .getfield 170, 3, 10, 40, 0, []), (85, .ireturn, 1, 0, 0, 0, []), (86, .iconst 0, 1, 0, 0, 0, []), (87, .istore_n 3, 1, 0, 0, 0, []), (88, .iload_n 3, 1, 0, 0, 0, []), (89, .aload_n 0, 1, 0, 0, 0, []), (90, .getfield 170, 3, 10, 40, 0, []), (93, .if_icmp .ge 21, 3, 114, 0, 0, []), (96, .aload_n 0, 1, 0, 0, 0, []), (97, .getfield 103, 3, 10, 39, 0, []), (100, .iload_n 3, 1, 0, 0, 0, []), (101, .baload, 1, 0, 0, 0, []), (102, .ifCond .eq 6, 3, 108, 0, 0, []), (105, .iinc 2 1, 3, 0, 0, 1, []), (108, .iinc 3 1, 3, 0, 0, 1, []), (111, .goto (-23), 3, 88, 0, 0, []), (114, .iload_n 2, 1, 0, 0, 0, []), (115, .ireturn, 1, 0, 0, 0, []), (116, .aload_n 0, 1, 0, 0, 0, []), (117, .invokevirtual 173, 3, 100, 0, 0, []), (120, .ireturn, 1, 0, 0, 0, []), (121, .iconst (-1), 1, 0, 0, (-1), []), (122, .ireturn, 1, 0, 0, 0, [])]
set_option maxRecDepth 100000 in
theorem cdo_99 : cdM 99 cd_99 := (⟨by unfold ciOK; decide +kernel, by decide +kernel⟩ : cdOK prog_12_method_19_code 10 4 false cd_99)
-- 100: WatchValleyModel_outMany
def cd_100 : List CI := [(0, .iconst 0, 1, 0, 0, 0, []), (1, .istore_n 1, 1, 0, 0, 0, []), (2, .iconst 0, 1, 0, 0, 0, []), (3, .istore_n 2, 1, 0, 0, 0, []), (4, .iload_n 2, 1, 0, 0, 0, []), (5, .aload_n 0, 1, 0, 0, 0, []), (6, .getfield 114, 3, 10, 16, 0, []), (9, .if_icmp .ge 21, 3, 30, 0, 0, []), (12, .aload_n 0, 1, 0, 0, 0, []), (13, .getfield 37, 3, 10, 10, 0, []), (16, .iload_n 2, 1, 0, 0, 0, []), (17, .iaload, 1, 0, 0, 0, []), (18, .ifCond .le 6, 3, 24, 0, 0, []), (21, .iinc 1 1, 3, 0, 0, 1, []), (24, .iinc 2 1, 3, 0, 0, 1, []), (27, .goto (-23), 3, 4, 0, 0, []), (30, .iload_n 1, 1, 0, 0, 0, []), (31, .ireturn, 1, 0, 0, 0, [])]
set_option maxRecDepth 100000 in
theorem cdo_100 : cdM 100 cd_100 := (⟨by unfold ciOK; decide +kernel, by decide +kernel⟩ : cdOK prog_12_method_18_code 10 3 false cd_100)
-- 101: WatchValleyModel_lot
def cd_101 : List CI := [(0, .aload_n 0, 1, 0, 0, 0, []), (1, .iconst 0, 1, 0, 0, 0, []), (2, .putfield 110, 3, 10, 41, 0, []), (5, .aload_n 0, 1, 0, 0, 0, []), (6, .iload_n 1, 1, 0, 0, 0, []), (7, .invokevirtual 120, 3, 91, 0, 0, []), (10, .ifCond .ne 5, 3, 15, 0, 0, []), (13, .iconst (-1), 1, 0, 0, (-1), []), (14, .ireturn, 1, 0, 0, 0, []), (15, .iload_n 2, 1, 0, 0, 0, []), (16, .tableswitch 125 0 5 #[40, 47, 54, 61, 81, 104], 40, 141, 0, 0, [56, 63, 70, 77, 97, 120]), (56, .aload_n 0, 1, 0, 0, 0, []), (57, .getfield 28, 3, 10, 7, 0, []), (60, .iload_n 1, 1, 0, 0, 0, []), (61, .iaload, 1, 0, 0, 0, []), (62, .ireturn, 1, 0, 0, 0, []), (63, .aload_n 0, 1, 0, 0, 0, []), (64, .getfield 34, 3, 10, 9, 0, []), (67, .iload_n 1, 1, 0, 0, 0, []), (68, .iaload, 1, 0, 0, 0, []), (69, .ireturn, 1, 0, 0, 0, []), (70, .aload_n 0, 1, 0, 0, 0, []), (71, .getfield 37, 3, 10, 10, 0, []), (74, .iload_n 1, 1, 0, 0, 0, []), (75, .iaload, 1, 0, 0, 0, []), (76, .ireturn, 1, 0, 0, 0, []), (77, .aload_n 0, 1, 0, 0, 0, []), (78, .getfield 37, 3, 10, 10, 0, []), (81, .iload_n 1, 1, 0, 0, 0, []), (82, .iaload, 1, 0, 0, 0, []), (83, .ifCond .le 12, 3, 95, 0, 0, []), (86, .aload_n 0, 1, 0, 0, 0, []), (87, .getfield 40, 3, 10, 11, 0, []), (90, .iload_n 1, 1, 0, 0, 0, []), (91, .iaload, 1, 0, 0, 0, []), (92, .goto 4, 3, 96, 0, 0, []), (95, .iconst (-1), 1, 0, 0, (-1), []), (96, .ireturn, 1, 0, 0, 0, []), (97, .aload_n 0, 1, 0, 0, 0, []), (98, .getfield 37, 3, 10, 10, 0, []), (101, .iload_n 1, 1, 0, 0, 0, []), (102, .iaload, 1, 0, 0, 0, []), (103, .iconst 2, 1, 0, 0, 2, []), (104, .irem, 1, 0, 0, 0, []), (105, .iconst 1, 1, 0, 0, 1, []), (106, .if_icmp .ne 12, 3, 118, 0, 0, []), (109, .aload_n 0, 1, 0, 0, 0, []), (110, .getfield 43, 3, 10, 12, 0, []), (113, .iload_n 1, 1, 0, 0, 0, []), (114, .iaload, 1, 0, 0, 0, []), (115, .goto 4, 3, 119, 0, 0, []), (118, .iconst 0, 1, 0, 0, 0, []), (119, .ireturn, 1, 0, 0, 0, []), (120, .aload_n 0, 1, 0, 0, 0, []), (121, .getfield 37, 3, 10, 10, 0, []), (124, .iload_n 1, 1, 0, 0, 0, []), (125, .iaload, 1, 0, 0, 0, []), (126, .iconst 2, 1, 0, 0, 2, []), (127, .if_icmp .ne 12, 3, 139, 0, 0, []), (130, .aload_n 0, 1, 0, 0, 0, []), (131, .getfield 46, 3, 10, 13, 0, []), (134, .iload_n 1, 1, 0, 0, 0, []), (135, .iaload, 1, 0, 0, 0, []), (136, .goto 4, 3, 140, 0, 0, []), (139, .iconst 0, 1, 0, 0, 0, []), (140, .ireturn, 1, 0, 0, 0, []), (141, .iconst (-1), 1, 0, 0, (-1), []), (142, .ireturn, 1, 0, 0, 0, [])]
set_option maxRecDepth 100000 in
theorem cdo_101 : cdM 101 cd_101 := (⟨by unfold ciOK; decide +kernel, by decide +kernel⟩ : cdOK prog_12_method_20_code 10 3 false cd_101)
-- 102: WatchValleyModel_at
def cd_102 : List CI := [(0, .aload_n 0, 1, 0, 0, 0, []), (1, .iconst 0, 1, 0, 0, 0, []), (2, .putfield 110, 3, 10, 41, 0, []), (5, .aload_n 0, 1, 0, 0, 0, []), (6, .iload_n 1, 1, 0, 0, 0, []), (7, .invokevirtual 120, 3, 91, 0, 0, []), (10, .ifCond .eq 34, 3, 44, 0, 0, []), (13, .iload_n 2, 1, 0, 0, 0, []), (14, .iconst 0, 1, 0, 0, 0, []), (15, .aload_n 0, 1, 0, 0, 0, []), (16, .getfield 34, 3, 10, 9, 0, []), (19, .iload_n 1, 1, 0, 0, 0, []), (20, .iaload, 1, 0, 0, 0, []), (21, .iconst 1, 1, 0, 0, 1, []), (22, .isub, 1, 0, 0, 0, []), (23, .invokestatic 117, 3, 85, 0, 0, []), (26, .ifCond .eq 18, 3, 44, 0, 0, []), (29, .aload_n 0, 1, 0, 0, 0, []), (30, .getfield 31, 3, 10, 8, 0, []), (33, .sipush 300, 3, 0, 0, 300, []), (36, .iload_n 1, 1, 0, 0, 0, []), (37, .imul, 1, 0, 0, 0, []), (38, .iload_n 2, 1, 0, 0, 0, []), (39, .iadd, 1, 0, 0, 0, []), (40, .iaload, 1, 0, 0, 0, []), (41, .goto 4, 3, 45, 0, 0, []), (44, .iconst (-1), 1, 0, 0, (-1), []), (45, .ireturn, 1, 0, 0, 0, [])]
set_option maxRecDepth 100000 in
theorem cdo_102 : cdM 102 cd_102 := (⟨by unfold ciOK; decide +kernel, by decide +kernel⟩ : cdOK prog_12_method_21_code 10 3 false cd_102)
-- 103: WatchValleyModel_piece
def cd_103 : List CI := [(0, .aload_n 0, 1, 0, 0, 0, []), (1, .iconst 0, 1, 0, 0, 0, []), (2, .putfield 110, 3, 10, 41, 0, []), (5, .iload_n 1, 1, 0, 0, 0, []), (6, .iconst 0, 1, 0, 0, 0, []), (7, .aload_n 0, 1, 0, 0, 0, []), (8, .getfield 127, 3, 10, 6, 0, []), (11, .iconst 1, 1, 0, 0, 1, []), (12, .isub, 1, 0, 0, 0, []), (13, .invokestatic 117, 3, 85, 0, 0, []), (16, .ifCond .eq 12, 3, 28, 0, 0, []), (19, .iload_n 2, 1, 0, 0, 0, []), (20, .iconst 0, 1, 0, 0, 0, []), (21, .iconst 5, 1, 0, 0, 5, []), (22, .invokestatic 117, 3, 85, 0, 0, []), (25, .ifCond .ne 10, 3, 35, 0, 0, []), (28, .aload_n 0, 1, 0, 0, 0, []), (29, .iconst 1, 1, 0, 0, 1, []), (30, .putfield 110, 3, 10, 41, 0, []), (33, .iconst 0, 1, 0, 0, 0, []), (34, .ireturn, 1, 0, 0, 0, []), (35, .iload_n 2, 1, 0, 0, 0, []), (36, .tableswitch 71 0 4 #[36, 43, 50, 57, 64], 36, 107, 0, 0, [72, 79, 86, 93, 100]), (72, .aload_n 0, 1, 0, 0, 0, []), (73, .getfield 9, 3, 10, 0, 0, []), (76, .iload_n 1, 1, 0, 0, 0, []), (77, .iaload, 1, 0, 0, 0, []), (78, .ireturn, 1, 0, 0, 0, []), (79, .aload_n 0, 1, 0, 0, 0, []), (80, .getfield 13, 3, 10, 1, 0, []), (83, .iload_n 1, 1, 0, 0, 0, []), (84, .iaload, 1, 0, 0, 0, []), (85, .ireturn, 1, 0, 0, 0, []), (86, .aload_n 0, 1, 0, 0, 0, []), (87, .getfield 16, 3, 10, 2, 0, []), (90, .iload_n 1, 1, 0, 0, 0, []), (91, .iaload, 1, 0, 0, 0, []), (92, .ireturn, 1, 0, 0, 0, []), (93, .aload_n 0, 1, 0, 0, 0, []), (94, .getfield 19, 3, 10, 3, 0, []), (97, .iload_n 1, 1, 0, 0, 0, []), (98, .iaload, 1, 0, 0, 0, []), (99, .ireturn, 1, 0, 0, 0, []), (100, .aload_n 0, 1, 0, 0, 0, []), (101, .getfield 22, 3, 10, 4, 0, []), (104, .iload_n 1, 1, 0, 0, 0, []), (105, .iaload, 1, 0, 0, 0, []), (106, .ireturn, 1, 0, 0, 0, []), (107, .aload_n 0, 1, 0, 0, 0, []), (108, .getfield 25, 3, 10, 5, 0, []), (111, .iload_n 1, 1, 0, 0, 0, []), (112, .iaload, 1, 0, 0, 0, []), (113, .ireturn, 1, 0, 0, 0, [])]
set_option maxRecDepth 100000 in
theorem cdo_103 : cdM 103 cd_103 := (⟨by unfold ciOK; decide +kernel, by decide +kernel⟩ : cdOK prog_12_method_22_code 10 3 false cd_103)
-- 104: WatchValleyModel_of
def cd_104 : List CI := [(0, .aload_n 0, 1, 0, 0, 0, []), (1, .iconst 0, 1, 0, 0, 0, []), (2, .putfield 110, 3, 10, 41, 0, []), (5, .iload_n 1, 1, 0, 0, 0, []), (6, .iconst 0, 1, 0, 0, 0, []), (7, .aload_n 0, 1, 0, 0, 0, []), (8, .getfield 124, 3, 10, 24, 0, []), (11, .iconst 1, 1, 0, 0, 1, []), (12, .isub, 1, 0, 0, 0, []), (13, .invokestatic 117, 3, 85, 0, 0, []), (16, .ifCond .ne 5, 3, 21, 0, 0, []), (19, .iconst (-1), 1, 0, 0, (-1), []), (20, .ireturn, 1, 0, 0, 0, []), (21, .iconst 0, 1, 0, 0, 0, []), (22, .istore_n 3, 1, 0, 0, 0, []), (23, .iload_n 2, 1, 0, 0, 0, []), (24, .tableswitch 131 0 6 #[44, 51, 58, 65, 72, 79, 86], 44, 155, 0, 0, [68, 75, 82, 89, 96, 103, 110]), (68, .aload_n 0, 1, 0, 0, 0, []), (69, .getfield 55, 3, 10, 18, 0, []), (72, .iload_n 1, 1, 0, 0, 0, []), (73, .iaload, 1, 0, 0, 0, []), (74, .ireturn, 1, 0, 0, 0, []), (75, .aload_n 0, 1, 0, 0, 0, []), (76, .getfield 58, 3, 10, 19, 0, []), (79, .iload_n 1, 1, 0, 0, 0, []), (80, .iaload, 1, 0, 0, 0, []), (81, .ireturn, 1, 0, 0, 0, []), (82, .aload_n 0, 1, 0, 0, 0, []), (83, .getfield 61, 3, 10, 20, 0, []), (86, .iload_n 1, 1, 0, 0, 0, []), (87, .iaload, 1, 0, 0, 0, []), (88, .ireturn, 1, 0, 0, 0, []), (89, .aload_n 0, 1, 0, 0, 0, []), (90, .getfield 64, 3, 10, 21, 0, []), (93, .iload_n 1, 1, 0, 0, 0, []), (94, .iaload, 1, 0, 0, 0, []), (95, .ireturn, 1, 0, 0, 0, []), (96, .aload_n 0, 1, 0, 0, 0, []), (97, .getfield 67, 3, 10, 22, 0, []), (100, .iload_n 1, 1, 0, 0, 0, []), (101, .iaload, 1, 0, 0, 0, []), (102, .ireturn, 1, 0, 0, 0, []), (103, .aload_n 0, 1, 0, 0, 0, []), (104, .getfield 70, 3, 10, 23, 0, []), (107, .iload_n 1, 1, 0, 0, 0, []), (108, .iaload, 1, 0, 0, 0, []), (109, .ireturn, 1, 0, 0, 0, []), (110, .iconst 0, 1, 0, 0, 0, []), (111, .istore 4, 2, 0, 0, 0, []), (113, .iload 4, 2, 0, 0, 0, []), (115, .aload_n 0, 1, 0, 0, 0, []), (116, .getfield 114, 3, 10, 16, 0, []), (119, .if_icmp .ge 34, 3, 153, 0, 0, []), (122, .aload_n 0, 1, 0, 0, 0, []), (123, .getfield 37, 3, 10, 10, 0, []), (126, .iload 4, 2, 0, 0, 0, []), (128, .iaload, 1, 0, 0, 0, []), (129, .iconst 2, 1, 0, 0, 2, []), (130, .if_icmp .ne 17, 3, 147, 0, 0, []), (133, .aload_n 0, 1, 0, 0, 0, []), (134, .getfield 40, 3, 10, 11, 0, []), (137, .iload 4, 2, 0, 0, 0, []), (139, .iaload, 1, 0, 0, 0, []), (140, .iload_n 1, 1, 0, 0, 0, []), (141, .if_icmp .ne 6, 3, 147, 0, 0, []), (144, .iinc 3 1, 3, 0, 0, 1, []), (147, .iinc 4 1, 3, 0, 0, 1, []), (150, .goto (-37), 3, 113, 0, 0, []), (153, .iload_n 3, 1, 0, 0, 0, []), (154, .ireturn, 1, 0, 0, 0, []), (155, .iconst (-1), 1, 0, 0, (-1), []), (156, .ireturn, 1, 0, 0, 0, [])]
set_option maxRecDepth 100000 in
theorem cdo_104 : cdM 104 cd_104 := (⟨by unfold ciOK; decide +kernel, by decide +kernel⟩ : cdOK prog_12_method_23_code 10 5 false cd_104)
-- 105: WatchValleyModel_wage
def cd_105 : List CI := [(0, .aload_n 0, 1, 0, 0, 0, []), (1, .iconst 0, 1, 0, 0, 0, []), (2, .putfield 110, 3, 10, 41, 0, []), (5, .iload_n 1, 1, 0, 0, 0, []), (6, .iconst 0, 1, 0, 0, 0, []), (7, .aload_n 0, 1, 0, 0, 0, []), (8, .getfield 124, 3, 10, 24, 0, []), (11, .iconst 1, 1, 0, 0, 1, []), (12, .isub, 1, 0, 0, 0, []), (13, .invokestatic 117, 3, 85, 0, 0, []), (16, .ifCond .eq 34, 3, 50, 0, 0, []), (19, .iload_n 2, 1, 0, 0, 0, []), (20, .iconst 0, 1, 0, 0, 0, []), (21, .sipush 400, 3, 0, 0, 400, []), (24, .invokestatic 117, 3, 85, 0, 0, []), (27, .ifCond .eq 23, 3, 50, 0, 0, []), (30, .iload_n 3, 1, 0, 0, 0, []), (31, .iconst 0, 1, 0, 0, 0, []), (32, .sipush 1000, 3, 0, 0, 1000, []), (35, .invokestatic 117, 3, 85, 0, 0, []), (38, .ifCond .eq 12, 3, 50, 0, 0, []), (41, .aload_n 0, 1, 0, 0, 0, []), (42, .getfield 177, 3, 10, 35, 0, []), (45, .bipush 100, 2, 0, 0, 100, []), (47, .if_icmp .ne 5, 3, 52, 0, 0, []), (50, .iconst (-1), 1, 0, 0, (-1), []), (51, .ireturn, 1, 0, 0, 0, []), (52, .aload_n 0, 1, 0, 0, 0, []), (53, .getfield 82, 3, 10, 31, 0, []), (56, .aload_n 0, 1, 0, 0, 0, []), (57, .getfield 177, 3, 10, 35, 0, []), (60, .iload_n 1, 1, 0, 0, 0, []), (61, .iastore, 1, 0, 0, 0, []), (62, .aload_n 0, 1, 0, 0, 0, []), (63, .getfield 85, 3, 10, 32, 0, []), (66, .aload_n 0, 1, 0, 0, 0, []), (67, .getfield 177, 3, 10, 35, 0, []), (70, .iload_n 2, 1, 0, 0, 0, []), (71, .iastore, 1, 0, 0, 0, []), (72, .aload_n 0, 1, 0, 0, 0, []), (73, .getfield 88, 3, 10, 33, 0, []), (76, .aload_n 0, 1, 0, 0, 0, []), (77, .getfield 177, 3, 10, 35, 0, []), (80, .iload_n 3, 1, 0, 0, 0, []), (81, .iastore, 1, 0, 0, 0, []), (82, .aload_n 0, 1, 0, 0, 0, []), (83, .getfield 91, 3, 10, 34, 0, []), (86, .aload_n 0, 1, 0, 0, 0, []), (87, .getfield 177, 3, 10, 35, 0, []), (90, .aload_n 0, 1, 0, 0, 0, []), (91, .getfield 151, 3, 10, 25, 0, []), (94, .iastore, 1, 0, 0, 0, []), (95, .aload_n 0, 1, 0, 0, 0, []), (96, .dup, 1, 0, 0, 0, []), (97, .getfield 177, 3, 10, 35, 0, []), (100, .iconst 1, 1, 0, 0, 1, []), (101, .iadd, 1, 0, 0, 0, []), (102, .putfield 177, 3, 10, 35, 0, []), (105, .aload_n 0, 1, 0, 0, 0, []), (106, .getfield 177, 3, 10, 35, 0, []), (109, .ireturn, 1, 0, 0, 0, [])]
set_option maxRecDepth 100000 in
theorem cdo_105 : cdM 105 cd_105 := (⟨by unfold ciOK; decide +kernel, by decide +kernel⟩ : cdOK prog_12_method_24_code 10 4 false cd_105)
-- 106: WatchValleyModel_due
def cd_106 : List CI := [(0, .aload_n 0, 1, 0, 0, 0, []), (1, .iconst 0, 1, 0, 0, 0, []), (2, .putfield 110, 3, 10, 41, 0, []), (5, .iload_n 1, 1, 0, 0, 0, []), (6, .iconst 0, 1, 0, 0, 0, []), (7, .aload_n 0, 1, 0, 0, 0, []), (8, .getfield 124, 3, 10, 24, 0, []), (11, .iconst 1, 1, 0, 0, 1, []), (12, .isub, 1, 0, 0, 0, []), (13, .invokestatic 117, 3, 85, 0, 0, []), (16, .ifCond .eq 15, 3, 31, 0, 0, []), (19, .iload_n 2, 1, 0, 0, 0, []), (20, .iconst 0, 1, 0, 0, 0, []), (21, .aload_n 0, 1, 0, 0, 0, []), (22, .getfield 151, 3, 10, 25, 0, []), (25, .invokestatic 117, 3, 85, 0, 0, []), (28, .ifCond .ne 10, 3, 38, 0, 0, []), (31, .aload_n 0, 1, 0, 0, 0, []), (32, .iconst 1, 1, 0, 0, 1, []), (33, .putfield 110, 3, 10, 41, 0, []), (36, .lconst 0, 1, 0, 0, 0, []), (37, .lreturn, 1, 0, 0, 0, []), (38, .lconst 0, 1, 0, 0, 0, []), (39, .lstore_n 3, 1, 0, 0, 0, []), (40, .iconst 0, 1, 0, 0, 0, []), (41, .istore 5, 2, 0, 0, 0, []), (43, .iload 5, 2, 0, 0, 0, []), (45, .aload_n 0, 1, 0, 0, 0, []), (46, .getfield 148, 3, 10, 30, 0, []), (49, .if_icmp .ge 57, 3, 106, 0, 0, []), (52, .aload_n 0, 1, 0, 0, 0, []), (53, .getfield 73, 3, 10, 27, 0, []), (56, .iload 5, 2, 0, 0, 0, []), (58, .iaload, 1, 0, 0, 0, []), (59, .iload_n 1, 1, 0, 0, 0, []), (60, .if_icmp .ne 40, 3, 100, 0, 0, []), (63, .aload_n 0, 1, 0, 0, 0, []), (64, .getfield 76, 3, 10, 28, 0, []), (67, .iload 5, 2, 0, 0, 0, []), (69, .iaload, 1, 0, 0, 0, []), (70, .iload_n 2, 1, 0, 0, 0, []), (71, .if_icmp .gt 29, 3, 100, 0, 0, []), (74, .lload_n 3, 1, 0, 0, 0, []), (75, .aload_n 0, 1, 0, 0, 0, []), (76, .getfield 79, 3, 10, 29, 0, []), (79, .iload 5, 2, 0, 0, 0, []), (81, .iaload, 1, 0, 0, 0, []), (82, .i2l, 1, 0, 0, 0, []), (83, .aload_n 0, 1, 0, 0, 0, []), (84, .iload_n 1, 1, 0, 0, 0, []), (85, .aload_n 0, 1, 0, 0, 0, []), (86, .getfield 76, 3, 10, 28, 0, []), (89, .iload 5, 2, 0, 0, 0, []), (91, .iaload, 1, 0, 0, 0, []), (92, .iload_n 2, 1, 0, 0, 0, []), (93, .invokevirtual 180, 3, 107, 0, 0, []), (96, .i2l, 1, 0, 0, 0, []), (97, .lmul, 1, 0, 0, 0, []), (98, .ladd, 1, 0, 0, 0, []), (99, .lstore_n 3, 1, 0, 0, 0, []), (100, .iinc 5 1, 3, 0, 0, 1, []), (103, .goto (-60), 3, 43, 0, 0, []), (106, .lload_n 3, 1, 0, 0, 0, []), (107, .lreturn, 1, 0, 0, 0, [])]
set_option maxRecDepth 100000 in
theorem cdo_106 : cdM 106 cd_106 := (⟨by unfold ciOK; decide +kernel, by decide +kernel⟩ : cdOK prog_12_method_26_code 10 6 false cd_106)
-- 107: WatchValleyModel_wageFor
def cd_107 : List CI := [(0, .iconst (-1), 1, 0, 0, (-1), []), (1, .istore 4, 2, 0, 0, 0, []), (3, .iconst 0, 1, 0, 0, 0, []), (4, .istore 5, 2, 0, 0, 0, []), (6, .iload 5, 2, 0, 0, 0, []), (8, .aload_n 0, 1, 0, 0, 0, []), (9, .getfield 177, 3, 10, 35, 0, []), (12, .if_icmp .ge 72, 3, 84, 0, 0, []), (15, .aload_n 0, 1, 0, 0, 0, []), (16, .getfield 82, 3, 10, 31, 0, []), (19, .iload 5, 2, 0, 0, 0, []), (21, .iaload, 1, 0, 0, 0, []), (22, .iload_n 1, 1, 0, 0, 0, []), (23, .if_icmp .ne 55, 3, 78, 0, 0, []), (26, .aload_n 0, 1, 0, 0, 0, []), (27, .getfield 91, 3, 10, 34, 0, []), (30, .iload 5, 2, 0, 0, 0, []), (32, .iaload, 1, 0, 0, 0, []), (33, .iload_n 3, 1, 0, 0, 0, []), (34, .if_icmp .gt 44, 3, 78, 0, 0, []), (37, .aload_n 0, 1, 0, 0, 0, []), (38, .getfield 85, 3, 10, 32, 0, []), (41, .iload 5, 2, 0, 0, 0, []), (43, .iaload, 1, 0, 0, 0, []), (44, .iload_n 2, 1, 0, 0, 0, []), (45, .if_icmp .le 6, 3, 51, 0, 0, []), (48, .goto 30, 3, 78, 0, 0, []), (51, .iload 4, 2, 0, 0, 0, []), (53, .iconst (-1), 1, 0, 0, (-1), []), (54, .if_icmp .eq 20, 3, 74, 0, 0, []), (57, .aload_n 0, 1, 0, 0, 0, []), (58, .getfield 85, 3, 10, 32, 0, []), (61, .iload 5, 2, 0, 0, 0, []), (63, .iaload, 1, 0, 0, 0, []), (64, .aload_n 0, 1, 0, 0, 0, []), (65, .getfield 85, 3, 10, 32, 0, []), (68, .iload 4, 2, 0, 0, 0, []), (70, .iaload, 1, 0, 0, 0, []), (71, .if_icmp .lt 7, 3, 78, 0, 0, []), (74, .iload 5, 2, 0, 0, 0, []), (76, .istore 4, 2, 0, 0, 0, []), (78, .iinc 5 1, 3, 0, 0, 1, []), (81, .goto (-75), 3, 6, 0, 0, []), (84, .iload 4, 2, 0, 0, 0, []), (86, .iconst (-1), 1, 0, 0, (-1), []), (87, .if_icmp .ne 7, 3, 94, 0, 0, []), (90, .iconst 0, 1, 0, 0, 0, []), (91, .goto 10, 3, 101, 0, 0, []), (94, .aload_n 0, 1, 0, 0, 0, []), (95, .getfield 88, 3, 10, 33, 0, []), (98, .iload 4, 2, 0, 0, 0, []), (100, .iaload, 1, 0, 0, 0, []), (101, .ireturn, 1, 0, 0, 0, [])]
set_option maxRecDepth 100000 in
theorem cdo_107 : cdM 107 cd_107 := (⟨by unfold ciOK; decide +kernel, by decide +kernel⟩ : cdOK prog_12_method_25_code 10 6 false cd_107)
-- 108: WatchValleyModel_fit
def cd_108 : List CI := [(0, .aload_n 0, 1, 0, 0, 0, []), (1, .iconst 0, 1, 0, 0, 0, []), (2, .putfield 110, 3, 10, 41, 0, []), (5, .iload_n 1, 1, 0, 0, 0, []), (6, .iconst 0, 1, 0, 0, 0, []), (7, .iconst 1, 1, 0, 0, 1, []), (8, .invokestatic 117, 3, 85, 0, 0, []), (11, .ifCond .eq 8, 3, 19, 0, 0, []), (14, .iload_n 2, 1, 0, 0, 0, []), (15, .iload_n 3, 1, 0, 0, 0, []), (16, .if_icmp .le 5, 3, 21, 0, 0, []), (19, .iconst 0, 1, 0, 0, 0, []), (20, .ireturn, 1, 0, 0, 0, []), (21, .aload_n 0, 1, 0, 0, 0, []), (22, .getfield 94, 3, 10, 36, 0, []), (25, .iload_n 1, 1, 0, 0, 0, []), (26, .iload_n 2, 1, 0, 0, 0, []), (27, .iastore, 1, 0, 0, 0, []), (28, .aload_n 0, 1, 0, 0, 0, []), (29, .getfield 97, 3, 10, 37, 0, []), (32, .iload_n 1, 1, 0, 0, 0, []), (33, .iload_n 3, 1, 0, 0, 0, []), (34, .iastore, 1, 0, 0, 0, []), (35, .iconst 1, 1, 0, 0, 1, []), (36, .ireturn, 1, 0, 0, 0, [])]
set_option maxRecDepth 100000 in
theorem cdo_108 : cdM 108 cd_108 := (⟨by unfold ciOK; decide +kernel, by decide +kernel⟩ : cdOK prog_12_method_27_code 10 4 false cd_108)
-- 109: WatchValleyModel_fits
def cd_109 : List CI := [(0, .aload_n 0, 1, 0, 0, 0, []), (1, .iconst 0, 1, 0, 0, 0, []), (2, .putfield 110, 3, 10, 41, 0, []), (5, .iload_n 1, 1, 0, 0, 0, []), (6, .iconst 0, 1, 0, 0, 0, []), (7, .aload_n 0, 1, 0, 0, 0, []), (8, .getfield 127, 3, 10, 6, 0, []), (11, .iconst 1, 1, 0, 0, 1, []), (12, .isub, 1, 0, 0, 0, []), (13, .invokestatic 117, 3, 85, 0, 0, []), (16, .ifCond .eq 44, 3, 60, 0, 0, []), (19, .iload_n 2, 1, 0, 0, 0, []), (20, .iconst 0, 1, 0, 0, 0, []), (21, .aload_n 0, 1, 0, 0, 0, []), (22, .getfield 127, 3, 10, 6, 0, []), (25, .iconst 1, 1, 0, 0, 1, []), (26, .isub, 1, 0, 0, 0, []), (27, .invokestatic 117, 3, 85, 0, 0, []), (30, .ifCond .eq 30, 3, 60, 0, 0, []), (33, .aload_n 0, 1, 0, 0, 0, []), (34, .getfield 9, 3, 10, 0, 0, []), (37, .iload_n 1, 1, 0, 0, 0, []), (38, .iaload, 1, 0, 0, 0, []), (39, .iconst 1, 1, 0, 0, 1, []), (40, .if_icmp .gt 20, 3, 60, 0, 0, []), (43, .aload_n 0, 1, 0, 0, 0, []), (44, .getfield 9, 3, 10, 0, 0, []), (47, .iload_n 2, 1, 0, 0, 0, []), (48, .iaload, 1, 0, 0, 0, []), (49, .aload_n 0, 1, 0, 0, 0, []), (50, .getfield 9, 3, 10, 0, 0, []), (53, .iload_n 1, 1, 0, 0, 0, []), (54, .iaload, 1, 0, 0, 0, []), (55, .iconst 1, 1, 0, 0, 1, []), (56, .iadd, 1, 0, 0, 0, []), (57, .if_icmp .eq 5, 3, 62, 0, 0, []), (60, .iconst (-1), 1, 0, 0, (-1), []), (61, .ireturn, 1, 0, 0, 0, []), (62, .aload_n 0, 1, 0, 0, 0, []), (63, .iload_n 1, 1, 0, 0, 0, []), (64, .iload_n 2, 1, 0, 0, 0, []), (65, .invokevirtual 184, 3, 110, 0, 0, []), (68, .ifCond .eq 7, 3, 75, 0, 0, []), (71, .iconst 1, 1, 0, 0, 1, []), (72, .goto 4, 3, 76, 0, 0, []), (75, .iconst 0, 1, 0, 0, 0, []), (76, .ireturn, 1, 0, 0, 0, [])]
set_option maxRecDepth 100000 in
theorem cdo_109 : cdM 109 cd_109 := (⟨by unfold ciOK; decide +kernel, by decide +kernel⟩ : cdOK prog_12_method_29_code 10 3 false cd_109)
-- 110: WatchValleyModel_doFit
def cd_110 : List CI := [(0, .aload_n 0, 1, 0, 0, 0, []), (1, .getfield 13, 3, 10, 1, 0, []), (4, .iload_n 1, 1, 0, 0, 0, []), (5, .iaload, 1, 0, 0, 0, []), (6, .aload_n 0, 1, 0, 0, 0, []), (7, .getfield 13, 3, 10, 1, 0, []), (10, .iload_n 2, 1, 0, 0, 0, []), (11, .iaload, 1, 0, 0, 0, []), (12, .isub, 1, 0, 0, 0, []), (13, .istore_n 3, 1, 0, 0, 0, []), (14, .iload_n 3, 1, 0, 0, 0, []), (15, .aload_n 0, 1, 0, 0, 0, []), (16, .getfield 94, 3, 10, 36, 0, []), (19, .aload_n 0, 1, 0, 0, 0, []), (20, .getfield 9, 3, 10, 0, 0, []), (23, .iload_n 1, 1, 0, 0, 0, []), (24, .iaload, 1, 0, 0, 0, []), (25, .iaload, 1, 0, 0, 0, []), (26, .if_icmp .lt 22, 3, 48, 0, 0, []), (29, .iload_n 3, 1, 0, 0, 0, []), (30, .aload_n 0, 1, 0, 0, 0, []), (31, .getfield 97, 3, 10, 37, 0, []), (34, .aload_n 0, 1, 0, 0, 0, []), (35, .getfield 9, 3, 10, 0, 0, []), (38, .iload_n 1, 1, 0, 0, 0, []), (39, .iaload, 1, 0, 0, 0, []), (40, .iaload, 1, 0, 0, 0, []), (41, .if_icmp .gt 7, 3, 48, 0, 0, []), (44, .iconst 1, 1, 0, 0, 1, []), (45, .goto 4, 3, 49, 0, 0, []), (48, .iconst 0, 1, 0, 0, 0, []), (49, .ireturn, 1, 0, 0, 0, [])]
set_option maxRecDepth 100000 in
theorem cdo_110 : cdM 110 cd_110 := (⟨by unfold ciOK; decide +kernel, by decide +kernel⟩ : cdOK prog_12_method_28_code 10 4 false cd_110)
-- 111: WatchValleyModel_most
def cd_111 : List CI := [(0, .aload_n 0, 1, 0, 0, 0, []), (1, .iconst 0, 1, 0, 0, 0, []), (2, .putfield 110, 3, 10, 41, 0, []), (5, .aload_n 0, 1, 0, 0, 0, []), (6, .iload_n 1, 1, 0, 0, 0, []), (7, .iload_n 2, 1, 0, 0, 0, []), (8, .iload_n 3, 1, 0, 0, 0, []), (9, .invokevirtual 202, 3, 112, 0, 0, []), (12, .ifCond .eq 16, 3, 28, 0, 0, []), (15, .aload_n 0, 1, 0, 0, 0, []), (16, .iload_n 1, 1, 0, 0, 0, []), (17, .iload_n 2, 1, 0, 0, 0, []), (18, .iload_n 3, 1, 0, 0, 0, []), (19, .invokevirtual 205, 3, 113, 0, 0, []), (22, .invokestatic 196, 3, 114, 0, 0, []), (25, .goto 4, 3, 29, 0, 0, []), (28, .iconst (-1), 1, 0, 0, (-1), []), (29, .ireturn, 1, 0, 0, 0, [])]
set_option maxRecDepth 100000 in
theorem cdo_111 : cdM 111 cd_111 := (⟨by unfold ciOK; decide +kernel, by decide +kernel⟩ : cdOK prog_12_method_34_code 10 4 false cd_111)
-- 112: WatchValleyModel_areLots
def cd_112 : List CI := [(0, .aload_n 0, 1, 0, 0, 0, []), (1, .iload_n 1, 1, 0, 0, 0, []), (2, .invokevirtual 142, 3, 90, 0, 0, []), (5, .ifCond .eq 19, 3, 24, 0, 0, []), (8, .aload_n 0, 1, 0, 0, 0, []), (9, .iload_n 2, 1, 0, 0, 0, []), (10, .invokevirtual 142, 3, 90, 0, 0, []), (13, .ifCond .eq 11, 3, 24, 0, 0, []), (16, .aload_n 0, 1, 0, 0, 0, []), (17, .iload_n 3, 1, 0, 0, 0, []), (18, .invokevirtual 142, 3, 90, 0, 0, []), (21, .ifCond .ne 5, 3, 26, 0, 0, []), (24, .iconst 0, 1, 0, 0, 0, []), (25, .ireturn, 1, 0, 0, 0, []), (26, .aload_n 0, 1, 0, 0, 0, []), (27, .getfield 28, 3, 10, 7, 0, []), (30, .iload_n 1, 1, 0, 0, 0, []), (31, .iaload, 1, 0, 0, 0, []), (32, .ifCond .ne 60, 3, 92, 0, 0, []), (35, .aload_n 0, 1, 0, 0, 0, []), (36, .getfield 28, 3, 10, 7, 0, []), (39, .iload_n 2, 1, 0, 0, 0, []), (40, .iaload, 1, 0, 0, 0, []), (41, .iconst 1, 1, 0, 0, 1, []), (42, .if_icmp .ne 50, 3, 92, 0, 0, []), (45, .aload_n 0, 1, 0, 0, 0, []), (46, .getfield 28, 3, 10, 7, 0, []), (49, .iload_n 3, 1, 0, 0, 0, []), (50, .iaload, 1, 0, 0, 0, []), (51, .iconst 2, 1, 0, 0, 2, []), (52, .if_icmp .ne 40, 3, 92, 0, 0, []), (55, .aload_n 0, 1, 0, 0, 0, []), (56, .getfield 34, 3, 10, 9, 0, []), (59, .iload_n 1, 1, 0, 0, 0, []), (60, .iaload, 1, 0, 0, 0, []), (61, .bipush 10, 2, 0, 0, 10, []), (63, .if_icmp .gt 29, 3, 92, 0, 0, []), (66, .aload_n 0, 1, 0, 0, 0, []), (67, .getfield 34, 3, 10, 9, 0, []), (70, .iload_n 2, 1, 0, 0, 0, []), (71, .iaload, 1, 0, 0, 0, []), (72, .bipush 10, 2, 0, 0, 10, []), (74, .if_icmp .gt 18, 3, 92, 0, 0, []), (77, .aload_n 0, 1, 0, 0, 0, []), (78, .getfield 34, 3, 10, 9, 0, []), (81, .iload_n 3, 1, 0, 0, 0, []), (82, .iaload, 1, 0, 0, 0, []), (83, .bipush 10, 2, 0, 0, 10, []), (85, .if_icmp .gt 7, 3, 92, 0, 0, []), (88, .iconst 1, 1, 0, 0, 1, []), (89, .goto 4, 3, 93, 0, 0, []), (92, .iconst 0, 1, 0, 0, 0, []), (93, .ireturn, 1, 0, 0, 0, [])]
set_option maxRecDepth 100000 in
theorem cdo_112 : cdM 112 cd_112 := (⟨by unfold ciOK; decide +kernel, by decide +kernel⟩ : cdOK prog_12_method_31_code 10 4 false cd_112)
-- 113: WatchValleyModel_taken
def cd_113 : List CI := [(0, .iconst 0, 1, 0, 0, 0, []), (1, .istore 4, 2, 0, 0, 0, []), (3, .iload 4, 2, 0, 0, 0, []), (5, .aload_n 0, 1, 0, 0, 0, []), (6, .getfield 34, 3, 10, 9, 0, []), (9, .iload_n 2, 1, 0, 0, 0, []), (10, .iaload, 1, 0, 0, 0, []), (11, .if_icmp .ge 153, 3, 164, 0, 0, []), (14, .aload_n 0, 1, 0, 0, 0, []), (15, .getfield 31, 3, 10, 8, 0, []), (18, .sipush 300, 3, 0, 0, 300, []), (21, .iload_n 2, 1, 0, 0, 0, []), (22, .imul, 1, 0, 0, 0, []), (23, .iload 4, 2, 0, 0, 0, []), (25, .iadd, 1, 0, 0, 0, []), (26, .iaload, 1, 0, 0, 0, []), (27, .istore 5, 2, 0, 0, 0, []), (29, .iconst 0, 1, 0, 0, 0, []), (30, .istore 6, 2, 0, 0, 0, []), (32, .iconst 0, 1, 0, 0, 0, []), (33, .istore 7, 2, 0, 0, 0, []), (35, .iconst 0, 1, 0, 0, 0, []), (36, .istore 8, 2, 0, 0, 0, []), (38, .iload 8, 2, 0, 0, 0, []), (40, .aload_n 0, 1, 0, 0, 0, []), (41, .getfield 34, 3, 10, 9, 0, []), (44, .iload_n 1, 1, 0, 0, 0, []), (45, .iaload, 1, 0, 0, 0, []), (46, .if_icmp .ge 40, 3, 86, 0, 0, []), (49, .aload_n 0, 1, 0, 0, 0, []), (50, .aload_n 0, 1, 0, 0, 0, []), (51, .getfield 31, 3, 10, 8, 0, []), (54, .sipush 300, 3, 0, 0, 300, []), (57, .iload_n 1, 1, 0, 0, 0, []), (58, .imul, 1, 0, 0, 0, []), (59, .iload 8, 2, 0, 0, 0, []), (61, .iadd, 1, 0, 0, 0, []), (62, .iaload, 1, 0, 0, 0, []), (63, .iload 5, 2, 0, 0, 0, []), (65, .invokevirtual 184, 3, 110, 0, 0, []), (68, .ifCond .eq 12, 3, 80, 0, 0, []), (71, .iload 6, 2, 0, 0, 0, []), (73, .iconst 1, 1, 0, 0, 1, []), (74, .iload 8, 2, 0, 0, 0, []), (76, .ishl, 1, 0, 0, 0, []), (77, .ior, 1, 0, 0, 0, []), (78, .istore 6, 2, 0, 0, 0, []), (80, .iinc 8 1, 3, 0, 0, 1, []), (83, .goto (-45), 3, 38, 0, 0, []), (86, .iconst 0, 1, 0, 0, 0, []), (87, .istore 8, 2, 0, 0, 0, []), (89, .iload 8, 2, 0, 0, 0, []), (91, .aload_n 0, 1, 0, 0, 0, []), (92, .getfield 34, 3, 10, 9, 0, []), (95, .iload_n 3, 1, 0, 0, 0, []), (96, .iaload, 1, 0, 0, 0, []), (97, .if_icmp .ge 40, 3, 137, 0, 0, []), (100, .aload_n 0, 1, 0, 0, 0, []), (101, .iload 5, 2, 0, 0, 0, []), (103, .aload_n 0, 1, 0, 0, 0, []), (104, .getfield 31, 3, 10, 8, 0, []), (107, .sipush 300, 3, 0, 0, 300, []), (110, .iload_n 3, 1, 0, 0, 0, []), (111, .imul, 1, 0, 0, 0, []), (112, .iload 8, 2, 0, 0, 0, []), (114, .iadd, 1, 0, 0, 0, []), (115, .iaload, 1, 0, 0, 0, []), (116, .invokevirtual 184, 3, 110, 0, 0, []), (119, .ifCond .eq 12, 3, 131, 0, 0, []), (122, .iload 7, 2, 0, 0, 0, []), (124, .iconst 1, 1, 0, 0, 1, []), (125, .iload 8, 2, 0, 0, 0, []), (127, .ishl, 1, 0, 0, 0, []), (128, .ior, 1, 0, 0, 0, []), (129, .istore 7, 2, 0, 0, 0, []), (131, .iinc 8 1, 3, 0, 0, 1, []), (134, .goto (-45), 3, 89, 0, 0, []), (137, .aload_n 0, 1, 0, 0, 0, []), (138, .getfield 107, 3, 10, 42, 0, []), (141, .iload 4, 2, 0, 0, 0, []), (143, .iload 6, 2, 0, 0, 0, []), (145, .iastore, 1, 0, 0, 0, []), (146, .aload_n 0, 1, 0, 0, 0, []), (147, .getfield 107, 3, 10, 42, 0, []), (150, .bipush 10, 2, 0, 0, 10, []), (152, .iload 4, 2, 0, 0, 0, []), (154, .iadd, 1, 0, 0, 0, []), (155, .iload 7, 2, 0, 0, 0, []), (157, .iastore, 1, 0, 0, 0, []), (158, .iinc 4 1, 3, 0, 0, 1, []), (161, .goto (-158), 3, 3, 0, 0, []), (164, .iconst 0, 1, 0, 0, 0, []), (165, .istore 4, 2, 0, 0, 0, []), (167, .iconst 1, 1, 0, 0, 1, []), (168, .istore 5, 2, 0, 0, 0, []), (170, .iload 5, 2, 0, 0, 0, []), (172, .iconst 1, 1, 0, 0, 1, []), (173, .aload_n 0, 1, 0, 0, 0, []), (174, .getfield 34, 3, 10, 9, 0, []), (177, .iload_n 2, 1, 0, 0, 0, []), (178, .iaload, 1, 0, 0, 0, []), (179, .ishl, 1, 0, 0, 0, []), (180, .if_icmp .ge 94, 3, 274, 0, 0, []), (183, .iload 5, 2, 0, 0, 0, []), (185, .invokestatic 196, 3, 114, 0, 0, []), (188, .istore 6, 2, 0, 0, 0, []), (190, .iload 4, 2, 0, 0, 0, []), (192, .invokestatic 196, 3, 114, 0, 0, []), (195, .istore 7, 2, 0, 0, 0, []), (197, .iload 6, 2, 0, 0, 0, []), (199, .iload 7, 2, 0, 0, 0, []), (201, .if_icmp .lt 67, 3, 268, 0, 0, []), (204, .iload 6, 2, 0, 0, 0, []), (206, .iload 7, 2, 0, 0, 0, []), (208, .if_icmp .ne 16, 3, 224, 0, 0, []), (211, .iload 5, 2, 0, 0, 0, []), (213, .iload 4, 2, 0, 0, 0, []), (215, .invokestatic 199, 3, 115, 0, 0, []), (218, .ifCond .ne 6, 3, 224, 0, 0, []), (221, .goto 47, 3, 268, 0, 0, []), (224, .aload_n 0, 1, 0, 0, 0, []), (225, .iconst 0, 1, 0, 0, 0, []), (226, .iload 5, 2, 0, 0, 0, []), (228, .iconst 1, 1, 0, 0, 1, []), (229, .aload_n 0, 1, 0, 0, 0, []), (230, .getfield 34, 3, 10, 9, 0, []), (233, .iload_n 1, 1, 0, 0, 0, []), (234, .iaload, 1, 0, 0, 0, []), (235, .ishl, 1, 0, 0, 0, []), (236, .iconst 1, 1, 0, 0, 1, []), (237, .isub, 1, 0, 0, 0, []), (238, .invokevirtual 193, 3, 116, 0, 0, []), (241, .ifCond .eq 27, 3, 268, 0, 0, []), (244, .aload_n 0, 1, 0, 0, 0, []), (245, .iconst 1, 1, 0, 0, 1, []), (246, .iload 5, 2, 0, 0, 0, []), (248, .iconst 1, 1, 0, 0, 1, []), (249, .aload_n 0, 1, 0, 0, 0, []), (250, .getfield 34, 3, 10, 9, 0, []), (253, .iload_n 3, 1, 0, 0, 0, []), (254, .iaload, 1, 0, 0, 0, []), (255, .ishl, 1, 0, 0, 0, []), (256, .iconst 1, 1, 0, 0, 1, []), (257, .isub, 1, 0, 0, 0, []), (258, .invokevirtual 193, 3, 116, 0, 0, []), (261, .ifCond .eq 7, 3, 268, 0, 0, []), (264, .iload 5, 2, 0, 0, 0, []), (266, .istore 4, 2, 0, 0, 0, []), (268, .iinc 5 1, 3, 0, 0, 1, []), (271, .goto (-101), 3, 170, 0, 0, []), (274, .iload 4, 2, 0, 0, 0, []), (276, .ireturn, 1, 0, 0, 0, [])]
set_option maxRecDepth 100000 in
theorem cdo_113 : cdM 113 cd_113 := (⟨by unfold ciOK; decide +kernel, by decide +kernel⟩ : cdOK prog_12_method_33_code 10 9 false cd_113)
-- 115: WatchValleyModel_isAhead
def cd_115 : List CI := [(0, .iload_n 0, 1, 0, 0, 0, []), (1, .iload_n 1, 1, 0, 0, 0, []), (2, .ixor, 1, 0, 0, 0, []), (3, .istore_n 2, 1, 0, 0, 0, []), (4, .iload_n 2, 1, 0, 0, 0, []), (5, .ifCond .eq 16, 3, 21, 0, 0, []), (8, .iload_n 0, 1, 0, 0, 0, []), (9, .iload_n 2, 1, 0, 0, 0, []), (10, .iand, 1, 0, 0, 0, []), (11, .iload_n 2, 1, 0, 0, 0, []), (12, .ineg, 1, 0, 0, 0, []), (13, .iand, 1, 0, 0, 0, []), (14, .ifCond .eq 7, 3, 21, 0, 0, []), (17, .iconst 1, 1, 0, 0, 1, []), (18, .goto 4, 3, 22, 0, 0, []), (21, .iconst 0, 1, 0, 0, 0, []), (22, .ireturn, 1, 0, 0, 0, [])]
set_option maxRecDepth 100000 in
theorem cdo_115 : cdM 115 cd_115 := (⟨by unfold ciOK; decide +kernel, by decide +kernel⟩ : cdOK prog_12_method_32_code 10 3 false cd_115)
-- 116: WatchValleyModel_can
def cd_116 : List CI := [(0, .iload_n 2, 1, 0, 0, 0, []), (1, .ifCond .ne 5, 3, 6, 0, 0, []), (4, .iconst 1, 1, 0, 0, 1, []), (5, .ireturn, 1, 0, 0, 0, []), (6, .iload_n 2, 1, 0, 0, 0, []), (7, .invokestatic 188, 3, 117, 0, 0, []), (10, .istore 4, 2, 0, 0, 0, []), (12, .aload_n 0, 1, 0, 0, 0, []), (13, .getfield 107, 3, 10, 42, 0, []), (16, .bipush 10, 2, 0, 0, 10, []), (18, .iload_n 1, 1, 0, 0, 0, []), (19, .imul, 1, 0, 0, 0, []), (20, .iload 4, 2, 0, 0, 0, []), (22, .iadd, 1, 0, 0, 0, []), (23, .iaload, 1, 0, 0, 0, []), (24, .iload_n 3, 1, 0, 0, 0, []), (25, .iand, 1, 0, 0, 0, []), (26, .istore 5, 2, 0, 0, 0, []), (28, .iload 5, 2, 0, 0, 0, []), (30, .ifCond .eq 41, 3, 71, 0, 0, []), (33, .iload 5, 2, 0, 0, 0, []), (35, .iload 5, 2, 0, 0, 0, []), (37, .ineg, 1, 0, 0, 0, []), (38, .iand, 1, 0, 0, 0, []), (39, .istore 6, 2, 0, 0, 0, []), (41, .iload 5, 2, 0, 0, 0, []), (43, .iload 6, 2, 0, 0, 0, []), (45, .ixor, 1, 0, 0, 0, []), (46, .istore 5, 2, 0, 0, 0, []), (48, .aload_n 0, 1, 0, 0, 0, []), (49, .iload_n 1, 1, 0, 0, 0, []), (50, .iload_n 2, 1, 0, 0, 0, []), (51, .iconst 1, 1, 0, 0, 1, []), (52, .iload 4, 2, 0, 0, 0, []), (54, .ishl, 1, 0, 0, 0, []), (55, .ixor, 1, 0, 0, 0, []), (56, .iload_n 3, 1, 0, 0, 0, []), (57, .iload 6, 2, 0, 0, 0, []), (59, .ixor, 1, 0, 0, 0, []), (60, .invokevirtual 193, 3, 116, 0, 0, []), (63, .ifCond .eq 5, 3, 68, 0, 0, []), (66, .iconst 1, 1, 0, 0, 1, []), (67, .ireturn, 1, 0, 0, 0, []), (68, .goto (-40), 3, 28, 0, 0, []), (71, .iconst 0, 1, 0, 0, 0, []), (72, .ireturn, 1, 0, 0, 0, [])]
set_option maxRecDepth 100000 in
theorem cdo_116 : cdM 116 cd_116 := (⟨by unfold ciOK; decide +kernel, by decide +kernel⟩ : cdOK prog_12_method_30_code 10 7 false cd_116)
-- 118: WatchValleyModel_make
def cd_118 : List CI := [(0, .aload_n 0, 1, 0, 0, 0, []), (1, .iconst 0, 1, 0, 0, 0, []), (2, .putfield 110, 3, 10, 41, 0, []), (5, .aload_n 0, 1, 0, 0, 0, []), (6, .iload_n 1, 1, 0, 0, 0, []), (7, .iload_n 2, 1, 0, 0, 0, []), (8, .iload_n 3, 1, 0, 0, 0, []), (9, .invokevirtual 202, 3, 112, 0, 0, []), (12, .ifCond .ne 5, 3, 17, 0, 0, []), (15, .iconst (-1), 1, 0, 0, (-1), []), (16, .ireturn, 1, 0, 0, 0, []), (17, .aload_n 0, 1, 0, 0, 0, []), (18, .iload_n 1, 1, 0, 0, 0, []), (19, .iload_n 2, 1, 0, 0, 0, []), (20, .iload_n 3, 1, 0, 0, 0, []), (21, .invokevirtual 205, 3, 113, 0, 0, []), (24, .istore 4, 2, 0, 0, 0, []), (26, .iconst 1, 1, 0, 0, 1, []), (27, .aload_n 0, 1, 0, 0, 0, []), (28, .getfield 34, 3, 10, 9, 0, []), (31, .iload_n 1, 1, 0, 0, 0, []), (32, .iaload, 1, 0, 0, 0, []), (33, .ishl, 1, 0, 0, 0, []), (34, .iconst 1, 1, 0, 0, 1, []), (35, .isub, 1, 0, 0, 0, []), (36, .istore 5, 2, 0, 0, 0, []), (38, .iconst 1, 1, 0, 0, 1, []), (39, .aload_n 0, 1, 0, 0, 0, []), (40, .getfield 34, 3, 10, 9, 0, []), (43, .iload_n 3, 1, 0, 0, 0, []), (44, .iaload, 1, 0, 0, 0, []), (45, .ishl, 1, 0, 0, 0, []), (46, .iconst 1, 1, 0, 0, 1, []), (47, .isub, 1, 0, 0, 0, []), (48, .istore 6, 2, 0, 0, 0, []), (50, .iload 4, 2, 0, 0, 0, []), (52, .istore 7, 2, 0, 0, 0, []), (54, .iconst 0, 1, 0, 0, 0, []), (55, .istore 8, 2, 0, 0, 0, []), (57, .iload 7, 2, 0, 0, 0, []), (59, .ifCond .eq 211, 3, 270, 0, 0, []), (62, .iload 7, 2, 0, 0, 0, []), (64, .invokestatic 188, 3, 117, 0, 0, []), (67, .istore 9, 2, 0, 0, 0, []), (69, .iload 7, 2, 0, 0, 0, []), (71, .iconst 1, 1, 0, 0, 1, []), (72, .iload 9, 2, 0, 0, 0, []), (74, .ishl, 1, 0, 0, 0, []), (75, .ixor, 1, 0, 0, 0, []), (76, .istore 7, 2, 0, 0, 0, []), (78, .aload_n 0, 1, 0, 0, 0, []), (79, .iconst 0, 1, 0, 0, 0, []), (80, .iload 9, 2, 0, 0, 0, []), (82, .iload 7, 2, 0, 0, 0, []), (84, .iload 5, 2, 0, 0, 0, []), (86, .invokevirtual 208, 3, 119, 0, 0, []), (89, .istore 10, 2, 0, 0, 0, []), (91, .aload_n 0, 1, 0, 0, 0, []), (92, .iconst 1, 1, 0, 0, 1, []), (93, .iload 9, 2, 0, 0, 0, []), (95, .iload 7, 2, 0, 0, 0, []), (97, .iload 6, 2, 0, 0, 0, []), (99, .invokevirtual 208, 3, 119, 0, 0, []), (102, .istore 11, 2, 0, 0, 0, []), (104, .iload 5, 2, 0, 0, 0, []), (106, .iconst 1, 1, 0, 0, 1, []), (107, .iload 10, 2, 0, 0, 0, []), (109, .ishl, 1, 0, 0, 0, []), (110, .ixor, 1, 0, 0, 0, []), (111, .istore 5, 2, 0, 0, 0, []), (113, .iload 6, 2, 0, 0, 0, []), (115, .iconst 1, 1, 0, 0, 1, []), (116, .iload 11, 2, 0, 0, 0, []), (118, .ishl, 1, 0, 0, 0, []), (119, .ixor, 1, 0, 0, 0, []), (120, .istore 6, 2, 0, 0, 0, []), (122, .iconst 3, 1, 0, 0, 3, []), (123, .aload_n 0, 1, 0, 0, 0, []), (124, .getfield 170, 3, 10, 40, 0, []), (127, .imul, 1, 0, 0, 0, []), (128, .istore 12, 2, 0, 0, 0, []), (130, .aload_n 0, 1, 0, 0, 0, []), (131, .getfield 100, 3, 10, 38, 0, []), (134, .iload 12, 2, 0, 0, 0, []), (136, .aload_n 0, 1, 0, 0, 0, []), (137, .getfield 31, 3, 10, 8, 0, []), (140, .sipush 300, 3, 0, 0, 300, []), (143, .iload_n 1, 1, 0, 0, 0, []), (144, .imul, 1, 0, 0, 0, []), (145, .iload 10, 2, 0, 0, 0, []), (147, .iadd, 1, 0, 0, 0, []), (148, .iaload, 1, 0, 0, 0, []), (149, .iastore, 1, 0, 0, 0, []), (150, .aload_n 0, 1, 0, 0, 0, []), (151, .getfield 100, 3, 10, 38, 0, []), (154, .iload 12, 2, 0, 0, 0, []), (156, .iconst 1, 1, 0, 0, 1, []), (157, .iadd, 1, 0, 0, 0, []), (158, .aload_n 0, 1, 0, 0, 0, []), (159, .getfield 31, 3, 10, 8, 0, []), (162, .sipush 300, 3, 0, 0, 300, []), (165, .iload_n 2, 1, 0, 0, 0, []), (166, .imul, 1, 0, 0, 0, []), (167, .iload 9, 2, 0, 0, 0, []), (169, .iadd, 1, 0, 0, 0, []), (170, .iaload, 1, 0, 0, 0, []), (171, .iastore, 1, 0, 0, 0, []), (172, .aload_n 0, 1, 0, 0, 0, []), (173, .getfield 100, 3, 10, 38, 0, []), (176, .iload 12, 2, 0, 0, 0, []), (178, .iconst 2, 1, 0, 0, 2, []), (179, .iadd, 1, 0, 0, 0, []), (180, .aload_n 0, 1, 0, 0, 0, []), (181, .getfield 31, 3, 10, 8, 0, []), (184, .sipush 300, 3, 0, 0, 300, []), (187, .iload_n 3, 1, 0, 0, 0, []), (188, .imul, 1, 0, 0, 0, []), (189, .iload 11, 2, 0, 0, 0, []), (191, .iadd, 1, 0, 0, 0, []), (192, .iaload, 1, 0, 0, 0, []), (193, .iastore, 1, 0, 0, 0, []), (194, .iconst 0, 1, 0, 0, 0, []), (195, .istore 13, 2, 0, 0, 0, []), (197, .iload 13, 2, 0, 0, 0, []), (199, .iconst 3, 1, 0, 0, 3, []), (200, .if_icmp .ge 44, 3, 244, 0, 0, []), (203, .aload_n 0, 1, 0, 0, 0, []), (204, .getfield 22, 3, 10, 4, 0, []), (207, .aload_n 0, 1, 0, 0, 0, []), (208, .getfield 100, 3, 10, 38, 0, []), (211, .iload 12, 2, 0, 0, 0, []), (213, .iload 13, 2, 0, 0, 0, []), (215, .iadd, 1, 0, 0, 0, []), (216, .iaload, 1, 0, 0, 0, []), (217, .iconst 2, 1, 0, 0, 2, []), (218, .iastore, 1, 0, 0, 0, []), (219, .aload_n 0, 1, 0, 0, 0, []), (220, .getfield 25, 3, 10, 5, 0, []), (223, .aload_n 0, 1, 0, 0, 0, []), (224, .getfield 100, 3, 10, 38, 0, []), (227, .iload 12, 2, 0, 0, 0, []), (229, .iload 13, 2, 0, 0, 0, []), (231, .iadd, 1, 0, 0, 0, []), (232, .iaload, 1, 0, 0, 0, []), (233, .aload_n 0, 1, 0, 0, 0, []), (234, .getfield 170, 3, 10, 40, 0, []), (237, .iastore, 1, 0, 0, 0, []), (238, .iinc 13 1, 3, 0, 0, 1, []), (241, .goto (-44), 3, 197, 0, 0, []), (244, .aload_n 0, 1, 0, 0, 0, []), (245, .getfield 103, 3, 10, 39, 0, []), (248, .aload_n 0, 1, 0, 0, 0, []), (249, .getfield 170, 3, 10, 40, 0, []), (252, .iconst 0, 1, 0, 0, 0, []), (253, .bastore, 1, 0, 0, 0, []), (254, .aload_n 0, 1, 0, 0, 0, []), (255, .dup, 1, 0, 0, 0, []), (256, .getfield 170, 3, 10, 40, 0, []), (259, .iconst 1, 1, 0, 0, 1, []), (260, .iadd, 1, 0, 0, 0, []), (261, .putfield 170, 3, 10, 40, 0, []), (264, .iinc 8 1, 3, 0, 0, 1, []), (267, .goto (-210), 3, 57, 0, 0, []), (270, .aload_n 0, 1, 0, 0, 0, []), (271, .iload_n 1, 1, 0, 0, 0, []), (272, .iconst 1, 1, 0, 0, 1, []), (273, .aload_n 0, 1, 0, 0, 0, []), (274, .getfield 34, 3, 10, 9, 0, []), (277, .iload_n 1, 1, 0, 0, 0, []), (278, .iaload, 1, 0, 0, 0, []), (279, .ishl, 1, 0, 0, 0, []), (280, .iconst 1, 1, 0, 0, 1, []), (281, .isub, 1, 0, 0, 0, []), (282, .iload 5, 2, 0, 0, 0, []), (284, .ixor, 1, 0, 0, 0, []), (285, .invokevirtual 212, 3, 120, 0, 0, []), (288, .aload_n 0, 1, 0, 0, 0, []), (289, .iload_n 2, 1, 0, 0, 0, []), (290, .iload 4, 2, 0, 0, 0, []), (292, .invokevirtual 212, 3, 120, 0, 0, []), (295, .aload_n 0, 1, 0, 0, 0, []), (296, .iload_n 3, 1, 0, 0, 0, []), (297, .iconst 1, 1, 0, 0, 1, []), (298, .aload_n 0, 1, 0, 0, 0, []), (299, .getfield 34, 3, 10, 9, 0, []), (302, .iload_n 3, 1, 0, 0, 0, []), (303, .iaload, 1, 0, 0, 0, []), (304, .ishl, 1, 0, 0, 0, []), (305, .iconst 1, 1, 0, 0, 1, []), (306, .isub, 1, 0, 0, 0, []), (307, .iload 6, 2, 0, 0, 0, []), (309, .ixor, 1, 0, 0, 0, []), (310, .invokevirtual 212, 3, 120, 0, 0, []), (313, .iload 8, 2, 0, 0, 0, []), (315, .ireturn, 1, 0, 0, 0, [])]
set_option maxRecDepth 100000 in
theorem cdo_118 : cdM 118 cd_118 := (⟨by unfold ciOK; decide +kernel, by decide +kernel⟩ : cdOK prog_12_method_37_code 10 14 false cd_118)
-- 119: WatchValleyModel_firstFor
def cd_119 : List CI := [(0, .iconst 0, 1, 0, 0, 0, []), (1, .istore 5, 2, 0, 0, 0, []), (3, .iload 5, 2, 0, 0, 0, []), (5, .bipush 10, 2, 0, 0, 10, []), (7, .if_icmp .ge 53, 3, 60, 0, 0, []), (10, .aload_n 0, 1, 0, 0, 0, []), (11, .getfield 107, 3, 10, 42, 0, []), (14, .bipush 10, 2, 0, 0, 10, []), (16, .iload_n 1, 1, 0, 0, 0, []), (17, .imul, 1, 0, 0, 0, []), (18, .iload_n 2, 1, 0, 0, 0, []), (19, .iadd, 1, 0, 0, 0, []), (20, .iaload, 1, 0, 0, 0, []), (21, .iload 4, 2, 0, 0, 0, []), (23, .iand, 1, 0, 0, 0, []), (24, .iconst 1, 1, 0, 0, 1, []), (25, .iload 5, 2, 0, 0, 0, []), (27, .ishl, 1, 0, 0, 0, []), (28, .iand, 1, 0, 0, 0, []), (29, .ifCond .ne 6, 3, 35, 0, 0, []), (32, .goto 22, 3, 54, 0, 0, []), (35, .aload_n 0, 1, 0, 0, 0, []), (36, .iload_n 1, 1, 0, 0, 0, []), (37, .iload_n 3, 1, 0, 0, 0, []), (38, .iload 4, 2, 0, 0, 0, []), (40, .iconst 1, 1, 0, 0, 1, []), (41, .iload 5, 2, 0, 0, 0, []), (43, .ishl, 1, 0, 0, 0, []), (44, .ixor, 1, 0, 0, 0, []), (45, .invokevirtual 193, 3, 116, 0, 0, []), (48, .ifCond .eq 6, 3, 54, 0, 0, []), (51, .iload 5, 2, 0, 0, 0, []), (53, .ireturn, 1, 0, 0, 0, []), (54, .iinc 5 1, 3, 0, 0, 1, []), (57, .goto (-54), 3, 3, 0, 0, []), (60, .iconst (-1), 1, 0, 0, (-1), []), (61, .ireturn, 1, 0, 0, 0, [])]
set_option maxRecDepth 100000 in
theorem cdo_119 : cdM 119 cd_119 := (⟨by unfold ciOK; decide +kernel, by decide +kernel⟩ : cdOK prog_12_method_35_code 10 6 false cd_119)
-- 120: WatchValleyModel_leave
def cd_120 : List CI := [(0, .aload_n 0, 1, 0, 0, 0, []), (1, .getfield 34, 3, 10, 9, 0, []), (4, .iload_n 1, 1, 0, 0, 0, []), (5, .iaload, 1, 0, 0, 0, []), (6, .iconst 1, 1, 0, 0, 1, []), (7, .isub, 1, 0, 0, 0, []), (8, .istore_n 3, 1, 0, 0, 0, []), (9, .iload_n 3, 1, 0, 0, 0, []), (10, .ifCond .lt 24, 3, 34, 0, 0, []), (13, .iload_n 2, 1, 0, 0, 0, []), (14, .iload_n 3, 1, 0, 0, 0, []), (15, .ishr, 1, 0, 0, 0, []), (16, .iconst 1, 1, 0, 0, 1, []), (17, .iand, 1, 0, 0, 0, []), (18, .iconst 1, 1, 0, 0, 1, []), (19, .if_icmp .ne 9, 3, 28, 0, 0, []), (22, .aload_n 0, 1, 0, 0, 0, []), (23, .iload_n 1, 1, 0, 0, 0, []), (24, .iload_n 3, 1, 0, 0, 0, []), (25, .invokevirtual 145, 3, 92, 0, 0, []), (28, .iinc 3 (-1), 3, 0, 0, (-1), []), (31, .goto (-22), 3, 9, 0, 0, []), (34, .return_, 1, 0, 0, 0, [])]
set_option maxRecDepth 100000 in
theorem cdo_120 : cdM 120 cd_120 := (⟨by unfold ciOK; decide +kernel, by decide +kernel⟩ : cdOK prog_12_method_36_code 10 4 false cd_120)
-- 121: WatchValleyModel_watch
def cd_121 : List CI := [(0, .aload_n 0, 1, 0, 0, 0, []), (1, .iconst 0, 1, 0, 0, 0, []), (2, .putfield 110, 3, 10, 41, 0, []), (5, .iload_n 1, 1, 0, 0, 0, []), (6, .iconst 0, 1, 0, 0, 0, []), (7, .aload_n 0, 1, 0, 0, 0, []), (8, .getfield 170, 3, 10, 40, 0, []), (11, .iconst 1, 1, 0, 0, 1, []), (12, .isub, 1, 0, 0, 0, []), (13, .invokestatic 117, 3, 85, 0, 0, []), (16, .ifCond .eq 12, 3, 28, 0, 0, []), (19, .iload_n 2, 1, 0, 0, 0, []), (20, .iconst 0, 1, 0, 0, 0, []), (21, .iconst 4, 1, 0, 0, 4, []), (22, .invokestatic 117, 3, 85, 0, 0, []), (25, .ifCond .ne 5, 3, 30, 0, 0, []), (28, .iconst (-1), 1, 0, 0, (-1), []), (29, .ireturn, 1, 0, 0, 0, []), (30, .iload_n 2, 1, 0, 0, 0, []), (31, .iconst 3, 1, 0, 0, 3, []), (32, .if_icmp .ge 16, 3, 48, 0, 0, []), (35, .aload_n 0, 1, 0, 0, 0, []), (36, .getfield 100, 3, 10, 38, 0, []), (39, .iconst 3, 1, 0, 0, 3, []), (40, .iload_n 1, 1, 0, 0, 0, []), (41, .imul, 1, 0, 0, 0, []), (42, .iload_n 2, 1, 0, 0, 0, []), (43, .iadd, 1, 0, 0, 0, []), (44, .iaload, 1, 0, 0, 0, []), (45, .goto 30, 3, 75, 0, 0, []), (48, .iload_n 2, 1, 0, 0, 0, []), (49, .iconst 3, 1, 0, 0, 3, []), (50, .if_icmp .ne 20, 3, 70, 0, 0, []), (53, .aload_n 0, 1, 0, 0, 0, []), (54, .getfield 103, 3, 10, 39, 0, []), (57, .iload_n 1, 1, 0, 0, 0, []), (58, .baload, 1, 0, 0, 0, []), (59, .ifCond .eq 7, 3, 66, 0, 0, []), (62, .iconst 1, 1, 0, 0, 1, []), (63, .goto 12, 3, 75, 0, 0, []), (66, .iconst 0, 1, 0, 0, 0, []), (67, .goto 8, 3, 75, 0, 0, []), (70, .aload_n 0, 1, 0, 0, 0, []), (71, .iload_n 1, 1, 0, 0, 0, []), (72, .invokevirtual 215, 3, 122, 0, 0, []), (75, .ireturn, 1, 0, 0, 0, [])]
set_option maxRecDepth 100000 in
theorem cdo_121 : cdM 121 cd_121 := (⟨by unfold ciOK; decide +kernel, by decide +kernel⟩ : cdOK prog_12_method_39_code 10 3 false cd_121)
-- 122: WatchValleyModel_homesOfWatch
def cd_122 : List CI := [(0, .aload_n 0, 1, 0, 0, 0, []), (1, .getfield 19, 3, 10, 3, 0, []), (4, .aload_n 0, 1, 0, 0, 0, []), (5, .getfield 100, 3, 10, 38, 0, []), (8, .iconst 3, 1, 0, 0, 3, []), (9, .iload_n 1, 1, 0, 0, 0, []), (10, .imul, 1, 0, 0, 0, []), (11, .iaload, 1, 0, 0, 0, []), (12, .iaload, 1, 0, 0, 0, []), (13, .aload_n 0, 1, 0, 0, 0, []), (14, .getfield 19, 3, 10, 3, 0, []), (17, .aload_n 0, 1, 0, 0, 0, []), (18, .getfield 100, 3, 10, 38, 0, []), (21, .iconst 3, 1, 0, 0, 3, []), (22, .iload_n 1, 1, 0, 0, 0, []), (23, .imul, 1, 0, 0, 0, []), (24, .iconst 1, 1, 0, 0, 1, []), (25, .iadd, 1, 0, 0, 0, []), (26, .iaload, 1, 0, 0, 0, []), (27, .iaload, 1, 0, 0, 0, []), (28, .ior, 1, 0, 0, 0, []), (29, .aload_n 0, 1, 0, 0, 0, []), (30, .getfield 19, 3, 10, 3, 0, []), (33, .aload_n 0, 1, 0, 0, 0, []), (34, .getfield 100, 3, 10, 38, 0, []), (37, .iconst 3, 1, 0, 0, 3, []), (38, .iload_n 1, 1, 0, 0, 0, []), (39, .imul, 1, 0, 0, 0, []), (40, .iconst 2, 1, 0, 0, 2, []), (41, .iadd, 1, 0, 0, 0, []), (42, .iaload, 1, 0, 0, 0, []), (43, .iaload, 1, 0, 0, 0, []), (44, .ior, 1, 0, 0, 0, []), (45, .ireturn, 1, 0, 0, 0, [])]
set_option maxRecDepth 100000 in
theorem cdo_122 : cdM 122 cd_122 := (⟨by unfold ciOK; decide +kernel, by decide +kernel⟩ : cdOK prog_12_method_38_code 10 2 false cd_122)
-- 123: WatchValleyModel_back
def cd_123 : List CI := [(0, .aload_n 0, 1, 0, 0, 0, []), (1, .iconst 0, 1, 0, 0, 0, []), (2, .putfield 110, 3, 10, 41, 0, []), (5, .iload_n 1, 1, 0, 0, 0, []), (6, .iconst 0, 1, 0, 0, 0, []), (7, .aload_n 0, 1, 0, 0, 0, []), (8, .getfield 170, 3, 10, 40, 0, []), (11, .iconst 1, 1, 0, 0, 1, []), (12, .isub, 1, 0, 0, 0, []), (13, .invokestatic 117, 3, 85, 0, 0, []), (16, .ifCond .ne 5, 3, 21, 0, 0, []), (19, .iconst 0, 1, 0, 0, 0, []), (20, .ireturn, 1, 0, 0, 0, []), (21, .aload_n 0, 1, 0, 0, 0, []), (22, .getfield 103, 3, 10, 39, 0, []), (25, .iload_n 1, 1, 0, 0, 0, []), (26, .iload_n 2, 1, 0, 0, 0, []), (27, .bastore, 1, 0, 0, 0, []), (28, .iconst 1, 1, 0, 0, 1, []), (29, .ireturn, 1, 0, 0, 0, [])]
set_option maxRecDepth 100000 in
theorem cdo_123 : cdM 123 cd_123 := (⟨by unfold ciOK; decide +kernel, by decide +kernel⟩ : cdOK prog_12_method_40_code 10 3 false cd_123)
-- 124: WatchValleyModel_counts
def cd_124 : List CI := [(0, .aload_n 0, 1, 0, 0, 0, []), (1, .iconst 0, 1, 0, 0, 0, []), (2, .putfield 110, 3, 10, 41, 0, []), (5, .iload_n 1, 1, 0, 0, 0, []), (6, .iconst 0, 1, 0, 0, 0, []), (7, .aload_n 0, 1, 0, 0, 0, []), (8, .getfield 124, 3, 10, 24, 0, []), (11, .iconst 1, 1, 0, 0, 1, []), (12, .isub, 1, 0, 0, 0, []), (13, .invokestatic 117, 3, 85, 0, 0, []), (16, .ifCond .eq 30, 3, 46, 0, 0, []), (19, .iload_n 2, 1, 0, 0, 0, []), (20, .iconst 0, 1, 0, 0, 0, []), (21, .iconst 1, 1, 0, 0, 1, []), (22, .invokestatic 117, 3, 85, 0, 0, []), (25, .ifCond .eq 21, 3, 46, 0, 0, []), (28, .aload_n 0, 1, 0, 0, 0, []), (29, .iload_n 1, 1, 0, 0, 0, []), (30, .iload_n 2, 1, 0, 0, 0, []), (31, .iconst 1, 1, 0, 0, 1, []), (32, .if_icmp .ne 7, 3, 39, 0, 0, []), (35, .iconst 1, 1, 0, 0, 1, []), (36, .goto 4, 3, 40, 0, 0, []), (39, .iconst 0, 1, 0, 0, 0, []), (40, .invokevirtual 218, 3, 125, 0, 0, []), (43, .goto 4, 3, 47, 0, 0, []), (46, .iconst (-1), 1, 0, 0, (-1), []), (47, .ireturn, 1, 0, 0, 0, [])]
set_option maxRecDepth 100000 in
theorem cdo_124 : cdM 124 cd_124 := (⟨by unfold ciOK; decide +kernel, by decide +kernel⟩ : cdOK prog_12_method_42_code 10 3 false cd_124)
-- 125: WatchValleyModel_countOf
def cd_125 : List CI := [(0, .iconst 0, 1, 0, 0, 0, []), (1, .istore_n 3, 1, 0, 0, 0, []), (2, .iconst 0, 1, 0, 0, 0, []), (3, .istore 4, 2, 0, 0, 0, []), (5, .iload 4, 2, 0, 0, 0, []), (7, .aload_n 0, 1, 0, 0, 0, []), (8, .getfield 170, 3, 10, 40, 0, []), (11, .if_icmp .ge 40, 3, 51, 0, 0, []), (14, .aload_n 0, 1, 0, 0, 0, []), (15, .iload 4, 2, 0, 0, 0, []), (17, .invokevirtual 215, 3, 122, 0, 0, []), (20, .iload_n 1, 1, 0, 0, 0, []), (21, .ishr, 1, 0, 0, 0, []), (22, .iconst 1, 1, 0, 0, 1, []), (23, .iand, 1, 0, 0, 0, []), (24, .iconst 1, 1, 0, 0, 1, []), (25, .if_icmp .ne 20, 3, 45, 0, 0, []), (28, .iload_n 2, 1, 0, 0, 0, []), (29, .ifCond .eq 13, 3, 42, 0, 0, []), (32, .aload_n 0, 1, 0, 0, 0, []), (33, .getfield 103, 3, 10, 39, 0, []), (36, .iload 4, 2, 0, 0, 0, []), (38, .baload, 1, 0, 0, 0, []), (39, .ifCond .eq 6, 3, 45, 0, 0, []), (42, .iinc 3 1, 3, 0, 0, 1, []), (45, .iinc 4 1, 3, 0, 0, 1, []), (48, .goto (-43), 3, 5, 0, 0, []), (51, .iload_n 3, 1, 0, 0, 0, []), (52, .ireturn, 1, 0, 0, 0, [])]
set_option maxRecDepth 100000 in
theorem cdo_125 : cdM 125 cd_125 := (⟨by unfold ciOK; decide +kernel, by decide +kernel⟩ : cdOK prog_12_method_41_code 10 5 false cd_125)
-- 126: WatchValleyModel_suspect
def cd_126 : List CI := [(0, .aload_n 0, 1, 0, 0, 0, []), (1, .iconst 0, 1, 0, 0, 0, []), (2, .putfield 110, 3, 10, 41, 0, []), (5, .iload_n 1, 1, 0, 0, 0, []), (6, .iconst 1, 1, 0, 0, 1, []), (7, .bipush 100, 2, 0, 0, 100, []), (9, .invokestatic 117, 3, 85, 0, 0, []), (12, .ifCond .ne 5, 3, 17, 0, 0, []), (15, .iconst (-1), 1, 0, 0, (-1), []), (16, .ireturn, 1, 0, 0, 0, []), (17, .iconst (-1), 1, 0, 0, (-1), []), (18, .istore_n 2, 1, 0, 0, 0, []), (19, .iconst 0, 1, 0, 0, 0, []), (20, .istore_n 3, 1, 0, 0, 0, []), (21, .iload_n 3, 1, 0, 0, 0, []), (22, .aload_n 0, 1, 0, 0, 0, []), (23, .getfield 124, 3, 10, 24, 0, []), (26, .if_icmp .ge 58, 3, 84, 0, 0, []), (29, .aload_n 0, 1, 0, 0, 0, []), (30, .iload_n 3, 1, 0, 0, 0, []), (31, .iconst 1, 1, 0, 0, 1, []), (32, .invokevirtual 218, 3, 125, 0, 0, []), (35, .iload_n 1, 1, 0, 0, 0, []), (36, .if_icmp .ge 6, 3, 42, 0, 0, []), (39, .goto 39, 3, 78, 0, 0, []), (42, .iload_n 2, 1, 0, 0, 0, []), (43, .iconst (-1), 1, 0, 0, (-1), []), (44, .if_icmp .eq 32, 3, 76, 0, 0, []), (47, .aload_n 0, 1, 0, 0, 0, []), (48, .iload_n 3, 1, 0, 0, 0, []), (49, .iconst 1, 1, 0, 0, 1, []), (50, .invokevirtual 218, 3, 125, 0, 0, []), (53, .aload_n 0, 1, 0, 0, 0, []), (54, .iload_n 2, 1, 0, 0, 0, []), (55, .iconst 0, 1, 0, 0, 0, []), (56, .invokevirtual 218, 3, 125, 0, 0, []), (59, .imul, 1, 0, 0, 0, []), (60, .aload_n 0, 1, 0, 0, 0, []), (61, .iload_n 2, 1, 0, 0, 0, []), (62, .iconst 1, 1, 0, 0, 1, []), (63, .invokevirtual 218, 3, 125, 0, 0, []), (66, .aload_n 0, 1, 0, 0, 0, []), (67, .iload_n 3, 1, 0, 0, 0, []), (68, .iconst 0, 1, 0, 0, 0, []), (69, .invokevirtual 218, 3, 125, 0, 0, []), (72, .imul, 1, 0, 0, 0, []), (73, .if_icmp .le 5, 3, 78, 0, 0, []), (76, .iload_n 3, 1, 0, 0, 0, []), (77, .istore_n 2, 1, 0, 0, 0, []), (78, .iinc 3 1, 3, 0, 0, 1, []), (81, .goto (-60), 3, 21, 0, 0, []), (84, .iload_n 2, 1, 0, 0, 0, []), (85, .ireturn, 1, 0, 0, 0, [])]
set_option maxRecDepth 100000 in
theorem cdo_126 : cdM 126 cd_126 := (⟨by unfold ciOK; decide +kernel, by decide +kernel⟩ : cdOK prog_12_method_43_code 10 4 false cd_126)
-- 127: WatchValleyModel_recall
def cd_127 : List CI := [(0, .aload_n 0, 1, 0, 0, 0, []), (1, .iconst 0, 1, 0, 0, 0, []), (2, .putfield 110, 3, 10, 41, 0, []), (5, .aload_n 0, 1, 0, 0, 0, []), (6, .iload_n 1, 1, 0, 0, 0, []), (7, .invokevirtual 120, 3, 91, 0, 0, []), (10, .ifCond .ne 5, 3, 15, 0, 0, []), (13, .iconst (-1), 1, 0, 0, (-1), []), (14, .ireturn, 1, 0, 0, 0, []), (15, .iconst 0, 1, 0, 0, 0, []), (16, .istore_n 2, 1, 0, 0, 0, []), (17, .iconst 0, 1, 0, 0, 0, []), (18, .istore_n 3, 1, 0, 0, 0, []), (19, .iload_n 3, 1, 0, 0, 0, []), (20, .aload_n 0, 1, 0, 0, 0, []), (21, .getfield 170, 3, 10, 40, 0, []), (24, .if_icmp .ge 67, 3, 91, 0, 0, []), (27, .aload_n 0, 1, 0, 0, 0, []), (28, .getfield 16, 3, 10, 2, 0, []), (31, .aload_n 0, 1, 0, 0, 0, []), (32, .getfield 100, 3, 10, 38, 0, []), (35, .iconst 3, 1, 0, 0, 3, []), (36, .iload_n 3, 1, 0, 0, 0, []), (37, .imul, 1, 0, 0, 0, []), (38, .iaload, 1, 0, 0, 0, []), (39, .iaload, 1, 0, 0, 0, []), (40, .iload_n 1, 1, 0, 0, 0, []), (41, .if_icmp .eq 41, 3, 82, 0, 0, []), (44, .aload_n 0, 1, 0, 0, 0, []), (45, .getfield 16, 3, 10, 2, 0, []), (48, .aload_n 0, 1, 0, 0, 0, []), (49, .getfield 100, 3, 10, 38, 0, []), (52, .iconst 3, 1, 0, 0, 3, []), (53, .iload_n 3, 1, 0, 0, 0, []), (54, .imul, 1, 0, 0, 0, []), (55, .iconst 1, 1, 0, 0, 1, []), (56, .iadd, 1, 0, 0, 0, []), (57, .iaload, 1, 0, 0, 0, []), (58, .iaload, 1, 0, 0, 0, []), (59, .iload_n 1, 1, 0, 0, 0, []), (60, .if_icmp .eq 22, 3, 82, 0, 0, []), (63, .aload_n 0, 1, 0, 0, 0, []), (64, .getfield 16, 3, 10, 2, 0, []), (67, .aload_n 0, 1, 0, 0, 0, []), (68, .getfield 100, 3, 10, 38, 0, []), (71, .iconst 3, 1, 0, 0, 3, []), (72, .iload_n 3, 1, 0, 0, 0, []), (73, .imul, 1, 0, 0, 0, []), (74, .iconst 2, 1, 0, 0, 2, []), (75, .iadd, 1, 0, 0, 0, []), (76, .iaload, 1, 0, 0, 0, []), (77, .iaload, 1, 0, 0, 0, []), (78, .iload_n 1, 1, 0, 0, 0, []), (79, .if_icmp .ne 6, 3, 85, 0, 0, []), (82, .iinc 2 1, 3, 0, 0, 1, []), (85, .iinc 3 1, 3, 0, 0, 1, []), (88, .goto (-69), 3, 19, 0, 0, []), (91, .iload_n 2, 1, 0, 0, 0, []), (92, .ireturn, 1, 0, 0, 0, [])]
set_option maxRecDepth 100000 in
theorem cdo_127 : cdM 127 cd_127 := (⟨by unfold ciOK; decide +kernel, by decide +kernel⟩ : cdOK prog_12_method_44_code 10 4 false cd_127)
end
section
/-! THE REFERENCE: its store as rows of numbers M f i: row f (the field's number), place i; a plain number stands at place 0.
0 kind 1 size 2 raw 3 homesOf 4 state 5 in 6 pieces. 7 lotKind 8 row 9 many 10 where 11 to 12 toGo 13 worked 14 next 15 turn 16 lots. 17 turns. 18 rate 19 off 20 breaks 21 way 22 done 23 broke 24 homes. 25 day. 26 broken. 27 sendHome 28 sendDay 29 sendMany 30 sends. 31 wageHome 32 wageFrom 33 wageOf 34 wageTold 35 wages. 36 low 37 high 38 watch 39 isBack 40 watches. 41 thrown. 42 goesWith -/
abbrev Ms : Type := Nat → Nat → Int32
def mOf (f : Nat) : Nat := [1, 2, 3, 4, 5, 6, 0, 7, 8, 9, 10, 11, 12, 13, 14, 15, 0, 0, 16, 17, 18, 19, 20, 21, 0, 0, 0, 22, 23, 24, 0, 25, 26, 27, 28, 0, 29, 30, 31, 32, 0, 0, 33].getD f 0
def mLn (f : Nat) : Nat := [300, 300, 300, 300, 300, 300, 0, 60, 18000, 60, 60, 60, 60, 60, 60, 60, 0, 0, 9, 9, 9, 9, 9, 9, 0, 0, 0, 500, 500, 500, 0, 100, 100, 100, 100, 0, 2, 2, 300, 100, 0, 0, 20].getD f 0
def mKd (f : Nat) : Nat := bif Nat.beq f 39 then 21 else 20
def mAr (f : Nat) : Bool := decide (f < 43) && isRf 10 f
def mIn (f : Nat) : Bool := decide (f < 43) && !isRf 10 f
def RM (m0 : Nat) (M : Ms) (S : Hp) : Prop := gK S m0 = some 10 ∧ (∀ f, mAr f = true → gR S 10 f m0 = some (m0 + mOf f) ∧ gK S (m0 + mOf f) = some (mKd f) ∧ gN S (m0 + mOf f) = mLn f ∧ ∀ i, gA S (m0 + mOf f) i = M f i) ∧ ∀ f, mIn f = true → gI S 10 f m0 = M f 0
theorem mOf_pos : ∀ f, f < 43 → isRf 10 f = true → 0 < mOf f ∧ mLn f ≤ 18000 := by decide +kernel
theorem mOf_inj : ∀ f, f < 43 → ∀ g, g < 43 → isRf 10 f = true → isRf 10 g = true → mOf f = mOf g → f = g := by decide +kernel
theorem mAr_el {f : Nat} (h : mAr f = true) : f < 43 ∧ isRf 10 f = true := ⟨of_decide_eq_true (Bool.and_eq_true_iff.mp h).1, (Bool.and_eq_true_iff.mp h).2⟩
section RMS
variable {m0 : Nat} {M : Ms} {S : Hp}
theorem RM.k (h : RM m0 M S) : gK S m0 = some 10 := h.1
theorem RM.rf (h : RM m0 M S) (f : Nat) (hf : mAr f = true) : gR S 10 f m0 = some (m0 + mOf f) := (h.2.1 f hf).1
theorem RM.kd (h : RM m0 M S) (f : Nat) (hf : mAr f = true) : gK S (m0 + mOf f) = some (mKd f) := (h.2.1 f hf).2.1
theorem RM.ln (h : RM m0 M S) (f : Nat) (hf : mAr f = true) : gN S (m0 + mOf f) = mLn f := (h.2.1 f hf).2.2.1
theorem RM.rd (h : RM m0 M S) (f : Nat) (hf : mAr f = true) (i : Nat) : gA S (m0 + mOf f) i = M f i := (h.2.1 f hf).2.2.2 i
theorem RM.ri (h : RM m0 M S) (f : Nat) (hf : mIn f = true) : gI S 10 f m0 = M f 0 := h.2.2 f hf
theorem RM.ix (h : RM m0 M S) (f : Nat) (hf : mAr f = true) {i : Int32} {j : Nat} (hi : i = nI j) (hj : j < mLn f) : ixO i (gN S (m0 + mOf f)) j := by
  refine ⟨hi, by rw [h.ln f hf]; exact hj, ?_⟩
  have := (mOf_pos f (mAr_el hf).1 (mAr_el hf).2).2
  omega
/-- a place of a row is written -/
theorem RM.sa (h : RM m0 M S) (f : Nat) (hf : mAr f = true) (j : Nat) (v : Int32) : RM m0 (u2 M f j v) (sA S (m0 + mOf f) j v) := by
  refine ⟨h.1, fun g hg => ⟨h.rf g hg, h.kd g hg, h.ln g hg, fun i => ?_⟩, fun g hg => ?_⟩
  · show u2 (gA S) (m0 + mOf f) j v (m0 + mOf g) i = u2 M f j v g i
    by_cases hfg : g = f
    · subst hfg
      simp only [u2]
      by_cases hi : i = j
      · simp [hi]
      · simp [hi]; exact h.rd g hg i
    · have hne : m0 + mOf g ≠ m0 + mOf f := fun z => hfg (mOf_inj g (mAr_el hg).1 f (mAr_el hf).1 (mAr_el hg).2 (mAr_el hf).2 (by omega))
      rw [u2_ne hne, u2_ne hfg]
      exact h.rd g hg i
  · have hfg : g ≠ f := by
      intro z
      subst z
      have h1 := (mAr_el hf).2
      have h2 := (Bool.and_eq_true_iff.mp hg).2
      rw [h1] at h2
      cases h2
    rw [u2_ne hfg]
    exact h.ri g hg
/-- a plain number is written -/
theorem RM.si (h : RM m0 M S) (f : Nat) (hf : mIn f = true) (v : Int32) : RM m0 (u2 M f 0 v) (sI S 10 f m0 v) := by
  refine ⟨h.1, fun g hg => ⟨h.rf g hg, h.kd g hg, h.ln g hg, fun i => ?_⟩, fun g hg => ?_⟩
  · have hfg : g ≠ f := by
      intro z
      subst z
      have h1 := (mAr_el hg).2
      have h2 := (Bool.and_eq_true_iff.mp hf).2
      rw [h1] at h2
      cases h2
    rw [u2_ne hfg]
    exact h.rd g hg i
  · show u3 (gI S) 10 f m0 v 10 g m0 = u2 M f 0 v g 0
    by_cases hfg : g = f
    · subst hfg
      simp [u3, u2]
    · simp only [u3, u2, hfg, false_and, and_false, if_false]
      exact h.ri g hg
end RMS
/-! numbers -/
theorem nlt_le {a b : Int32} (h : ¬ a < b) : b ≤ a := by rw [Int32.not_lt] at h; exact h
theorem nle_lt {a b : Int32} (h : ¬ a ≤ b) : b < a := by rw [Int32.not_le] at h; exact h
theorem lt_nle {a b : Int32} (h : a < b) : ¬ b ≤ a := Int32.not_le.mpr h
theorem le_nlt {a b : Int32} (h : a ≤ b) : ¬ b < a := Int32.not_lt.mpr h
theorem i_lt (a b : Int32) : a < b ↔ a.toInt < b.toInt := Int32.lt_iff_toInt_lt
theorem i_le (a b : Int32) : a ≤ b ↔ a.toInt ≤ b.toInt := Int32.le_iff_toInt_le
theorem i_eq (a b : Int32) : a = b ↔ a.toInt = b.toInt := Int32.toInt_inj.symm
theorem pr_n {n : Nat} (hn : n < 2 ^ 31) (x : Int32) : (0 ≤ x ∧ x ≤ nI n - 1) ↔ ∃ j, j < n ∧ x = nI j := by
  constructor
  · intro ⟨h0, h1⟩
    obtain ⟨j, hj, rfl⟩ := nI_of (le_nlt h0)
    refine ⟨j, ?_, rfl⟩
    cases n with
    | zero =>
      exfalso
      rw [i_le, nI_toInt hj] at h1
      have : (nI 0 - 1 : Int32).toInt = -1 := by decide
      omega
    | succ n =>
      rw [nI_pred, nI_leI hj (by omega)] at h1
      omega
  · rintro ⟨j, hj, rfl⟩
    refine ⟨nI_pos' (by omega), ?_⟩
    cases n with
    | zero => omega
    | succ n => rw [nI_pred]; exact nI_le (by omega) (by omega)
/-! small members -/
def sp_in : Sp := fun as w K => ∃ v a b : Int32, as = [.int v, .int a, .int b] ∧ (a ≤ v ∧ v ≤ b → K (some (.int 1)) w) ∧ (¬ (a ≤ v ∧ v ≤ b) → K (some (.int 0)) w)
theorem ev0 {l : Launch} : ∀ (k : Nat) (r : Nat × Nat × Nat × Sp), (fun _ => none : Ev) k = some r → Ct l k r.1 r.2.1 r.2.2.1 r.2.2.2 := fun k r h => by cases h
/-- the callees that a method has: their contracts -/
def evL (L : List (Nat × Nat × Nat × Nat × Sp)) : Ev := fun k => (L.find? (fun q => Nat.beq q.1 k)).map (fun q => q.2)
theorem evL_ok {l : Launch} {L : List (Nat × Nat × Nat × Nat × Sp)} (h : ∀ q ∈ L, Ct l q.1 q.2.1 q.2.2.1 q.2.2.2.1 q.2.2.2.2) : ∀ (k : Nat) (r : Nat × Nat × Nat × Sp), evL L k = some r → Ct l k r.1 r.2.1 r.2.2.1 r.2.2.2 := by
  intro k r hr
  unfold evL at hr
  obtain ⟨q, hq, rfl⟩ := Option.map_eq_some_iff.mp hr
  have h1 := List.find?_some hq
  have h2 := h q (List.mem_of_find?_eq_some hq)
  have e1 : q.1 = k := Nat.eq_of_beq_eq_true h1
  rw [← e1]
  exact h2
theorem c_in (l : Launch) : Ct l 85 1 0 0 sp_in := by
  refine ct_jd (by decide) rfl (fun as w Po h => ?_)
  obtain ⟨v, a, b, rfl, h1, h2⟩ := h
  refine ⟨Nat.le_of_ble_eq_true rfl, jd_run cdo_85 ev0 20 ⟨Nat.le_refl _, Nat.le_refl _⟩ ?_⟩
  refine ⟨fun c1 => ?_, fun c1 => ⟨fun c2 => ?_, fun c2 => ?_⟩⟩
  · exact ⟨Or.inl rfl, h2 (fun z => absurd z.1 (lt_nle c1))⟩
  · exact ⟨Or.inl rfl, h2 (fun z => absurd z.2 (lt_nle c2))⟩
  · exact ⟨Or.inr rfl, h1 ⟨nlt_le c1, nlt_le c2⟩⟩
def sp_thrown : Sp := fun as w K => ∃ m0 M, as = [.ref m0] ∧ RM m0 M w ∧ K (some (.int (M 41 0))) w
theorem c_thrown (l : Launch) : Ct l 83 1 0 0 sp_thrown := by
  refine ct_jd (by decide) rfl (fun as w Po h => ?_)
  obtain ⟨m0, M, rfl, hM, h⟩ := h
  refine ⟨Nat.le_of_ble_eq_true rfl, jd_run cdo_83 ev0 20 ⟨Nat.le_refl _, Nat.le_refl _⟩ ?_⟩
  exact ⟨hM.k, _, hM.ri _ rfl, h⟩
def sp_isLot : Sp := fun as w K => ∃ m0 M x n, as = [.ref m0, .int x] ∧ RM m0 M w ∧ (M 16 0 = nI n ∧ n < 1000) ∧ (∀ j, j < n → x = nI j → K (some (.int 1)) w) ∧ ((¬ ∃ j, j < n ∧ x = nI j) → K (some (.int 0)) w)
theorem c_isLot (l : Launch) : Ct l 91 2 0 0 sp_isLot := by
  refine ct_jd (by decide) rfl (fun as w Po h => ?_)
  obtain ⟨m0, M, x, n, rfl, hM, ⟨hn, hn2⟩, h1, h2⟩ := h
  refine ⟨Nat.le_of_ble_eq_true rfl, jd_run cdo_91 (evL_ok (L := [(85, 1, 0, 0, sp_in)]) (by simpa using c_in l)) 20 ⟨Nat.le_refl _, Nat.le_refl _⟩ ?_⟩
  refine ⟨hM.k, _, (hM.ri _ rfl).trans hn, ?_⟩
  refine ⟨⟨by decide, by decide, by decide⟩, rfl, Nat.le_of_ble_eq_true rfl, x, 0, _, rfl, fun c => ?_, fun c => ?_⟩
  · obtain ⟨j, hj, rfl⟩ := (pr_n (by omega) x).mp c
    exact ⟨Or.inr rfl, h1 j hj rfl⟩
  · exact ⟨Or.inl rfl, h2 (fun z => c ((pr_n (by omega) x).mpr z))⟩
def sp_isHere : Sp := fun as w K => ∃ m0 M x n, as = [.ref m0, .int x] ∧ RM m0 M w ∧ (M 16 0 = nI n ∧ n ≤ 60) ∧ (∀ j, j < n → x = nI j → M 10 j = 0 → K (some (.int 1)) w) ∧ ((¬ ∃ j, j < n ∧ x = nI j ∧ M 10 j = 0) → K (some (.int 0)) w)
theorem c_isHere (l : Launch) : Ct l 90 3 0 0 sp_isHere := by
  refine ct_jd (by decide) rfl (fun as w Po h => ?_)
  obtain ⟨m0, M, x, n, rfl, hM, ⟨hn, hn2⟩, h1, h2⟩ := h
  refine ⟨Nat.le_of_ble_eq_true rfl, jd_run cdo_90 (evL_ok (L := [(91, 2, 0, 0, sp_isLot)]) (by simpa using c_isLot l)) 20 ⟨Nat.le_refl _, Nat.le_refl _⟩ ?_⟩
  refine ⟨⟨by decide, by decide, by decide⟩, rfl, hM.k, m0, M, x, n, rfl, hM, ⟨hn, by omega⟩, fun j hj hx => ?_, fun c => ?_⟩
  · refine ⟨fun z => absurd z (by decide), fun _ => ?_⟩
    refine ⟨hM.k, _, hM.rf _ rfl, ?_⟩
    refine ⟨hM.kd _ rfl, j, _, hM.ix _ rfl hx (show j < 60 by omega), hM.rd _ rfl j, ?_⟩
    refine ⟨fun z => ?_, fun z => ?_⟩
    · exact ⟨Or.inl rfl, h2 (fun ⟨i, hi, hxi, q⟩ => z (by rw [(nI_eq (by omega) (by omega)).mp (hx.symm.trans hxi)]; exact q))⟩
    · exact ⟨Or.inr rfl, h1 j hj hx z⟩
  · refine ⟨fun _ => ⟨Or.inl rfl, h2 (fun ⟨i, hi, hxi, q⟩ => c ⟨i, hi, hxi⟩)⟩, fun z => absurd rfl z⟩
end
section
/-! the reference: lots and their rows -/
section FOR
variable {l : Launch} {k lv mc ms : Nat} {rt : Option FieldType} {ev : Ev} {Po : Option Value → Hp → Prop} {full : List CI}
/-- a method with one loop, its head at hp -/
theorem jd_for (hcd : cdM k full) (hev : ∀ k r, ev k = some r → Ct l k r.1 r.2.1 r.2.2.1 r.2.2.2) (n1 n2 hp : Nat) (I : Nat → Kt) {pc : Nat} {L : Ls} {S : List Value} {w : Hp} {nc ns : Nat} (hb0 : nc ≤ mc ∧ ns ≤ ms)
    (hb : ∀ i L S w nc ns, I i L S w nc ns → nc ≤ mc ∧ ns ≤ ms)
    (h : ∀ i L S w nc ns, I i L S w nc ns → wp lv mc ms ev rt Po full [hp] (fun pc L S w nc ns => if pc = hp then ∃ j, j < i ∧ I j L S w nc ns else False) n2 (seek full hp) L S w nc ns)
    (h0 : wp lv mc ms ev rt Po full [hp] (fun pc L S w nc ns => pc = hp ∧ ∃ i, I i L S w nc ns) n1 (seek full pc) L S w nc ns) : Jd l k lv mc ms rt Po pc L S w nc ns := by
  refine jd_wp hcd hev ?_ n1 hb0 h0
  rintro pc L S w nc ns - ⟨rfl, i, hI⟩
  exact jd_loop (stops := [pc]) (K := fun _ _ _ _ _ _ => False) hcd hev n2 pc I (by simp) hb (fun _ _ _ _ _ _ _ _ h => False.elim h) h i L S w nc ns hI
end FOR
theorem n300 (l : Nat) : (300 : Int32) * nI l = nI (300 * l) := by rw [show (300 : Int32) = nI 300 from rfl, pk_mul]
def mNewLot (M : Ms) (nl : Nat) (k : Int32) : Ms := u2 (u2 (u2 (u2 M 7 nl k) 9 nl 0) 10 nl 0) 16 0 (nI (nl + 1))
def sp_newLot : Sp := fun as w K => ∃ m0 M k nl, as = [.ref m0, .int k] ∧ RM m0 M w ∧ (M 16 0 = nI nl ∧ nl < 60) ∧ ∀ w', RM m0 (mNewLot M nl k) w' → K (some (.int (nI nl))) w'
theorem c_newLot (l : Launch) : Ct l 87 1 0 0 sp_newLot := by
  refine ct_jd (by decide) rfl (fun as w Po h => ?_)
  obtain ⟨m0, M, k, nl, rfl, hM, ⟨hn, hn2⟩, h⟩ := h
  refine ⟨Nat.le_of_ble_eq_true rfl, jd_run cdo_87 ev0 40 ⟨Nat.le_refl _, Nat.le_refl _⟩ ?_⟩
  refine ⟨hM.k, _, hM.rf _ rfl, hM.k, _, (hM.ri _ rfl).trans hn, ?_⟩
  refine ⟨hM.kd _ rfl, nl, hM.ix _ rfl rfl hn2, ?_⟩
  have hM := hM.sa 7 rfl nl k
  refine ⟨hM.k, _, hM.rf _ rfl, hM.k, _, (hM.ri _ rfl).trans hn, ?_⟩
  refine ⟨hM.kd _ rfl, nl, hM.ix _ rfl rfl hn2, ?_⟩
  have hM := hM.sa 9 rfl nl 0
  refine ⟨hM.k, _, hM.rf _ rfl, hM.k, _, (hM.ri _ rfl).trans hn, ?_⟩
  refine ⟨hM.kd _ rfl, nl, hM.ix _ rfl rfl hn2, ?_⟩
  have hM := hM.sa 10 rfl nl 0
  refine ⟨hM.k, _, (hM.ri _ rfl).trans hn, hM.k, ?_⟩
  have hM := hM.si 16 rfl (nI nl + 1)
  refine ⟨hM.k, _, hM.ri _ rfl, ?_⟩
  have e : (nI nl + 1 : Int32) - 1 = nI nl := by rw [nI_1, nI_pred]
  show Po (some (.int (nI nl + 1 - 1))) _
  rw [e]
  rw [nI_1] at hM
  exact h _ (by rw [nI_1]; exact hM)
def mAdd (M : Ms) (l n p : Nat) : Ms := u2 (u2 (u2 M 8 (300 * l + n) (nI p)) 9 l (nI (n + 1))) 5 p (nI l)
def sp_add : Sp := fun as w K => ∃ m0 M l n p, as = [.ref m0, .int (nI l), .int (nI p)] ∧ RM m0 M w ∧ (M 9 l = nI n ∧ n < 300 ∧ l < 60 ∧ p < 300) ∧ ∀ w', RM m0 (mAdd M l n p) w' → K none w'
theorem c_add (l : Launch) : Ct l 88 1 0 0 sp_add := by
  refine ct_jd (by decide) rfl (fun as w Po h => ?_)
  obtain ⟨m0, M, l, n, p, rfl, hM, ⟨hn, hn2, hl, hp⟩, h⟩ := h
  refine ⟨Nat.le_of_ble_eq_true rfl, jd_run cdo_88 ev0 40 ⟨Nat.le_refl _, Nat.le_refl _⟩ ?_⟩
  refine ⟨hM.k, _, hM.rf _ rfl, hM.k, _, hM.rf _ rfl, ?_⟩
  refine ⟨hM.kd _ rfl, l, _, hM.ix _ rfl rfl hl, (hM.rd _ rfl l).trans hn, ?_⟩
  refine ⟨hM.kd _ rfl, 300 * l + n, hM.ix _ rfl (by rw [n300, nI_add]) (show 300 * l + n < 18000 by omega), ?_⟩
  have hM := hM.sa 8 rfl (300 * l + n) (nI p)
  refine ⟨hM.k, _, hM.rf _ rfl, ?_⟩
  refine ⟨hM.kd _ rfl, l, _, hM.ix _ rfl rfl hl, (hM.rd _ rfl l).trans hn, ?_⟩
  refine ⟨hM.kd _ rfl, l, hM.ix _ rfl rfl hl, ?_⟩
  have hM := hM.sa 9 rfl l (nI n + 1)
  refine ⟨hM.k, _, hM.rf _ rfl, ?_⟩
  refine ⟨hM.kd _ rfl, p, hM.ix _ rfl rfl hp, ?_⟩
  have hM := hM.sa 5 rfl p (nI l)
  rw [nI_1] at hM
  exact h _ (by rw [nI_1]; exact hM)
/-- the row of lot l without its place i, shifted as far as k -/
def mTakeK (M : Ms) (l i n k : Nat) : Ms := fun f j => if f = 9 ∧ j = l then nI n else if f = 8 ∧ 300 * l + i ≤ j ∧ j < 300 * l + k then M 8 (j + 1) else M f j
def mTake (M : Ms) (l i n : Nat) : Ms := mTakeK M l i n n
def sp_take : Sp := fun as w K => ∃ m0 M l i n, as = [.ref m0, .int (nI l), .int (nI i)] ∧ RM m0 M w ∧ (M 9 l = nI (n + 1) ∧ i ≤ n ∧ n < 300 ∧ l < 60) ∧ ∀ w', RM m0 (mTake M l i n) w' → K none w'
theorem RM_eq {m0 : Nat} {M M' : Ms} {w : Hp} (h : RM m0 M w) (e : ∀ f i, M f i = M' f i) : RM m0 M' w := by
  have : M = M' := funext fun f => funext fun i => e f i
  rw [← this]
  exact h
theorem takeK_0 (M : Ms) (l i n : Nat) : ∀ f j, u2 M 9 l (nI n) f j = mTakeK M l i n i f j := by
  intro f j
  simp only [u2, mTakeK]
  by_cases h : f = 9 ∧ j = l
  · simp [h]
  · rw [if_neg h, if_neg h, if_neg (by omega)]
theorem takeK_s (M : Ms) (l i n k : Nat) (hk : i ≤ k) : ∀ f j, u2 (mTakeK M l i n k) 8 (300 * l + k) (M 8 (300 * l + k + 1)) f j = mTakeK M l i n (k + 1) f j := by
  intro f j
  simp only [u2, mTakeK]
  by_cases h9 : f = 9 ∧ j = l
  · obtain ⟨rfl, rfl⟩ := h9
    simp
  · by_cases h8 : f = 8 ∧ j = 300 * l + k
    · obtain ⟨rfl, rfl⟩ := h8
      rw [if_pos ⟨rfl, rfl⟩, if_neg h9, if_pos (by omega)]
    · rw [if_neg h8, if_neg h9, if_neg h9]
      by_cases hq : f = 8 ∧ 300 * l + i ≤ j ∧ j < 300 * l + k
      · rw [if_pos hq, if_pos (by omega)]
      · rw [if_neg hq, if_neg (by omega)]
theorem c_take (l : Launch) : Ct l 92 1 0 0 sp_take := by
  refine ct_jd (by decide) rfl (fun as w Po h => ?_)
  obtain ⟨m0, M, l, i, n, rfl, hM, ⟨hn, hi, hn2, hl⟩, h⟩ := h
  refine ⟨Nat.le_of_ble_eq_true rfl, jd_for cdo_92 ev0 20 40 12 (fun d L S w' nc ns => S = [] ∧ nc = 0 ∧ ns = 0 ∧ ∃ k, i ≤ k ∧ k + d = n ∧ L = [(3, .int (nI k)), (0, .ref m0), (1, .int (nI l)), (2, .int (nI i))] ∧ RM m0 (mTakeK M l i n k) w') ⟨Nat.le_refl _, Nat.le_refl _⟩ ?_ ?_ ?_⟩
  · rintro d L S w' nc ns ⟨-, rfl, rfl, -⟩
    exact ⟨Nat.le_refl _, Nat.le_refl _⟩
  · rintro d L S w' nc ns ⟨rfl, rfl, rfl, k, hk1, hk2, rfl, hM⟩
    have h9 : mTakeK M l i n k 9 l = nI n := by simp [mTakeK]
    refine ⟨hM.k, _, hM.rf _ rfl, ?_⟩
    refine ⟨hM.kd _ rfl, l, _, hM.ix _ rfl rfl hl, (hM.rd _ rfl l).trans h9, ?_⟩
    refine ⟨fun c => ?_, fun c => ?_⟩
    · have hkn : k = n := by
        rcases Nat.lt_or_ge k n with q | q
        · exact absurd c (nI_ge q (by omega))
        · omega
      subst hkn
      exact h _ hM
    · have hkn : k < n := by
        rcases Nat.lt_or_ge k n with q | q
        · exact q
        · exact absurd (nI_le q (by omega)) c
      refine ⟨hM.k, _, hM.rf _ rfl, hM.k, _, hM.rf _ rfl, ?_⟩
      refine ⟨hM.kd _ rfl, 300 * l + k + 1, _, hM.ix _ rfl (by rw [n300, nI_add, nI_1]) (show 300 * l + k + 1 < 18000 by omega), (hM.rd _ rfl (300 * l + k + 1)).trans (show mTakeK M l i n k 8 (300 * l + k + 1) = M 8 (300 * l + k + 1) from by simp only [mTakeK]; rw [if_neg (by omega), if_neg (by omega)]), ?_⟩
      refine ⟨hM.kd _ rfl, 300 * l + k, hM.ix _ rfl (by rw [n300, nI_add]) (show 300 * l + k < 18000 by omega), ?_⟩
      have hM := RM_eq (hM.sa 8 rfl (300 * l + k) (M 8 (300 * l + k + 1))) (takeK_s M l i n k hk1)
      refine ⟨d - 1, by omega, rfl, rfl, rfl, k + 1, by omega, by omega, ?_, hM⟩
      rw [← nI_1]
      rfl
  · refine ⟨hM.k, _, hM.rf _ rfl, ?_⟩
    refine ⟨hM.kd _ rfl, l, _, hM.ix _ rfl rfl hl, (hM.rd _ rfl l).trans hn, ?_⟩
    refine ⟨hM.kd _ rfl, l, hM.ix _ rfl rfl hl, ?_⟩
    have hM := hM.sa 9 rfl l (nI (n + 1) - 1)
    rw [nI_pred] at hM
    exact ⟨rfl, n - i, rfl, rfl, rfl, i, Nat.le_refl _, by omega, rfl, by rw [nI_pred]; exact RM_eq hM (takeK_0 M l i n)⟩
end
section
/-! the reference: members without a loop -/
theorem br1 {A B : Prop} (h : B) : ((1 : Int32) = 0 → A) ∧ (¬ (1 : Int32) = 0 → B) := ⟨fun z => absurd z (by decide), fun _ => h⟩
theorem br0 {A B : Prop} (h : A) : ((0 : Int32) = 0 → A) ∧ (¬ (0 : Int32) = 0 → B) := ⟨fun _ => h, fun z => absurd rfl z⟩
theorem cIn {l : Launch} : ∀ q ∈ [((85 : Nat), 1, 0, 0, sp_in)], Ct l q.1 q.2.1 q.2.2.1 q.2.2.2.1 q.2.2.2.2 := by simpa using c_in l
def okHome (r o b y : Int32) (nh : Nat) : Prop := (1 ≤ r ∧ r ≤ 20) ∧ (-9 ≤ o ∧ o ≤ 9) ∧ (0 ≤ b ∧ b ≤ 30) ∧ (0 ≤ y ∧ y ≤ 9) ∧ nh < 9
/-- thrown is wiped -/
def m41 (M : Ms) : Ms := u2 M 41 0 0
def mHome (M : Ms) (nh : Nat) (r o b y : Int32) : Ms := u2 (u2 (u2 (u2 (u2 (m41 M) 18 nh r) 19 nh o) 20 nh b) 21 nh y) 24 0 (nI (nh + 1))
def sp_home : Sp := fun as w K => ∃ m0 M r o b y nh, as = [.ref m0, .int r, .int o, .int b, .int y] ∧ RM m0 M w ∧ (M 24 0 = nI nh ∧ nh ≤ 9) ∧ (okHome r o b y nh → ∀ w', RM m0 (mHome M nh r o b y) w' → K (some (.int (nI nh))) w') ∧ (¬ okHome r o b y nh → ∀ w', RM m0 (m41 M) w' → K (some (.int (-1))) w')
theorem c_mhome (l : Launch) : Ct l 84 2 0 0 sp_home := by
  refine ct_jd (by decide) rfl (fun as w Po h => ?_)
  obtain ⟨m0, M, r, o, b, y, nh, rfl, hM, ⟨hn, hn2⟩, h1, h2⟩ := h
  refine ⟨Nat.le_of_ble_eq_true rfl, jd_run cdo_84 (evL_ok cIn) 80 ⟨Nat.le_refl _, Nat.le_refl _⟩ ?_⟩
  refine ⟨hM.k, ?_⟩
  have hM := hM.si 41 rfl 0
  refine ⟨⟨by decide, by decide, by decide⟩, rfl, Nat.le_of_ble_eq_true rfl, r, 1, 20, rfl, fun c1 => br1 ?_, fun c1 => br0 (h2 (fun z => c1 z.1) _ hM)⟩
  refine ⟨⟨by decide, by decide, by decide⟩, rfl, Nat.le_of_ble_eq_true rfl, o, -9, 9, rfl, fun c2 => br1 ?_, fun c2 => br0 (h2 (fun z => c2 z.2.1) _ hM)⟩
  refine ⟨⟨by decide, by decide, by decide⟩, rfl, Nat.le_of_ble_eq_true rfl, b, 0, 30, rfl, fun c3 => br1 ?_, fun c3 => br0 (h2 (fun z => c3 z.2.2.1) _ hM)⟩
  refine ⟨⟨by decide, by decide, by decide⟩, rfl, Nat.le_of_ble_eq_true rfl, y, 0, 9, rfl, fun c4 => br1 ?_, fun c4 => br0 (h2 (fun z => c4 z.2.2.2.1) _ hM)⟩
  refine ⟨hM.k, _, (hM.ri _ rfl).trans hn, fun c5 => ?_, fun c5 => ?_⟩
  · have hlt : nh < 9 := by
      rcases Nat.lt_or_ge nh 9 with q | q
      · exact q
      · exact absurd (show nI nh = 9 by rw [show nh = 9 by omega]; rfl) c5
    refine ⟨hM.k, _, hM.rf _ rfl, hM.k, _, (hM.ri _ rfl).trans hn, hM.kd _ rfl, nh, hM.ix _ rfl rfl hlt, ?_⟩
    have hM := hM.sa 18 rfl nh r
    refine ⟨hM.k, _, hM.rf _ rfl, hM.k, _, (hM.ri _ rfl).trans hn, hM.kd _ rfl, nh, hM.ix _ rfl rfl hlt, ?_⟩
    have hM := hM.sa 19 rfl nh o
    refine ⟨hM.k, _, hM.rf _ rfl, hM.k, _, (hM.ri _ rfl).trans hn, hM.kd _ rfl, nh, hM.ix _ rfl rfl hlt, ?_⟩
    have hM := hM.sa 20 rfl nh b
    refine ⟨hM.k, _, hM.rf _ rfl, hM.k, _, (hM.ri _ rfl).trans hn, hM.kd _ rfl, nh, hM.ix _ rfl rfl hlt, ?_⟩
    have hM := hM.sa 21 rfl nh y
    refine ⟨hM.k, _, (hM.ri _ rfl).trans hn, hM.k, ?_⟩
    have hM := hM.si 24 rfl (nI nh + 1)
    refine ⟨hM.k, _, hM.ri _ rfl, ?_⟩
    have e : (nI nh + 1 : Int32) - 1 = nI nh := by rw [nI_1, nI_pred]
    show Po (some (.int (nI nh + 1 - 1))) _
    rw [e]
    rw [nI_1] at hM
    exact h1 ⟨c1, c2, c3, c4, hlt⟩ _ (by rw [nI_1]; exact hM)
  · exact h2 (fun z => by
      have h9 : nI nh = 9 := c5
      have := (nI_eq (a := nh) (b := 9) (by omega) (by omega)).mp h9
      have := z.2.2.2.2
      omega) _ hM
def mFit (M : Ms) (x : Nat) (a b : Int32) : Ms := u2 (u2 (m41 M) 36 x a) 37 x b
def sp_fit : Sp := fun as w K => ∃ m0 M x a b, as = [.ref m0, .int x, .int a, .int b] ∧ RM m0 M w ∧ (∀ j, j < 2 → x = nI j → a ≤ b → ∀ w', RM m0 (mFit M j a b) w' → K (some (.int 1)) w') ∧ ((¬ ((∃ j, j < 2 ∧ x = nI j) ∧ a ≤ b)) → ∀ w', RM m0 (m41 M) w' → K (some (.int 0)) w')
theorem c_mfit (l : Launch) : Ct l 108 2 0 0 sp_fit := by
  refine ct_jd (by decide) rfl (fun as w Po h => ?_)
  obtain ⟨m0, M, x, a, b, rfl, hM, h1, h2⟩ := h
  refine ⟨Nat.le_of_ble_eq_true rfl, jd_run cdo_108 (evL_ok cIn) 80 ⟨Nat.le_refl _, Nat.le_refl _⟩ ?_⟩
  refine ⟨hM.k, ?_⟩
  have hM := hM.si 41 rfl 0
  have e : (0 ≤ x ∧ x ≤ 1) ↔ ∃ j, j < 2 ∧ x = nI j := pr_n (n := 2) (by decide) x
  refine ⟨⟨by decide, by decide, by decide⟩, rfl, Nat.le_of_ble_eq_true rfl, x, 0, 1, rfl, fun c1 => br1 ?_, fun c1 => br0 ⟨Or.inl rfl, h2 (fun z => c1 (e.mpr z.1)) _ hM⟩⟩
  obtain ⟨j, hj, rfl⟩ := e.mp c1
  refine ⟨fun c2 => ?_, fun c2 => ⟨Or.inl rfl, h2 (fun z => c2 z.2) _ hM⟩⟩
  refine ⟨hM.k, _, hM.rf _ rfl, hM.kd _ rfl, j, hM.ix _ rfl rfl hj, ?_⟩
  have hM := hM.sa 36 rfl j a
  refine ⟨hM.k, _, hM.rf _ rfl, hM.kd _ rfl, j, hM.ix _ rfl rfl hj, ?_⟩
  have hM := hM.sa 37 rfl j b
  exact ⟨Or.inr rfl, h1 j hj rfl c2 _ hM⟩
end
section
/-! the reference: questions -/
theorem ti_n {y : Int32} {c : Nat} (hc : c < 2147483648) (h : y.toInt = (c : Int)) : y = nI c := by rw [i_eq, nI_toInt hc, h]
theorem tw_out {y : Int32} {n : Nat} (hn : n < 2147483648) {lo hi : Int} (h : y.toInt < lo ∨ hi < y.toInt) (h0 : lo = 0) (h1 : hi = (n : Int) - 1) : ¬ ∃ c, c < n ∧ y = nI c := by
  rintro ⟨c, hc, rfl⟩
  rw [nI_toInt (by omega)] at h
  omega
theorem two_eq {a b : Nat} {x : Int32} (ha : a < 2147483648) (hb : b < 2147483648) (h1 : x = nI a) (h2 : x = nI b) : a = b := (nI_eq ha hb).mp (h1.symm.trans h2)
/-- numbers of things: pieces, lots, homes, watches, in their bounds -/
def mCn (M : Ms) (np nl nh nw : Nat) : Prop := (M 6 0 = nI np ∧ np ≤ 300) ∧ (M 16 0 = nI nl ∧ nl ≤ 60) ∧ (M 24 0 = nI nh ∧ nh ≤ 9) ∧ (M 40 0 = nI nw ∧ nw ≤ 100)
def lotA (M : Ms) (l c : Nat) : Int32 := match c with
  | 0 => M 7 l
  | 1 => M 9 l
  | 2 => M 10 l
  | 3 => if M 10 l ≤ 0 then -1 else M 11 l
  | 4 => if M 10 l = 1 ∨ M 10 l = 3 then M 12 l else 0
  | 5 => if M 10 l = 2 then M 13 l else 0
  | _ => -1
def sp_lot : Sp := fun as w K => ∃ m0 M x y n, as = [.ref m0, .int x, .int y] ∧ RM m0 M w ∧ (M 16 0 = nI n ∧ n ≤ 60) ∧ (∀ j, j < n → ∃ k, k < 4 ∧ M 10 j = nI k) ∧
  (∀ w', RM m0 (m41 M) w' → (∀ j c, j < n → c < 6 → x = nI j → y = nI c → K (some (.int (lotA M j c))) w') ∧ ((¬ ∃ j c, j < n ∧ c < 6 ∧ x = nI j ∧ y = nI c) → K (some (.int (-1))) w'))
theorem c_mlot (l : Launch) : Ct l 101 3 0 0 sp_lot := by
  refine ct_jd (by decide) rfl (fun as w Po h => ?_)
  obtain ⟨m0, M, x, y, n, rfl, hM, ⟨hn, hn2⟩, hw, h⟩ := h
  refine ⟨Nat.le_of_ble_eq_true rfl, jd_run cdo_101 (evL_ok (L := [(91, 2, 0, 0, sp_isLot)]) (by simpa using c_isLot l)) 60 ⟨Nat.le_refl _, Nat.le_refl _⟩ ?_⟩
  refine ⟨hM.k, ?_⟩
  have hM := hM.si 41 rfl 0
  obtain ⟨h1, h2⟩ := h _ hM
  refine ⟨⟨by decide, by decide, by decide⟩, rfl, hM.k, m0, _, x, n, rfl, hM, ⟨hn, by omega⟩, fun j hj hx => ?_, fun c => ⟨fun z => absurd rfl z, fun _ => h2 (fun ⟨j, c', hj, _, hx, _⟩ => c ⟨j, hj, hx⟩)⟩⟩
  refine ⟨fun _ => ?_, fun z => absurd z (by decide)⟩
  obtain ⟨k, hk, hwk⟩ := hw j hj
  refine ⟨fun z => h2 (fun ⟨_, c', _, hc, _, hy⟩ => tw_out (n := 6) (by decide) z rfl rfl ⟨c', hc, hy⟩), fun z => ?_, fun z => ?_, fun z => ?_, fun z => ?_, fun z => ?_, fun z => ?_, trivial⟩
  · refine ⟨hM.k, _, hM.rf _ rfl, hM.kd _ rfl, j, _, hM.ix _ rfl hx (show j < 60 by omega), hM.rd _ rfl j, ?_⟩
    exact h1 j 0 hj (by decide) hx (ti_n (by decide) (by omega))
  · refine ⟨hM.k, _, hM.rf _ rfl, hM.kd _ rfl, j, _, hM.ix _ rfl hx (show j < 60 by omega), hM.rd _ rfl j, ?_⟩
    exact h1 j 1 hj (by decide) hx (ti_n (by decide) (by omega))
  · refine ⟨hM.k, _, hM.rf _ rfl, hM.kd _ rfl, j, _, hM.ix _ rfl hx (show j < 60 by omega), hM.rd _ rfl j, ?_⟩
    exact h1 j 2 hj (by decide) hx (ti_n (by decide) (by omega))
  · have h3 := h1 j 3 hj (by decide) hx (ti_n (by decide) (by omega))
    refine ⟨hM.k, _, hM.rf _ rfl, hM.kd _ rfl, j, _, hM.ix _ rfl hx (show j < 60 by omega), hM.rd _ rfl j, fun c => ?_, fun c => ?_⟩
    · have e : lotA M j 3 = -1 := if_pos c
      rw [e] at h3
      exact h3
    · have e : lotA M j 3 = M 11 j := if_neg c
      rw [e] at h3
      exact ⟨hM.k, _, hM.rf _ rfl, hM.kd _ rfl, j, _, hM.ix _ rfl hx (show j < 60 by omega), hM.rd _ rfl j, h3⟩
  · have h3 := h1 j 4 hj (by decide) hx (ti_n (by decide) (by omega))
    refine ⟨hM.k, _, hM.rf _ rfl, hM.kd _ rfl, j, _, hM.ix _ rfl hx (show j < 60 by omega), (hM.rd _ rfl j).trans hwk, by decide, fun c => ?_, fun c => ?_⟩
    · have e : lotA M j 4 = 0 := if_neg (by rw [hwk]; rcases (show k = 0 ∨ k = 1 ∨ k = 2 ∨ k = 3 by omega) with rfl | rfl | rfl | rfl <;> first | decide | exact absurd (by decide) c)
      rw [e] at h3
      exact h3
    · have e : lotA M j 4 = M 12 j := if_pos (by rw [hwk]; rcases (show k = 0 ∨ k = 1 ∨ k = 2 ∨ k = 3 by omega) with rfl | rfl | rfl | rfl <;> first | decide | exact absurd c (by decide))
      rw [e] at h3
      exact ⟨hM.k, _, hM.rf _ rfl, hM.kd _ rfl, j, _, hM.ix _ rfl hx (show j < 60 by omega), hM.rd _ rfl j, h3⟩
  · have h3 := h1 j 5 hj (by decide) hx (ti_n (by decide) (by omega))
    refine ⟨hM.k, _, hM.rf _ rfl, hM.kd _ rfl, j, _, hM.ix _ rfl hx (show j < 60 by omega), hM.rd _ rfl j, fun c => ?_, fun c => ?_⟩
    · have e : lotA M j 5 = 0 := if_neg c
      rw [e] at h3
      exact h3
    · have e : lotA M j 5 = M 13 j := if_pos c
      rw [e] at h3
      exact ⟨hM.k, _, hM.rf _ rfl, hM.kd _ rfl, j, _, hM.ix _ rfl hx (show j < 60 by omega), hM.rd _ rfl j, h3⟩
def sp_at : Sp := fun as w K => ∃ m0 M x y n, ∃ mn : Nat → Nat, as = [.ref m0, .int x, .int y] ∧ RM m0 M w ∧ (M 16 0 = nI n ∧ n ≤ 60) ∧ (∀ j, j < n → M 9 j = nI (mn j) ∧ mn j ≤ 300) ∧
  (∀ w', RM m0 (m41 M) w' → (∀ j i, j < n → i < mn j → x = nI j → y = nI i → K (some (.int (M 8 (300 * j + i)))) w') ∧ ((¬ ∃ j i, j < n ∧ i < mn j ∧ x = nI j ∧ y = nI i) → K (some (.int (-1))) w'))
theorem c_mat (l : Launch) : Ct l 102 3 0 0 sp_at := by
  refine ct_jd (by decide) rfl (fun as w Po h => ?_)
  obtain ⟨m0, M, x, y, n, mn, rfl, hM, ⟨hn, hn2⟩, hw, h⟩ := h
  refine ⟨Nat.le_of_ble_eq_true rfl, jd_run cdo_102 (evL_ok (L := [(91, 2, 0, 0, sp_isLot), (85, 1, 0, 0, sp_in)]) (by simpa using ⟨c_isLot l, c_in l⟩)) 60 ⟨Nat.le_refl _, Nat.le_refl _⟩ ?_⟩
  refine ⟨hM.k, ?_⟩
  have hM := hM.si 41 rfl 0
  obtain ⟨h1, h2⟩ := h _ hM
  refine ⟨⟨by decide, by decide, by decide⟩, rfl, hM.k, m0, _, x, n, rfl, hM, ⟨hn, by omega⟩, fun j hj hx => br1 ?_, fun c => br0 (h2 (fun ⟨j, _, hj, _, hx, _⟩ => c ⟨j, hj, hx⟩))⟩
  obtain ⟨hmj, hm3⟩ := hw j hj
  refine ⟨hM.k, _, hM.rf _ rfl, hM.kd _ rfl, j, _, hM.ix _ rfl hx (show j < 60 by omega), (hM.rd _ rfl j).trans hmj, ?_⟩
  refine ⟨⟨by decide, by decide, by decide⟩, rfl, Nat.le_of_ble_eq_true rfl, y, 0, _, rfl, fun c => br1 ?_, fun c => br0 (h2 (fun ⟨j', i, hj', hi, hx', hy⟩ => c ((pr_n (by omega) y).mpr ⟨i, by rw [two_eq (by omega) (by omega) hx hx']; exact hi, hy⟩)))⟩
  obtain ⟨i, hi, hy⟩ := (pr_n (by omega) y).mp c
  refine ⟨hM.k, _, hM.rf _ rfl, hM.kd _ rfl, 300 * j + i, _, hM.ix _ rfl (by rw [hx, hy, n300, nI_add]) (show 300 * j + i < 18000 by omega), hM.rd _ rfl _, ?_⟩
  exact h1 j i hj hi hx hy
def sp_piece : Sp := fun as w K => ∃ m0 M x y n, as = [.ref m0, .int x, .int y] ∧ RM m0 M w ∧ (M 6 0 = nI n ∧ n ≤ 300) ∧
  (∀ j c, j < n → c < 6 → x = nI j → y = nI c → ∀ w', RM m0 (m41 M) w' → K (some (.int (M c j))) w') ∧ ((¬ ∃ j c, j < n ∧ c < 6 ∧ x = nI j ∧ y = nI c) → ∀ w', RM m0 (u2 (m41 M) 41 0 1) w' → K (some (.int 0)) w')
theorem c_mpiece (l : Launch) : Ct l 103 3 0 0 sp_piece := by
  refine ct_jd (by decide) rfl (fun as w Po h => ?_)
  obtain ⟨m0, M, x, y, n, rfl, hM, ⟨hn, hn2⟩, h1, h2⟩ := h
  refine ⟨Nat.le_of_ble_eq_true rfl, jd_run cdo_103 (evL_ok cIn) 60 ⟨Nat.le_refl _, Nat.le_refl _⟩ ?_⟩
  refine ⟨hM.k, ?_⟩
  have hM := hM.si 41 rfl 0
  refine ⟨hM.k, _, (hM.ri _ rfl).trans hn, ?_⟩
  have e6 : (0 ≤ y ∧ y ≤ 5) ↔ ∃ c, c < 6 ∧ y = nI c := pr_n (n := 6) (by decide) y
  refine ⟨⟨by decide, by decide, by decide⟩, rfl, Nat.le_of_ble_eq_true rfl, x, 0, _, rfl, fun c => br1 ?_, fun c => br0 ?_⟩
  · obtain ⟨j, hj, hx⟩ := (pr_n (by omega) x).mp c
    refine ⟨⟨by decide, by decide, by decide⟩, rfl, Nat.le_of_ble_eq_true rfl, y, 0, 5, rfl, fun c2 => ⟨fun _ => ?_, fun z => absurd z (by decide)⟩, fun c2 => ⟨fun z => absurd rfl z, fun _ => ?_⟩⟩
    · obtain ⟨c', hc', hy⟩ := e6.mp c2
      have hyt : y.toInt = (c' : Int) := by rw [hy, nI_toInt (by omega)]
      refine ⟨fun z => ?_, fun z => ?_, fun z => ?_, fun z => ?_, fun z => ?_, fun z => ?_, trivial⟩
      · have hc5 : c' = 5 := by omega
        subst hc5
        exact ⟨hM.k, _, hM.rf _ rfl, hM.kd _ rfl, j, _, hM.ix _ rfl hx (show j < 300 by omega), hM.rd _ rfl j, h1 j 5 hj hc' hx hy _ hM⟩
      · have hc5 : c' = 0 := by omega
        subst hc5
        exact ⟨hM.k, _, hM.rf _ rfl, hM.kd _ rfl, j, _, hM.ix _ rfl hx (show j < 300 by omega), hM.rd _ rfl j, h1 j 0 hj hc' hx hy _ hM⟩
      · have hc5 : c' = 1 := by omega
        subst hc5
        exact ⟨hM.k, _, hM.rf _ rfl, hM.kd _ rfl, j, _, hM.ix _ rfl hx (show j < 300 by omega), hM.rd _ rfl j, h1 j 1 hj hc' hx hy _ hM⟩
      · have hc5 : c' = 2 := by omega
        subst hc5
        exact ⟨hM.k, _, hM.rf _ rfl, hM.kd _ rfl, j, _, hM.ix _ rfl hx (show j < 300 by omega), hM.rd _ rfl j, h1 j 2 hj hc' hx hy _ hM⟩
      · have hc5 : c' = 3 := by omega
        subst hc5
        exact ⟨hM.k, _, hM.rf _ rfl, hM.kd _ rfl, j, _, hM.ix _ rfl hx (show j < 300 by omega), hM.rd _ rfl j, h1 j 3 hj hc' hx hy _ hM⟩
      · have hc5 : c' = 4 := by omega
        subst hc5
        exact ⟨hM.k, _, hM.rf _ rfl, hM.kd _ rfl, j, _, hM.ix _ rfl hx (show j < 300 by omega), hM.rd _ rfl j, h1 j 4 hj hc' hx hy _ hM⟩
    · refine ⟨hM.k, ?_⟩
      exact h2 (fun ⟨_, c', _, hc', _, hy⟩ => c2 (e6.mpr ⟨c', hc', hy⟩)) _ (hM.si 41 rfl 1)
  · refine ⟨hM.k, ?_⟩
    exact h2 (fun ⟨j, _, hj, _, hx, _⟩ => c ((pr_n (by omega) x).mpr ⟨j, hj, hx⟩)) _ (hM.si 41 rfl 1)
end
section
/-! the reference: what fits, sending, wages, watches -/
def pN (x : Int32) : Nat := x.toNatClampNeg
theorem pN_n {j : Nat} (h : j < 2147483648) : pN (nI j) = j := nI_clamp h
theorem n3 (l : Nat) : (3 : Int32) * nI l = nI (3 * l) := by rw [show (3 : Int32) = nI 3 from rfl, pk_mul]
/-- the piece p fits to q: kinds k and k + 1 -/
def fitB (M : Ms) (p q k : Nat) : Prop := M 36 k ≤ M 1 p - M 1 q ∧ M 1 p - M 1 q ≤ M 37 k
def sp_doFit : Sp := fun as w K => ∃ m0 M p q k, as = [.ref m0, .int (nI p), .int (nI q)] ∧ RM m0 M w ∧ (p < 300 ∧ q < 300 ∧ k < 2 ∧ M 0 p = nI k) ∧ (fitB M p q k → K (some (.int 1)) w) ∧ (¬ fitB M p q k → K (some (.int 0)) w)
theorem c_doFit (l : Launch) : Ct l 110 1 0 0 sp_doFit := by
  refine ct_jd (by decide) rfl (fun as w Po h => ?_)
  obtain ⟨m0, M, p, q, k, rfl, hM, ⟨hp, hq, hk, hpk⟩, h1, h2⟩ := h
  refine ⟨Nat.le_of_ble_eq_true rfl, jd_run cdo_110 ev0 60 ⟨Nat.le_refl _, Nat.le_refl _⟩ ?_⟩
  refine ⟨hM.k, _, hM.rf _ rfl, hM.kd _ rfl, p, _, hM.ix _ rfl rfl hp, hM.rd _ rfl p, ?_⟩
  refine ⟨hM.k, _, hM.rf _ rfl, hM.kd _ rfl, q, _, hM.ix _ rfl rfl hq, hM.rd _ rfl q, ?_⟩
  refine ⟨hM.k, _, hM.rf _ rfl, hM.k, _, hM.rf _ rfl, hM.kd _ rfl, p, _, hM.ix _ rfl rfl hp, (hM.rd _ rfl p).trans hpk, ?_⟩
  refine ⟨hM.kd _ rfl, k, _, hM.ix _ rfl rfl hk, hM.rd _ rfl k, fun c => ⟨Or.inl rfl, h2 (fun z => lt_nle c z.1)⟩, fun c => ?_⟩
  refine ⟨hM.k, _, hM.rf _ rfl, hM.k, _, hM.rf _ rfl, hM.kd _ rfl, p, _, hM.ix _ rfl rfl hp, (hM.rd _ rfl p).trans hpk, ?_⟩
  exact ⟨hM.kd _ rfl, k, _, hM.ix _ rfl rfl hk, hM.rd _ rfl k, fun c => ⟨Or.inl rfl, h2 (fun z => lt_nle c z.2)⟩, fun c2 => ⟨Or.inr rfl, h1 ⟨nlt_le c, nlt_le c2⟩⟩⟩
def sp_fits : Sp := fun as w K => ∃ m0 M x y n, ∃ kd : Nat → Nat, as = [.ref m0, .int x, .int y] ∧ RM m0 M w ∧ (M 6 0 = nI n ∧ n ≤ 300) ∧ (∀ j, j < n → M 0 j = nI (kd j) ∧ kd j < 3) ∧
  (∀ w', RM m0 (m41 M) w' → (∀ p q, p < n → q < n → x = nI p → y = nI q → kd p < 2 → kd q = kd p + 1 → (fitB M p q (kd p) → K (some (.int 1)) w') ∧ (¬ fitB M p q (kd p) → K (some (.int 0)) w')) ∧ ((¬ ∃ p q, p < n ∧ q < n ∧ x = nI p ∧ y = nI q ∧ kd p < 2 ∧ kd q = kd p + 1) → K (some (.int (-1))) w'))
theorem c_mfits (l : Launch) : Ct l 109 2 0 0 sp_fits := by
  refine ct_jd (by decide) rfl (fun as w Po h => ?_)
  obtain ⟨m0, M, x, y, n, kd, rfl, hM, ⟨hn, hn2⟩, hkd, h⟩ := h
  refine ⟨Nat.le_of_ble_eq_true rfl, jd_run cdo_109 (evL_ok (L := [(85, 1, 0, 0, sp_in), (110, 1, 0, 0, sp_doFit)]) (by simpa using ⟨c_in l, c_doFit l⟩)) 80 ⟨Nat.le_refl _, Nat.le_refl _⟩ ?_⟩
  refine ⟨hM.k, ?_⟩
  have hM := hM.si 41 rfl 0
  obtain ⟨h1, h2⟩ := h _ hM
  refine ⟨hM.k, _, (hM.ri _ rfl).trans hn, ?_⟩
  refine ⟨⟨by decide, by decide, by decide⟩, rfl, Nat.le_of_ble_eq_true rfl, x, 0, _, rfl, fun c => br1 ?_, fun c => br0 (h2 (fun ⟨p, _, hp, _, hx, _⟩ => c ((pr_n (by omega) x).mpr ⟨p, hp, hx⟩)))⟩
  obtain ⟨p, hp, rfl⟩ := (pr_n (by omega) x).mp c
  refine ⟨hM.k, _, (hM.ri _ rfl).trans hn, ?_⟩
  refine ⟨⟨by decide, by decide, by decide⟩, rfl, Nat.le_of_ble_eq_true rfl, y, 0, _, rfl, fun c => br1 ?_, fun c => br0 (h2 (fun ⟨_, q, _, hq, _, hy, _⟩ => c ((pr_n (by omega) y).mpr ⟨q, hq, hy⟩)))⟩
  obtain ⟨q, hq, rfl⟩ := (pr_n (by omega) y).mp c
  obtain ⟨hpk, hp3⟩ := hkd p hp
  obtain ⟨hqk, hq3⟩ := hkd q hq
  have hun : ∀ p' q', p' < n → q' < n → nI p = nI p' → nI q = nI q' → p' = p ∧ q' = q := fun p' q' hp' hq' e1 e2 => ⟨((nI_eq (by omega) (by omega)).mp e1).symm, ((nI_eq (by omega) (by omega)).mp e2).symm⟩
  refine ⟨hM.k, _, hM.rf _ rfl, hM.kd _ rfl, p, _, hM.ix _ rfl rfl (show p < 300 by omega), (hM.rd _ rfl p).trans hpk, fun c => ?_, fun c => ?_⟩
  · refine h2 (fun ⟨p', q', hp', hq', e1, e2, hk, _⟩ => ?_)
    rw [(hun p' q' hp' hq' e1 e2).1] at hk
    exact absurd c (nI_nlt (show kd p ≤ 1 by omega) (by decide))
  · have hk2 : kd p < 2 := by
      rcases Nat.lt_or_ge (kd p) 2 with z | z
      · exact z
      · exact absurd (show (1 : Int32) < nI (kd p) from nI_lt (a := 1) (by omega) (by omega)) c
    refine ⟨hM.k, _, hM.rf _ rfl, hM.kd _ rfl, q, _, hM.ix _ rfl rfl (show q < 300 by omega), (hM.rd _ rfl q).trans hqk, ?_⟩
    refine ⟨hM.k, _, hM.rf _ rfl, hM.kd _ rfl, p, _, hM.ix _ rfl rfl (show p < 300 by omega), (hM.rd _ rfl p).trans hpk, fun c2 => ?_, fun c2 => ?_⟩
    · have hqe : kd q = kd p + 1 := by
        rw [nI_1] at c2
        exact (nI_eq (by omega) (by omega)).mp c2
      obtain ⟨g1, g2⟩ := h1 p q hp hq rfl rfl hk2 hqe
      refine ⟨⟨by decide, by decide, by decide⟩, rfl, hM.k, m0, _, p, q, kd p, rfl, hM, ⟨by omega, by omega, hk2, hpk⟩, fun z => br1 (g1 z), fun z => br0 (g2 z)⟩
    · refine h2 (fun ⟨p', q', hp', hq', e1, e2, hk, hk3⟩ => ?_)
      obtain ⟨rfl, rfl⟩ := hun p' q' hp' hq' e1 e2
      exact c2 (by rw [hk3, nI_1])
def mSend (M : Ms) (l h ns : Nat) : Ms := u2 (u2 (u2 (u2 (u2 (u2 (u2 (m41 M) 10 l 1) 11 l (nI h)) 12 l (M 21 h)) 27 ns (nI h)) 28 ns (M 25 0)) 29 ns (M 9 l)) 30 0 (nI (ns + 1))
def sp_send : Sp := fun as w K => ∃ m0 M x y nl nh ns, as = [.ref m0, .int x, .int y] ∧ RM m0 M w ∧ (M 16 0 = nI nl ∧ nl ≤ 60) ∧ (M 24 0 = nI nh ∧ nh ≤ 9) ∧ (M 30 0 = nI ns ∧ ns ≤ 500) ∧
  (∀ i h, i < nl → h < nh → x = nI i → y = nI h → M 10 i = 0 → ns < 500 → ∀ w', RM m0 (mSend M i h ns) w' → K (some (.int 1)) w') ∧ ((¬ ∃ i h, i < nl ∧ h < nh ∧ x = nI i ∧ y = nI h ∧ M 10 i = 0 ∧ ns < 500) → ∀ w', RM m0 (m41 M) w' → K (some (.int 0)) w')
theorem c_msend (l : Launch) : Ct l 94 4 0 0 sp_send := by
  refine ct_jd (by decide) rfl (fun as w Po h => ?_)
  obtain ⟨m0, M, x, y, nl, nh, ns, rfl, hM, ⟨hn, hn2⟩, ⟨hh, hh2⟩, ⟨hs, hs2⟩, h1, h2⟩ := h
  refine ⟨Nat.le_of_ble_eq_true rfl, jd_run cdo_94 (evL_ok (L := [(90, 3, 0, 0, sp_isHere), (85, 1, 0, 0, sp_in)]) (by simpa using ⟨c_isHere l, c_in l⟩)) 80 ⟨Nat.le_refl _, Nat.le_refl _⟩ ?_⟩
  refine ⟨hM.k, ?_⟩
  have hM := hM.si 41 rfl 0
  refine ⟨⟨by decide, by decide, by decide⟩, rfl, hM.k, m0, _, x, nl, rfl, hM, ⟨hn, hn2⟩, fun i hi hx hw => br1 ?_, fun c => br0 ⟨Or.inl rfl, h2 (fun ⟨i, _, hi, _, hx, _, hw, _⟩ => c ⟨i, hi, hx, hw⟩) _ hM⟩⟩
  subst hx
  refine ⟨hM.k, _, (hM.ri _ rfl).trans hh, ?_⟩
  refine ⟨⟨by decide, by decide, by decide⟩, rfl, Nat.le_of_ble_eq_true rfl, y, 0, _, rfl, fun c => br1 ?_, fun c => br0 ⟨Or.inl rfl, h2 (fun ⟨_, h, _, hl, _, hy, _⟩ => c ((pr_n (by omega) y).mpr ⟨h, hl, hy⟩)) _ hM⟩⟩
  obtain ⟨h, hhh, rfl⟩ := (pr_n (by omega) y).mp c
  refine ⟨hM.k, _, (hM.ri _ rfl).trans hs, fun c => ?_, fun c => ?_⟩
  · have hlt : ns < 500 := by
      rcases Nat.lt_or_ge ns 500 with q | q
      · exact q
      · exact absurd (show nI ns = 500 by rw [show ns = 500 by omega]; rfl) c
    refine ⟨hM.k, _, hM.rf _ rfl, hM.kd _ rfl, i, hM.ix _ rfl rfl (show i < 60 by omega), ?_⟩
    have hM := hM.sa 10 rfl i 1
    refine ⟨hM.k, _, hM.rf _ rfl, hM.kd _ rfl, i, hM.ix _ rfl rfl (show i < 60 by omega), ?_⟩
    have hM := hM.sa 11 rfl i (nI h)
    refine ⟨hM.k, _, hM.rf _ rfl, hM.k, _, hM.rf _ rfl, hM.kd _ rfl, h, _, hM.ix _ rfl rfl (show h < 9 by omega), (hM.rd _ rfl h).trans (show _ = M 21 h from rfl), hM.kd _ rfl, i, hM.ix _ rfl rfl (show i < 60 by omega), ?_⟩
    have hM := hM.sa 12 rfl i (M 21 h)
    refine ⟨hM.k, _, hM.rf _ rfl, hM.k, _, (hM.ri _ rfl).trans hs, hM.kd _ rfl, ns, hM.ix _ rfl rfl hlt, ?_⟩
    have hM := hM.sa 27 rfl ns (nI h)
    refine ⟨hM.k, _, hM.rf _ rfl, hM.k, _, (hM.ri _ rfl).trans hs, hM.k, _, (hM.ri _ rfl).trans (show _ = M 25 0 from rfl), hM.kd _ rfl, ns, hM.ix _ rfl rfl hlt, ?_⟩
    have hM := hM.sa 28 rfl ns (M 25 0)
    refine ⟨hM.k, _, hM.rf _ rfl, hM.k, _, (hM.ri _ rfl).trans hs, hM.k, _, hM.rf _ rfl, hM.kd _ rfl, i, _, hM.ix _ rfl rfl (show i < 60 by omega), (hM.rd _ rfl i).trans (show _ = M 9 i from rfl), hM.kd _ rfl, ns, hM.ix _ rfl rfl hlt, ?_⟩
    have hM := hM.sa 29 rfl ns (M 9 i)
    refine ⟨hM.k, _, (hM.ri _ rfl).trans hs, hM.k, ?_⟩
    have hM := hM.si 30 rfl (nI ns + 1)
    rw [nI_1] at hM
    exact ⟨Or.inr rfl, h1 i h hi hhh rfl rfl hw hlt _ (by rw [nI_1]; exact hM)⟩
  · refine ⟨Or.inl rfl, h2 (fun ⟨_, _, _, _, _, _, _, hlt⟩ => ?_) _ hM⟩
    have h9 : nI ns = nI 500 := c
    have := (nI_eq (a := ns) (b := 500) (by omega) (by omega)).mp h9
    omega
def mWage (M : Ms) (h ng : Nat) (f v : Int32) : Ms := u2 (u2 (u2 (u2 (u2 (m41 M) 31 ng (nI h)) 32 ng f) 33 ng v) 34 ng (M 25 0)) 35 0 (nI (ng + 1))
def okWage (y f v : Int32) (nh ng : Nat) : Prop := (∃ h, h < nh ∧ y = nI h) ∧ (0 ≤ f ∧ f ≤ 400) ∧ (0 ≤ v ∧ v ≤ 1000) ∧ ng < 100
def sp_wage : Sp := fun as w K => ∃ m0 M y f v nh ng, as = [.ref m0, .int y, .int f, .int v] ∧ RM m0 M w ∧ (M 24 0 = nI nh ∧ nh ≤ 9) ∧ (M 35 0 = nI ng ∧ ng ≤ 100) ∧
  (∀ h, h < nh → y = nI h → okWage y f v nh ng → ∀ w', RM m0 (mWage M h ng f v) w' → K (some (.int (nI (ng + 1)))) w') ∧ (¬ okWage y f v nh ng → ∀ w', RM m0 (m41 M) w' → K (some (.int (-1))) w')
theorem c_mwage (l : Launch) : Ct l 105 2 0 0 sp_wage := by
  refine ct_jd (by decide) rfl (fun as w Po h => ?_)
  obtain ⟨m0, M, y, f, v, nh, ng, rfl, hM, ⟨hh, hh2⟩, ⟨hg, hg2⟩, h1, h2⟩ := h
  refine ⟨Nat.le_of_ble_eq_true rfl, jd_run cdo_105 (evL_ok cIn) 80 ⟨Nat.le_refl _, Nat.le_refl _⟩ ?_⟩
  refine ⟨hM.k, ?_⟩
  have hM := hM.si 41 rfl 0
  refine ⟨hM.k, _, (hM.ri _ rfl).trans hh, ?_⟩
  refine ⟨⟨by decide, by decide, by decide⟩, rfl, Nat.le_of_ble_eq_true rfl, y, 0, _, rfl, fun c => br1 ?_, fun c => br0 (h2 (fun z => c ((pr_n (by omega) y).mpr z.1)) _ hM)⟩
  obtain ⟨h, hhh, rfl⟩ := (pr_n (by omega) y).mp c
  refine ⟨⟨by decide, by decide, by decide⟩, rfl, Nat.le_of_ble_eq_true rfl, f, 0, 400, rfl, fun c1 => br1 ?_, fun c => br0 (h2 (fun z => c z.2.1) _ hM)⟩
  refine ⟨⟨by decide, by decide, by decide⟩, rfl, Nat.le_of_ble_eq_true rfl, v, 0, 1000, rfl, fun c2 => br1 ?_, fun c => br0 (h2 (fun z => c z.2.2.1) _ hM)⟩
  refine ⟨hM.k, _, (hM.ri _ rfl).trans hg, fun c => ?_, fun c => ?_⟩
  · have hlt : ng < 100 := by
      rcases Nat.lt_or_ge ng 100 with q | q
      · exact q
      · exact absurd (show nI ng = 100 by rw [show ng = 100 by omega]; rfl) c
    refine ⟨hM.k, _, hM.rf _ rfl, hM.k, _, (hM.ri _ rfl).trans hg, hM.kd _ rfl, ng, hM.ix _ rfl rfl hlt, ?_⟩
    have hM := hM.sa 31 rfl ng (nI h)
    refine ⟨hM.k, _, hM.rf _ rfl, hM.k, _, (hM.ri _ rfl).trans hg, hM.kd _ rfl, ng, hM.ix _ rfl rfl hlt, ?_⟩
    have hM := hM.sa 32 rfl ng f
    refine ⟨hM.k, _, hM.rf _ rfl, hM.k, _, (hM.ri _ rfl).trans hg, hM.kd _ rfl, ng, hM.ix _ rfl rfl hlt, ?_⟩
    have hM := hM.sa 33 rfl ng v
    refine ⟨hM.k, _, hM.rf _ rfl, hM.k, _, (hM.ri _ rfl).trans hg, hM.k, _, (hM.ri _ rfl).trans (show _ = M 25 0 from rfl), hM.kd _ rfl, ng, hM.ix _ rfl rfl hlt, ?_⟩
    have hM := hM.sa 34 rfl ng (M 25 0)
    refine ⟨hM.k, _, (hM.ri _ rfl).trans hg, hM.k, ?_⟩
    have hM := hM.si 35 rfl (nI ng + 1)
    refine ⟨hM.k, _, (hM.ri _ rfl).trans (show _ = nI (ng + 1) from nI_1 ng), ?_⟩
    rw [nI_1] at hM
    exact h1 h hhh rfl ⟨⟨h, hhh, rfl⟩, c1, c2, hlt⟩ _ (by rw [nI_1]; exact hM)
  · refine h2 (fun z => ?_) _ hM
    have h9 : nI ng = nI 100 := c
    have := (nI_eq (a := ng) (b := 100) (by omega) (by omega)).mp h9
    have := z.2.2.2
    omega
end
section
/-! the reference: counting -/
theorem ge_n {a b : Nat} (ha : a < 2147483648) (hb : b < 2147483648) (c : nI b ≤ nI a) : b ≤ a := (nI_leI hb ha).mp c
theorem nge_n {a b : Nat} (ha : a < 2147483648) (c : ¬ nI b ≤ nI a) : a < b := by
  rcases Nat.lt_or_ge a b with q | q
  · exact q
  · exact absurd (nI_le q ha) c
/-- how many of the first n are so -/
def cn (p : Nat → Bool) : Nat → Nat
  | 0 => 0
  | n + 1 => cn p n + (if p n = true then 1 else 0)
theorem cn_y {p : Nat → Bool} {n : Nat} (h : p n = true) : cn p (n + 1) = cn p n + 1 := by simp [cn, h]
theorem cn_n {p : Nat → Bool} {n : Nat} (h : ¬ p n = true) : cn p (n + 1) = cn p n := by simp [cn, h]
theorem cn_le (p : Nat → Bool) : ∀ n, cn p n ≤ n
  | 0 => Nat.le_refl _
  | n + 1 => by
    have h := cn_le p n
    simp only [cn]
    split <;> omega
theorem cn_cong {p q : Nat → Bool} : ∀ {n : Nat}, (∀ i, i < n → p i = q i) → cn p n = cn q n
  | 0, _ => rfl
  | n + 1, h => by rw [cn, cn, cn_cong (fun i hi => h i (by omega)), h n (by omega)]
def outP (M : Ms) : Nat → Bool := fun l => decide (0 < M 10 l)
def sp_outMany : Sp := fun as w K => ∃ m0 M n, as = [.ref m0] ∧ RM m0 M w ∧ (M 16 0 = nI n ∧ n ≤ 60) ∧ K (some (.int (nI (cn (outP M) n)))) w
theorem c_outMany (l : Launch) : Ct l 100 1 0 0 sp_outMany := by
  refine ct_jd (by decide) rfl (fun as w Po h => ?_)
  obtain ⟨m0, M, n, rfl, hM, ⟨hn, hn2⟩, h⟩ := h
  refine ⟨Nat.le_of_ble_eq_true rfl, jd_for cdo_100 ev0 10 40 4 (fun d L S w' nc ns => S = [] ∧ nc = 0 ∧ ns = 0 ∧ w' = w ∧ ∃ i, i + d = n ∧ L = [(2, .int (nI i)), (1, .int (nI (cn (outP M) i))), (0, .ref m0)]) ⟨Nat.le_refl _, Nat.le_refl _⟩ ?_ ?_ ?_⟩
  · rintro d L S w' nc ns ⟨-, rfl, rfl, -⟩
    exact ⟨Nat.le_refl _, Nat.le_refl _⟩
  · rintro d L S w' nc ns ⟨rfl, rfl, rfl, rfl, i, hi, rfl⟩
    refine ⟨hM.k, _, (hM.ri _ rfl).trans hn, fun c => ?_, fun c => ?_⟩
    · have hin : i = n := by have := ge_n (by omega) (by omega) c; omega
      subst hin
      exact h
    · have hin := nge_n (by omega) c
      refine ⟨hM.k, _, hM.rf _ rfl, hM.kd _ rfl, i, _, hM.ix _ rfl rfl (show i < 60 by omega), hM.rd _ rfl i, fun c2 => ?_, fun c2 => ?_⟩
      · refine ⟨d - 1, by omega, rfl, rfl, rfl, rfl, i + 1, by omega, ?_⟩
        rw [cn_n (show ¬ outP M i = true by simp only [outP, decide_eq_true_eq]; exact le_nlt c2), ← nI_1]
        rfl
      · refine ⟨d - 1, by omega, rfl, rfl, rfl, rfl, i + 1, by omega, ?_⟩
        rw [cn_y (show outP M i = true by simp only [outP, decide_eq_true_eq]; exact nle_lt c2), ← nI_1, ← nI_1]
        rfl
  · exact ⟨rfl, n, rfl, rfl, rfl, rfl, 0, by omega, rfl⟩
/-- the homes that worked a watch's pieces -/
def hoW (M : Ms) (k : Nat) : Int32 := M 3 (pN (M 38 (3 * k))) ||| M 3 (pN (M 38 (3 * k + 1))) ||| M 3 (pN (M 38 (3 * k + 2)))
def wOK (M : Ms) (k : Nat) : Prop := ∀ i, i < 3 → ∃ p, p < 300 ∧ M 38 (3 * k + i) = nI p
def sp_hoW : Sp := fun as w K => ∃ m0 M k, as = [.ref m0, .int (nI k)] ∧ RM m0 M w ∧ (k < 100 ∧ wOK M k) ∧ K (some (.int (hoW M k))) w
theorem c_hoW (l : Launch) : Ct l 122 1 0 0 sp_hoW := by
  refine ct_jd (by decide) rfl (fun as w Po h => ?_)
  obtain ⟨m0, M, k, rfl, hM, ⟨hk, hw⟩, h⟩ := h
  obtain ⟨p0, hp0, e0⟩ := hw 0 (by decide)
  obtain ⟨p1, hp1, e1⟩ := hw 1 (by decide)
  obtain ⟨p2, hp2, e2⟩ := hw 2 (by decide)
  have e0 : M 38 (3 * k) = nI p0 := e0
  have hh : hoW M k = M 3 p0 ||| M 3 p1 ||| M 3 p2 := by
    unfold hoW
    rw [e0, e1, e2, pN_n (by omega), pN_n (by omega), pN_n (by omega)]
  rw [hh] at h
  refine ⟨Nat.le_of_ble_eq_true rfl, jd_run cdo_122 ev0 60 ⟨Nat.le_refl _, Nat.le_refl _⟩ ?_⟩
  refine ⟨hM.k, _, hM.rf _ rfl, hM.k, _, hM.rf _ rfl, hM.kd _ rfl, 3 * k, _, hM.ix _ rfl (n3 k) (show 3 * k < 300 by omega), (hM.rd _ rfl _).trans e0, hM.kd _ rfl, p0, _, hM.ix _ rfl rfl hp0, hM.rd _ rfl p0, ?_⟩
  refine ⟨hM.k, _, hM.rf _ rfl, hM.k, _, hM.rf _ rfl, hM.kd _ rfl, 3 * k + 1, _, hM.ix _ rfl (by rw [n3, nI_1]) (show 3 * k + 1 < 300 by omega), (hM.rd _ rfl _).trans e1, hM.kd _ rfl, p1, _, hM.ix _ rfl rfl hp1, hM.rd _ rfl p1, ?_⟩
  refine ⟨hM.k, _, hM.rf _ rfl, hM.k, _, hM.rf _ rfl, hM.kd _ rfl, 3 * k + 2, _, hM.ix _ rfl (by rw [n3]; exact nI_add (3 * k) 2) (show 3 * k + 2 < 300 by omega), (hM.rd _ rfl _).trans e2, hM.kd _ rfl, p2, _, hM.ix _ rfl rfl hp2, hM.rd _ rfl p2, ?_⟩
  exact h
/-- a watch that home h has worked; bad: that is back -/
def cofP (M : Ms) (h : Nat) (bad : Bool) : Nat → Bool := fun k => decide ((hoW M k >>> (nI h &&& 31)) &&& 1 = 1) && (!bad || !decide (M 39 k = 0))
def sp_countOf : Sp := fun as w K => ∃ m0 M h n, ∃ b : Bool, as = [.ref m0, .int (nI h), .int (if b = true then 1 else 0)] ∧ RM m0 M w ∧ (M 40 0 = nI n ∧ n ≤ 100) ∧ (∀ k, k < n → wOK M k) ∧ K (some (.int (nI (cn (cofP M h b) n)))) w
theorem c_countOf (l : Launch) : Ct l 125 2 0 0 sp_countOf := by
  refine ct_jd (by decide) rfl (fun as w Po h => ?_)
  obtain ⟨m0, M, hm, n, b, rfl, hM, ⟨hn, hn2⟩, hw, h⟩ := h
  refine ⟨Nat.le_of_ble_eq_true rfl, jd_for cdo_125 (evL_ok (L := [(122, 1, 0, 0, sp_hoW)]) (by simpa using c_hoW l)) 10 40 5 (fun d L S w' nc ns => S = [] ∧ nc = 0 ∧ ns = 0 ∧ w' = w ∧ ∃ i, i + d = n ∧ L = [(4, .int (nI i)), (3, .int (nI (cn (cofP M hm b) i))), (0, .ref m0), (1, .int (nI hm)), (2, .int (if b = true then 1 else 0))]) ⟨Nat.le_refl _, Nat.le_refl _⟩ ?_ ?_ ?_⟩
  · rintro d L S w' nc ns ⟨-, rfl, rfl, -⟩
    exact ⟨Nat.le_refl _, Nat.le_refl _⟩
  · rintro d L S w' nc ns ⟨rfl, rfl, rfl, rfl, i, hi, rfl⟩
    refine ⟨hM.k, _, (hM.ri _ rfl).trans hn, fun c => ?_, fun c => ?_⟩
    · have hin : i = n := by have := ge_n (by omega) (by omega) c; omega
      subst hin
      exact h
    · have hin := nge_n (by omega) c
      refine ⟨⟨by decide, by decide, by decide⟩, rfl, hM.k, m0, M, i, rfl, hM, ⟨by omega, hw i hin⟩, fun c2 => ?_, fun c2 => ?_⟩
      · refine ⟨d - 1, by omega, rfl, rfl, rfl, rfl, i + 1, by omega, ?_⟩
        rw [cn_n (show ¬ cofP M hm b i = true by simp only [cofP, Bool.and_eq_true, decide_eq_true_eq]; exact fun z => c2 z.1), ← nI_1]
        rfl
      · cases b with
        | false =>
          refine ⟨fun _ => ?_, fun z => absurd rfl z⟩
          refine ⟨d - 1, by omega, rfl, rfl, rfl, rfl, i + 1, by omega, ?_⟩
          rw [cn_y (show cofP M hm false i = true by simp only [cofP, Bool.and_eq_true, decide_eq_true_eq]; exact ⟨c2, rfl⟩), ← nI_1, ← nI_1]
          rfl
        | true =>
          refine ⟨fun z => absurd z (by decide), fun _ => ?_⟩
          refine ⟨hM.k, _, hM.rf _ rfl, hM.kd _ rfl, i, _, hM.ix _ rfl rfl (show i < 100 by omega), hM.rd _ rfl i, fun c3 => ?_, fun c3 => ?_⟩
          · refine ⟨d - 1, by omega, rfl, rfl, rfl, rfl, i + 1, by omega, ?_⟩
            rw [cn_n (show ¬ cofP M hm true i = true by simp [cofP, c3]), ← nI_1]
            rfl
          · refine ⟨d - 1, by omega, rfl, rfl, rfl, rfl, i + 1, by omega, ?_⟩
            rw [cn_y (show cofP M hm true i = true by simp [cofP, c2, c3]), ← nI_1, ← nI_1]
            rfl
  · exact ⟨rfl, n, rfl, rfl, rfl, rfl, 0, by omega, rfl⟩
end
section
/-! the reference: count, counts, recall, of -/
theorem br1n {A B : Prop} (h : A) : (¬ (1 : Int32) = 0 → A) ∧ ((1 : Int32) = 0 → B) := ⟨fun _ => h, fun z => absurd z (by decide)⟩
theorem br0n {A B : Prop} (h : B) : (¬ (0 : Int32) = 0 → A) ∧ ((0 : Int32) = 0 → B) := ⟨fun z => absurd rfl z, fun _ => h⟩
def bkP (M : Ms) : Nat → Bool := fun k => !decide (M 39 k = 0)
def countA (M : Ms) (nl nw c : Nat) : Int32 := match c with
  | 0 => M 25 0
  | 1 => M 24 0
  | 2 => M 16 0
  | 3 => M 6 0
  | 4 => M 26 0
  | 5 => M 40 0
  | 6 => nI (cn (bkP M) nw)
  | _ => nI (cn (outP M) nl)
def sp_count : Sp := fun as w K => ∃ m0 M x nl nw, as = [.ref m0, .int x] ∧ RM m0 M w ∧ (M 16 0 = nI nl ∧ nl ≤ 60) ∧ (M 40 0 = nI nw ∧ nw ≤ 100) ∧ ∀ w', RM m0 (m41 M) w' → (∀ c, c < 8 → x = nI c → K (some (.int (countA M nl nw c))) w') ∧ ((¬ ∃ c, c < 8 ∧ x = nI c) → K (some (.int (-1))) w')
theorem c_mcount (l : Launch) : Ct l 99 2 0 0 sp_count := by
  refine ct_jd (by decide) rfl (fun as w Po h => ?_)
  obtain ⟨m0, M, x, nl, nw, rfl, hM0, ⟨hn, hn2⟩, ⟨hv, hv2⟩, h⟩ := h
  have hM := hM0.si 41 rfl 0
  obtain ⟨h1, h2⟩ := h _ hM
  refine ⟨Nat.le_of_ble_eq_true rfl, jd_for cdo_99 (evL_ok (L := [(100, 1, 0, 0, sp_outMany)]) (by simpa using c_outMany l)) 40 40 88 (fun d L S w' nc ns => S = [] ∧ nc = 0 ∧ ns = 0 ∧ w' = sI w 10 41 m0 0 ∧ x = nI 6 ∧ ∃ i, i + d = nw ∧ L = [(3, .int (nI i)), (2, .int (nI (cn (bkP M) i))), (0, .ref m0), (1, .int x)]) ⟨Nat.le_refl _, Nat.le_refl _⟩ ?_ ?_ ?_⟩
  · rintro d L S w' nc ns ⟨-, rfl, rfl, -⟩
    exact ⟨Nat.le_refl _, Nat.le_refl _⟩
  · rintro d L S w' nc ns ⟨rfl, rfl, rfl, rfl, hx6, i, hi, rfl⟩
    refine ⟨hM.k, _, (hM.ri _ rfl).trans hv, fun c => ?_, fun c => ?_⟩
    · have hin : i = nw := by have := ge_n (by omega) (by omega) c; omega
      subst hin
      exact h1 6 (by decide) hx6
    · have hin := nge_n (by omega) c
      refine ⟨hM.k, _, hM.rf _ rfl, hM.kd _ rfl, i, _, hM.ix _ rfl rfl (show i < 100 by omega), hM.rd _ rfl i, fun c2 => ?_, fun c2 => ?_⟩
      · have c2 : M 39 i = 0 := c2
        refine ⟨d - 1, by omega, rfl, rfl, rfl, rfl, hx6, i + 1, by omega, ?_⟩
        rw [cn_n (show ¬ bkP M i = true by simp [bkP, c2]), ← nI_1]
        rfl
      · have c2 : ¬ M 39 i = 0 := c2
        refine ⟨d - 1, by omega, rfl, rfl, rfl, rfl, hx6, i + 1, by omega, ?_⟩
        rw [cn_y (show bkP M i = true by simp [bkP, c2]), ← nI_1, ← nI_1]
        rfl
  · refine ⟨hM0.k, ?_⟩
    refine ⟨fun z => h2 (tw_out (n := 8) (by decide) z rfl rfl), fun z => ?_, fun z => ?_, fun z => ?_, fun z => ?_, fun z => ?_, fun z => ?_, fun z => ?_, fun z => ?_, trivial⟩
    · exact ⟨hM.k, _, hM.ri _ rfl, h1 0 (by decide) (ti_n (by decide) (by omega))⟩
    · exact ⟨hM.k, _, hM.ri _ rfl, h1 1 (by decide) (ti_n (by decide) (by omega))⟩
    · exact ⟨hM.k, _, hM.ri _ rfl, h1 2 (by decide) (ti_n (by decide) (by omega))⟩
    · exact ⟨hM.k, _, hM.ri _ rfl, h1 3 (by decide) (ti_n (by decide) (by omega))⟩
    · exact ⟨hM.k, _, hM.ri _ rfl, h1 4 (by decide) (ti_n (by decide) (by omega))⟩
    · exact ⟨hM.k, _, hM.ri _ rfl, h1 5 (by decide) (ti_n (by decide) (by omega))⟩
    · exact ⟨rfl, nw, rfl, rfl, rfl, rfl, ti_n (by decide) (by omega), 0, by omega, rfl⟩
    · exact ⟨⟨by decide, by decide, by decide⟩, rfl, hM.k, m0, _, nl, rfl, hM, ⟨hn, hn2⟩, h1 7 (by decide) (ti_n (by decide) (by omega))⟩
def sp_counts : Sp := fun as w K => ∃ m0 M x y nh nw, as = [.ref m0, .int x, .int y] ∧ RM m0 M w ∧ (M 24 0 = nI nh ∧ nh ≤ 9) ∧ (M 40 0 = nI nw ∧ nw ≤ 100) ∧ (∀ k, k < nw → wOK M k) ∧ ∀ w', RM m0 (m41 M) w' → (∀ h, h < nh → x = nI h → (y = 0 → K (some (.int (nI (cn (cofP M h false) nw)))) w') ∧ (y = 1 → K (some (.int (nI (cn (cofP M h true) nw)))) w')) ∧ ((¬ ((∃ h, h < nh ∧ x = nI h) ∧ (y = 0 ∨ y = 1))) → K (some (.int (-1))) w')
theorem c_mcounts (l : Launch) : Ct l 124 3 0 0 sp_counts := by
  refine ct_jd (by decide) rfl (fun as w Po h => ?_)
  obtain ⟨m0, M, x, y, nh, nw, rfl, hM, ⟨hh, hh2⟩, ⟨hv, hv2⟩, hw, h⟩ := h
  refine ⟨Nat.le_of_ble_eq_true rfl, jd_run cdo_124 (evL_ok (L := [(85, 1, 0, 0, sp_in), (125, 2, 0, 0, sp_countOf)]) (by simpa using ⟨c_in l, c_countOf l⟩)) 60 ⟨Nat.le_refl _, Nat.le_refl _⟩ ?_⟩
  refine ⟨hM.k, ?_⟩
  have hM := hM.si 41 rfl 0
  obtain ⟨h1, h2⟩ := h _ hM
  refine ⟨hM.k, _, (hM.ri _ rfl).trans hh, ?_⟩
  have e2 : (0 ≤ y ∧ y ≤ 1) ↔ ∃ c, c < 2 ∧ y = nI c := pr_n (n := 2) (by decide) y
  refine ⟨⟨by decide, by decide, by decide⟩, rfl, Nat.le_of_ble_eq_true rfl, x, 0, _, rfl, fun c => br1 ?_, fun c => br0 (h2 (fun z => c ((pr_n (by omega) x).mpr z.1)))⟩
  obtain ⟨hm, hhm, hx⟩ := (pr_n (by omega) x).mp c
  refine ⟨⟨by decide, by decide, by decide⟩, rfl, Nat.le_of_ble_eq_true rfl, y, 0, 1, rfl, fun c => br1 ?_, fun c => br0 (h2 (fun z => c (e2.mpr (by rcases z.2 with rfl | rfl; exact ⟨0, by decide, rfl⟩; exact ⟨1, by decide, rfl⟩))))⟩
  obtain ⟨c', hc', hy⟩ := e2.mp c
  obtain ⟨g0, g1⟩ := h1 hm hhm hx
  refine ⟨fun c2 => ?_, fun c2 => ?_⟩
  · have hy0 : y = 0 := by
      rcases (show c' = 0 ∨ c' = 1 by omega) with rfl | rfl
      · exact hy
      · exact absurd hy c2
    exact ⟨⟨by decide, by decide, by decide⟩, rfl, hM.k, m0, _, hm, nw, false, by rw [hx]; rfl, hM, ⟨hv, hv2⟩, hw, g0 hy0⟩
  · exact ⟨⟨by decide, by decide, by decide⟩, rfl, hM.k, m0, _, hm, nw, true, by rw [hx]; rfl, hM, ⟨hv, hv2⟩, hw, g1 c2⟩
/-- a watch with a piece of the raw lot x -/
def rcP (M : Ms) (x : Int32) : Nat → Bool := fun k => decide (M 2 (pN (M 38 (3 * k))) = x ∨ M 2 (pN (M 38 (3 * k + 1))) = x ∨ M 2 (pN (M 38 (3 * k + 2))) = x)
def sp_recall : Sp := fun as w K => ∃ m0 M x nl nw, as = [.ref m0, .int x] ∧ RM m0 M w ∧ (M 16 0 = nI nl ∧ nl ≤ 60) ∧ (M 40 0 = nI nw ∧ nw ≤ 100) ∧ (∀ k, k < nw → wOK M k) ∧ ∀ w', RM m0 (m41 M) w' → ((∃ j, j < nl ∧ x = nI j) → K (some (.int (nI (cn (rcP M x) nw)))) w') ∧ ((¬ ∃ j, j < nl ∧ x = nI j) → K (some (.int (-1))) w')
theorem c_mrecall (l : Launch) : Ct l 127 3 0 0 sp_recall := by
  refine ct_jd (by decide) rfl (fun as w Po h => ?_)
  obtain ⟨m0, M, x, nl, nw, rfl, hM0, ⟨hn, hn2⟩, ⟨hv, hv2⟩, hw, h⟩ := h
  have hM := hM0.si 41 rfl 0
  obtain ⟨h1, h2⟩ := h _ hM
  refine ⟨Nat.le_of_ble_eq_true rfl, jd_for cdo_127 (evL_ok (L := [(91, 2, 0, 0, sp_isLot)]) (by simpa using c_isLot l)) 40 80 19 (fun d L S w' nc ns => S = [] ∧ nc = 0 ∧ ns = 0 ∧ w' = sI w 10 41 m0 0 ∧ (∃ j, j < nl ∧ x = nI j) ∧ ∃ i, i + d = nw ∧ L = [(3, .int (nI i)), (2, .int (nI (cn (rcP M x) i))), (0, .ref m0), (1, .int x)]) ⟨Nat.le_refl _, Nat.le_refl _⟩ ?_ ?_ ?_⟩
  · rintro d L S w' nc ns ⟨-, rfl, rfl, -⟩
    exact ⟨Nat.le_refl _, Nat.le_refl _⟩
  · rintro d L S w' nc ns ⟨rfl, rfl, rfl, rfl, hxl, i, hi, rfl⟩
    refine ⟨hM.k, _, (hM.ri _ rfl).trans hv, fun c => ?_, fun c => ?_⟩
    · have hin : i = nw := by have := ge_n (by omega) (by omega) c; omega
      subst hin
      exact h1 hxl
    · have hin := nge_n (by omega) c
      obtain ⟨p0, hp0, e0⟩ := hw i hin 0 (by decide)
      obtain ⟨p1, hp1, e1⟩ := hw i hin 1 (by decide)
      obtain ⟨p2, hp2, e2⟩ := hw i hin 2 (by decide)
      have e0 : M 38 (3 * i) = nI p0 := e0
      have hrc : rcP M x i = decide (M 2 p0 = x ∨ M 2 p1 = x ∨ M 2 p2 = x) := by
        unfold rcP
        rw [e0, e1, e2, pN_n (by omega), pN_n (by omega), pN_n (by omega)]
      have yes : (M 2 p0 = x ∨ M 2 p1 = x ∨ M 2 p2 = x) → cn (rcP M x) (i + 1) = cn (rcP M x) i + 1 := fun z => cn_y (by rw [hrc]; exact decide_eq_true z)
      have no : ¬ (M 2 p0 = x ∨ M 2 p1 = x ∨ M 2 p2 = x) → cn (rcP M x) (i + 1) = cn (rcP M x) i := fun z => cn_n (by rw [hrc]; simpa using z)
      refine ⟨hM.k, _, hM.rf _ rfl, hM.k, _, hM.rf _ rfl, hM.kd _ rfl, 3 * i, _, hM.ix _ rfl (n3 i) (show 3 * i < 300 by omega), (hM.rd _ rfl _).trans e0, hM.kd _ rfl, p0, _, hM.ix _ rfl rfl hp0, hM.rd _ rfl p0, fun c2 => ?_, fun c2 => ?_⟩
      · refine ⟨d - 1, by omega, rfl, rfl, rfl, rfl, hxl, i + 1, by omega, ?_⟩
        rw [yes (Or.inl c2), ← nI_1, ← nI_1]
        rfl
      · refine ⟨hM.k, _, hM.rf _ rfl, hM.k, _, hM.rf _ rfl, hM.kd _ rfl, 3 * i + 1, _, hM.ix _ rfl (by rw [n3, nI_1]) (show 3 * i + 1 < 300 by omega), (hM.rd _ rfl _).trans e1, hM.kd _ rfl, p1, _, hM.ix _ rfl rfl hp1, hM.rd _ rfl p1, fun c3 => ?_, fun c3 => ?_⟩
        · refine ⟨d - 1, by omega, rfl, rfl, rfl, rfl, hxl, i + 1, by omega, ?_⟩
          rw [yes (Or.inr (Or.inl c3)), ← nI_1, ← nI_1]
          rfl
        · refine ⟨hM.k, _, hM.rf _ rfl, hM.k, _, hM.rf _ rfl, hM.kd _ rfl, 3 * i + 2, _, hM.ix _ rfl (by rw [n3]; exact nI_add (3 * i) 2) (show 3 * i + 2 < 300 by omega), (hM.rd _ rfl _).trans e2, hM.kd _ rfl, p2, _, hM.ix _ rfl rfl hp2, hM.rd _ rfl p2, fun c4 => ?_, fun c4 => ?_⟩
          · refine ⟨d - 1, by omega, rfl, rfl, rfl, rfl, hxl, i + 1, by omega, ?_⟩
            rw [no (fun z => by rcases z with z | z | z; exact c2 z; exact c3 z; exact c4 z), ← nI_1]
            rfl
          · refine ⟨d - 1, by omega, rfl, rfl, rfl, rfl, hxl, i + 1, by omega, ?_⟩
            rw [yes (Or.inr (Or.inr c4)), ← nI_1, ← nI_1]
            rfl
  · refine ⟨hM0.k, ?_⟩
    exact ⟨⟨by decide, by decide, by decide⟩, rfl, hM.k, m0, _, x, nl, rfl, hM, ⟨hn, by omega⟩, fun j hj hx => br1n ⟨rfl, nw, rfl, rfl, rfl, rfl, ⟨j, hj, hx⟩, 0, by omega, rfl⟩, fun c => br0n (h2 c)⟩
/-- a lot that waits at home h -/
def wtP (M : Ms) (h : Nat) : Nat → Bool := fun l => decide (M 10 l = 2 ∧ M 11 l = nI h)
def ofA (M : Ms) (h nl c : Nat) : Int32 := match c with
  | 0 => M 18 h
  | 1 => M 19 h
  | 2 => M 20 h
  | 3 => M 21 h
  | 4 => M 22 h
  | 5 => M 23 h
  | _ => nI (cn (wtP M h) nl)
def sp_of : Sp := fun as w K => ∃ m0 M x y nh nl, as = [.ref m0, .int x, .int y] ∧ RM m0 M w ∧ (M 24 0 = nI nh ∧ nh ≤ 9) ∧ (M 16 0 = nI nl ∧ nl ≤ 60) ∧ ∀ w', RM m0 (m41 M) w' → (∀ h c, h < nh → c < 7 → x = nI h → y = nI c → K (some (.int (ofA M h nl c))) w') ∧ ((¬ ∃ h c, h < nh ∧ c < 7 ∧ x = nI h ∧ y = nI c) → K (some (.int (-1))) w')
theorem c_mof (l : Launch) : Ct l 104 2 0 0 sp_of := by
  refine ct_jd (by decide) rfl (fun as w Po h => ?_)
  obtain ⟨m0, M, x, y, nh, nl, rfl, hM0, ⟨hh, hh2⟩, ⟨hn, hn2⟩, h⟩ := h
  have hM := hM0.si 41 rfl 0
  obtain ⟨h1, h2⟩ := h _ hM
  refine ⟨Nat.le_of_ble_eq_true rfl, jd_for cdo_104 (evL_ok cIn) 40 40 113 (fun d L S w' nc ns => S = [] ∧ nc = 0 ∧ ns = 0 ∧ w' = sI w 10 41 m0 0 ∧ y = nI 6 ∧ ∃ hm i, hm < nh ∧ x = nI hm ∧ i + d = nl ∧ L = [(4, .int (nI i)), (3, .int (nI (cn (wtP M hm) i))), (0, .ref m0), (1, .int x), (2, .int y)]) ⟨Nat.le_refl _, Nat.le_refl _⟩ ?_ ?_ ?_⟩
  · rintro d L S w' nc ns ⟨-, rfl, rfl, -⟩
    exact ⟨Nat.le_refl _, Nat.le_refl _⟩
  · rintro d L S w' nc ns ⟨rfl, rfl, rfl, rfl, hy6, hm, i, hhm, hx, hi, rfl⟩
    refine ⟨hM.k, _, (hM.ri _ rfl).trans hn, fun c => ?_, fun c => ?_⟩
    · have hin : i = nl := by have := ge_n (by omega) (by omega) c; omega
      subst hin
      exact h1 hm 6 hhm (by decide) hx hy6
    · have hin := nge_n (by omega) c
      have no : ¬ (M 10 i = 2 ∧ M 11 i = x) → cn (wtP M hm) (i + 1) = cn (wtP M hm) i := fun z => cn_n (by simp only [wtP, decide_eq_true_eq]; rw [← hx]; exact z)
      refine ⟨hM.k, _, hM.rf _ rfl, hM.kd _ rfl, i, _, hM.ix _ rfl rfl (show i < 60 by omega), hM.rd _ rfl i, fun c2 => ?_, fun c2 => ?_⟩
      · refine ⟨d - 1, by omega, rfl, rfl, rfl, rfl, hy6, hm, i + 1, hhm, hx, by omega, ?_⟩
        rw [no (fun z => c2 z.1), ← nI_1]
        rfl
      · refine ⟨hM.k, _, hM.rf _ rfl, hM.kd _ rfl, i, _, hM.ix _ rfl rfl (show i < 60 by omega), hM.rd _ rfl i, fun c3 => ?_, fun c3 => ?_⟩
        · refine ⟨d - 1, by omega, rfl, rfl, rfl, rfl, hy6, hm, i + 1, hhm, hx, by omega, ?_⟩
          rw [no (fun z => c3 z.2), ← nI_1]
          rfl
        · refine ⟨d - 1, by omega, rfl, rfl, rfl, rfl, hy6, hm, i + 1, hhm, hx, by omega, ?_⟩
          rw [cn_y (p := wtP M hm) (n := i) (by simp only [wtP, decide_eq_true_eq]; rw [← hx]; exact ⟨c2, c3⟩), ← nI_1, ← nI_1]
          rfl
  · refine ⟨hM0.k, hM.k, _, (hM.ri _ rfl).trans hh, ?_⟩
    refine ⟨⟨by decide, by decide, by decide⟩, rfl, Nat.le_of_ble_eq_true rfl, x, 0, _, rfl, fun c => br1n ?_, fun c => br0n (h2 (fun ⟨hm, _, hhm, _, hx, _⟩ => c ((pr_n (by omega) x).mpr ⟨hm, hhm, hx⟩)))⟩
    obtain ⟨hm, hhm, hx⟩ := (pr_n (by omega) x).mp c
    refine ⟨fun z => h2 (fun ⟨_, c', _, hc, _, hy⟩ => tw_out (n := 7) (by decide) z rfl rfl ⟨c', hc, hy⟩), fun z => ?_, fun z => ?_, fun z => ?_, fun z => ?_, fun z => ?_, fun z => ?_, fun z => ?_, trivial⟩
    · exact ⟨hM.k, _, hM.rf _ rfl, hM.kd _ rfl, hm, _, hM.ix _ rfl hx (show hm < 9 by omega), hM.rd _ rfl hm, h1 hm 0 hhm (by decide) hx (ti_n (by decide) (by omega))⟩
    · exact ⟨hM.k, _, hM.rf _ rfl, hM.kd _ rfl, hm, _, hM.ix _ rfl hx (show hm < 9 by omega), hM.rd _ rfl hm, h1 hm 1 hhm (by decide) hx (ti_n (by decide) (by omega))⟩
    · exact ⟨hM.k, _, hM.rf _ rfl, hM.kd _ rfl, hm, _, hM.ix _ rfl hx (show hm < 9 by omega), hM.rd _ rfl hm, h1 hm 2 hhm (by decide) hx (ti_n (by decide) (by omega))⟩
    · exact ⟨hM.k, _, hM.rf _ rfl, hM.kd _ rfl, hm, _, hM.ix _ rfl hx (show hm < 9 by omega), hM.rd _ rfl hm, h1 hm 3 hhm (by decide) hx (ti_n (by decide) (by omega))⟩
    · exact ⟨hM.k, _, hM.rf _ rfl, hM.kd _ rfl, hm, _, hM.ix _ rfl hx (show hm < 9 by omega), hM.rd _ rfl hm, h1 hm 4 hhm (by decide) hx (ti_n (by decide) (by omega))⟩
    · exact ⟨hM.k, _, hM.rf _ rfl, hM.kd _ rfl, hm, _, hM.ix _ rfl hx (show hm < 9 by omega), hM.rd _ rfl hm, h1 hm 5 hhm (by decide) hx (ti_n (by decide) (by omega))⟩
    · exact ⟨rfl, nl, rfl, rfl, rfl, rfl, ti_n (by decide) (by omega), hm, 0, hhm, hx, by omega, rfl⟩
end
section
/-! the reference: back, watch, wages, suspect, lots for making -/
def sp_back : Sp := fun as w K => ∃ m0 M x b nw, as = [.ref m0, .int x, .int b] ∧ RM m0 M w ∧ (b = 0 ∨ b = 1) ∧ (M 40 0 = nI nw ∧ nw ≤ 100) ∧ (∀ k, k < nw → x = nI k → ∀ w', RM m0 (u2 (m41 M) 39 k b) w' → K (some (.int 1)) w') ∧ ((¬ ∃ k, k < nw ∧ x = nI k) → ∀ w', RM m0 (m41 M) w' → K (some (.int 0)) w')
theorem c_mback (l : Launch) : Ct l 123 2 0 0 sp_back := by
  refine ct_jd (by decide) rfl (fun as w Po h => ?_)
  obtain ⟨m0, M, x, b, nw, rfl, hM, hb, ⟨hv, hv2⟩, h1, h2⟩ := h
  refine ⟨Nat.le_of_ble_eq_true rfl, jd_run cdo_123 (evL_ok cIn) 60 ⟨Nat.le_refl _, Nat.le_refl _⟩ ?_⟩
  refine ⟨hM.k, ?_⟩
  have hM := hM.si 41 rfl 0
  refine ⟨hM.k, _, (hM.ri _ rfl).trans hv, ?_⟩
  refine ⟨⟨by decide, by decide, by decide⟩, rfl, Nat.le_of_ble_eq_true rfl, x, 0, _, rfl, fun c => br1n ?_, fun c => br0n ⟨Or.inl rfl, h2 (fun z => c ((pr_n (by omega) x).mpr z)) _ hM⟩⟩
  obtain ⟨k, hk, hx⟩ := (pr_n (by omega) x).mp c
  refine ⟨hM.k, _, hM.rf _ rfl, hM.kd _ rfl, hb, k, hM.ix _ rfl hx (show k < 100 by omega), ?_⟩
  exact ⟨Or.inr rfl, h1 k hk hx _ (hM.sa 39 rfl k b)⟩
def watchA (M : Ms) (k c : Nat) : Int32 := match c with
  | 0 => M 38 (3 * k)
  | 1 => M 38 (3 * k + 1)
  | 2 => M 38 (3 * k + 2)
  | 3 => if M 39 k = 0 then 0 else 1
  | _ => hoW M k
theorem watchA_lt {M : Ms} {k c : Nat} (h : c < 3) : watchA M k c = M 38 (3 * k + c) := by
  rcases (show c = 0 ∨ c = 1 ∨ c = 2 by omega) with rfl | rfl | rfl <;> rfl
def sp_watch : Sp := fun as w K => ∃ m0 M x y nw, as = [.ref m0, .int x, .int y] ∧ RM m0 M w ∧ (M 40 0 = nI nw ∧ nw ≤ 100) ∧ (∀ k, k < nw → wOK M k) ∧ ∀ w', RM m0 (m41 M) w' → (∀ k c, k < nw → c < 5 → x = nI k → y = nI c → K (some (.int (watchA M k c))) w') ∧ ((¬ ∃ k c, k < nw ∧ c < 5 ∧ x = nI k ∧ y = nI c) → K (some (.int (-1))) w')
theorem c_mwatch (l : Launch) : Ct l 121 2 0 0 sp_watch := by
  refine ct_jd (by decide) rfl (fun as w Po h => ?_)
  obtain ⟨m0, M, x, y, nw, rfl, hM, ⟨hv, hv2⟩, hw, h⟩ := h
  refine ⟨Nat.le_of_ble_eq_true rfl, jd_run cdo_121 (evL_ok (L := [(85, 1, 0, 0, sp_in), (122, 1, 0, 0, sp_hoW)]) (by simpa using ⟨c_in l, c_hoW l⟩)) 60 ⟨Nat.le_refl _, Nat.le_refl _⟩ ?_⟩
  refine ⟨hM.k, ?_⟩
  have hM := hM.si 41 rfl 0
  obtain ⟨h1, h2⟩ := h _ hM
  refine ⟨hM.k, _, (hM.ri _ rfl).trans hv, ?_⟩
  have e5 : (0 ≤ y ∧ y ≤ 4) ↔ ∃ c, c < 5 ∧ y = nI c := pr_n (n := 5) (by decide) y
  refine ⟨⟨by decide, by decide, by decide⟩, rfl, Nat.le_of_ble_eq_true rfl, x, 0, _, rfl, fun c => br1 ?_, fun c => br0 (h2 (fun ⟨k, _, hk, _, hx, _⟩ => c ((pr_n (by omega) x).mpr ⟨k, hk, hx⟩)))⟩
  obtain ⟨k, hk, hx⟩ := (pr_n (by omega) x).mp c
  refine ⟨⟨by decide, by decide, by decide⟩, rfl, Nat.le_of_ble_eq_true rfl, y, 0, 4, rfl, fun c => br1n ?_, fun c => br0n (h2 (fun ⟨_, c', _, hc, _, hy⟩ => c (e5.mpr ⟨c', hc, hy⟩)))⟩
  obtain ⟨c', hc', hy⟩ := e5.mp c
  have h3 := h1 k c' hk hc' hx hy
  refine ⟨fun c2 => ⟨fun c3 => ?_, fun c3 => ?_⟩, fun c2 => ?_⟩
  · have hc4 : c' = 4 := by
      have z1 : 3 ≤ c' := by rw [hy] at c2; exact ge_n (b := 3) (by omega) (by omega) c2
      have z2 : c' ≠ 3 := fun z => c3 (by rw [hy, z]; rfl)
      omega
    subst hc4
    exact ⟨⟨by decide, by decide, by decide⟩, rfl, hM.k, m0, _, k, by rw [hx]; rfl, hM, ⟨by omega, hw k hk⟩, h3⟩
  · have hc4 : c' = 3 := two_eq (b := 3) (by omega) (by omega) hy c3
    subst hc4
    refine ⟨hM.k, _, hM.rf _ rfl, hM.kd _ rfl, k, _, hM.ix _ rfl hx (show k < 100 by omega), hM.rd _ rfl k, fun c4 => ?_, fun c4 => ?_⟩
    · have e : watchA M k 3 = 0 := if_pos c4
      rw [e] at h3
      exact h3
    · have e : watchA M k 3 = 1 := if_neg c4
      rw [e] at h3
      exact h3
  · have hc3 : c' < 3 := by rw [hy] at c2; exact nge_n (b := 3) (by omega) c2
    rw [watchA_lt hc3] at h3
    exact ⟨hM.k, _, hM.rf _ rfl, hM.kd _ rfl, 3 * k + c', _, hM.ix _ rfl (by rw [hx, hy, n3, nI_add]) (show 3 * k + c' < 300 by omega), hM.rd _ rfl _, h3⟩
/-- a number or none -/
def oI (o : Option Nat) : Int32 := match o with
  | none => -1
  | some j => nI j
/-- a wage told of home h, known on day kn, from day d on -/
def wgOK (M : Ms) (h : Nat) (d kn : Int32) (k : Nat) : Prop := M 31 k = nI h ∧ M 34 k ≤ kn ∧ M 32 k ≤ d
def wgBest (M : Ms) (h : Nat) (d kn : Int32) : Nat → Option Nat
  | 0 => none
  | k + 1 => if M 31 k = nI h ∧ M 34 k ≤ kn ∧ M 32 k ≤ d then (match wgBest M h d kn k with
    | none => some k
    | some b => if M 32 b ≤ M 32 k then some k else some b) else wgBest M h d kn k
theorem wgBest_lt (M : Ms) (h : Nat) (d kn : Int32) : ∀ n b, wgBest M h d kn n = some b → b < n
  | 0, b, e => by cases e
  | n + 1, b, e => by
    unfold wgBest at e
    split at e
    · split at e
      · cases e; omega
      · rename_i b' hb'
        have := wgBest_lt M h d kn n b' hb'
        split at e
        · cases e; omega
        · cases e; omega
    · have := wgBest_lt M h d kn n b e
      omega
def wgFor (M : Ms) (h : Nat) (d kn : Int32) (n : Nat) : Int32 := match wgBest M h d kn n with
  | none => 0
  | some b => M 33 b
theorem wgBest_41 (M : Ms) (h : Nat) (d kn : Int32) : ∀ n, wgBest (u2 M 41 0 0) h d kn n = wgBest M h d kn n
  | 0 => rfl
  | n + 1 => by
    show (if M 31 n = nI h ∧ M 34 n ≤ kn ∧ M 32 n ≤ d then (match wgBest (u2 M 41 0 0) h d kn n with
      | none => some n
      | some b => if M 32 b ≤ M 32 n then some n else some b) else wgBest (u2 M 41 0 0) h d kn n) = _
    rw [wgBest_41 M h d kn n]
    rfl
theorem wgFor_41 (M : Ms) (h : Nat) (d kn : Int32) (n : Nat) : wgFor (u2 M 41 0 0) h d kn n = wgFor M h d kn n := by
  unfold wgFor
  rw [wgBest_41]
  cases wgBest M h d kn n <;> rfl
def sp_wageFor : Sp := fun as w K => ∃ m0 M h d kn n, as = [.ref m0, .int (nI h), .int d, .int kn] ∧ RM m0 M w ∧ (M 35 0 = nI n ∧ n ≤ 100) ∧ K (some (.int (wgFor M h d kn n))) w
theorem c_mwageFor (l : Launch) : Ct l 107 1 0 0 sp_wageFor := by
  refine ct_jd (by decide) rfl (fun as w Po h => ?_)
  obtain ⟨m0, M, hm, dd, kn, n, rfl, hM, ⟨hn, hn2⟩, h⟩ := h
  refine ⟨Nat.le_of_ble_eq_true rfl, jd_for cdo_107 ev0 10 60 6 (fun d L S w' nc ns => S = [] ∧ nc = 0 ∧ ns = 0 ∧ w' = w ∧ ∃ i, i + d = n ∧ L = [(5, .int (nI i)), (4, .int (oI (wgBest M hm dd kn i))), (0, .ref m0), (1, .int (nI hm)), (2, .int dd), (3, .int kn)]) ⟨Nat.le_refl _, Nat.le_refl _⟩ ?_ ?_ ?_⟩
  · rintro d L S w' nc ns ⟨-, rfl, rfl, -⟩
    exact ⟨Nat.le_refl _, Nat.le_refl _⟩
  · rintro d L S w' nc ns ⟨rfl, rfl, rfl, rfl, i, hi, rfl⟩
    refine ⟨hM.k, _, (hM.ri _ rfl).trans hn, fun c => ?_, fun c => ?_⟩
    · have hin : i = n := by have := ge_n (by omega) (by omega) c; omega
      subst hin
      unfold wgFor at h
      cases hb : wgBest M hm dd kn i with
      | none =>
        rw [hb] at h
        exact ⟨fun z => absurd rfl z, fun _ => h⟩
      | some b =>
        rw [hb] at h
        have hbl := wgBest_lt M hm dd kn i b hb
        have hne : ¬ nI b = -1 := fun z => by
          have := congrArg Int32.toInt z
          rw [nI_toInt (by omega)] at this
          have e : (-1 : Int32).toInt = -1 := by decide
          omega
        refine ⟨fun _ => ?_, fun z => absurd z hne⟩
        exact ⟨hM.k, _, hM.rf _ rfl, hM.kd _ rfl, b, _, hM.ix _ rfl rfl (show b < 100 by omega), hM.rd _ rfl b, h⟩
    · have hin := nge_n (by omega) c
      have no : ¬ (M 31 i = nI hm ∧ M 34 i ≤ kn ∧ M 32 i ≤ dd) → wgBest M hm dd kn (i + 1) = wgBest M hm dd kn i := fun z => by rw [wgBest, if_neg z]
      have stay : ∀ z : Option Nat, wgBest M hm dd kn (i + 1) = z → ∀ L' : Ls, L' = [(5, .int (nI (i + 1))), (4, .int (oI z)), (0, .ref m0), (1, .int (nI hm)), (2, .int dd), (3, .int kn)] → ∃ j, j < d ∧ (([] : List Value) = [] ∧ 0 = 0 ∧ 0 = 0 ∧ w' = w' ∧ ∃ i, i + j = n ∧ L' = [(5, .int (nI i)), (4, .int (oI (wgBest M hm dd kn i))), (0, .ref m0), (1, .int (nI hm)), (2, .int dd), (3, .int kn)]) := fun z hz L' hL => ⟨d - 1, by omega, rfl, rfl, rfl, rfl, i + 1, by omega, by rw [hL, hz]⟩
      refine ⟨hM.k, _, hM.rf _ rfl, hM.kd _ rfl, i, _, hM.ix _ rfl rfl (show i < 100 by omega), hM.rd _ rfl i, fun c2 => ?_, fun c2 => ?_⟩
      · exact stay _ (no (fun z => c2 z.1)) _ (by rw [← nI_1]; rfl)
      · refine ⟨hM.k, _, hM.rf _ rfl, hM.kd _ rfl, i, _, hM.ix _ rfl rfl (show i < 100 by omega), hM.rd _ rfl i, fun c3 => ?_, fun c3 => ?_⟩
        · exact stay _ (no (fun z => lt_nle c3 z.2.1)) _ (by rw [← nI_1]; rfl)
        · refine ⟨hM.k, _, hM.rf _ rfl, hM.kd _ rfl, i, _, hM.ix _ rfl rfl (show i < 100 by omega), hM.rd _ rfl i, fun c4 => ?_, fun c4 => ?_⟩
          · have hok : M 31 i = nI hm ∧ M 34 i ≤ kn ∧ M 32 i ≤ dd := ⟨c2, nlt_le c3, c4⟩
            cases hb : wgBest M hm dd kn i with
            | none =>
              have hs : wgBest M hm dd kn (i + 1) = some i := by rw [wgBest, if_pos hok, hb]
              refine ⟨fun _ => ?_, fun z => absurd rfl z⟩
              exact stay _ hs _ (by rw [← nI_1]; rfl)
            | some b =>
              have hbl := wgBest_lt M hm dd kn i b hb
              have hne : ¬ nI b = -1 := fun z => by
                have := congrArg Int32.toInt z
                rw [nI_toInt (by omega)] at this
                have e : (-1 : Int32).toInt = -1 := by decide
                omega
              refine ⟨fun z => absurd z hne, fun _ => ?_⟩
              refine ⟨hM.k, _, hM.rf _ rfl, hM.kd _ rfl, i, _, hM.ix _ rfl rfl (show i < 100 by omega), hM.rd _ rfl i, ?_⟩
              refine ⟨hM.k, _, hM.rf _ rfl, hM.kd _ rfl, b, _, hM.ix _ rfl rfl (show b < 100 by omega), hM.rd _ rfl b, fun c5 => ?_, fun c5 => ?_⟩
              · have hs : wgBest M hm dd kn (i + 1) = some b := by rw [wgBest, if_pos hok, hb]; exact if_neg (lt_nle c5)
                exact stay _ hs _ (by rw [← nI_1]; rfl)
              · have hs : wgBest M hm dd kn (i + 1) = some i := by rw [wgBest, if_pos hok, hb]; exact if_pos (nlt_le c5)
                exact stay _ hs _ (by rw [← nI_1]; rfl)
          · exact stay _ (no (fun z => c4 z.2.2)) _ (by rw [← nI_1]; rfl)
  · exact ⟨rfl, n, rfl, rfl, rfl, rfl, 0, by omega, rfl⟩
def dueS (M : Ms) (h : Nat) (kn : Int32) (ng : Nat) : Nat → Int64
  | 0 => 0
  | k + 1 => if M 27 k = nI h ∧ M 28 k ≤ kn then dueS M h kn ng k + (M 29 k).toInt64 * (wgFor M h (M 28 k) kn ng).toInt64 else dueS M h kn ng k
def sp_due : Sp := fun as w K => ∃ m0 M x kn nh ns ng, as = [.ref m0, .int x, .int kn] ∧ RM m0 M w ∧ (M 24 0 = nI nh ∧ nh ≤ 9) ∧ (M 30 0 = nI ns ∧ ns ≤ 500) ∧ (M 35 0 = nI ng ∧ ng ≤ 100) ∧
  (∀ h, h < nh → x = nI h → 0 ≤ kn ∧ kn ≤ M 25 0 → ∀ w', RM m0 (m41 M) w' → K (some (.long (dueS M h kn ng ns))) w') ∧ ((¬ ((∃ h, h < nh ∧ x = nI h) ∧ 0 ≤ kn ∧ kn ≤ M 25 0)) → ∀ w', RM m0 (u2 (m41 M) 41 0 1) w' → K (some (.long 0)) w')
theorem c_mdue (l : Launch) : Ct l 106 2 0 0 sp_due := by
  refine ct_jd (by decide) rfl (fun as w Po h => ?_)
  obtain ⟨m0, M, x, kn, nh, n, ng, rfl, hM0, ⟨hh, hh2⟩, ⟨hn, hn2⟩, ⟨hg, hg2⟩, h1, h2⟩ := h
  have hM := hM0.si 41 rfl 0
  refine ⟨Nat.le_of_ble_eq_true rfl, jd_for cdo_106 (evL_ok (L := [(85, 1, 0, 0, sp_in), (107, 1, 0, 0, sp_wageFor)]) (by simpa using ⟨c_in l, c_mwageFor l⟩)) 40 60 43 (fun d L S w' nc ns => S = [] ∧ nc = 0 ∧ ns = 0 ∧ w' = sI w 10 41 m0 0 ∧ ∃ hm i, hm < nh ∧ x = nI hm ∧ (0 ≤ kn ∧ kn ≤ M 25 0) ∧ i + d = n ∧ (L = [(5, .int (nI i)), (3, .long (dueS M hm kn ng i)), (0, .ref m0), (1, .int x), (2, .int kn)])) ⟨Nat.le_refl _, Nat.le_refl _⟩ ?_ ?_ ?_⟩
  · rintro d L S w' nc ns ⟨-, rfl, rfl, -⟩
    exact ⟨Nat.le_refl _, Nat.le_refl _⟩
  · rintro d L S w' nc ns ⟨rfl, rfl, rfl, rfl, hm, i, hhm, hx, hkn, hi, rfl⟩
    refine ⟨hM.k, _, (hM.ri _ rfl).trans hn, fun c => ?_, fun c => ?_⟩
    · have hin : i = n := by have := ge_n (by omega) (by omega) c; omega
      subst hin
      exact h1 hm hhm hx hkn _ hM
    · have hin := nge_n (by omega) c
      have no : ¬ (M 27 i = nI hm ∧ M 28 i ≤ kn) → dueS M hm kn ng (i + 1) = dueS M hm kn ng i := fun z => by rw [dueS, if_neg z]
      refine ⟨hM.k, _, hM.rf _ rfl, hM.kd _ rfl, i, _, hM.ix _ rfl rfl (show i < 500 by omega), hM.rd _ rfl i, fun c2 => ?_, fun c2 => ?_⟩
      · refine ⟨d - 1, by omega, rfl, rfl, rfl, rfl, hm, i + 1, hhm, hx, hkn, by omega, ?_⟩
        rw [no (fun z => c2 (hx ▸ z.1)), ← nI_1]
        rfl
      · refine ⟨hM.k, _, hM.rf _ rfl, hM.kd _ rfl, i, _, hM.ix _ rfl rfl (show i < 500 by omega), hM.rd _ rfl i, fun c3 => ?_, fun c3 => ?_⟩
        · refine ⟨d - 1, by omega, rfl, rfl, rfl, rfl, hm, i + 1, hhm, hx, hkn, by omega, ?_⟩
          rw [no (fun z => lt_nle c3 z.2), ← nI_1]
          rfl
        · have hok : M 27 i = nI hm ∧ M 28 i ≤ kn := ⟨hx ▸ c2, nlt_le c3⟩
          refine ⟨hM.k, _, hM.rf _ rfl, hM.kd _ rfl, i, _, hM.ix _ rfl rfl (show i < 500 by omega), hM.rd _ rfl i, ?_⟩
          refine ⟨hM.k, _, hM.rf _ rfl, hM.kd _ rfl, i, _, hM.ix _ rfl rfl (show i < 500 by omega), hM.rd _ rfl i, ?_⟩
          refine ⟨⟨by decide, by decide, by decide⟩, rfl, hM.k, m0, _, hm, M 28 i, kn, ng, by rw [hx]; rfl, hM, ⟨hg, hg2⟩, ?_⟩
          refine ⟨d - 1, by omega, rfl, rfl, rfl, rfl, hm, i + 1, hhm, hx, hkn, by omega, ?_⟩
          rw [dueS, if_pos hok, ← nI_1, wgFor_41]
          rfl
  · refine ⟨hM0.k, hM.k, _, (hM.ri _ rfl).trans hh, ?_⟩
    refine ⟨⟨by decide, by decide, by decide⟩, rfl, Nat.le_of_ble_eq_true rfl, x, 0, _, rfl, fun c => br1 ?_, fun c => br0 ⟨hM.k, h2 (fun z => c ((pr_n (by omega) x).mpr z.1)) _ (hM.si 41 rfl 1)⟩⟩
    obtain ⟨hm, hhm, hx⟩ := (pr_n (by omega) x).mp c
    refine ⟨hM.k, _, hM.ri _ rfl, ?_⟩
    refine ⟨⟨by decide, by decide, by decide⟩, rfl, Nat.le_of_ble_eq_true rfl, kn, 0, _, rfl, fun c => br1n ?_, fun c => br0n ⟨hM.k, h2 (fun z => c z.2) _ (hM.si 41 rfl 1)⟩⟩
    exact ⟨rfl, n, rfl, rfl, rfl, rfl, hm, 0, hhm, hx, c, by omega, rfl⟩
end
section
/-! the reference: suspect; lots for making -/
abbrev badN (M : Ms) (nw h : Nat) : Nat := cn (cofP M h true) nw
abbrev allN (M : Ms) (nw h : Nat) : Nat := cn (cofP M h false) nw
def susF (M : Ms) (m : Int32) (nw : Nat) : Nat → Option Nat
  | 0 => none
  | k + 1 => if nI (badN M nw k) < m then susF M m nw k else (match susF M m nw k with
    | none => some k
    | some f => if nI (badN M nw f) * nI (allN M nw k) < nI (badN M nw k) * nI (allN M nw f) then some k else some f)
theorem susF_lt (M : Ms) (m : Int32) (nw : Nat) : ∀ n f, susF M m nw n = some f → f < n
  | 0, b, e => by cases e
  | n + 1, b, e => by
    unfold susF at e
    split at e
    · have := susF_lt M m nw n b e
      omega
    · split at e
      · cases e; omega
      · rename_i f hf
        have := susF_lt M m nw n f hf
        split at e
        · cases e; omega
        · cases e; omega
theorem nI_m1 {b : Nat} (h : b < 2147483648) : ¬ nI b = -1 := fun z => by
  have := congrArg Int32.toInt z
  rw [nI_toInt h] at this
  have e : (-1 : Int32).toInt = -1 := by decide
  omega
def sp_suspect : Sp := fun as w K => ∃ m0 M x nh nw, as = [.ref m0, .int x] ∧ RM m0 M w ∧ (M 24 0 = nI nh ∧ nh ≤ 9) ∧ (M 40 0 = nI nw ∧ nw ≤ 100) ∧ (∀ k, k < nw → wOK M k) ∧ ∀ w', RM m0 (m41 M) w' → (1 ≤ x ∧ x ≤ 100 → K (some (.int (oI (susF M x nw nh)))) w') ∧ (¬ (1 ≤ x ∧ x ≤ 100) → K (some (.int (-1))) w')
theorem c_msuspect (l : Launch) : Ct l 126 3 0 0 sp_suspect := by
  refine ct_jd (by decide) rfl (fun as w Po h => ?_)
  obtain ⟨m0, M, x, nh, nw, rfl, hM0, ⟨hh, hh2⟩, ⟨hv, hv2⟩, hw, h⟩ := h
  have hM := hM0.si 41 rfl 0
  obtain ⟨h1, h2⟩ := h _ hM
  refine ⟨Nat.le_of_ble_eq_true rfl, jd_for cdo_126 (evL_ok (L := [(85, 1, 0, 0, sp_in), (125, 2, 0, 0, sp_countOf)]) (by simpa using ⟨c_in l, c_countOf l⟩)) 40 80 21 (fun d L S w' nc ns => S = [] ∧ nc = 0 ∧ ns = 0 ∧ w' = sI w 10 41 m0 0 ∧ (1 ≤ x ∧ x ≤ 100) ∧ ∃ i, i + d = nh ∧ L = [(3, .int (nI i)), (2, .int (oI (susF M x nw i))), (0, .ref m0), (1, .int x)]) ⟨Nat.le_refl _, Nat.le_refl _⟩ ?_ ?_ ?_⟩
  · rintro d L S w' nc ns ⟨-, rfl, rfl, -⟩
    exact ⟨Nat.le_refl _, Nat.le_refl _⟩
  · rintro d L S w' nc ns ⟨rfl, rfl, rfl, rfl, hxl, i, hi, rfl⟩
    refine ⟨hM.k, _, (hM.ri _ rfl).trans hh, fun c => ?_, fun c => ?_⟩
    · have hin : i = nh := by have := ge_n (by omega) (by omega) c; omega
      subst hin
      exact h1 hxl
    · have hin := nge_n (by omega) c
      have go : ∀ z : Option Nat, susF M x nw (i + 1) = z → ∀ L' : Ls, L' = [(3, .int (nI (i + 1))), (2, .int (oI z)), (0, .ref m0), (1, .int x)] → ∃ j, j < d ∧ (([] : List Value) = [] ∧ 0 = 0 ∧ 0 = 0 ∧ sI w 10 41 m0 0 = sI w 10 41 m0 0 ∧ (1 ≤ x ∧ x ≤ 100) ∧ ∃ i, i + j = nh ∧ L' = [(3, .int (nI i)), (2, .int (oI (susF M x nw i))), (0, .ref m0), (1, .int x)]) := fun z hz L' hL => ⟨d - 1, by omega, rfl, rfl, rfl, rfl, hxl, i + 1, by omega, by rw [hL, hz]⟩
      refine ⟨⟨by decide, by decide, by decide⟩, rfl, hM.k, m0, _, i, nw, true, rfl, hM, ⟨hv, hv2⟩, hw, fun c2 => ?_, fun c2 => ?_⟩
      · have c2 : ¬ nI (badN M nw i) < x := le_nlt c2
        cases hb : susF M x nw i with
        | none =>
          have hs : susF M x nw (i + 1) = some i := by rw [susF, if_neg c2, hb]
          refine ⟨fun _ => ?_, fun z => absurd rfl z⟩
          exact go _ hs _ (by rw [← nI_1]; rfl)
        | some f =>
          have hfl := susF_lt M x nw i f hb
          refine ⟨fun z => absurd z (nI_m1 (by omega)), fun _ => ?_⟩
          refine ⟨⟨by decide, by decide, by decide⟩, rfl, hM.k, m0, _, i, nw, true, rfl, hM, ⟨hv, hv2⟩, hw, ?_⟩
          refine ⟨⟨by decide, by decide, by decide⟩, rfl, hM.k, m0, _, f, nw, false, rfl, hM, ⟨hv, hv2⟩, hw, ?_⟩
          refine ⟨⟨by decide, by decide, by decide⟩, rfl, hM.k, m0, _, f, nw, true, rfl, hM, ⟨hv, hv2⟩, hw, ?_⟩
          refine ⟨⟨by decide, by decide, by decide⟩, rfl, hM.k, m0, _, i, nw, false, rfl, hM, ⟨hv, hv2⟩, hw, fun c3 => ?_, fun c3 => ?_⟩
          · have c3 : ¬ nI (badN M nw f) * nI (allN M nw i) < nI (badN M nw i) * nI (allN M nw f) := le_nlt c3
            have hs : susF M x nw (i + 1) = some f := by rw [susF, if_neg c2, hb]; exact if_neg c3
            exact go _ hs _ (by rw [← nI_1]; rfl)
          · have c3 : nI (badN M nw f) * nI (allN M nw i) < nI (badN M nw i) * nI (allN M nw f) := nle_lt c3
            have hs : susF M x nw (i + 1) = some i := by rw [susF, if_neg c2, hb]; exact if_pos c3
            exact go _ hs _ (by rw [← nI_1]; rfl)
      · have c2 : nI (badN M nw i) < x := nle_lt c2
        exact go _ (by rw [susF, if_pos c2]) _ (by rw [← nI_1]; rfl)
  · refine ⟨hM0.k, ?_⟩
    refine ⟨⟨by decide, by decide, by decide⟩, rfl, Nat.le_of_ble_eq_true rfl, x, 1, 100, rfl, fun c => br1n ?_, fun c => br0n (h2 c)⟩
    exact ⟨rfl, nh, rfl, rfl, rfl, rfl, c, 0, by omega, rfl⟩
def sp_isAhead : Sp := fun as w K => ∃ a b : Int32, as = [.int a, .int b] ∧ ((¬ (a ^^^ b) = 0 ∧ ¬ (a &&& (a ^^^ b) &&& -(a ^^^ b)) = 0) → K (some (.int 1)) w) ∧ (¬ (¬ (a ^^^ b) = 0 ∧ ¬ (a &&& (a ^^^ b) &&& -(a ^^^ b)) = 0) → K (some (.int 0)) w)
theorem c_isAhead (l : Launch) : Ct l 115 1 0 0 sp_isAhead := by
  refine ct_jd (by decide) rfl (fun as w Po h => ?_)
  obtain ⟨a, b, rfl, h1, h2⟩ := h
  refine ⟨Nat.le_of_ble_eq_true rfl, jd_run cdo_115 ev0 40 ⟨Nat.le_refl _, Nat.le_refl _⟩ ?_⟩
  refine ⟨fun c1 => ⟨Or.inl rfl, h2 (fun z => z.1 c1)⟩, fun c1 => ⟨fun c2 => ⟨Or.inl rfl, h2 (fun z => z.2 c2)⟩, fun c2 => ⟨Or.inr rfl, h1 ⟨c1, c2⟩⟩⟩⟩
/-- three lots that watches can be made of -/
def okMk (M : Ms) (nl : Nat) (mn : Nat → Nat) (x y z : Int32) (a b c : Nat) : Prop := (a < nl ∧ x = nI a ∧ M 10 a = 0) ∧ (b < nl ∧ y = nI b ∧ M 10 b = 0) ∧ (c < nl ∧ z = nI c ∧ M 10 c = 0) ∧ (M 7 a = 0 ∧ M 7 b = 1 ∧ M 7 c = 2) ∧ mn a ≤ 10 ∧ mn b ≤ 10 ∧ mn c ≤ 10
def sp_areLots : Sp := fun as w K => ∃ m0 M x y z nl, ∃ mn : Nat → Nat, as = [.ref m0, .int x, .int y, .int z] ∧ RM m0 M w ∧ (M 16 0 = nI nl ∧ nl ≤ 60) ∧ (∀ j, j < nl → M 9 j = nI (mn j) ∧ mn j ≤ 300) ∧ (∀ a b c, okMk M nl mn x y z a b c → K (some (.int 1)) w) ∧ ((¬ ∃ a b c, okMk M nl mn x y z a b c) → K (some (.int 0)) w)
theorem c_areLots (l : Launch) : Ct l 112 4 0 0 sp_areLots := by
  refine ct_jd (by decide) rfl (fun as w Po h => ?_)
  obtain ⟨m0, M, x, y, z, nl, mn, rfl, hM, ⟨hn, hn2⟩, hm, h1, h2⟩ := h
  refine ⟨Nat.le_of_ble_eq_true rfl, jd_run cdo_112 (evL_ok (L := [(90, 3, 0, 0, sp_isHere)]) (by simpa using c_isHere l)) 80 ⟨Nat.le_refl _, Nat.le_refl _⟩ ?_⟩
  refine ⟨⟨by decide, by decide, by decide⟩, rfl, hM.k, m0, _, x, nl, rfl, hM, ⟨hn, hn2⟩, fun a ha hx hwa => br1 ?_, fun c => br0 ⟨Or.inl rfl, h2 (fun ⟨a, _, _, q⟩ => c ⟨a, q.1⟩)⟩⟩
  refine ⟨⟨by decide, by decide, by decide⟩, rfl, hM.k, m0, _, y, nl, rfl, hM, ⟨hn, hn2⟩, fun b hb hy hwb => br1 ?_, fun c => br0 ⟨Or.inl rfl, h2 (fun ⟨_, b, _, q⟩ => c ⟨b, q.2.1⟩)⟩⟩
  refine ⟨⟨by decide, by decide, by decide⟩, rfl, hM.k, m0, _, z, nl, rfl, hM, ⟨hn, hn2⟩, fun c hc hz hwc => br1n ?_, fun c => br0n ⟨Or.inl rfl, h2 (fun ⟨_, _, c', q⟩ => c ⟨c', q.2.2.1⟩)⟩⟩
  have only : ∀ a' b' c', okMk M nl mn x y z a' b' c' → a' = a ∧ b' = b ∧ c' = c := fun a' b' c' q => ⟨two_eq (by have := q.1.1; omega) (by omega) q.1.2.1 hx, two_eq (by have := q.2.1.1; omega) (by omega) q.2.1.2.1 hy, two_eq (by have := q.2.2.1.1; omega) (by omega) q.2.2.1.2.1 hz⟩
  have no : ¬ okMk M nl mn x y z a b c → ¬ ∃ a b c, okMk M nl mn x y z a b c := fun q ⟨a', b', c', q'⟩ => by
    obtain ⟨rfl, rfl, rfl⟩ := only a' b' c' q'
    exact q q'
  obtain ⟨hma, hma2⟩ := hm a ha
  obtain ⟨hmb, hmb2⟩ := hm b hb
  obtain ⟨hmc, hmc2⟩ := hm c hc
  refine ⟨hM.k, _, hM.rf _ rfl, hM.kd _ rfl, a, _, hM.ix _ rfl hx (show a < 60 by omega), hM.rd _ rfl a, fun c1 => ⟨Or.inl rfl, h2 (no (fun q => c1 q.2.2.2.1.1))⟩, fun c1 => ?_⟩
  refine ⟨hM.k, _, hM.rf _ rfl, hM.kd _ rfl, b, _, hM.ix _ rfl hy (show b < 60 by omega), hM.rd _ rfl b, fun c2 => ⟨Or.inl rfl, h2 (no (fun q => c2 q.2.2.2.1.2.1))⟩, fun c2 => ?_⟩
  refine ⟨hM.k, _, hM.rf _ rfl, hM.kd _ rfl, c, _, hM.ix _ rfl hz (show c < 60 by omega), hM.rd _ rfl c, fun c3 => ⟨Or.inl rfl, h2 (no (fun q => c3 q.2.2.2.1.2.2))⟩, fun c3 => ?_⟩
  refine ⟨hM.k, _, hM.rf _ rfl, hM.kd _ rfl, a, _, hM.ix _ rfl hx (show a < 60 by omega), (hM.rd _ rfl a).trans hma, fun c4 => ⟨Or.inl rfl, h2 (no (fun q => lt_nle c4 (nI_le q.2.2.2.2.1 (by decide))))⟩, fun c4 => ?_⟩
  refine ⟨hM.k, _, hM.rf _ rfl, hM.kd _ rfl, b, _, hM.ix _ rfl hy (show b < 60 by omega), (hM.rd _ rfl b).trans hmb, fun c5 => ⟨Or.inl rfl, h2 (no (fun q => lt_nle c5 (nI_le q.2.2.2.2.2.1 (by decide))))⟩, fun c5 => ?_⟩
  refine ⟨hM.k, _, hM.rf _ rfl, hM.kd _ rfl, c, _, hM.ix _ rfl hz (show c < 60 by omega), (hM.rd _ rfl c).trans hmc, fun c6 => ⟨Or.inl rfl, h2 (no (fun q => lt_nle c6 (nI_le q.2.2.2.2.2.2 (by decide))))⟩, fun c6 => ?_⟩
  exact ⟨Or.inr rfl, h1 a b c ⟨⟨ha, hx, hwa⟩, ⟨hb, hy, hwb⟩, ⟨hc, hz, hwc⟩, ⟨c1, c2, c3⟩, ge_n (a := 10) (by decide) (by omega) (nlt_le c4), ge_n (a := 10) (by decide) (by omega) (nlt_le c5), ge_n (a := 10) (by decide) (by omega) (nlt_le c6)⟩⟩
end
section
/-! the reference: a day -/
section JS
variable {l : Launch} {k lv mc ms : Nat} {rt : Option FieldType} {ev : Ev} {Po : Option Value → Hp → Prop} {full : List CI}
/-- from place to place: at a stop the place there must be safe -/
theorem jd_s (hcd : cdM k full) (hev : ∀ k r, ev k = some r → Ct l k r.1 r.2.1 r.2.2.1 r.2.2.2) (stops : List Nat) (n : Nat) {pc : Nat} {L : Ls} {S : List Value} {w : Hp} {nc ns : Nat} (hb : nc ≤ mc ∧ ns ≤ ms) (h : wp lv mc ms ev rt Po full stops (fun pc L S w nc ns => Jd l k lv mc ms rt Po pc L S w nc ns) n (seek full pc) L S w nc ns) : Jd l k lv mc ms rt Po pc L S w nc ns :=
  jd_wp hcd hev (fun _ _ _ _ _ _ _ h => h) n hb h
end JS
theorem z00 : (0 : Nat) ≤ 0 ∧ (0 : Nat) ≤ 0 := ⟨Nat.le_refl _, Nat.le_refl _⟩
def mGo (M : Ms) (sn : Int32) (l : Nat) : Ms :=
  if M 10 l = 1 ∨ M 10 l = 3 then
    (fun M1 : Ms => if 0 < M1 12 l then M1 else if M 10 l = 3 then u2 M1 10 l 0 else u2 (u2 (u2 (u2 (u2 M1 10 l 2) 13 l 0) 14 l 0) 15 l (M 17 0)) 17 0 (M 17 0 + 1)) (if sn = 0 ∧ 0 < M 12 l then u2 M 12 l (M 12 l - 1) else M)
  else M
def mGoes (M : Ms) (sn : Int32) : Nat → Ms
  | 0 => M
  | n + 1 => mGo (mGoes M sn n) sn n
theorem mGo_ot (M : Ms) (sn : Int32) (l f i : Nat) (hf : f ≠ 10 ∧ f ≠ 12 ∧ f ≠ 13 ∧ f ≠ 14 ∧ f ≠ 15 ∧ f ≠ 17) : mGo M sn l f i = M f i := by
  obtain ⟨h10, h12, h13, h14, h15, h17⟩ := hf
  have e1 : (if sn = 0 ∧ 0 < M 12 l then u2 M 12 l (M 12 l - 1) else M) f i = M f i := by
    by_cases h : sn = 0 ∧ 0 < M 12 l
    · rw [if_pos h]; exact u2_ne h12
    · rw [if_neg h]
  unfold mGo
  by_cases h1 : M 10 l = 1 ∨ M 10 l = 3
  · rw [if_pos h1]
    dsimp only
    generalize (if sn = 0 ∧ 0 < M 12 l then u2 M 12 l (M 12 l - 1) else M) = M1 at e1 ⊢
    by_cases h2 : 0 < M1 12 l
    · rw [if_pos h2]; exact e1
    · rw [if_neg h2]
      by_cases h3 : M 10 l = 3
      · rw [if_pos h3, u2_ne h10]; exact e1
      · rw [if_neg h3, u2_ne h17, u2_ne h15, u2_ne h14, u2_ne h13, u2_ne h10]; exact e1
  · rw [if_neg h1]
theorem mGoes_ot (M : Ms) (sn : Int32) (f i : Nat) (hf : f ≠ 10 ∧ f ≠ 12 ∧ f ≠ 13 ∧ f ≠ 14 ∧ f ≠ 15 ∧ f ≠ 17) : ∀ n, mGoes M sn n f i = M f i
  | 0 => rfl
  | n + 1 => by rw [mGoes, mGo_ot _ _ _ _ _ hf, mGoes_ot M sn f i hf n]
def sp_goes : Sp := fun as w K => ∃ m0 M sn n, as = [.ref m0, .int sn] ∧ RM m0 M w ∧ (M 16 0 = nI n ∧ n ≤ 60) ∧ ∀ w', RM m0 (mGoes M sn n) w' → K none w'
theorem c_goes (l : Launch) : Ct l 96 1 0 0 sp_goes := by
  refine ct_jd (by decide) rfl (fun as w Po h => ?_)
  obtain ⟨m0, M, sn, n, rfl, hM, ⟨hn, hn2⟩, h⟩ := h
  refine ⟨Nat.le_of_ble_eq_true rfl, ?_⟩
  have key : ∀ d i w', i + d = n → RM m0 (mGoes M sn i) w' → Jd l 96 1 0 0 none Po 2 [(2, .int (nI i)), (0, .ref m0), (1, .int sn)] [] w' 0 0 := by
    intro d
    induction d with
    | zero =>
      intro i w' hi hM
      have hn' : mGoes M sn i 16 0 = nI n := (mGoes_ot M sn 16 0 (by decide) i).trans hn
      obtain rfl : i = n := by omega
      refine jd_s cdo_96 ev0 [] 20 z00 ?_
      exact ⟨hM.k, _, (hM.ri _ rfl).trans hn', fun c => h _ hM, fun c => absurd (nI_le (Nat.le_refl i) (by omega)) c⟩
    | succ d ih =>
      intro i w' hi hM
      have hn' : mGoes M sn i 16 0 = nI n := (mGoes_ot M sn 16 0 (by decide) i).trans hn
      have hi60 : i < 60 := by omega
      have fin : ∀ (w2 : Hp) (M2 : Ms), RM m0 M2 w2 → mGo (mGoes M sn i) sn i = M2 → Jd l 96 1 0 0 none Po 129 [(2, .int (nI i)), (0, .ref m0), (1, .int sn)] [] w2 0 0 := by
        intro w2 M2 h2 e2
        refine jd_s cdo_96 ev0 [2] 20 z00 ?_
        have := ih (i + 1) w2 (by omega) (by rw [mGoes, e2]; exact h2)
        rw [← nI_1] at this
        exact this
      generalize mGoes M sn i = N at hM fin hn'
      have behind : ∀ (w2 : Hp) (M1 : Ms), RM m0 M1 w2 → (N 10 i = 1 ∨ N 10 i = 3) → M1 = (if sn = 0 ∧ 0 < N 12 i then u2 N 12 i (N 12 i - 1) else N) → Jd l 96 1 0 0 none Po 56 [(2, .int (nI i)), (0, .ref m0), (1, .int sn)] [] w2 0 0 := by
        intro w2 M1 hM hw e1
        have e10 : M1 10 i = N 10 i := by rw [e1]; split <;> rfl
        have e17 : M1 17 0 = N 17 0 := by rw [e1]; split <;> rfl
        have hgo : mGo N sn i = (if 0 < M1 12 i then M1 else if N 10 i = 3 then u2 M1 10 i 0 else u2 (u2 (u2 (u2 (u2 M1 10 i 2) 13 i 0) 14 i 0) 15 i (N 17 0)) 17 0 (N 17 0 + 1)) := by
          unfold mGo
          rw [if_pos hw]
          dsimp only
          rw [← e1]
        refine jd_s cdo_96 ev0 [129] 60 z00 ?_
        refine ⟨hM.k, _, hM.rf _ rfl, hM.kd _ rfl, i, _, hM.ix _ rfl rfl hi60, hM.rd _ rfl i, fun c2 => ?_, fun c2 => ?_⟩
        · have c2 : ¬ 0 < M1 12 i := le_nlt c2
          rw [if_neg c2] at hgo
          refine ⟨hM.k, _, hM.rf _ rfl, hM.kd _ rfl, i, _, hM.ix _ rfl rfl hi60, (hM.rd _ rfl i).trans e10, fun c3 => ?_, fun c3 => ?_⟩
          · rw [if_neg c3] at hgo
            refine ⟨hM.k, _, hM.rf _ rfl, hM.kd _ rfl, i, hM.ix _ rfl rfl hi60, ?_⟩
            have hM := hM.sa 10 rfl i 2
            refine ⟨hM.k, _, hM.rf _ rfl, hM.kd _ rfl, i, hM.ix _ rfl rfl hi60, ?_⟩
            have hM := hM.sa 13 rfl i 0
            refine ⟨hM.k, _, hM.rf _ rfl, hM.kd _ rfl, i, hM.ix _ rfl rfl hi60, ?_⟩
            have hM := hM.sa 14 rfl i 0
            refine ⟨hM.k, _, hM.rf _ rfl, hM.k, _, (hM.ri _ rfl).trans e17, hM.kd _ rfl, i, hM.ix _ rfl rfl hi60, ?_⟩
            have hM := hM.sa 15 rfl i (N 17 0)
            refine ⟨hM.k, _, (hM.ri _ rfl).trans e17, hM.k, ?_⟩
            have hM := hM.si 17 rfl (N 17 0 + 1)
            exact fin _ _ hM hgo
          · rw [if_pos c3] at hgo
            refine ⟨hM.k, _, hM.rf _ rfl, hM.kd _ rfl, i, hM.ix _ rfl rfl hi60, ?_⟩
            have hM := hM.sa 10 rfl i 0
            exact fin _ _ hM hgo
        · have c2 : 0 < M1 12 i := nle_lt c2
          rw [if_pos c2] at hgo
          exact fin _ _ hM hgo
      have atGo : (N 10 i = 1 ∨ N 10 i = 3) → Jd l 96 1 0 0 none Po 33 [(2, .int (nI i)), (0, .ref m0), (1, .int sn)] [] w' 0 0 := by
        intro hw
        refine jd_s cdo_96 ev0 [56] 40 z00 ?_
        refine ⟨fun c => behind _ _ hM hw (by rw [if_neg (fun z => c z.1)]), fun c => ?_⟩
        refine ⟨hM.k, _, hM.rf _ rfl, hM.kd _ rfl, i, _, hM.ix _ rfl rfl hi60, hM.rd _ rfl i, fun c2 => behind _ _ hM hw (by rw [if_neg (fun z => le_nlt c2 z.2)]), fun c2 => ?_⟩
        refine ⟨hM.k, _, hM.rf _ rfl, hM.kd _ rfl, i, _, hM.ix _ rfl rfl hi60, hM.rd _ rfl i, hM.kd _ rfl, i, hM.ix _ rfl rfl hi60, ?_⟩
        exact behind _ _ (hM.sa 12 rfl i (N 12 i - 1)) hw (by rw [if_pos ⟨c, nle_lt c2⟩])
      refine jd_s cdo_96 ev0 [33, 129] 40 z00 ?_
      refine ⟨hM.k, _, (hM.ri _ rfl).trans hn', fun c => ?_, fun c => ?_⟩
      · have := ge_n (by omega) (by omega) c
        omega
      · refine ⟨hM.k, _, hM.rf _ rfl, hM.kd _ rfl, i, _, hM.ix _ rfl rfl hi60, hM.rd _ rfl i, fun c2 => atGo (Or.inl c2), fun c2 => ?_⟩
        refine ⟨hM.k, _, hM.rf _ rfl, hM.kd _ rfl, i, _, hM.ix _ rfl rfl hi60, hM.rd _ rfl i, fun c3 => atGo (Or.inr c3), fun c3 => ?_⟩
        exact fin _ _ hM (by unfold mGo; rw [if_neg (fun z => z.elim c2 c3)])
  refine jd_s cdo_96 ev0 [2] 20 z00 ?_
  exact key n 0 w (by omega) hM
/-- of the lots that wait at home h the one that came first -/
def fiF (M : Ms) (h : Nat) : Nat → Option Nat
  | 0 => none
  | k + 1 => if M 10 k = 2 ∧ M 11 k = nI h then (match fiF M h k with
    | none => some k
    | some f => if M 15 k < M 15 f then some k else some f) else fiF M h k
theorem fiF_lt (M : Ms) (h : Nat) : ∀ n f, fiF M h n = some f → f < n ∧ M 10 f = 2 ∧ M 11 f = nI h
  | 0, b, e => by cases e
  | n + 1, b, e => by
    unfold fiF at e
    split at e
    · rename_i hc
      split at e
      · cases e; exact ⟨by omega, hc⟩
      · rename_i f hf
        have := fiF_lt M h n f hf
        split at e
        · cases e; exact ⟨by omega, hc⟩
        · cases e; exact ⟨by omega, this.2⟩
    · have := fiF_lt M h n b e
      exact ⟨by omega, this.2⟩
def sp_first : Sp := fun as w K => ∃ m0 M h n, as = [.ref m0, .int (nI h)] ∧ RM m0 M w ∧ (M 16 0 = nI n ∧ n ≤ 60) ∧ K (some (.int (oI (fiF M h n)))) w
theorem c_first (l : Launch) : Ct l 97 1 0 0 sp_first := by
  refine ct_jd (by decide) rfl (fun as w Po h => ?_)
  obtain ⟨m0, M, hm, n, rfl, hM, ⟨hn, hn2⟩, h⟩ := h
  refine ⟨Nat.le_of_ble_eq_true rfl, ?_⟩
  have key : ∀ d i, i + d = n → Jd l 97 1 0 0 (some .int) Po 4 [(3, .int (nI i)), (2, .int (oI (fiF M hm i))), (0, .ref m0), (1, .int (nI hm))] [] w 0 0 := by
    intro d
    induction d with
    | zero =>
      intro i hi
      obtain rfl : i = n := by omega
      refine jd_s cdo_97 ev0 [] 20 z00 ?_
      exact ⟨hM.k, _, (hM.ri _ rfl).trans hn, fun c => h, fun c => absurd (nI_le (Nat.le_refl i) (by omega)) c⟩
    | succ d ih =>
      intro i hi
      have hi60 : i < 60 := by omega
      have fin : ∀ z L', fiF M hm (i + 1) = z → L' = [(3, .int (nI i + 1)), (2, .int (oI z)), (0, .ref m0), (1, .int (nI hm))] → Jd l 97 1 0 0 (some .int) Po 4 L' [] w 0 0 := by
        intro z L' hz hL
        have := ih (i + 1) (by omega)
        rw [hz, ← nI_1] at this
        rw [hL]
        exact this
      refine jd_s cdo_97 ev0 [4] 60 z00 ?_
      refine ⟨hM.k, _, (hM.ri _ rfl).trans hn, fun c => ?_, fun c => ?_⟩
      · have := ge_n (by omega) (by omega) c
        omega
      · refine ⟨hM.k, _, hM.rf _ rfl, hM.kd _ rfl, i, _, hM.ix _ rfl rfl hi60, hM.rd _ rfl i, fun c2 => fin _ _ (by rw [fiF, if_neg (fun z => c2 z.1)]) rfl, fun c2 => ?_⟩
        refine ⟨hM.k, _, hM.rf _ rfl, hM.kd _ rfl, i, _, hM.ix _ rfl rfl hi60, hM.rd _ rfl i, fun c3 => fin _ _ (by rw [fiF, if_neg (fun z => c3 z.2)]) rfl, fun c3 => ?_⟩
        cases hb : fiF M hm i with
        | none =>
          refine ⟨fun _ => fin (some i) _ (by rw [fiF, if_pos ⟨c2, c3⟩, hb]) rfl, fun z => absurd rfl z⟩
        | some f =>
          have hfl := (fiF_lt M hm i f hb).1
          refine ⟨fun z => absurd z (nI_m1 (by omega)), fun _ => ?_⟩
          refine ⟨hM.k, _, hM.rf _ rfl, hM.kd _ rfl, i, _, hM.ix _ rfl rfl hi60, hM.rd _ rfl i, ?_⟩
          refine ⟨hM.k, _, hM.rf _ rfl, hM.kd _ rfl, f, _, hM.ix _ rfl rfl (show f < 60 by omega), hM.rd _ rfl f, fun c4 => fin (some f) _ (by rw [fiF, if_pos ⟨c2, c3⟩, hb]; exact if_neg (le_nlt c4)) rfl, fun c4 => fin (some i) _ (by rw [fiF, if_pos ⟨c2, c3⟩, hb]; exact if_pos (nle_lt c4)) rfl⟩
  refine jd_s cdo_97 ev0 [4] 20 z00 ?_
  exact key n 0 (by omega)
end
section
/-! the reference: work -/
def remI (x y : Int32) : Int32 := x - x / y * y
def mWork4 (M : Ms) (h l p : Nat) : Ms := u2 (u2 (u2 (u2 M 1 p (M 1 p + M 19 h)) 3 p (M 3 p ||| (1 <<< (nI h &&& 31)))) 22 h (M 22 h + 1)) 13 l (M 13 l + 1)
def mBrk (M : Ms) (h l p : Nat) : Ms := u2 (u2 (u2 (u2 (mWork4 M h l p) 4 p 1) 5 p (nI h)) 23 h (M 23 h + 1)) 26 0 (M 26 0 + 1)
def mWorkX (M : Ms) (h l x p n : Nat) : Ms := if M 20 h = 0 ∨ ¬ remI (M 22 h + 1) (M 20 h) = 0 then u2 (mWork4 M h l p) 14 l (nI (x + 1)) else mTake (mBrk M h l p) l x n
def sp_work : Sp := fun as w K => ∃ m0 M h l x p n, as = [.ref m0, .int (nI h), .int (nI l)] ∧ RM m0 M w ∧ (h < 9 ∧ l < 60 ∧ M 14 l = nI x ∧ x ≤ n ∧ n < 300 ∧ M 9 l = nI (n + 1) ∧ p < 300 ∧ M 8 (300 * l + x) = nI p) ∧ ∀ w', RM m0 (mWorkX M h l x p n) w' → K none w'
theorem c_work (l : Launch) : Ct l 98 2 0 0 sp_work := by
  refine ct_jd (by decide) rfl (fun as w Po hq => ?_)
  obtain ⟨m0, M, h, l, x, p, n, rfl, hM, ⟨hh, hl, hx, hxn, hn, h9, hp, h8⟩, hk⟩ := hq
  refine ⟨Nat.le_of_ble_eq_true rfl, ?_⟩
  have step1 : ∀ w2, RM m0 (mWork4 M h l p) w2 → (M 20 h = 0 ∨ ¬ remI (M 22 h + 1) (M 20 h) = 0) → Jd ‹Launch› 98 2 0 0 none Po 90 [(3, .int (nI p)), (0, .ref m0), (1, .int (nI h)), (2, .int (nI l))] [] w2 0 0 := by
    intro w2 hM hc
    refine jd_s cdo_98 (evL_ok (L := [(92, 1, 0, 0, sp_take)]) (by simpa using c_take _)) [] 30 z00 ?_
    refine ⟨hM.k, _, hM.rf _ rfl, hM.kd _ rfl, l, _, hM.ix _ rfl rfl hl, (hM.rd _ rfl l).trans hx, hM.kd _ rfl, l, hM.ix _ rfl rfl hl, ?_⟩
    have hM := hM.sa 14 rfl l (nI x + 1)
    refine hk _ ?_
    unfold mWorkX
    rw [if_pos hc, ← nI_1]
    exact hM
  refine jd_s cdo_98 (evL_ok (L := [(92, 1, 0, 0, sp_take)]) (by simpa using c_take _)) [90] 120 z00 ?_
  refine ⟨hM.k, _, hM.rf _ rfl, hM.k, _, hM.rf _ rfl, hM.kd _ rfl, l, _, hM.ix _ rfl rfl hl, (hM.rd _ rfl l).trans hx, ?_⟩
  refine ⟨hM.kd _ rfl, 300 * l + x, _, hM.ix _ rfl (by rw [n300, nI_add]) (show 300 * l + x < 18000 by omega), (hM.rd _ rfl _).trans h8, ?_⟩
  refine ⟨hM.k, _, hM.rf _ rfl, hM.kd _ rfl, p, _, hM.ix _ rfl rfl hp, hM.rd _ rfl p, hM.k, _, hM.rf _ rfl, hM.kd _ rfl, h, _, hM.ix _ rfl rfl hh, hM.rd _ rfl h, hM.kd _ rfl, p, hM.ix _ rfl rfl hp, ?_⟩
  have hM := hM.sa 1 rfl p (M 1 p + M 19 h)
  refine ⟨hM.k, _, hM.rf _ rfl, hM.kd _ rfl, p, _, hM.ix _ rfl rfl hp, (hM.rd _ rfl p).trans (show _ = M 3 p from rfl), hM.kd _ rfl, p, hM.ix _ rfl rfl hp, ?_⟩
  have hM := hM.sa 3 rfl p (M 3 p ||| (1 <<< (nI h &&& 31)))
  refine ⟨hM.k, _, hM.rf _ rfl, hM.kd _ rfl, h, _, hM.ix _ rfl rfl hh, (hM.rd _ rfl h).trans (show _ = M 22 h from rfl), hM.kd _ rfl, h, hM.ix _ rfl rfl hh, ?_⟩
  have hM := hM.sa 22 rfl h (M 22 h + 1)
  refine ⟨hM.k, _, hM.rf _ rfl, hM.kd _ rfl, l, _, hM.ix _ rfl rfl hl, (hM.rd _ rfl l).trans (show _ = M 13 l from rfl), hM.kd _ rfl, l, hM.ix _ rfl rfl hl, ?_⟩
  have hM := hM.sa 13 rfl l (M 13 l + 1)
  have hM : RM m0 (mWork4 M h l p) _ := hM
  have e22 : mWork4 M h l p 22 h = M 22 h + 1 := by simp [mWork4, u2]
  refine ⟨hM.k, _, hM.rf _ rfl, hM.kd _ rfl, h, _, hM.ix _ rfl rfl hh, (hM.rd _ rfl h).trans (show _ = M 20 h from rfl), fun c => step1 _ hM (Or.inl c), fun c => ?_⟩
  refine ⟨hM.k, _, hM.rf _ rfl, hM.kd _ rfl, h, _, hM.ix _ rfl rfl hh, (hM.rd _ rfl h).trans e22, ?_⟩
  refine ⟨hM.k, _, hM.rf _ rfl, hM.kd _ rfl, h, _, hM.ix _ rfl rfl hh, (hM.rd _ rfl h).trans (show _ = M 20 h from rfl), c, fun c2 => ?_, fun c2 => step1 _ hM (Or.inr c2)⟩
  refine ⟨hM.k, _, hM.rf _ rfl, hM.kd _ rfl, p, hM.ix _ rfl rfl hp, ?_⟩
  have hM := hM.sa 4 rfl p 1
  refine ⟨hM.k, _, hM.rf _ rfl, hM.kd _ rfl, p, hM.ix _ rfl rfl hp, ?_⟩
  have hM := hM.sa 5 rfl p (nI h)
  refine ⟨hM.k, _, hM.rf _ rfl, hM.kd _ rfl, h, _, hM.ix _ rfl rfl hh, (hM.rd _ rfl h).trans (show _ = M 23 h from rfl), hM.kd _ rfl, h, hM.ix _ rfl rfl hh, ?_⟩
  have hM := hM.sa 23 rfl h (M 23 h + 1)
  refine ⟨hM.k, _, (hM.ri _ rfl).trans (show _ = M 26 0 from rfl), hM.k, ?_⟩
  have hM := hM.si 26 rfl (M 26 0 + 1)
  have hM : RM m0 (mBrk M h l p) _ := hM
  refine ⟨hM.k, _, hM.rf _ rfl, hM.kd _ rfl, l, _, hM.ix _ rfl rfl hl, (hM.rd _ rfl l).trans hx, ?_⟩
  refine ⟨⟨by decide, by decide, by decide⟩, rfl, hM.k, m0, _, l, x, n, rfl, hM, ⟨h9, hxn, hn, hl⟩, fun w' hw' => ?_⟩
  refine hk _ ?_
  unfold mWorkX
  rw [if_neg (fun z => z.elim c (fun q => q c2))]
  exact hw'
/-- by what stands in the store -/
def mWork (M : Ms) (h l : Nat) : Ms := mWorkX M h l (pN (M 14 l)) (pN (M 8 (300 * l + pN (M 14 l)))) (pN (M 9 l) - 1)
/-- the row of a lot, and how far it is worked -/
def LW (M : Ms) (l x n : Nat) : Prop := M 14 l = nI x ∧ M 9 l = nI n ∧ x ≤ n ∧ n ≤ 300 ∧ ∀ i, i < n → ∃ p, p < 300 ∧ M 8 (300 * l + i) = nI p
theorem mWork_eq {M : Ms} {h l x n p : Nat} (h14 : M 14 l = nI x) (h9 : M 9 l = nI (n + 1)) (h8 : M 8 (300 * l + x) = nI p) (hx : x < 1000) (hn : n < 1000) (hp : p < 1000) : mWork M h l = mWorkX M h l x p n := by
  unfold mWork
  rw [h14, h9, pN_n (by omega), pN_n (by omega), h8, pN_n (by omega)]
  rfl
/-- rows that work leaves as they are -/
theorem mWorkX_ot (M : Ms) (h l x p n f i : Nat) (hf : f ≠ 1 ∧ f ≠ 3 ∧ f ≠ 22 ∧ f ≠ 13 ∧ f ≠ 14 ∧ f ≠ 4 ∧ f ≠ 5 ∧ f ≠ 23 ∧ f ≠ 26 ∧ f ≠ 8 ∧ f ≠ 9) : mWorkX M h l x p n f i = M f i := by
  obtain ⟨a1, a3, a22, a13, a14, a4, a5, a23, a26, a8, a9⟩ := hf
  have e4 : mWork4 M h l p f i = M f i := by unfold mWork4; rw [u2_ne a13, u2_ne a22, u2_ne a3, u2_ne a1]
  unfold mWorkX
  split
  · rw [u2_ne a14, e4]
  · unfold mTake mTakeK mBrk
    rw [if_neg (fun z => a9 z.1), if_neg (fun z => a8 z.1), u2_ne a26, u2_ne a23, u2_ne a5, u2_ne a4, e4]
theorem mWorkX_fi (M : Ms) (h l x p n g : Nat) : ∀ k, fiF (mWorkX M h l x p n) g k = fiF M g k
  | 0 => rfl
  | k + 1 => by
    rw [fiF, fiF, mWorkX_fi M h l x p n g k, mWorkX_ot _ _ _ _ _ _ 10 k (by decide), mWorkX_ot _ _ _ _ _ _ 11 k (by decide), mWorkX_ot _ _ _ _ _ _ 15 k (by decide)]
    cases fiF M g k with
    | none => rfl
    | some f => simp only [mWorkX_ot _ _ _ _ _ _ 15 f (by decide)]
theorem mWorkX_LWo {M : Ms} {h l x p n k x' n' : Nat} (hk : k ≠ l) (hn : n ≤ 300) (hL : LW M k x' n') : LW (mWorkX M h l x p n) k x' n' := by
  obtain ⟨h14, h9, hx, hn', h8⟩ := hL
  have e14 : mWorkX M h l x p n 14 k = M 14 k := by
    unfold mWorkX
    split
    · simp [u2, mWork4, hk]
    · simp [mTake, mTakeK, mBrk, mWork4, u2, hk]
  have e9 : mWorkX M h l x p n 9 k = M 9 k := by
    unfold mWorkX
    split
    · simp [u2, mWork4]
    · simp [mTake, mTakeK, mBrk, mWork4, u2, hk]
  have e8 : ∀ i, i < n' → mWorkX M h l x p n 8 (300 * k + i) = M 8 (300 * k + i) := by
    intro i hi
    unfold mWorkX
    split
    · simp [u2, mWork4]
    · unfold mTake mTakeK
      rw [if_neg (by omega), if_neg (by omega)]
      simp [mBrk, mWork4, u2]
  exact ⟨e14.trans h14, e9.trans h9, hx, hn', fun i hi => by rw [e8 i hi]; exact h8 i hi⟩
theorem mWorkX_LWs {M : Ms} {h l x p n : Nat} (hxn : x ≤ n) (hL : LW M l x (n + 1)) : ∃ x' n', LW (mWorkX M h l x p n) l x' n' := by
  obtain ⟨h14, h9, hx, hn', h8⟩ := hL
  unfold mWorkX
  split
  · refine ⟨x + 1, n + 1, by simp [u2], ?_, by omega, hn', fun i hi => ?_⟩
    · show u2 (mWork4 M h l p) 14 l (nI (x + 1)) 9 l = _
      rw [← h9]; rfl
    · obtain ⟨q, hq, e⟩ := h8 i hi
      exact ⟨q, hq, e⟩
  · refine ⟨x, n, ?_, ?_, hxn, by omega, fun i hi => ?_⟩
    · rw [← h14]; rfl
    · simp [mTake, mTakeK]
    · unfold mTake mTakeK
      rw [if_neg (by omega)]
      by_cases hq : x ≤ i
      · rw [if_pos (by omega)]
        obtain ⟨q, hq2, e⟩ := h8 (i + 1) (by omega)
        exact ⟨q, hq2, e⟩
      · rw [if_neg (by omega)]
        obtain ⟨q, hq2, e⟩ := h8 i (by omega)
        exact ⟨q, hq2, e⟩
end
section
/-! the reference: day -/
section PK
variable {l : Launch} {k lv mc ms : Nat} {rt : Option FieldType} {Po : Option Value → Hp → Prop} {pc : Nat} {L : Ls} {S : List Value} {w : Hp} {nc ns : Nat}
/-- fewer locals, in another order -/
theorem jd_pk (ks : List Nat) (h : Jd l k lv mc ms rt Po pc (lv_pick L ks) S w nc ns) : Jd l k lv mc ms rt Po pc L S w nc ns :=
  fun p e s m args below meth c G A R C hA hR hRc hRs hini H locs ls hh hS hl => h p e s m args below meth c G A R C hA hR hRc hRs hini H locs ls hh hS (lv_sub hl ks rfl)
end PK
theorem cn_flip {p q : Nat → Bool} {i : Nat} (hp : p i = true) (hq : q i = false) (ho : ∀ j, j ≠ i → q j = p j) : ∀ {n : Nat}, i < n → cn q n + 1 = cn p n
  | 0, h => absurd h (Nat.not_lt_zero _)
  | n + 1, h => by
    rw [cn, cn]
    by_cases hi : i = n
    · subst hi
      rw [hp, hq, cn_cong (p := q) (q := p) (fun j hj => ho j (by omega))]
      simp
    · have := cn_flip hp hq ho (n := n) (by omega)
      rw [ho n (fun z => hi z.symm)]
      omega
/-- a home's day: how far, and how many were worked -/
def dH (h nl : Nat) : Nat → Ms → Nat → Ms × Nat
  | 0, M, _ => (M, 0)
  | f + 1, M, lf => match fiF M h nl with
    | none => (M, 0)
    | some l => if M 9 l ≤ M 14 l then dH h nl f (u2 (u2 M 10 l 3) 12 l (M 21 h)) lf else if 0 < lf then ((dH h nl f (mWork M h l) (lf - 1)).1, (dH h nl f (mWork M h l) (lf - 1)).2 + 1) else (M, 0)
/-- all homes, with fuel fu -/
def dD (fu nl : Nat) (M : Ms) : Nat → Ms × Nat
  | 0 => (M, 0)
  | h + 1 => ((dH h nl fu (dD fu nl M h).1 (pN (M 18 h))).1, (dD fu nl M h).2 + (dH h nl fu (dD fu nl M h).1 (pN (M 18 h))).2)
def DW (M : Ms) (nl : Nat) : Prop := ∀ l, l < nl → M 10 l = 2 → ∃ x n, LW M l x n
theorem mWorkX_DW {M : Ms} {h l x p n nl : Nat} (hl : l < nl) (h2 : M 10 l = 2) (hxn : x ≤ n) (hL : LW M l x (n + 1)) (hD : DW M nl) : DW (mWorkX M h l x p n) nl := by
  intro k hk h10
  rw [mWorkX_ot _ _ _ _ _ _ 10 k (by decide)] at h10
  by_cases hkl : k = l
  · subst hkl
    exact mWorkX_LWs hxn hL
  · obtain ⟨x', n', h'⟩ := hD k hk h10
    exact ⟨x', n', mWorkX_LWo hkl (by have := hL.2.2.2.1; omega) h'⟩
def mOutH (M : Ms) (l h : Nat) : Ms := u2 (u2 M 10 l 3) 12 l (M 21 h)
theorem mOutH_DW {M : Ms} {l h nl : Nat} (hD : DW M nl) : DW (mOutH M l h) nl := by
  intro k hk h10
  by_cases hkl : k = l
  · subst hkl
    have : mOutH M k h 10 k = 3 := by simp [mOutH, u2]
    rw [this] at h10
    exact absurd h10 (by decide)
  · have e : mOutH M l h 10 k = M 10 k := by simp [mOutH, u2, hkl]
    rw [e] at h10
    obtain ⟨x, n, a, b, c, d, f⟩ := hD k hk h10
    exact ⟨x, n, a, b, c, d, f⟩
/-- what a home's day leaves as it is -/
theorem dH_ot (h nl : Nat) (f i : Nat) (hf : f ≠ 1 ∧ f ≠ 3 ∧ f ≠ 22 ∧ f ≠ 13 ∧ f ≠ 14 ∧ f ≠ 4 ∧ f ≠ 5 ∧ f ≠ 23 ∧ f ≠ 26 ∧ f ≠ 8 ∧ f ≠ 9) (hf2 : f ≠ 10 ∧ f ≠ 12) : ∀ (n : Nat) (M : Ms) (lf : Nat), (dH h nl n M lf).1 f i = M f i
  | 0, M, lf => rfl
  | n + 1, M, lf => by
    rw [dH]
    cases fiF M h nl with
    | none => rfl
    | some l =>
      dsimp only
      split
      · rw [dH_ot h nl f i hf hf2 n, u2_ne hf2.2, u2_ne hf2.1]
      · split
        · rw [dH_ot h nl f i hf hf2 n]
          exact mWorkX_ot _ _ _ _ _ _ _ _ hf
        · rfl
theorem dH_DW (h nl : Nat) : ∀ (n : Nat) (M : Ms) (lf : Nat), DW M nl → DW (dH h nl n M lf).1 nl
  | 0, M, lf, hD => hD
  | n + 1, M, lf, hD => by
    rw [dH]
    cases hb : fiF M h nl with
    | none => exact hD
    | some l =>
      dsimp only
      obtain ⟨hl, h10, -⟩ := fiF_lt M h nl l hb
      split
      · exact dH_DW h nl n _ _ (mOutH_DW hD)
      · rename_i hc
        split
        · obtain ⟨x, n', h14, h9, hx, hn, h8⟩ := hD l hl h10
          rw [h14, h9] at hc
          have hxn : x < n' := nge_n (by omega) hc
          obtain ⟨m', rfl⟩ : ∃ m', n' = m' + 1 := ⟨n' - 1, by omega⟩
          obtain ⟨p, hp, e8⟩ := h8 x hxn
          refine dH_DW h nl n _ _ ?_
          rw [mWork_eq h14 h9 e8 (by omega) (by omega) (by omega)]
          exact mWorkX_DW hl h10 (by omega) ⟨h14, h9, hx, hn, h8⟩ hD
        · exact hD
theorem dD_ot (fu nl : Nat) (M : Ms) (f i : Nat) (hf : f ≠ 1 ∧ f ≠ 3 ∧ f ≠ 22 ∧ f ≠ 13 ∧ f ≠ 14 ∧ f ≠ 4 ∧ f ≠ 5 ∧ f ≠ 23 ∧ f ≠ 26 ∧ f ≠ 8 ∧ f ≠ 9) (hf2 : f ≠ 10 ∧ f ≠ 12) : ∀ h, (dD fu nl M h).1 f i = M f i
  | 0 => rfl
  | h + 1 => by rw [dD, dH_ot _ _ f i hf hf2, dD_ot fu nl M f i hf hf2 h]
theorem dD_DW (fu nl : Nat) (M : Ms) (hD : DW M nl) : ∀ h, DW (dD fu nl M h).1 nl
  | 0 => hD
  | h + 1 => by
    rw [dD]
    exact dH_DW _ _ _ _ _ (dD_DW fu nl M hD h)
def oB (o : Option Nat) : Int32 := match o with
  | none => 0
  | some _ => 1
theorem c_dayIn (l : Launch) (Po : Option Value → Hp → Prop) (m0 h nl : Nat) (sn : Int32) (hh : h < 9) (hnl : nl ≤ 60) : ∀ (f : Nat) (N : Ms) (w : Hp) (lf all : Nat), cn (wtP N h) nl + lf < f → lf ≤ 20 → all + lf < 100000 → RM m0 N w → N 16 0 = nI nl → DW N nl →
    (∀ w' v4 v5 v6, RM m0 (dH h nl f N lf).1 w' → Jd l 95 3 0 0 (some .int) Po 155 [(6, .int v6), (5, .int v5), (4, .int v4), (3, .int (nI h)), (2, .int (nI (all + (dH h nl f N lf).2))), (0, .ref m0), (1, .int sn)] [] w' 0 0) →
    Jd l 95 3 0 0 (some .int) Po 62 [(6, .int (oB (fiF N h nl))), (5, .int (oI (fiF N h nl))), (4, .int (nI lf)), (3, .int (nI h)), (2, .int (nI all)), (0, .ref m0), (1, .int sn)] [] w 0 0 := by
  have hev : ∀ (k : Nat) (r : Nat × Nat × Nat × Sp), evL [(96, 1, 0, 0, sp_goes), (97, 1, 0, 0, sp_first), (98, 2, 0, 0, sp_work)] k = some r → Ct l k r.1 r.2.1 r.2.2.1 r.2.2.2 := evL_ok (by simpa using ⟨c_goes l, c_first l, c_work l⟩)
  intro f
  induction f with
  | zero => intro N w lf all hm; omega
  | succ f ih =>
    intro N w lf all hm hlf hal hM h16 hD hout
    rw [dH] at hout
    cases hb : fiF N h nl with
    | none =>
      rw [hb] at hout
      refine jd_s cdo_95 hev [155] 20 z00 ?_
      exact ⟨fun _ => hout w _ _ _ hM, fun z => absurd rfl z⟩
    | some i =>
      rw [hb] at hout
      dsimp only at hout
      obtain ⟨hi, h10, h11⟩ := fiF_lt N h nl i hb
      obtain ⟨x, n, h14, h9, hx, hn, h8⟩ := hD i hi h10
      refine jd_s cdo_95 hev [155, 62] 90 z00 ?_
      refine ⟨fun z => absurd z (show ¬ (1 : Int32) = 0 by decide), fun _ => ?_⟩
      refine ⟨hM.k, _, hM.rf _ rfl, hM.kd _ rfl, i, _, hM.ix _ rfl rfl (show i < 60 by omega), hM.rd _ rfl i, hM.k, _, hM.rf _ rfl, hM.kd _ rfl, i, _, hM.ix _ rfl rfl (show i < 60 by omega), hM.rd _ rfl i, fun c => ?_, fun c => ?_⟩
      · rw [if_neg (lt_nle c)] at hout
        rw [h14, h9] at c
        have hxn : x < n := (nI_ltI (by omega) (by omega)).mp c
        obtain ⟨n', rfl⟩ : ∃ n', n = n' + 1 := ⟨n - 1, by omega⟩
        obtain ⟨p, hp, e8⟩ := h8 x hxn
        refine ⟨fun c2 => ?_, fun c2 => ?_⟩
        · have hl0 : ¬ 0 < lf := fun z => nI_nle z (by omega) c2
          rw [if_neg hl0] at hout
          refine jd_s cdo_95 hev [155] 20 z00 ?_
          exact ⟨fun _ => hout w _ _ _ hM, fun z => absurd rfl z⟩
        · have hl0 : 0 < lf := by
            rcases Nat.eq_zero_or_pos lf with z | z
            · exact absurd (show nI lf ≤ 0 by rw [z]; exact Int32.le_refl _) c2
            · exact z
          rw [if_pos hl0] at hout
          have hwk := mWork_eq (h := h) h14 h9 e8 (by omega) (by omega) (by omega)
          refine ⟨⟨by decide, by decide, by decide⟩, rfl, hM.k, m0, N, h, i, x, p, n', rfl, hM, ⟨hh, by omega, h14, by omega, by omega, h9, hp, e8⟩, fun w' hM' => ?_⟩
          have efi : fiF (mWorkX N h i x p n') h nl = some i := (mWorkX_fi N h i x p n' h nl).trans hb
          have ecn : cn (wtP (mWorkX N h i x p n') h) nl = cn (wtP N h) nl := cn_cong (fun j hj => by simp only [wtP, mWorkX_ot _ _ _ _ _ _ 10 j (by decide), mWorkX_ot _ _ _ _ _ _ 11 j (by decide)])
          have hih := ih (mWorkX N h i x p n') w' (lf - 1) (all + 1) (by rw [ecn]; omega) (by omega) (by omega) hM' ((mWorkX_ot _ _ _ _ _ _ 16 0 (by decide)).trans h16) (mWorkX_DW hi h10 (by omega) ⟨h14, h9, hx, hn, h8⟩ hD) (by
            intro w'' v4 v5 v6 hw''
            rw [← hwk] at hw'' ⊢
            have := hout w'' v4 v5 v6 hw''
            rw [show all + 1 + (dH h nl f (mWork N h i) (lf - 1)).2 = all + ((dH h nl f (mWork N h i) (lf - 1)).2 + 1) by omega]
            exact this)
          rw [efi] at hih
          refine jd_pk [2, 3, 1, 4, 0, 5, 6] ?_
          obtain ⟨lf', rfl⟩ : ∃ lf', lf = lf' + 1 := ⟨lf - 1, by omega⟩
          have e4 : nI (lf' + 1) + (-1) = nI lf' := pk_m1 lf'
          have e2 : nI all + 1 = nI (all + 1) := nI_1 all
          show Jd l 95 3 0 0 (some .int) Po 62 [(6, .int 1), (5, .int (nI i)), (4, .int (nI (lf' + 1) + (-1))), (3, .int (nI h)), (2, .int (nI all + 1)), (0, .ref m0), (1, .int sn)] [] w' 0 0
          rw [e4, e2]
          exact hih
      · have c : N 9 i ≤ N 14 i := nlt_le c
        rw [if_pos c] at hout
        refine ⟨hM.k, _, hM.rf _ rfl, hM.kd _ rfl, i, hM.ix _ rfl rfl (show i < 60 by omega), ?_⟩
        have hM := hM.sa 10 rfl i 3
        refine ⟨hM.k, _, hM.rf _ rfl, hM.k, _, hM.rf _ rfl, hM.kd _ rfl, h, _, hM.ix _ rfl rfl (show h < 9 by omega), (hM.rd _ rfl h).trans (show _ = N 21 h from rfl), hM.kd _ rfl, i, hM.ix _ rfl rfl (show i < 60 by omega), ?_⟩
        have hM := hM.sa 12 rfl i (N 21 h)
        have hM : RM m0 (mOutH N i h) _ := hM
        have ecn : cn (wtP (mOutH N i h) h) nl + 1 = cn (wtP N h) nl := cn_flip (i := i) (by simp [wtP, h10, h11]) (by simp [wtP, mOutH, u2]) (fun j hj => by simp [wtP, mOutH, u2, hj]) hi
        have hih := fun w2 hM2 => ih (mOutH N i h) w2 lf all (by omega) hlf hal hM2 h16 (mOutH_DW hD) hout
        refine ⟨⟨by decide, by decide, by decide⟩, rfl, hM.k, m0, _, h, nl, rfl, hM, ⟨h16, hnl⟩, ?_⟩
        have hih2 := hih _ hM
        cases hb2 : fiF (mOutH N i h) h nl with
        | none =>
          rw [hb2] at hih2
          refine ⟨fun _ => hih2, fun z => absurd rfl z⟩
        | some j =>
          rw [hb2] at hih2
          have hjl := (fiF_lt _ h nl j hb2).1
          refine ⟨fun z => absurd z (nI_m1 (by omega)), fun _ => hih2⟩
end
section
/-! the reference: day, whole -/
theorem dH_le (h nl : Nat) : ∀ (n : Nat) (M : Ms) (lf : Nat), (dH h nl n M lf).2 ≤ lf
  | 0, M, lf => Nat.zero_le _
  | n + 1, M, lf => by
    rw [dH]
    cases fiF M h nl with
    | none => exact Nat.zero_le _
    | some l =>
      dsimp only
      split
      · exact dH_le h nl n _ _
      · split
        · have := dH_le h nl n (mWork M h l) (lf - 1)
          dsimp only
          omega
        · exact Nat.zero_le _
theorem dD_le (fu nl : Nat) (M : Ms) : ∀ h, (∀ i, i < h → pN (M 18 i) ≤ 20) → (dD fu nl M h).2 ≤ 20 * h
  | 0, _ => Nat.zero_le _
  | h + 1, hr => by
    rw [dD]
    have h1 := dD_le fu nl M h (fun i hi => hr i (by omega))
    have h2 := dH_le h nl fu (dD fu nl M h).1 (pN (M 18 h))
    have h3 := hr h (by omega)
    dsimp only
    omega
def mDay (fu : Nat) (M : Ms) (sn : Int32) (nl nh : Nat) : Ms := u2 (dD fu nl (mGoes (m41 M) sn nl) nh).1 25 0 (M 25 0 + 1)
def sp_day (fu : Nat) : Sp := fun as w K => ∃ m0 M sn nl nh nd, as = [.ref m0, .int sn] ∧ RM m0 M w ∧ (M 16 0 = nI nl ∧ nl ≤ 60) ∧ (M 24 0 = nI nh ∧ nh ≤ 9) ∧ (M 25 0 = nI nd ∧ nd ≤ 400) ∧ (∀ h, h < nh → ∃ r, r ≤ 20 ∧ M 18 h = nI r) ∧ DW (mGoes (m41 M) sn nl) nl ∧
  (nd < 400 → ∀ w', RM m0 (mDay fu M sn nl nh) w' → K (some (.int (nI (dD fu nl (mGoes (m41 M) sn nl) nh).2))) w') ∧ (nd = 400 → ∀ w', RM m0 (m41 M) w' → K (some (.int (-1))) w')
theorem c_mday (l : Launch) (fu : Nat) (hfu : 80 < fu) : Ct l 95 3 0 0 (sp_day fu) := by
  have hev : ∀ (k : Nat) (r : Nat × Nat × Nat × Sp), evL [(96, 1, 0, 0, sp_goes), (97, 1, 0, 0, sp_first), (98, 2, 0, 0, sp_work)] k = some r → Ct l k r.1 r.2.1 r.2.2.1 r.2.2.2 := evL_ok (by simpa using ⟨c_goes l, c_first l, c_work l⟩)
  refine ct_jd (by decide) rfl (fun as w Po hq => ?_)
  obtain ⟨m0, M, sn, nl, nh, nd, rfl, hM, ⟨hn, hn2⟩, ⟨hh, hh2⟩, ⟨hd, hd2⟩, hr, hD, h1, h2⟩ := hq
  refine ⟨Nat.le_of_ble_eq_true rfl, ?_⟩
  have hot : ∀ f i, (f ≠ 10 ∧ f ≠ 12 ∧ f ≠ 13 ∧ f ≠ 14 ∧ f ≠ 15 ∧ f ≠ 17) → mGoes (m41 M) sn nl f i = m41 M f i := fun f i hf => mGoes_ot _ _ _ _ hf nl
  have g16 : mGoes (m41 M) sn nl 16 0 = nI nl := (hot 16 0 (by decide)).trans hn
  have g24 : mGoes (m41 M) sn nl 24 0 = nI nh := (hot 24 0 (by decide)).trans hh
  have g25 : mGoes (m41 M) sn nl 25 0 = M 25 0 := hot 25 0 (by decide)
  have g18 : ∀ h, h < nh → ∃ r, r ≤ 20 ∧ mGoes (m41 M) sn nl 18 h = nI r := fun h hlt => by
    obtain ⟨r, hr1, hr2⟩ := hr h hlt
    exact ⟨r, hr1, (hot 18 h (by decide)).trans hr2⟩
  have fin : ∀ w', RM m0 (u2 (dD fu nl (mGoes (m41 M) sn nl) nh).1 25 0 (M 25 0 + 1)) w' → nd < 400 → Po (some (.int (nI (dD fu nl (mGoes (m41 M) sn nl) nh).2))) w' := fun w' hw hnd => h1 hnd w' hw
  generalize hN : mGoes (m41 M) sn nl = N at g16 g24 g25 g18 hD fin
  have hle : ∀ h, h ≤ nh → (dD fu nl N h).2 ≤ 20 * h := fun h hlt => dD_le fu nl N h (fun i hi => by
    obtain ⟨r, hr1, hr2⟩ := g18 i (by omega)
    rw [hr2, pN_n (by omega)]
    exact hr1)
  have key : nd < 400 → ∀ d h w', h + d = nh → RM m0 (dD fu nl N h).1 w' → Jd l 95 3 0 0 (some .int) Po 26 [(3, .int (nI h)), (2, .int (nI (dD fu nl N h).2)), (0, .ref m0), (1, .int sn)] [] w' 0 0 := by
    intro hnd d
    induction d with
    | zero =>
      intro h w' hi hM
      obtain rfl : h = nh := by omega
      have e24 := (dD_ot fu nl N 24 0 (by decide) (by decide) h).trans g24
      have e25 := (dD_ot fu nl N 25 0 (by decide) (by decide) h).trans g25
      refine jd_s cdo_95 hev [] 30 z00 ?_
      refine ⟨hM.k, _, (hM.ri _ rfl).trans e24, fun c => ?_, fun c => absurd (nI_le (Nat.le_refl h) (by omega)) c⟩
      refine ⟨hM.k, _, (hM.ri _ rfl).trans e25, hM.k, ?_⟩
      exact fin _ (hM.si 25 rfl (M 25 0 + 1)) hnd
    | succ d ih =>
      intro h w' hi hM
      have e24 := (dD_ot fu nl N 24 0 (by decide) (by decide) h).trans g24
      have e16 := (dD_ot fu nl N 16 0 (by decide) (by decide) h).trans g16
      obtain ⟨r, hr1, hr2⟩ := g18 h (by omega)
      have e18 := (dD_ot fu nl N 18 h (by decide) (by decide) h).trans hr2
      have hDh := dD_DW fu nl N hD h
      have hsum := hle h (by omega)
      have hin := c_dayIn l Po m0 h nl sn (by omega) hn2 fu (dD fu nl N h).1 w' r (dD fu nl N h).2 (by have := cn_le (wtP (dD fu nl N h).1 h) nl; omega) hr1 (by omega) hM e16 hDh (by
        intro w2 v4 v5 v6 hw2
        refine jd_s cdo_95 hev [26] 20 z00 ?_
        refine jd_pk [0, 4, 5, 6] ?_
        have hn1 := ih (h + 1) w2 (by omega) (by rw [dD, hr2, pN_n (by omega)]; exact hw2)
        have e2 : (dD fu nl N (h + 1)).2 = (dD fu nl N h).2 + (dH h nl fu (dD fu nl N h).1 r).2 := by rw [dD, hr2, pN_n (by omega)]
        rw [e2, ← nI_1] at hn1
        exact hn1)
      refine jd_s cdo_95 hev [62] 60 z00 ?_
      refine ⟨hM.k, _, (hM.ri _ rfl).trans e24, fun c => ?_, fun c => ?_⟩
      · have := ge_n (by omega) (by omega) c
        omega
      · refine ⟨hM.k, _, hM.rf _ rfl, hM.kd _ rfl, h, _, hM.ix _ rfl rfl (show h < 9 by omega), (hM.rd _ rfl h).trans e18, ?_⟩
        refine ⟨⟨by decide, by decide, by decide⟩, rfl, hM.k, m0, _, h, nl, rfl, hM, ⟨e16, hn2⟩, ?_⟩
        cases hb : fiF (dD fu nl N h).1 h nl with
        | none =>
          rw [hb] at hin
          exact ⟨fun _ => hin, fun z => absurd rfl z⟩
        | some j =>
          rw [hb] at hin
          have hjl := (fiF_lt _ h nl j hb).1
          exact ⟨fun z => absurd z (nI_m1 (by omega)), fun _ => hin⟩
  refine jd_s cdo_95 hev [26] 40 z00 ?_
  refine ⟨hM.k, ?_⟩
  have hM := hM.si 41 rfl 0
  have hM : RM m0 (m41 M) _ := hM
  refine ⟨hM.k, _, (hM.ri _ rfl).trans hd, fun c => ?_, fun c => ?_⟩
  · have hnd : nd < 400 := by
      rcases Nat.lt_or_ge nd 400 with q | q
      · exact q
      · exact absurd (show nI nd = 400 by rw [show nd = 400 by omega]; rfl) c
    exact ⟨⟨by decide, by decide, by decide⟩, rfl, hM.k, m0, _, sn, nl, rfl, hM, ⟨hn, hn2⟩, fun w' hw' => key hnd nh 0 w' (by omega) (by rw [hN] at hw'; exact hw')⟩
  · have h9 : nI nd = nI 400 := c
    exact h2 ((nI_eq (by omega) (by omega)).mp h9) _ hM
end
section
/-! the reference: raw -/
/-- the i-th size, as it is tested -/
def szOK (f st : Int32) (i : Nat) : Prop := -100 ≤ f.toInt + (i : Int) * st.toInt ∧ f.toInt + (i : Int) * st.toInt ≤ 100
theorem i_rng (x : Int32) : -2147483648 ≤ x.toInt ∧ x.toInt < 2147483648 := by
  have h1 := Int32.le_toInt x
  have h2 := Int32.toInt_lt x
  omega
theorem bm64 {z : Int} (h1 : -9223372036854775808 ≤ z) (h2 : z < 9223372036854775808) : z.bmod (2 ^ 64) = z := by
  rw [Int.bmod_eq_of_le (by omega) (by omega)]
theorem sz64 (f st : Int32) (i : Nat) (hi : i < 1000) : (f.toInt64 + (nI i).toInt64 * st.toInt64).toInt = f.toInt + (i : Int) * st.toInt := by
  have hf := i_rng f
  have hs := i_rng st
  have e1 : (nI i).toInt64.toInt = (i : Int) := by rw [Int32.toInt_toInt64, nI_toInt (by omega)]
  have e2 : ((nI i).toInt64 * st.toInt64).toInt = (i : Int) * st.toInt := by
    have b1 : -2147483648 * 1000 ≤ (i : Int) * st.toInt := by
      have := Int.mul_le_mul_of_nonneg_left hs.1 (show (0 : Int) ≤ i by omega)
      omega
    have b2 : (i : Int) * st.toInt ≤ 2147483648 * 1000 := by
      have := Int.mul_le_mul_of_nonneg_left (show st.toInt ≤ 2147483648 by omega) (show (0 : Int) ≤ i by omega)
      omega
    rw [Int64.toInt_mul, e1, Int32.toInt_toInt64, bm64 (by omega) (by omega)]
  have b1 : -2147483648 * 1000 ≤ (i : Int) * st.toInt := by
    have := Int.mul_le_mul_of_nonneg_left hs.1 (show (0 : Int) ≤ i by omega)
    omega
  have b2 : (i : Int) * st.toInt ≤ 2147483648 * 1000 := by
    have := Int.mul_le_mul_of_nonneg_left (show st.toInt ≤ 2147483648 by omega) (show (0 : Int) ≤ i by omega)
    omega
  rw [Int64.toInt_add, e2, Int32.toInt_toInt64, bm64 (by omega) (by omega)]
theorem cmp_lt (x y : Int64) : lg_cmp x y < 0 ↔ x.toInt < y.toInt := by
  have h := lg_cmp_ge x y
  rw [Int64.le_iff_toInt_le] at h
  constructor
  · intro c
    rcases Int.lt_or_le x.toInt y.toInt with q | q
    · exact q
    · exact absurd (h.mpr q) (lt_nle c)
  · intro c
    refine nle_lt (fun z => ?_)
    have := h.mp z
    omega
theorem cmp_le (x y : Int64) : lg_cmp x y ≤ 0 ↔ x.toInt ≤ y.toInt := by
  unfold lg_cmp
  by_cases h1 : x > y
  · rw [if_pos h1]
    have : y.toInt < x.toInt := Int64.lt_iff_toInt_lt.mp h1
    constructor
    · intro c; exact absurd c (by decide)
    · intro c; omega
  · rw [if_neg h1]
    have h1 : x.toInt ≤ y.toInt := by
      rcases Int.lt_or_le y.toInt x.toInt with q | q
      · exact absurd (Int64.lt_iff_toInt_lt.mpr q) h1
      · exact q
    constructor
    · intro _; exact h1
    · intro _; split <;> decide
theorem one_pos {n : Int32} (h : 1 ≤ n) : ¬ n < 0 := by
  rw [i_lt]
  have h1 := (i_le 1 n).mp h
  have e : (1 : Int32).toInt = 1 := by decide
  have e0 : (0 : Int32).toInt = 0 := by decide
  omega
def mRawP (M : Ms) (l np : Nat) (k f st : Int32) : Nat → Ms
  | 0 => M
  | i + 1 => u2 (mAdd (u2 (u2 (u2 (u2 (u2 (mRawP M l np k f st i) 0 (np + i) k) 1 (np + i) (f + nI i * st)) 2 (np + i) (nI l)) 3 (np + i) 0) 4 (np + i) 0) l i (np + i)) 6 0 (nI (np + i + 1))
theorem mrp9 {M : Ms} {l np : Nat} {k f st : Int32} (h : M 9 l = 0) : ∀ i, mRawP M l np k f st i 9 l = nI i
  | 0 => h
  | i + 1 => by simp [mRawP, mAdd, u2]
theorem mrp6 {M : Ms} {l np : Nat} {k f st : Int32} (h : M 6 0 = nI np) : ∀ i, mRawP M l np k f st i 6 0 = nI (np + i)
  | 0 => h
  | i + 1 => by simp [mRawP, u2]; rfl
def okRaw (k n f st : Int32) (np nl n' : Nat) : Prop := (0 ≤ k ∧ k ≤ 2) ∧ (n = nI n' ∧ 1 ≤ n' ∧ n' ≤ 30) ∧ nl < 60 ∧ np + n' ≤ 300 ∧ ∀ i, i < n' → szOK f st i
def mRaw (M : Ms) (k f st : Int32) (np nl n' : Nat) : Ms := mRawP (mNewLot (m41 M) nl k) nl np k f st n'
def sp_raw : Sp := fun as w K => ∃ m0 M k n f st np nl, as = [.ref m0, .int k, .int n, .int f, .int st] ∧ RM m0 M w ∧ (M 6 0 = nI np ∧ np ≤ 300) ∧ (M 16 0 = nI nl ∧ nl ≤ 60) ∧
  (∀ n', okRaw k n f st np nl n' → ∀ w', RM m0 (mRaw M k f st np nl n') w' → K (some (.int (nI nl))) w') ∧ ((¬ ∃ n', okRaw k n f st np nl n') → ∀ w', RM m0 (m41 M) w' → K (some (.int (-1))) w')
theorem c_mraw (l : Launch) : Ct l 86 2 0 0 sp_raw := by
  have hev : ∀ (k : Nat) (r : Nat × Nat × Nat × Sp), evL [(85, 1, 0, 0, sp_in), (87, 1, 0, 0, sp_newLot), (88, 1, 0, 0, sp_add)] k = some r → Ct l k r.1 r.2.1 r.2.2.1 r.2.2.2 := evL_ok (by simpa using ⟨c_in l, c_newLot l, c_add l⟩)
  refine ct_jd (by decide) rfl (fun as w Po hq => ?_)
  obtain ⟨m0, M, k, n, f, st, np, nl, rfl, hM, ⟨hp, hp2⟩, ⟨hn, hn2⟩, h1, h2⟩ := hq
  refine ⟨Nat.le_of_ble_eq_true rfl, ?_⟩
  refine jd_s cdo_86 hev [50] 60 z00 ?_
  refine ⟨hM.k, ?_⟩
  have hM := hM.si 41 rfl 0
  have hM : RM m0 (m41 M) _ := hM
  refine ⟨⟨by decide, by decide, by decide⟩, rfl, Nat.le_of_ble_eq_true rfl, k, 0, 2, rfl, fun c1 => br1 ?_, fun c => br0 (h2 (fun ⟨_, z⟩ => c z.1) _ hM)⟩
  refine ⟨⟨by decide, by decide, by decide⟩, rfl, Nat.le_of_ble_eq_true rfl, n, 1, 30, rfl, fun c2 => br1 ?_, fun c => br0 (h2 (fun ⟨n', z⟩ => c (by rw [z.2.1.1]; exact ⟨nI_le (a := 1) z.2.1.2.1 (by have := z.2.1.2.2; omega), nI_le (b := 30) z.2.1.2.2 (by decide)⟩)) _ hM)⟩
  obtain ⟨n', hn', rfl⟩ : ∃ n' : Nat, n' < 2 ^ 31 ∧ n = nI n' := nI_of (one_pos c2.1)
  have hn1 : 1 ≤ n' := ge_n (b := 1) (by omega) (by decide) c2.1
  have hn30 : n' ≤ 30 := ge_n (a := 30) (by decide) (by omega) c2.2
  have only : ∀ n'', okRaw k (nI n') f st np nl n'' → n'' = n' := fun n'' z => ((nI_eq (by omega) (by have := z.2.1.2.2; omega)).mp z.2.1.1).symm
  refine ⟨hM.k, _, (hM.ri _ rfl).trans hn, fun c3 => ?_, fun c3 => ?_⟩
  · have h60 : nI nl = nI 60 := c3
    have := (nI_eq (by omega) (by omega)).mp h60
    exact h2 (fun ⟨n'', z⟩ => by have := z.2.2.1; omega) _ hM
  have hnl : nl < 60 := by
    rcases Nat.lt_or_ge nl 60 with q | q
    · exact q
    · exact absurd (show nI nl = 60 by rw [show nl = 60 by omega]; rfl) c3
  refine ⟨hM.k, _, (hM.ri _ rfl).trans hp, ?_⟩
  show cc6 .le (nI np + nI n') 300 _ _
  rw [nI_add]
  refine ⟨fun c4 => ?_, fun c4 => ?_⟩
  · have hpn : np + n' ≤ 300 := ge_n (a := 300) (by decide) (by omega) c4
    -- the pieces
    have key2 : (∀ i, i < n' → szOK f st i) → ∀ d i w', i + d = n' → RM m0 (mRawP (mNewLot (m41 M) nl k) nl np k f st i) w' → Jd l 86 2 0 0 (some .int) Po 104 [(6, .int (nI i)), (5, .int (nI nl)), (0, .ref m0), (1, .int k), (2, .int (nI n')), (3, .int f), (4, .int st)] [] w' 0 0 := by
      intro hall d
      induction d with
      | zero =>
        intro i w' hi hM
        obtain rfl : i = n' := by omega
        refine jd_s cdo_86 hev [] 20 z00 ?_
        exact ⟨fun c => h1 i ⟨c1, ⟨rfl, hn1, hn30⟩, hnl, hpn, hall⟩ _ hM, fun c => absurd (nI_le (Nat.le_refl i) (by omega)) c⟩
      | succ d ih =>
        intro i w' hi hM
        have e6 : mRawP (mNewLot (m41 M) nl k) nl np k f st i 6 0 = nI (np + i) := mrp6 (M := mNewLot (m41 M) nl k) hp i
        have e9 : mRawP (mNewLot (m41 M) nl k) nl np k f st i 9 nl = nI i := mrp9 (by simp [mNewLot, u2]) i
        refine jd_s cdo_86 hev [104] 90 z00 ?_
        refine ⟨fun c => ?_, fun c => ?_⟩
        · have := ge_n (by omega) (by omega) c
          omega
        · refine ⟨hM.k, _, hM.rf _ rfl, hM.k, _, (hM.ri _ rfl).trans e6, hM.kd _ rfl, np + i, hM.ix _ rfl rfl (show np + i < 300 by omega), ?_⟩
          have hM := hM.sa 0 rfl (np + i) k
          refine ⟨hM.k, _, hM.rf _ rfl, hM.k, _, (hM.ri _ rfl).trans e6, hM.kd _ rfl, np + i, hM.ix _ rfl rfl (show np + i < 300 by omega), ?_⟩
          have hM := hM.sa 1 rfl (np + i) (f + nI i * st)
          refine ⟨hM.k, _, hM.rf _ rfl, hM.k, _, (hM.ri _ rfl).trans e6, hM.kd _ rfl, np + i, hM.ix _ rfl rfl (show np + i < 300 by omega), ?_⟩
          have hM := hM.sa 2 rfl (np + i) (nI nl)
          refine ⟨hM.k, _, hM.rf _ rfl, hM.k, _, (hM.ri _ rfl).trans e6, hM.kd _ rfl, np + i, hM.ix _ rfl rfl (show np + i < 300 by omega), ?_⟩
          have hM := hM.sa 3 rfl (np + i) 0
          refine ⟨hM.k, _, hM.rf _ rfl, hM.k, _, (hM.ri _ rfl).trans e6, hM.kd _ rfl, np + i, hM.ix _ rfl rfl (show np + i < 300 by omega), ?_⟩
          have hM := hM.sa 4 rfl (np + i) 0
          refine ⟨hM.k, _, (hM.ri _ rfl).trans e6, ?_⟩
          refine ⟨⟨by decide, by decide, by decide⟩, rfl, hM.k, m0, _, nl, i, np + i, rfl, hM, ⟨e9, by omega, hnl, by omega⟩, fun w2 hM => ?_⟩
          refine ⟨hM.k, _, (hM.ri _ rfl).trans (show _ = nI (np + i) from e6), hM.k, ?_⟩
          have hM := hM.si 6 rfl (nI (np + i) + 1)
          have hM2 : RM m0 (mRawP (mNewLot (m41 M) nl k) nl np k f st (i + 1)) (sI w2 10 6 m0 (nI (np + i) + 1)) := by
            rw [mRawP, ← nI_1]
            exact hM
          have := ih (i + 1) _ (by omega) hM2
          rw [← nI_1] at this
          exact this
    have key1 : ∀ d i, i + d = n' → (∀ j, j < i → szOK f st j) → Jd l 86 2 0 0 (some .int) Po 50 [(5, .int (nI i)), (0, .ref m0), (1, .int k), (2, .int (nI n')), (3, .int f), (4, .int st)] [] (sI w 10 41 m0 0) 0 0 := by
      intro d
      induction d with
      | zero =>
        intro i hi hall
        obtain rfl : i = n' := by omega
        refine jd_s cdo_86 hev [104] 30 z00 ?_
        refine ⟨fun c => ?_, fun c => absurd (nI_le (Nat.le_refl i) (by omega)) c⟩
        refine ⟨⟨by decide, by decide, by decide⟩, rfl, hM.k, m0, _, k, nl, rfl, hM, ⟨hn, hnl⟩, fun w2 hM2 => ?_⟩
        exact key2 hall i 0 w2 (by omega) hM2
      | succ d ih =>
        intro i hi hall
        refine jd_s cdo_86 hev [50] 40 z00 ?_
        refine ⟨fun c => ?_, fun c => ?_⟩
        · have := ge_n (by omega) (by omega) c
          omega
        · have es := sz64 f st i (by omega)
          have em : (Int32.toInt64 (-100)).toInt = -100 := by decide
          have ep : (Int32.toInt64 100).toInt = 100 := by decide
          refine ⟨fun c5 => ?_, fun c5 => ⟨fun c6 => ?_, fun c6 => ?_⟩⟩
          · have c5 := (cmp_lt _ _).mp c5
            rw [es, em] at c5
            exact h2 (fun ⟨n'', z⟩ => by
              have e := only n'' z
              subst e
              have := (z.2.2.2.2 i (by omega)).1
              omega) _ hM
          · have c6 := (cmp_le _ _).mp c6
            rw [es, ep] at c6
            have c5 : ¬ f.toInt + (i : Int) * st.toInt < -100 := fun z => c5 ((cmp_lt _ _).mpr (by rw [es, em]; exact z))
            refine jd_pk [0, 2, 3, 4, 5, 6] ?_
            have := ih (i + 1) (by omega) (fun j hj => by
              by_cases hji : j = i
              · subst hji
                exact ⟨by omega, c6⟩
              · exact hall j (by omega))
            rw [← nI_1] at this
            exact this
          · have c6 : ¬ f.toInt + (i : Int) * st.toInt ≤ 100 := fun z => c6 ((cmp_le _ _).mpr (by rw [es, ep]; exact z))
            exact h2 (fun ⟨n'', z⟩ => by
              have e := only n'' z
              subst e
              exact c6 (z.2.2.2.2 i (by omega)).2) _ hM
    exact key1 n' 0 (by omega) (fun j hj => absurd hj (Nat.not_lt_zero _))
  · have hpn : 300 < np + n' := by
      rcases Nat.lt_or_ge 300 (np + n') with q | q
      · exact q
      · exact absurd (nI_le (b := 300) q (by decide)) c4
    exact h2 (fun ⟨n'', z⟩ => by
      have e := only n'' z
      subst e
      have := z.2.2.2.1
      omega) _ hM
end
section
/-! the reference: split, join -/
def mSplP (M : Ms) (l nl m : Nat) : Nat → Ms
  | 0 => M
  | i + 1 => mTake (mAdd (mSplP M l nl m i) nl i (pN (mSplP M l nl m i 8 (300 * l)))) l 0 (m - (i + 1))
theorem mSplP_ot (M : Ms) (l nl m f j : Nat) (hf : f ≠ 8 ∧ f ≠ 9 ∧ f ≠ 5) : ∀ i, mSplP M l nl m i f j = M f j
  | 0 => rfl
  | i + 1 => by
    rw [mSplP]
    unfold mTake mTakeK mAdd
    rw [if_neg (fun z => hf.2.1 z.1), if_neg (fun z => hf.1 z.1), u2_ne hf.2.2, u2_ne hf.2.1, u2_ne hf.1, mSplP_ot M l nl m f j hf i]
/-- how the rows stand behind i steps -/
theorem mSplP_in {M : Ms} {l nl m : Nat} (hl : l < nl) (h9 : M 9 l = nI m) (h9' : M 9 nl = 0) (hm : m ≤ 300) : ∀ i, i ≤ m → mSplP M l nl m i 9 l = nI (m - i) ∧ mSplP M l nl m i 9 nl = nI i ∧ ∀ j, j < m - i → mSplP M l nl m i 8 (300 * l + j) = M 8 (300 * l + i + j)
  | 0, _ => ⟨h9, h9', fun j _ => rfl⟩
  | i + 1, hi => by
    obtain ⟨a, b, c⟩ := mSplP_in hl h9 h9' hm i (by omega)
    have hne : l ≠ nl := by omega
    refine ⟨?_, ?_, fun j hj => ?_⟩
    · rw [mSplP]
      simp [mTake, mTakeK]
    · rw [mSplP]
      unfold mTake mTakeK
      rw [if_neg (by omega), if_neg (by omega)]
      simp [mAdd, u2]
    · rw [mSplP]
      unfold mTake mTakeK
      rw [if_neg (by omega), if_pos (by omega)]
      have e : mAdd (mSplP M l nl m i) nl i (pN (mSplP M l nl m i 8 (300 * l))) 8 (300 * l + j + 1) = mSplP M l nl m i 8 (300 * l + (j + 1)) := by
        have : 300 * l + (j + 1) ≠ 300 * nl + i := by omega
        simp [mAdd, u2, this, Nat.add_assoc]
      rw [e, c (j + 1) (by omega)]
      congr 1
      omega
def mSplit (M : Ms) (l nl m n : Nat) : Ms := mSplP (mNewLot (m41 M) nl (M 7 l)) l nl m n
def sp_split : Sp := fun as w K => ∃ m0 M x y nl, ∃ mn : Nat → Nat, as = [.ref m0, .int x, .int y] ∧ RM m0 M w ∧ (M 16 0 = nI nl ∧ nl ≤ 60) ∧ (∀ j, j < nl → M 9 j = nI (mn j) ∧ mn j ≤ 300 ∧ ∀ i, i < mn j → ∃ p, p < 300 ∧ M 8 (300 * j + i) = nI p) ∧
  (∀ i n, i < nl → x = nI i → M 10 i = 0 → n ≤ mn i → y = nI n → nl < 60 → ∀ w', RM m0 (mSplit M i nl (mn i) n) w' → K (some (.int (nI nl))) w') ∧ ((¬ ∃ i n, i < nl ∧ x = nI i ∧ M 10 i = 0 ∧ n ≤ mn i ∧ y = nI n ∧ nl < 60) → ∀ w', RM m0 (m41 M) w' → K (some (.int (-1))) w')
theorem pr_le {n : Nat} (hn : n < 2147483648) (x : Int32) : (0 ≤ x ∧ x ≤ nI n) ↔ ∃ j, j ≤ n ∧ x = nI j := by
  constructor
  · intro ⟨h0, h1⟩
    obtain ⟨j, hj, rfl⟩ := nI_of (le_nlt h0)
    exact ⟨j, (nI_leI hj hn).mp h1, rfl⟩
  · rintro ⟨j, hj, rfl⟩
    exact ⟨nI_pos' (by omega), nI_le hj hn⟩
theorem c_msplit (l : Launch) : Ct l 89 4 0 0 sp_split := by
  have hev : ∀ (k : Nat) (r : Nat × Nat × Nat × Sp), evL [(85, 1, 0, 0, sp_in), (90, 3, 0, 0, sp_isHere), (87, 1, 0, 0, sp_newLot), (88, 1, 0, 0, sp_add), (92, 1, 0, 0, sp_take)] k = some r → Ct l k r.1 r.2.1 r.2.2.1 r.2.2.2 := evL_ok (by simpa using ⟨c_in l, c_isHere l, c_newLot l, c_add l, c_take l⟩)
  refine ct_jd (by decide) rfl (fun as w Po hq => ?_)
  obtain ⟨m0, M, x, y, nl, mn, rfl, hM, ⟨hn, hn2⟩, hrow, h1, h2⟩ := hq
  refine ⟨Nat.le_of_ble_eq_true rfl, ?_⟩
  refine jd_s cdo_89 hev [52] 60 z00 ?_
  refine ⟨hM.k, ?_⟩
  have hM := hM.si 41 rfl 0
  have hM : RM m0 (m41 M) _ := hM
  refine ⟨⟨by decide, by decide, by decide⟩, rfl, hM.k, m0, _, x, nl, rfl, hM, ⟨hn, hn2⟩, fun i hi hx hw => br1 ?_, fun c => br0 (h2 (fun ⟨i, _, hi, hx, hw, _⟩ => c ⟨i, hi, hx, hw⟩) _ hM)⟩
  subst hx
  obtain ⟨h9, hm3, h8⟩ := hrow i hi
  refine ⟨hM.k, _, hM.rf _ rfl, hM.kd _ rfl, i, _, hM.ix _ rfl rfl (show i < 60 by omega), (hM.rd _ rfl i).trans h9, ?_⟩
  have only : ∀ i', i' < nl → nI i = nI i' → i' = i := fun i' h e => ((nI_eq (by omega) (by omega)).mp e).symm
  refine ⟨⟨by decide, by decide, by decide⟩, rfl, Nat.le_of_ble_eq_true rfl, y, 0, _, rfl, fun c => br1 ?_, fun c => br0 (h2 (fun ⟨i', n, hi', hx', _, hnm, hy, _⟩ => c ((pr_le (by omega) y).mpr ⟨n, by rw [only i' hi' hx'] at hnm; exact hnm, hy⟩)) _ hM)⟩
  obtain ⟨n, hnm, rfl⟩ := (pr_le (by omega) y).mp c
  refine ⟨hM.k, _, (hM.ri _ rfl).trans hn, fun c => ?_, fun c => ?_⟩
  · have hnl : nl < 60 := by
      rcases Nat.lt_or_ge nl 60 with q | q
      · exact q
      · exact absurd (show nI nl = 60 by rw [show nl = 60 by omega]; rfl) c
    refine ⟨hM.k, _, hM.rf _ rfl, hM.kd _ rfl, i, _, hM.ix _ rfl rfl (show i < 60 by omega), (hM.rd _ rfl i).trans (show _ = M 7 i from rfl), ?_⟩
    refine ⟨⟨by decide, by decide, by decide⟩, rfl, hM.k, m0, _, M 7 i, nl, rfl, hM, ⟨hn, hnl⟩, fun w2 hM2 => ?_⟩
    have hne : i ≠ nl := by omega
    have inv := mSplP_in (M := mNewLot (m41 M) nl (M 7 i)) (l := i) (nl := nl) (m := mn i) hi (by rw [← h9]; simp [mNewLot, m41, u2, hne]) (by simp [mNewLot, u2]) hm3
    have g8 : ∀ j, j < mn i → ∃ p, p < 300 ∧ mNewLot (m41 M) nl (M 7 i) 8 (300 * i + j) = nI p := fun j hj => h8 j hj
    have key : ∀ d j w', j + d = n → RM m0 (mSplP (mNewLot (m41 M) nl (M 7 i)) i nl (mn i) j) w' → Jd l 89 4 0 0 (some .int) Po 52 [(4, .int (nI j)), (3, .int (nI nl)), (0, .ref m0), (1, .int (nI i)), (2, .int (nI n))] [] w' 0 0 := by
      intro d
      induction d with
      | zero =>
        intro j w' hj hM
        obtain rfl : j = n := by omega
        refine jd_s cdo_89 hev [] 20 z00 ?_
        exact ⟨fun c => h1 i j hi rfl hw hnm rfl hnl _ hM, fun c => absurd (nI_le (Nat.le_refl j) (by omega)) c⟩
      | succ d ih =>
        intro j w' hj hM
        obtain ⟨e9, e9', e8⟩ := inv j (by omega)
        obtain ⟨p, hp, ep⟩ := g8 j (by omega)
        have e80 : mSplP (mNewLot (m41 M) nl (M 7 i)) i nl (mn i) j 8 (300 * i) = nI p := (e8 0 (by omega)).trans ep
        refine jd_s cdo_89 hev [52] 60 z00 ?_
        refine ⟨fun c => ?_, fun c => ?_⟩
        · have := ge_n (by omega) (by omega) c
          omega
        · refine ⟨hM.k, _, hM.rf _ rfl, hM.kd _ rfl, 300 * i, _, hM.ix _ rfl (n300 i) (show 300 * i < 18000 by omega), (hM.rd _ rfl _).trans e80, ?_⟩
          refine ⟨⟨by decide, by decide, by decide⟩, rfl, hM.k, m0, _, nl, j, p, rfl, hM, ⟨e9', by omega, hnl, hp⟩, fun w3 hM3 => ?_⟩
          have e9b : mAdd (mSplP (mNewLot (m41 M) nl (M 7 i)) i nl (mn i) j) nl j p 9 i = nI (mn i - (j + 1) + 1) := by
            rw [show mn i - (j + 1) + 1 = mn i - j by omega, ← e9]
            simp [mAdd, u2, hne]
          refine ⟨⟨by decide, by decide, by decide⟩, rfl, hM3.k, m0, _, i, 0, mn i - (j + 1), rfl, hM3, ⟨e9b, by omega, by omega, by omega⟩, fun w4 hM4 => ?_⟩
          have := ih (j + 1) w4 (by omega) (by rw [mSplP, e80, pN_n (by omega)]; exact hM4)
          rw [← nI_1] at this
          exact this
    exact key n 0 w2 (by omega) hM2
  · have h60 : nI nl = nI 60 := c
    have := (nI_eq (by omega) (by omega)).mp h60
    exact h2 (fun ⟨_, _, _, _, _, _, _, z⟩ => by omega) _ hM
def mJoinP (M : Ms) (a b ma : Nat) : Nat → Ms
  | 0 => M
  | i + 1 => mAdd (mJoinP M a b ma i) a (ma + i) (pN (M 8 (300 * b + i)))
theorem mJoinP_in {M : Ms} {a b ma mb : Nat} (hab : a ≠ b) (h9 : M 9 a = nI ma) (h9b : M 9 b = nI mb) (hm : ma + mb ≤ 300) : ∀ i, i ≤ mb → mJoinP M a b ma i 9 a = nI (ma + i) ∧ mJoinP M a b ma i 9 b = nI mb ∧ ∀ j, j < 300 → mJoinP M a b ma i 8 (300 * b + j) = M 8 (300 * b + j)
  | 0, _ => ⟨h9, h9b, fun j _ => rfl⟩
  | i + 1, hi => by
    obtain ⟨e1, e2, e3⟩ := mJoinP_in hab h9 h9b hm i (by omega)
    refine ⟨?_, ?_, fun j hj => ?_⟩
    · rw [mJoinP]
      simp [mAdd, u2, Nat.add_assoc]
    · rw [mJoinP, ← e2]
      simp [mAdd, u2, Ne.symm hab]
    · rw [mJoinP, ← e3 j hj]
      have : 300 * b + j ≠ 300 * a + (ma + i) := by omega
      simp [mAdd, u2, this]
def mJoin (M : Ms) (a b ma mb : Nat) : Ms := u2 (mJoinP (m41 M) a b ma mb) 9 b 0
def okJoin (M : Ms) (nl : Nat) (x y : Int32) (a b : Nat) : Prop := (a < nl ∧ x = nI a ∧ M 10 a = 0) ∧ (b < nl ∧ y = nI b ∧ M 10 b = 0) ∧ a ≠ b ∧ M 7 a = M 7 b
def sp_join : Sp := fun as w K => ∃ m0 M x y nl, ∃ mn : Nat → Nat, as = [.ref m0, .int x, .int y] ∧ RM m0 M w ∧ (M 16 0 = nI nl ∧ nl ≤ 60) ∧ (∀ j, j < nl → M 9 j = nI (mn j) ∧ mn j ≤ 300 ∧ ∀ i, i < mn j → ∃ p, p < 300 ∧ M 8 (300 * j + i) = nI p) ∧ (∀ a b, a < nl → b < nl → a ≠ b → mn a + mn b ≤ 300) ∧
  (∀ a b, okJoin M nl x y a b → ∀ w', RM m0 (mJoin M a b (mn a) (mn b)) w' → K (some (.int (nI (mn a + mn b)))) w') ∧ ((¬ ∃ a b, okJoin M nl x y a b) → ∀ w', RM m0 (m41 M) w' → K (some (.int (-1))) w')
theorem c_mjoin (l : Launch) : Ct l 93 4 0 0 sp_join := by
  have hev : ∀ (k : Nat) (r : Nat × Nat × Nat × Sp), evL [(90, 3, 0, 0, sp_isHere), (88, 1, 0, 0, sp_add)] k = some r → Ct l k r.1 r.2.1 r.2.2.1 r.2.2.2 := evL_ok (by simpa using ⟨c_isHere l, c_add l⟩)
  refine ct_jd (by decide) rfl (fun as w Po hq => ?_)
  obtain ⟨m0, M, x, y, nl, mn, rfl, hM, ⟨hn, hn2⟩, hrow, hsum, h1, h2⟩ := hq
  refine ⟨Nat.le_of_ble_eq_true rfl, ?_⟩
  refine jd_s cdo_93 hev [45] 60 z00 ?_
  refine ⟨hM.k, ?_⟩
  have hM := hM.si 41 rfl 0
  have hM : RM m0 (m41 M) _ := hM
  refine ⟨⟨by decide, by decide, by decide⟩, rfl, hM.k, m0, _, x, nl, rfl, hM, ⟨hn, hn2⟩, fun a ha hx hwa => br1 ?_, fun c => br0 (h2 (fun ⟨a, _, z⟩ => c ⟨a, z.1⟩) _ hM)⟩
  refine ⟨⟨by decide, by decide, by decide⟩, rfl, hM.k, m0, _, y, nl, rfl, hM, ⟨hn, hn2⟩, fun b hb hy hwb => br1 ?_, fun c => br0 (h2 (fun ⟨_, b, z⟩ => c ⟨b, z.2.1⟩) _ hM)⟩
  subst hx
  subst hy
  have only : ∀ a' b', okJoin M nl (nI a) (nI b) a' b' → a' = a ∧ b' = b := fun a' b' z => ⟨((nI_eq (by omega) (by have := z.1.1; omega)).mp z.1.2.1).symm, ((nI_eq (by omega) (by have := z.2.1.1; omega)).mp z.2.1.2.1).symm⟩
  refine ⟨fun c => ?_, fun c => ?_⟩
  · exact h2 (fun ⟨a', b', z⟩ => by
      obtain ⟨rfl, rfl⟩ := only a' b' z
      exact z.2.2.1 ((nI_eq (by omega) (by omega)).mp c)) _ hM
  have hab : a ≠ b := fun z => c (by rw [z])
  refine ⟨hM.k, _, hM.rf _ rfl, hM.kd _ rfl, a, _, hM.ix _ rfl rfl (show a < 60 by omega), hM.rd _ rfl a, hM.k, _, hM.rf _ rfl, hM.kd _ rfl, b, _, hM.ix _ rfl rfl (show b < 60 by omega), hM.rd _ rfl b, fun c => ?_, fun c => ?_⟩
  · obtain ⟨h9, hm3, h8⟩ := hrow a ha
    obtain ⟨h9b, hm3b, h8b⟩ := hrow b hb
    have hs := hsum a b ha hb hab
    have inv := mJoinP_in (M := m41 M) (a := a) (b := b) (ma := mn a) (mb := mn b) hab h9 h9b hs
    have key : ∀ d j w', j + d = mn b → RM m0 (mJoinP (m41 M) a b (mn a) j) w' → Jd l 93 4 0 0 (some .int) Po 45 [(3, .int (nI j)), (0, .ref m0), (1, .int (nI a)), (2, .int (nI b))] [] w' 0 0 := by
      intro d
      induction d with
      | zero =>
        intro j w' hj hM
        obtain rfl : j = mn b := by omega
        obtain ⟨e9, e9b, e8⟩ := inv (mn b) (Nat.le_refl _)
        refine jd_s cdo_93 hev [] 40 z00 ?_
        refine ⟨hM.k, _, hM.rf _ rfl, hM.kd _ rfl, b, _, hM.ix _ rfl rfl (show b < 60 by omega), (hM.rd _ rfl b).trans e9b, fun c2 => ?_, fun c2 => absurd (nI_le (Nat.le_refl _) (by omega)) c2⟩
        refine ⟨hM.k, _, hM.rf _ rfl, hM.kd _ rfl, b, hM.ix _ rfl rfl (show b < 60 by omega), ?_⟩
        have hM := hM.sa 9 rfl b 0
        refine ⟨hM.k, _, hM.rf _ rfl, hM.kd _ rfl, a, _, hM.ix _ rfl rfl (show a < 60 by omega), (hM.rd _ rfl a).trans (show _ = nI (mn a + mn b) from by rw [← e9]; simp [u2, hab]), ?_⟩
        exact h1 a b ⟨⟨ha, rfl, hwa⟩, ⟨hb, rfl, hwb⟩, hab, c⟩ _ hM
      | succ d ih =>
        intro j w' hj hM
        obtain ⟨e9, e9b, e8⟩ := inv j (by omega)
        obtain ⟨p, hp, ep⟩ := h8b j (by omega)
        refine jd_s cdo_93 hev [45] 60 z00 ?_
        refine ⟨hM.k, _, hM.rf _ rfl, hM.kd _ rfl, b, _, hM.ix _ rfl rfl (show b < 60 by omega), (hM.rd _ rfl b).trans e9b, fun c2 => ?_, fun c2 => ?_⟩
        · have := ge_n (by omega) (by omega) c2
          omega
        · refine ⟨hM.k, _, hM.rf _ rfl, hM.kd _ rfl, 300 * b + j, _, hM.ix _ rfl (by rw [n300, nI_add]) (show 300 * b + j < 18000 by omega), (hM.rd _ rfl _).trans ((e8 j (by omega)).trans ep), ?_⟩
          refine ⟨⟨by decide, by decide, by decide⟩, rfl, hM.k, m0, _, a, mn a + j, p, rfl, hM, ⟨e9, by omega, by omega, hp⟩, fun w3 hM3 => ?_⟩
          have ep' : m41 M 8 (300 * b + j) = nI p := ep
          have := ih (j + 1) w3 (by omega) (by rw [mJoinP, ep', pN_n (by omega)]; exact hM3)
          rw [← nI_1] at this
          exact this
    exact key (mn b) 0 _ (by omega) hM
  · exact h2 (fun ⟨a', b', z⟩ => by
      obtain ⟨rfl, rfl⟩ := only a' b' z
      exact c z.2.2.2) _ hM
end
section
/-! small numbers as sets of places -/
def us (x y : Int32) : Int32 := (x.toUInt32 >>> (y.toUInt32 &&& Int32.toUInt32 31)).toInt32
def bcF (x : Int32) : Int32 :=
  (fun i1 : Int32 => (fun i2 : Int32 => (fun i3 : Int32 => (fun i4 : Int32 => (fun i5 : Int32 => i5 &&& 63) (i4 + us i4 16)) (i3 + us i3 8)) ((i2 + us i2 4) &&& 252645135)) ((i1 &&& 858993459) + (us i1 2 &&& 858993459))) (x - (us x 1 &&& 1431655765))
/-- how many places -/
def bc (s : Nat) : Nat := cn (fun i => s.testBit i) 10
set_option maxRecDepth 100000 in
theorem bcF_ok : ∀ s, s < 1024 → bcF (nI s) = nI (bc s) := by decide +kernel
def sp_bitCount : Sp := fun as w K => ∃ s, as = [.int (nI s)] ∧ s < 1024 ∧ K (some (.int (nI (bc s)))) w
set_option maxRecDepth 100000 in
theorem c_bitCount (l : Launch) : Ct l 114 1 0 0 sp_bitCount := by
  refine ct_jd (by decide) rfl (fun as w Po h => ?_)
  obtain ⟨s, rfl, hs, h⟩ := h
  rw [← bcF_ok s hs] at h
  refine ⟨Nat.le_of_ble_eq_true rfl, ?_⟩
  generalize nI s = x at h
  refine jd_run cdo_114 ev0 60 z00 ?_
  exact h
/-- the first place -/
def tz (s : Nat) : Nat := ((List.range 10).find? (fun i => s.testBit i)).getD 0
set_option maxRecDepth 100000 in
theorem tz_ok : ∀ s, s < 1024 → 0 < s → tz s < 10 ∧ s.testBit (tz s) = true := by decide +kernel
def ntE (n i : Int32) : Int32 := n + us i 1
def ntD (n i : Int32) : Int32 := if 4 < i then ntE (n + 2) (us i 2) else ntE n i
def ntC (n i : Int32) : Int32 := if 16 < i then ntD (n + 4) (us i 4) else ntD n i
def ntB (n i : Int32) : Int32 := if 256 < i then ntC (n + 8) (us i 8) else ntC n i
def ntA (n i : Int32) : Int32 := if 65536 < i then ntB (n + 16) (us i 16) else ntB n i
def ntF (x : Int32) : Int32 := if 0 < ((x ^^^ (-1)) &&& (x - 1)) then ntA 1 ((x ^^^ (-1)) &&& (x - 1)) else ((x ^^^ (-1)) &&& (x - 1)) &&& 32
set_option maxRecDepth 100000 in
theorem ntF_ok : ∀ s, s < 1024 → 0 < s → ntF (nI s) = nI (tz s) := by decide +kernel
def sp_ntz : Sp := fun as w K => ∃ s, as = [.int (nI s)] ∧ s < 1024 ∧ 0 < s ∧ K (some (.int (nI (tz s)))) w
theorem c_ntz (l : Launch) : Ct l 117 1 0 0 sp_ntz := by
  refine ct_jd (by decide) rfl (fun as w Po h => ?_)
  obtain ⟨s, rfl, hs, hs0, h⟩ := h
  rw [← ntF_ok s hs hs0] at h
  refine ⟨Nat.le_of_ble_eq_true rfl, ?_⟩
  generalize nI s = x at h
  have a74 : ∀ n i, Po (some (.int (ntE n i))) w → Jd l 117 1 0 0 (some .int) Po 74 [(1, .int n), (0, .int i)] [] w 0 0 := fun n i h => jd_s cdo_117 ev0 [] 20 z00 h
  have a62 : ∀ n i, Po (some (.int (ntD n i))) w → Jd l 117 1 0 0 (some .int) Po 62 [(1, .int n), (0, .int i)] [] w 0 0 := by
    intro n i h
    refine jd_s cdo_117 ev0 [74] 20 z00 ⟨fun c => a74 _ _ ?_, fun c => jd_pk [1, 0] (a74 _ _ ?_)⟩
    · rw [ntD, if_neg (le_nlt c)] at h; exact h
    · rw [ntD, if_pos (nle_lt c)] at h; exact h
  have a49 : ∀ n i, Po (some (.int (ntC n i))) w → Jd l 117 1 0 0 (some .int) Po 49 [(1, .int n), (0, .int i)] [] w 0 0 := by
    intro n i h
    refine jd_s cdo_117 ev0 [62] 20 z00 ⟨fun c => a62 _ _ ?_, fun c => jd_pk [1, 0] (a62 _ _ ?_)⟩
    · rw [ntC, if_neg (le_nlt c)] at h; exact h
    · rw [ntC, if_pos (nle_lt c)] at h; exact h
  have a34 : ∀ n i, Po (some (.int (ntB n i))) w → Jd l 117 1 0 0 (some .int) Po 34 [(1, .int n), (0, .int i)] [] w 0 0 := by
    intro n i h
    refine jd_s cdo_117 ev0 [49] 20 z00 ⟨fun c => a49 _ _ ?_, fun c => jd_pk [1, 0] (a49 _ _ ?_)⟩
    · rw [ntB, if_neg (le_nlt c)] at h; exact h
    · rw [ntB, if_pos (nle_lt c)] at h; exact h
  refine jd_s cdo_117 ev0 [34] 30 z00 ⟨fun c => ?_, fun c => ?_⟩
  · rw [ntF, if_pos c] at h
    refine ⟨fun c2 => a34 _ _ ?_, fun c2 => jd_pk [1, 0] (a34 _ _ ?_)⟩
    · rw [ntA, if_neg (le_nlt c2)] at h; exact h
    · rw [ntA, if_pos (nle_lt c2)] at h; exact h
  · rw [ntF, if_neg c] at h
    exact h
end
section
/-! matchings: wheels to places -/
/-- the wheels of ws can have places of os, one each, that g allows -/
def Mt (g : Nat → Nat) (ws os : Nat) : Prop := ∃ f : Nat → Nat, (∀ w, ws.testBit w = true → (g w).testBit (f w) = true ∧ os.testBit (f w) = true) ∧ ∀ w v, ws.testBit w = true → ws.testBit v = true → f w = f v → w = v
theorem Mt_0 (g : Nat → Nat) (os : Nat) : Mt g 0 os := ⟨fun _ => 0, fun w h => by simp at h, fun w v h => by simp at h⟩
theorem xb (a w i : Nat) : (a ^^^ 2 ^ w).testBit i = (a.testBit i ^^ decide (w = i)) := by rw [Nat.testBit_xor, Nat.testBit_two_pow]
theorem xb_ne {a w i : Nat} (h : w ≠ i) : (a ^^^ 2 ^ w).testBit i = a.testBit i := by rw [xb]; simp [h]
theorem xb_eq {a w : Nat} (h : a.testBit w = true) : (a ^^^ 2 ^ w).testBit w = false := by rw [xb]; simp [h]
theorem Mt_step {g : Nat → Nat} {ws os w : Nat} (hw : ws.testBit w = true) : Mt g ws os ↔ ∃ o, (g w).testBit o = true ∧ os.testBit o = true ∧ Mt g (ws ^^^ 2 ^ w) (os ^^^ 2 ^ o) := by
  constructor
  · rintro ⟨f, h1, h2⟩
    refine ⟨f w, (h1 w hw).1, (h1 w hw).2, f, fun v hv => ?_, fun v u hv hu e => ?_⟩
    · have hne : w ≠ v := by
        intro z
        subst z
        rw [xb_eq hw] at hv
        cases hv
      rw [xb_ne hne] at hv
      have hf : f w ≠ f v := fun z => hne (h2 w v hw hv z)
      rw [xb_ne hf]
      exact h1 v hv
    · have hv' : ws.testBit v = true := by
        by_cases z : w = v
        · subst z; exact hw
        · rw [xb_ne z] at hv; exact hv
      have hu' : ws.testBit u = true := by
        by_cases z : w = u
        · subst z; exact hw
        · rw [xb_ne z] at hu; exact hu
      exact h2 v u hv' hu' e
  · rintro ⟨o, hg, ho, f, h1, h2⟩
    have key : ∀ v, ws.testBit v = true → v ≠ w → (ws ^^^ 2 ^ w).testBit v = true := fun v hv hne => by rw [xb_ne (Ne.symm hne)]; exact hv
    have off : ∀ v, ws.testBit v = true → v ≠ w → f v ≠ o := fun v hv hne z => by
      have := (h1 v (key v hv hne)).2
      rw [z, xb_eq ho] at this
      cases this
    refine ⟨fun v => if v = w then o else f v, fun v hv => ?_, fun v u hv hu e => ?_⟩
    · by_cases z : v = w
      · subst z; simp [hg, ho]
      · have h3 := h1 v (key v hv z)
        have h4 := off v hv z
        rw [xb_ne (Ne.symm h4)] at h3
        simp [z, h3]
    · by_cases z : v = w
      · by_cases z2 : u = w
        · rw [z, z2]
        · simp [z, z2] at e
          exact absurd e.symm (off u hu z2)
      · by_cases z2 : u = w
        · simp [z, z2] at e
          exact absurd e (off v hv z)
        · simp [z, z2] at e
          exact h2 v u (key v hv z) (key u hu z2) e
theorem nI_xor (a b : Nat) : nI a ^^^ nI b = nI (a ^^^ b) := by
  apply Int32.toBitVec_inj.mp
  apply BitVec.eq_of_toNat_eq
  simp [nI, Nat.xor_mod_two_pow]
theorem nI_and (a b : Nat) : nI a &&& nI b = nI (a &&& b) := by
  apply Int32.toBitVec_inj.mp
  apply BitVec.eq_of_toNat_eq
  simp [nI, Nat.and_mod_two_pow]
theorem nI_or (a b : Nat) : nI a ||| nI b = nI (a ||| b) := by
  apply Int32.toBitVec_inj.mp
  apply BitVec.eq_of_toNat_eq
  simp [nI, Nat.or_mod_two_pow]
theorem sh1 : ∀ w, w < 31 → (1 : Int32) <<< (nI w &&& 31) = nI (2 ^ w) := by decide +kernel
set_option maxRecDepth 100000 in
theorem lowb : ∀ r, r < 1024 → 0 < r → nI r &&& -(nI r) = nI (2 ^ tz r) := by decide +kernel
set_option maxRecDepth 100000 in
theorem bc_0 : ∀ s, s < 1024 → bc s = 0 → s = 0 := by decide +kernel
set_option maxRecDepth 100000 in
theorem low_lt : ∀ r, r < 1024 → 0 < r → r ^^^ 2 ^ tz r < r := by decide +kernel
theorem x_lt {a b : Nat} (ha : a < 1024) (hb : b < 1024) : a ^^^ b < 1024 := Nat.xor_lt_two_pow (n := 10) ha hb
theorem p_lt {w : Nat} (h : w < 10) : 2 ^ w < 1024 := Nat.pow_lt_pow_right (by decide) h
theorem b_lt {s i : Nat} (hs : s < 1024) (h : s.testBit i = true) : i < 10 := by
  rcases Nat.lt_or_ge i 10 with q | q
  · exact q
  · have h2 : 2 ^ 10 ≤ 2 ^ i := Nat.pow_le_pow_right (show 0 < 2 by decide) q
    have : s < 2 ^ i := Nat.lt_of_lt_of_le hs h2
    rw [Nat.testBit_lt_two_pow this] at h
    cases h
theorem bc_x {s w : Nat} (hw : w < 10) (h : s.testBit w = true) : bc (s ^^^ 2 ^ w) + 1 = bc s := cn_flip (i := w) h (xb_eq h) (fun j hj => xb_ne (Ne.symm hj)) hw
end
section
/-! the reference: can -/
theorem n10 (l : Nat) : (10 : Int32) * nI l = nI (10 * l) := by rw [show (10 : Int32) = nI 10 from rfl, pk_mul]
/-- the rows of what goes with what: for plates (0) or stones (1) -/
def gwOK (M : Ms) (x : Nat) (g : Nat → Nat) : Prop := ∀ w, w < 10 → M 42 (10 * x + w) = nI (g w) ∧ g w < 1024
def sp_can (d : Nat) : Sp := fun as w K => ∃ m0 M x ws os, ∃ g : Nat → Nat, as = [.ref m0, .int (nI x), .int (nI ws), .int (nI os)] ∧ RM m0 M w ∧ (x < 2 ∧ ws < 1024 ∧ os < 1024 ∧ bc ws ≤ d) ∧ gwOK M x g ∧ (Mt g ws os → K (some (.int 1)) w) ∧ (¬ Mt g ws os → K (some (.int 0)) w)
theorem c_can (l : Launch) : ∀ d, Ct l 116 (2 + d) 0 0 (sp_can d) := by
  intro d
  induction d with
  | zero =>
    refine ct_jd (by decide) rfl (fun as w Po hq => ?_)
    obtain ⟨m0, M, x, ws, os, g, rfl, hM, ⟨hx, hws, hos, hb⟩, hg, h1, h2⟩ := hq
    refine ⟨Nat.le_of_ble_eq_true rfl, jd_run cdo_116 ev0 10 z00 ?_⟩
    have h0 : ws = 0 := bc_0 ws hws (by omega)
    subst h0
    exact ⟨fun z => absurd rfl z, fun _ => ⟨Or.inr rfl, h1 (Mt_0 g os)⟩⟩
  | succ d ihd =>
    have hev : ∀ (k : Nat) (r : Nat × Nat × Nat × Sp), evL [(117, 1, 0, 0, sp_ntz), (116, 2 + d, 0, 0, sp_can d)] k = some r → Ct l k r.1 r.2.1 r.2.2.1 r.2.2.2 := evL_ok (by simpa using ⟨c_ntz l, ihd⟩)
    refine ct_jd (by decide) rfl (fun as w Po hq => ?_)
    obtain ⟨m0, M, x, ws, os, g, rfl, hM, ⟨hx, hws, hos, hb⟩, hg, h1, h2⟩ := hq
    refine ⟨Nat.le_of_ble_eq_true rfl, ?_⟩
    rcases Nat.eq_zero_or_pos ws with h0 | hpos
    · subst h0
      refine jd_s cdo_116 hev [] 10 z00 ?_
      exact ⟨fun z => absurd rfl z, fun _ => ⟨Or.inr rfl, h1 (Mt_0 g os)⟩⟩
    · obtain ⟨ht, htb⟩ := tz_ok ws hws hpos
      have hne : ¬ nI ws = 0 := nI_ne0 hpos (by omega)
      obtain ⟨hg1, hg2⟩ := hg (tz ws) ht
      have key : ∀ (n r : Nat), r ≤ n → r < 1024 → (∀ j, r.testBit j = true → (g (tz ws)).testBit j = true ∧ os.testBit j = true) → (∀ j, (g (tz ws)).testBit j = true → os.testBit j = true → r.testBit j = true ∨ ¬ Mt g (ws ^^^ 2 ^ tz ws) (os ^^^ 2 ^ j)) → Jd l 116 (2 + (d + 1)) 0 0 (some .boolean) Po 28 [(5, .int (nI r)), (4, .int (nI (tz ws))), (0, .ref m0), (1, .int (nI x)), (2, .int (nI ws)), (3, .int (nI os))] [] w 0 0 := by
        intro n
        induction n with
        | zero =>
          intro r hr _ _ hall
          obtain rfl : r = 0 := by omega
          refine jd_s cdo_116 hev [] 10 z00 ?_
          refine ⟨fun _ => ⟨Or.inl rfl, h2 (fun z => ?_)⟩, fun z => absurd rfl z⟩
          obtain ⟨o, ho1, ho2, ho3⟩ := (Mt_step htb).mp z
          rcases hall o ho1 ho2 with q | q
          · simp at q
          · exact q ho3
        | succ n ih =>
          intro r hr hr2 hsub hall
          rcases Nat.eq_zero_or_pos r with h0 | hrp
          · subst h0
            refine jd_s cdo_116 hev [] 10 z00 ?_
            refine ⟨fun _ => ⟨Or.inl rfl, h2 (fun z => ?_)⟩, fun z => absurd rfl z⟩
            obtain ⟨o, ho1, ho2, ho3⟩ := (Mt_step htb).mp z
            rcases hall o ho1 ho2 with q | q
            · simp at q
            · exact q ho3
          · obtain ⟨hj, hjb⟩ := tz_ok r hr2 hrp
            have hlow := lowb r hr2 hrp
            have hlt := low_lt r hr2 hrp
            obtain ⟨hjg, hjo⟩ := hsub _ hjb
            have next := ih (r ^^^ 2 ^ tz r) (by omega) (x_lt hr2 (p_lt hj)) (fun j hjt => by
              by_cases z : tz r = j
              · subst z
                rw [xb_eq hjb] at hjt
                cases hjt
              · rw [xb_ne z] at hjt
                exact hsub j hjt)
            refine jd_s cdo_116 hev [28] 60 z00 ?_
            refine ⟨fun z => absurd z (nI_ne0 hrp (by omega)), fun _ => ?_⟩
            have harg : ([.ref m0, .int (nI x), .int (nI ws ^^^ ((1 : Int32) <<< (nI (tz ws) &&& 31))), .int (nI os ^^^ (nI r &&& -(nI r)))] : List Value) = [.ref m0, .int (nI x), .int (nI (ws ^^^ 2 ^ tz ws)), .int (nI (os ^^^ 2 ^ tz r))] := by rw [sh1 _ (by omega), hlow, nI_xor, nI_xor]
            refine ⟨⟨show 2 + d < 2 + (d + 1) by omega, show 0 + 0 ≤ 0 by decide, show 0 + 0 ≤ 0 by decide⟩, rfl, hM.k, m0, M, x, ws ^^^ 2 ^ tz ws, os ^^^ 2 ^ tz r, g, harg, hM, ⟨hx, x_lt hws (p_lt ht), x_lt hos (p_lt hj), by have := bc_x ht htb; omega⟩, hg, fun mt => br1 ⟨Or.inr rfl, h1 ((Mt_step htb).mpr ⟨tz r, hjg, hjo, mt⟩)⟩, fun nmt => br0 ?_⟩
            have next' := next (fun j a b => by
              by_cases z : tz r = j
              · subst z
                exact Or.inr nmt
              · rw [xb_ne z]
                exact hall j a b)
            rw [← nI_xor, ← hlow] at next'
            exact jd_pk [0, 2, 3, 4, 5, 6] next'
      refine jd_s cdo_116 hev [28] 40 z00 ?_
      refine ⟨fun _ => ?_, fun z => absurd z hne⟩
      refine ⟨⟨show 1 < 2 + (d + 1) by omega, show 0 + 0 ≤ 0 by decide, show 0 + 0 ≤ 0 by decide⟩, rfl, Nat.le_of_ble_eq_true rfl, ws, rfl, hws, hpos, ?_⟩
      refine ⟨hM.k, _, hM.rf _ rfl, hM.kd _ rfl, 10 * x + tz ws, _, hM.ix _ rfl (by rw [n10, nI_add]) (show 10 * x + tz ws < 20 by omega), (hM.rd _ rfl _).trans hg1, ?_⟩
      have hand := key 1024 (g (tz ws) &&& os) (by have := Nat.and_le_left (n := g (tz ws)) (m := os); omega) (by have := Nat.and_le_left (n := g (tz ws)) (m := os); omega) (fun j hj => by rw [Nat.testBit_and, Bool.and_eq_true] at hj; exact hj) (fun j a b => Or.inl (by rw [Nat.testBit_and, a, b]; rfl))
      rw [← nI_and] at hand
      exact hand
end
section
/-! the reference: firstFor, leave -/
theorem and_p (a i : Nat) : a &&& 2 ^ i = 0 ↔ a.testBit i = false := by
  constructor
  · intro h
    have h1 : (a &&& 2 ^ i).testBit i = false := by rw [h]; simp
    rw [Nat.testBit_and, Nat.testBit_two_pow] at h1
    simpa using h1
  · intro h
    apply Nat.eq_of_testBit_eq
    intro j
    rw [Nat.testBit_and, Nat.testBit_two_pow]
    by_cases hj : i = j
    · subst hj; simp [h]
    · simp [hj]
theorem sub1 (x : Int32) : x - 1 = x + (-1) := by rw [Int32.sub_eq_add_neg]
/-- the place i does for wheel w -/
def ffP (g : Nat → Nat) (w be os i : Nat) : Prop := (g w).testBit i = true ∧ os.testBit i = true ∧ Mt g be (os ^^^ 2 ^ i)
def sp_firstFor : Sp := fun as w K => ∃ m0 M x wh be os, ∃ g : Nat → Nat, as = [.ref m0, .int (nI x), .int (nI wh), .int (nI be), .int (nI os)] ∧ RM m0 M w ∧ (x < 2 ∧ wh < 10 ∧ be < 1024 ∧ os < 1024) ∧ gwOK M x g ∧ (∀ i, i < 10 → ffP g wh be os i → (∀ j, j < i → ¬ ffP g wh be os j) → K (some (.int (nI i))) w) ∧ ((¬ ∃ i, i < 10 ∧ ffP g wh be os i) → K (some (.int (-1))) w)
theorem bc_le (s : Nat) : bc s ≤ 10 := cn_le _ 10
theorem c_firstFor (l : Launch) : Ct l 119 13 0 0 sp_firstFor := by
  have hev : ∀ (k : Nat) (r : Nat × Nat × Nat × Sp), evL [(116, 12, 0, 0, sp_can 10)] k = some r → Ct l k r.1 r.2.1 r.2.2.1 r.2.2.2 := evL_ok (by simpa using c_can l 10)
  refine ct_jd (by decide) rfl (fun as w Po hq => ?_)
  obtain ⟨m0, M, x, wh, be, os, g, rfl, hM, ⟨hx, hwh, hbe, hos⟩, hg, h1, h2⟩ := hq
  refine ⟨Nat.le_of_ble_eq_true rfl, ?_⟩
  obtain ⟨hg1, hg2⟩ := hg wh hwh
  have key : ∀ d i, i + d = 10 → (∀ j, j < i → ¬ ffP g wh be os j) → Jd l 119 13 0 0 (some .int) Po 3 [(5, .int (nI i)), (0, .ref m0), (1, .int (nI x)), (2, .int (nI wh)), (3, .int (nI be)), (4, .int (nI os))] [] w 0 0 := by
    intro d
    induction d with
    | zero =>
      intro i hi hno
      obtain rfl : i = 10 := by omega
      refine jd_s cdo_119 hev [] 10 z00 ?_
      exact ⟨fun _ => h2 (fun ⟨j, hj, z⟩ => hno j hj z), fun c => absurd (Int32.le_refl _) c⟩
    | succ d ih =>
      intro i hi hno
      have hi10 : i < 10 := by omega
      have fin : ¬ ffP g wh be os i → Jd l 119 13 0 0 (some .int) Po 54 [(5, .int (nI i)), (0, .ref m0), (1, .int (nI x)), (2, .int (nI wh)), (3, .int (nI be)), (4, .int (nI os))] [] w 0 0 := by
        intro hn
        refine jd_s cdo_119 hev [3] 10 z00 ?_
        have := ih (i + 1) (by omega) (fun j hj => by
          by_cases z : j = i
          · subst z; exact hn
          · exact hno j (by omega))
        rw [← nI_1] at this
        exact this
      refine jd_s cdo_119 hev [54] 60 z00 ?_
      refine ⟨fun c => ?_, fun c => ?_⟩
      · have := ge_n (a := i) (b := 10) (by omega) (by omega) c
        omega
      · refine ⟨hM.k, _, hM.rf _ rfl, hM.kd _ rfl, 10 * x + wh, _, hM.ix _ rfl (by rw [n10, nI_add]) (show 10 * x + wh < 20 by omega), (hM.rd _ rfl _).trans hg1, ?_⟩
        have e : nI (g wh) &&& nI os &&& ((1 : Int32) <<< (nI i &&& 31)) = nI ((g wh &&& os) &&& 2 ^ i) := by rw [sh1 _ (by omega), nI_and, nI_and]
        have hb : ((g wh &&& os) &&& 2 ^ i) < 2147483648 := by
          have h3 := Nat.and_le_left (n := g wh &&& os) (m := 2 ^ i)
          have h4 := Nat.and_le_left (n := g wh) (m := os)
          omega
        refine ⟨fun c2 => ?_, fun c2 => ?_⟩
        · have c2 : ¬ nI ((g wh &&& os) &&& 2 ^ i) = 0 := fun z => c2 (e.trans z)
          have hbit : (g wh &&& os).testBit i = true := by
            cases hq : (g wh &&& os).testBit i with
            | true => rfl
            | false => exact absurd (show nI ((g wh &&& os) &&& 2 ^ i) = 0 by rw [(and_p _ _).mpr hq]; rfl) c2
          rw [Nat.testBit_and, Bool.and_eq_true] at hbit
          have harg : ([.ref m0, .int (nI x), .int (nI be), .int (nI os ^^^ ((1 : Int32) <<< (nI i &&& 31)))] : List Value) = [.ref m0, .int (nI x), .int (nI be), .int (nI (os ^^^ 2 ^ i))] := by rw [sh1 _ (by omega), nI_xor]
          refine ⟨⟨by decide, by decide, by decide⟩, rfl, hM.k, m0, M, x, be, os ^^^ 2 ^ i, g, harg, hM, ⟨hx, hbe, x_lt hos (p_lt hi10), bc_le be⟩, hg, fun mt => br1 (h1 i hi10 ⟨hbit.1, hbit.2, mt⟩ hno), fun nmt => br0 (fin (fun z => nmt z.2.2))⟩
        · have c2 : nI ((g wh &&& os) &&& 2 ^ i) = 0 := e.symm.trans c2
          refine fin (fun z => ?_)
          have h5 : ((g wh &&& os) &&& 2 ^ i) = 0 := (nI_eq hb (by decide)).mp c2
          have h6 := (and_p _ _).mp h5
          rw [Nat.testBit_and, z.1, z.2.1] at h6
          cases h6
  refine jd_s cdo_119 hev [3] 10 z00 ?_
  exact key 10 0 (by omega) (fun j hj => absurd hj (Nat.not_lt_zero _))
theorem sh31 : ∀ i, i < 10 → ((nI i &&& 31).toBitVec.smod 32).toNat = i := by decide +kernel
theorem bitI {s i : Nat} (hs : s < 1024) (hi : i < 10) : (nI s >>> (nI i &&& 31)) &&& 1 = (if s.testBit i = true then 1 else 0) := by
  rw [pk_shrN (by omega) _ i (sh31 i hi), pk_andN (m := 1) (by have := Nat.div_le_self s (2 ^ i); omega) 1 (by decide), Nat.testBit_eq_decide_div_mod_eq]
  rcases Nat.mod_two_eq_zero_or_one (s / 2 ^ i) with h | h <;> simp [h] <;> rfl
/-- the row of lot l without the places of s below i, from the last on; c: how many it has now -/
def mLvP (l s : Nat) : Nat → Nat → Ms → Ms
  | 0, _, M => M
  | i + 1, c, M => if s.testBit i = true then mLvP l s i (c - 1) (mTake M l i (c - 1)) else mLvP l s i c M
def sp_leave : Sp := fun as w K => ∃ m0 M l s m, as = [.ref m0, .int (nI l), .int (nI s)] ∧ RM m0 M w ∧ (l < 60 ∧ s < 1024 ∧ m ≤ 10 ∧ M 9 l = nI m) ∧ ∀ w', RM m0 (mLvP l s m m M) w' → K none w'
theorem c_leave (l : Launch) : Ct l 120 2 0 0 sp_leave := by
  have hev : ∀ (k : Nat) (r : Nat × Nat × Nat × Sp), evL [(92, 1, 0, 0, sp_take)] k = some r → Ct l k r.1 r.2.1 r.2.2.1 r.2.2.2 := evL_ok (by simpa using c_take l)
  refine ct_jd (by decide) rfl (fun as w Po hq => ?_)
  obtain ⟨m0, M, lo, s, m, rfl, hM, ⟨hl, hs, hm, h9⟩, h⟩ := hq
  refine ⟨Nat.le_of_ble_eq_true rfl, ?_⟩
  have key : ∀ i c N w', i ≤ c → c ≤ 10 → N 9 lo = nI c → RM m0 N w' → (∀ w2, RM m0 (mLvP lo s i c N) w2 → Po none w2) → Jd l 120 2 0 0 none Po 9 [(3, .int (nI i - 1)), (0, .ref m0), (1, .int (nI lo)), (2, .int (nI s))] [] w' 0 0 := by
    intro i
    induction i with
    | zero =>
      intro c N w' _ _ _ hM hk
      refine jd_s cdo_120 hev [] 10 z00 ?_
      exact ⟨fun _ => hk _ hM, fun c => absurd (show nI 0 - 1 < 0 by decide) c⟩
    | succ i ih =>
      intro c N w' hic hc h9 hM hk
      rw [nI_pred]
      rw [mLvP] at hk
      refine jd_s cdo_120 hev [9] 40 z00 ?_
      refine ⟨fun c => absurd c (nI_pos (by omega)), fun _ => ?_⟩
      have hb := bitI hs (show i < 10 by omega)
      refine ⟨fun c2 => ?_, fun c2 => ?_⟩
      · have hf : ¬ s.testBit i = true := fun z => c2 (by rw [hb, if_pos z])
        rw [if_neg hf] at hk
        have := ih c N w' (by omega) hc h9 hM hk
        rw [sub1] at this
        exact this
      · have ht : s.testBit i = true := by
          by_cases z : s.testBit i = true
          · exact z
          · have c2 : (nI s >>> (nI i &&& 31)) &&& 1 = 1 := c2
            rw [hb, if_neg z] at c2
            exact absurd c2 (by decide)
        rw [if_pos ht] at hk
        refine ⟨⟨by decide, by decide, by decide⟩, rfl, hM.k, m0, N, lo, i, c - 1, rfl, hM, ⟨by rw [show c - 1 + 1 = c by omega]; exact h9, by omega, by omega, hl⟩, fun w2 hM2 => ?_⟩
        have := ih (c - 1) _ w2 (by omega) (by omega) (by simp [mTake, mTakeK]) hM2 hk
        rw [sub1] at this
        exact this
  refine jd_s cdo_120 hev [9] 20 z00 ?_
  refine ⟨hM.k, _, hM.rf _ rfl, hM.kd _ rfl, lo, _, hM.ix _ rfl rfl hl, (hM.rd _ rfl lo).trans h9, ?_⟩
  exact key m m M w (Nat.le_refl _) hm h9 hM h
end
section
/-! the reference: taken: what goes with what -/
def fitb (M : Ms) (p q k : Nat) : Bool := decide (M 36 k ≤ M 1 p - M 1 q) && decide (M 1 p - M 1 q ≤ M 37 k)
theorem fitb_iff {M : Ms} {p q k : Nat} : fitb M p q k = true ↔ fitB M p q k := by simp [fitb, fitB]
/-- the places below n that are so -/
def mkM (p : Nat → Bool) : Nat → Nat
  | 0 => 0
  | n + 1 => mkM p n ||| (if p n = true then 2 ^ n else 0)
theorem mkM_bit (p : Nat → Bool) (i : Nat) : ∀ n, (mkM p n).testBit i = (decide (i < n) && p i)
  | 0 => by simp [mkM]
  | n + 1 => by
    rw [mkM, Nat.testBit_or, mkM_bit p i n]
    by_cases h : p n = true
    · rw [if_pos h, Nat.testBit_two_pow]
      by_cases hi : n = i
      · subst hi; simp [h]
      · have e : decide (i < n + 1) = decide (i < n) := by
          apply decide_eq_decide.mpr
          omega
        simp [hi, e]
    · rw [if_neg h]
      by_cases hi : n = i
      · subst hi; simp [h]
      · have e : decide (i < n + 1) = decide (i < n) := by
          apply decide_eq_decide.mpr
          omega
        simp [e]
theorem mkM_lt (p : Nat → Bool) : ∀ n, n ≤ 10 → mkM p n < 1024
  | 0, _ => (by decide : 0 < 1024)
  | n + 1, h => by
    rw [mkM]
    refine Nat.or_lt_two_pow (n := 10) (mkM_lt p n (by omega)) ?_
    split
    · exact p_lt (by omega)
    · decide
theorem mkM_cong {p q : Nat → Bool} : ∀ {n : Nat}, (∀ i, i < n → p i = q i) → mkM p n = mkM q n
  | 0, _ => rfl
  | n + 1, h => by rw [mkM, mkM, mkM_cong (fun i hi => h i (by omega)), h n (by omega)]
/-- the piece at place i of lot l -/
def prN (M : Ms) (l i : Nat) : Nat := pN (M 8 (300 * l + i))
def gPl (M : Ms) (a b ma w : Nat) : Nat := mkM (fun i => fitb M (prN M a i) (prN M b w) 0) ma
def gSt (M : Ms) (b c mc w : Nat) : Nat := mkM (fun i => fitb M (prN M b w) (prN M c i) 1) mc
def mGw (M : Ms) (a b c ma mc : Nat) : Nat → Ms
  | 0 => M
  | w + 1 => u2 (u2 (mGw M a b c ma mc w) 42 w (nI (gPl M a b ma w))) 42 (10 + w) (nI (gSt M b c mc w))
theorem mGw_ot (M : Ms) (a b c ma mc f i : Nat) (hf : f ≠ 42) : ∀ w, mGw M a b c ma mc w f i = M f i
  | 0 => rfl
  | w + 1 => by rw [mGw, u2_ne hf, u2_ne hf, mGw_ot M a b c ma mc f i hf w]
theorem mGw_0 (M : Ms) (a b c ma mc v : Nat) : ∀ w, w ≤ 10 → v < w → mGw M a b c ma mc w 42 v = nI (gPl M a b ma v)
  | 0, _, h => absurd h (Nat.not_lt_zero _)
  | w + 1, hw, h => by
    rw [mGw]
    by_cases hv : v = w
    · subst hv
      simp [u2]
    · have h1 := mGw_0 M a b c ma mc v w (by omega) (by omega)
      have : v ≠ 10 + w := by omega
      simp [u2, hv, this, h1]
theorem mGw_1 (M : Ms) (a b c ma mc v : Nat) : ∀ w, w ≤ 10 → v < w → mGw M a b c ma mc w 42 (10 + v) = nI (gSt M b c mc v)
  | 0, _, h => absurd h (Nat.not_lt_zero _)
  | w + 1, hw, h => by
    rw [mGw]
    by_cases hv : v = w
    · subst hv
      simp [u2]
    · have h1 := mGw_1 M a b c ma mc v w (by omega) (by omega)
      have h2 : 10 + v ≠ w := by omega
      simp [u2, hv, h2, h1]
/-! which set stands first -/
theorem xor0 {a b : Nat} (h : a ^^^ b = 0) : a = b := by
  apply Nat.eq_of_testBit_eq
  intro i
  have h1 : (a ^^^ b).testBit i = false := by rw [h]; simp
  rw [Nat.testBit_xor] at h1
  simpa using h1
def ahd (a b : Nat) : Prop := ∃ d, a.testBit d = true ∧ b.testBit d = false ∧ ∀ j, j < d → a.testBit j = b.testBit j
theorem ahd_tr {a b c : Nat} (h1 : ahd a b) (h2 : ahd b c) : ahd a c := by
  obtain ⟨d, x1, x2, x3⟩ := h1
  obtain ⟨e, y1, y2, y3⟩ := h2
  rcases Nat.lt_trichotomy d e with h | h | h
  · exact ⟨d, x1, by rw [← y3 d h]; exact x2, fun j hj => (x3 j hj).trans (y3 j (by omega))⟩
  · subst h
    rw [x2] at y1
    cases y1
  · exact ⟨e, by rw [x3 e h]; exact y1, y2, fun j hj => (x3 j (by omega)).trans (y3 j hj)⟩
set_option maxRecDepth 100000 in
theorem tz_lo : ∀ x, x < 1024 → ∀ j, j < tz x → x.testBit j = false := by decide +kernel
theorem ahd_or {a b : Nat} (ha : a < 1024) (hb : b < 1024) (hne : a ≠ b) : (a.testBit (tz (a ^^^ b)) = true ∧ ahd a b) ∨ (a.testBit (tz (a ^^^ b)) = false ∧ ahd b a) := by
  have hx : a ^^^ b < 1024 := x_lt ha hb
  have hp : 0 < a ^^^ b := by
    rcases Nat.eq_zero_or_pos (a ^^^ b) with z | z
    · exact absurd (xor0 z) hne
    · exact z
  obtain ⟨-, hbit⟩ := tz_ok _ hx hp
  have hlo := tz_lo _ hx
  rw [Nat.testBit_xor] at hbit
  have hag : ∀ j, j < tz (a ^^^ b) → a.testBit j = b.testBit j := fun j hj => by
    have := hlo j hj
    rw [Nat.testBit_xor] at this
    simpa using this
  cases hA : a.testBit (tz (a ^^^ b)) with
  | true =>
    rw [hA] at hbit
    exact Or.inl ⟨rfl, _, hA, by simpa using hbit, hag⟩
  | false =>
    rw [hA] at hbit
    exact Or.inr ⟨rfl, _, by simpa using hbit, hA, fun j hj => (hag j hj).symm⟩
theorem ahd_ne {a b : Nat} (h : ahd a b) : a ≠ b := fun z => by
  obtain ⟨d, x1, x2, -⟩ := h
  rw [z, x2] at x1
  cases x1
theorem ahd_as {a b : Nat} (h : ahd a b) (h2 : ahd b a) : False := ahd_ne (ahd_tr h h2) rfl
/-- t is no better than B -/
def nob (t B : Nat) : Prop := bc t < bc B ∨ (bc t = bc B ∧ (t = B ∨ ahd B t))
theorem ahI {a b : Nat} (ha : a < 1024) (hb : b < 1024) : (¬ (nI a ^^^ nI b) = 0 ∧ ¬ (nI a &&& (nI a ^^^ nI b) &&& -(nI a ^^^ nI b)) = 0) ↔ ahd a b := by
  have hx : a ^^^ b < 1024 := x_lt ha hb
  rw [nI_xor]
  by_cases hne : a = b
  · subst hne
    constructor
    · intro h
      exact absurd (show nI (a ^^^ a) = 0 by rw [Nat.xor_self]; rfl) h.1
    · intro h
      exact absurd rfl (ahd_ne h)
  · have hp : 0 < a ^^^ b := by
      rcases Nat.eq_zero_or_pos (a ^^^ b) with z | z
      · exact absurd (xor0 z) hne
      · exact z
    have e : nI a &&& nI (a ^^^ b) &&& -(nI (a ^^^ b)) = nI (a &&& 2 ^ tz (a ^^^ b)) := by
      rw [Int32.and_assoc, lowb _ hx hp, nI_and]
    rw [e]
    have hlt : a &&& 2 ^ tz (a ^^^ b) < 2147483648 := by
      have := Nat.and_le_left (n := a) (m := 2 ^ tz (a ^^^ b))
      omega
    have e2 : nI (a &&& 2 ^ tz (a ^^^ b)) = 0 ↔ a.testBit (tz (a ^^^ b)) = false := by
      rw [← and_p]
      exact nI_eq hlt (by decide)
    rw [e2]
    rcases ahd_or ha hb hne with ⟨q1, q2⟩ | ⟨q1, q2⟩
    · exact ⟨fun _ => q2, fun _ => ⟨nI_ne0 hp (by omega), by rw [q1]; simp⟩⟩
    · exact ⟨fun z => absurd q1 z.2, fun z => (ahd_as z q2).elim⟩
end
section
/-! the reference: taken -/
def okR (M : Ms) (l m k : Nat) : Prop := M 9 l = nI m ∧ m ≤ 10 ∧ l < 60 ∧ ∀ i, i < m → M 8 (300 * l + i) = nI (prN M l i) ∧ prN M l i < 300 ∧ M 0 (prN M l i) = nI k
def G42 (M : Ms) : Prop := ∀ i, i < 20 → M 42 i = nI (pN (M 42 i)) ∧ pN (M 42 i) < 1024
def good (M : Ms) (a b c ma mc t : Nat) : Prop := Mt (gPl M a b ma) t (2 ^ ma - 1) ∧ Mt (gSt M b c mc) t (2 ^ mc - 1)
def isB (M : Ms) (a b c ma mb mc B : Nat) : Prop := B < 2 ^ mb ∧ good M a b c ma mc B ∧ ∀ t, t < 2 ^ mb → good M a b c ma mc t → nob t B
theorem Mt_cong {g g' : Nat → Nat} {ws os : Nat} (h : ∀ w, ws.testBit w = true → g w = g' w) : Mt g ws os ↔ Mt g' ws os := by
  constructor
  · rintro ⟨f, h1, h2⟩
    exact ⟨f, fun w hw => by rw [← h w hw]; exact h1 w hw, h2⟩
  · rintro ⟨f, h1, h2⟩
    exact ⟨f, fun w hw => by rw [h w hw]; exact h1 w hw, h2⟩
theorem bl_lt {t m w : Nat} (ht : t < 2 ^ m) (h : t.testBit w = true) : w < m := by
  rcases Nat.lt_or_ge w m with q | q
  · exact q
  · have h2 : 2 ^ m ≤ 2 ^ w := Nat.pow_le_pow_right (show 0 < 2 by decide) q
    rw [Nat.testBit_lt_two_pow (Nat.lt_of_lt_of_le ht h2)] at h
    cases h
theorem G42_u {M : Ms} (h : G42 M) (j v : Nat) (hv : v < 1024) : G42 (u2 M 42 j (nI v)) := by
  intro i hi
  by_cases hj : i = j
  · subst hj
    have e : u2 M 42 i (nI v) 42 i = nI v := by simp [u2]
    rw [e, pN_n (by omega)]
    exact ⟨rfl, hv⟩
  · have e : u2 M 42 j (nI v) 42 i = M 42 i := by simp [u2, hj]
    rw [e]
    exact h i hi
theorem G42_mGw {M : Ms} {a b c ma mc : Nat} (h : G42 M) (ha : ma ≤ 10) (hc : mc ≤ 10) : ∀ w, G42 (mGw M a b c ma mc w)
  | 0 => h
  | w + 1 => G42_u (G42_u (G42_mGw h ha hc w) _ _ (mkM_lt _ _ ha)) _ _ (mkM_lt _ _ hc)
theorem nob_tr {t B s : Nat} (h : nob t B) (h2 : bc B < bc s ∨ (bc B = bc s ∧ ahd s B)) : nob t s := by
  rcases h with h | ⟨h, h3⟩
  · rcases h2 with h2 | ⟨h2, _⟩
    · exact Or.inl (by omega)
    · exact Or.inl (by omega)
  · rcases h2 with h2 | ⟨h2, h4⟩
    · exact Or.inl (by omega)
    · refine Or.inr ⟨by omega, Or.inr ?_⟩
      rcases h3 with rfl | h3
      · exact h4
      · exact ahd_tr h4 h3
theorem pm1 (m : Nat) : nI (2 ^ m) - 1 = nI (2 ^ m - 1) := by
  have h : 2 ^ m = (2 ^ m - 1) + 1 := by have := Nat.two_pow_pos m; omega
  rw [h, nI_pred, Nat.add_sub_cancel]
theorem p10 {m : Nat} (h : m ≤ 10) : 2 ^ m ≤ 1024 := Nat.pow_le_pow_right (by decide) h
def sp_taken : Sp := fun as w K => ∃ m0 M a b c ma mb mc, as = [.ref m0, .int (nI a), .int (nI b), .int (nI c)] ∧ RM m0 M w ∧ (okR M a ma 0 ∧ okR M b mb 1 ∧ okR M c mc 2 ∧ G42 M) ∧ ∀ w' B, RM m0 (mGw M a b c ma mc mb) w' → isB M a b c ma mb mc B → K (some (.int (nI B))) w'
theorem c_taken (l : Launch) : Ct l 113 13 0 0 sp_taken := by
  have hev : ∀ (k : Nat) (r : Nat × Nat × Nat × Sp), evL [(110, 1, 0, 0, sp_doFit), (114, 1, 0, 0, sp_bitCount), (115, 1, 0, 0, sp_isAhead), (116, 12, 0, 0, sp_can 10)] k = some r → Ct l k r.1 r.2.1 r.2.2.1 r.2.2.2 := evL_ok (by simpa using ⟨c_doFit l, c_bitCount l, c_isAhead l, c_can l 10⟩)
  refine ct_jd (by decide) rfl (fun as w Po hq => ?_)
  obtain ⟨m0, M, a, b, c, ma, mb, mc, rfl, hM, ⟨⟨ha9, ham, hal, har⟩, ⟨hb9, hbm, hbl, hbr⟩, ⟨hc9, hcm, hcl, hcr⟩, h42⟩, h⟩ := hq
  refine ⟨Nat.le_of_ble_eq_true rfl, ?_⟩
  -- the sets
  have sets : ∀ (N : Ms) (w' : Hp), N = mGw M a b c ma mc mb → RM m0 N w' → Jd l 113 13 0 0 (some .int) Po 164 [(4, .int (nI mb)), (0, .ref m0), (1, .int (nI a)), (2, .int (nI b)), (3, .int (nI c))] [] w' 0 0 := by
    intro N w' eN hM
    have n9 : ∀ i, N 9 i = M 9 i := fun i => by rw [eN]; exact mGw_ot M a b c ma mc 9 i (by decide) mb
    have hG : G42 N := by rw [eN]; exact G42_mGw h42 ham hcm mb
    have g0 : gwOK N 0 (fun w => pN (N 42 (10 * 0 + w))) := fun w hw => hG (10 * 0 + w) (by omega)
    have g1 : gwOK N 1 (fun w => pN (N 42 (10 * 1 + w))) := fun w hw => hG (10 * 1 + w) (by omega)
    have e0 : ∀ t, t < 2 ^ mb → (Mt (fun w => pN (N 42 (10 * 0 + w))) t (2 ^ ma - 1) ↔ Mt (gPl M a b ma) t (2 ^ ma - 1)) := fun t ht => Mt_cong (fun w hw => by
      have hwb := bl_lt ht hw
      show pN (N 42 (10 * 0 + w)) = _
      rw [Nat.mul_zero, Nat.zero_add, eN, mGw_0 M a b c ma mc w mb hbm hwb]
      exact pN_n (by have := mkM_lt (fun i => fitb M (prN M a i) (prN M b w) 0) ma ham; exact Nat.lt_trans this (by decide)))
    have e1 : ∀ t, t < 2 ^ mb → (Mt (fun w => pN (N 42 (10 * 1 + w))) t (2 ^ mc - 1) ↔ Mt (gSt M b c mc) t (2 ^ mc - 1)) := fun t ht => Mt_cong (fun w hw => by
      have hwb := bl_lt ht hw
      show pN (N 42 (10 * 1 + w)) = _
      rw [Nat.mul_one, eN, mGw_1 M a b c ma mc w mb hbm hwb]
      exact pN_n (by have := mkM_lt (fun i => fitb M (prN M b w) (prN M c i) 1) mc hcm; exact Nat.lt_trans this (by decide)))
    have hb2 := p10 hbm
    have ha2 := p10 ham
    have hc2 := p10 hcm
    have key : ∀ d s B, s + d = 2 ^ mb → 0 < s → B < s → good M a b c ma mc B → (∀ t, t < s → good M a b c ma mc t → nob t B) → Jd l 113 13 0 0 (some .int) Po 170 [(5, .int (nI s)), (4, .int (nI B)), (0, .ref m0), (1, .int (nI a)), (2, .int (nI b)), (3, .int (nI c))] [] w' 0 0 := by
      intro d
      induction d with
      | zero =>
        intro s B hs hs0 hB hg hall
        obtain rfl : s = 2 ^ mb := by omega
        refine jd_s cdo_113 hev [] 20 z00 ?_
        refine ⟨hM.k, _, hM.rf _ rfl, hM.kd _ rfl, b, _, hM.ix _ rfl rfl hbl, (hM.rd _ rfl b).trans ((n9 b).trans hb9), fun _ => ?_, fun z => ?_⟩
        · exact h w' B (by rw [← eN]; exact hM) ⟨hB, hg, hall⟩
        · exact absurd (show (1 : Int32) <<< (nI mb &&& 31) ≤ nI (2 ^ mb) by rw [sh1 mb (by omega)]; exact nI_le (Nat.le_refl _) (by omega)) z
      | succ d ih =>
        intro s B hs hs0 hB hg hall
        have hsb : s < 2 ^ mb := by omega
        have fin : ∀ B', B' < s + 1 → good M a b c ma mc B' → (∀ t, t < s + 1 → good M a b c ma mc t → nob t B') → Jd l 113 13 0 0 (some .int) Po 268 [(5, .int (nI s)), (4, .int (nI B')), (0, .ref m0), (1, .int (nI a)), (2, .int (nI b)), (3, .int (nI c))] [] w' 0 0 := by
          intro B' h1 h2 h3
          refine jd_s cdo_113 hev [170] 20 z00 ?_
          have := ih (s + 1) B' (by omega) (by omega) h1 h2 h3
          rw [← nI_1] at this
          exact this
        have skip : (good M a b c ma mc s → nob s B) → Jd l 113 13 0 0 (some .int) Po 268 [(5, .int (nI s)), (4, .int (nI B)), (0, .ref m0), (1, .int (nI a)), (2, .int (nI b)), (3, .int (nI c))] [] w' 0 0 := fun hn => fin B (by omega) hg (fun t ht gt => by
          by_cases z : t = s
          · subst z; exact hn gt
          · exact hall t (by omega) gt)
        have try_ : (bc B < bc s ∨ (bc B = bc s ∧ ahd s B)) → Jd l 113 13 0 0 (some .int) Po 224 [(7, .int (nI (bc B))), (6, .int (nI (bc s))), (5, .int (nI s)), (4, .int (nI B)), (0, .ref m0), (1, .int (nI a)), (2, .int (nI b)), (3, .int (nI c))] [] w' 0 0 := by
          intro hbet
          refine jd_s cdo_113 hev [268] 60 z00 ?_
          refine ⟨hM.k, _, hM.rf _ rfl, hM.kd _ rfl, a, _, hM.ix _ rfl rfl hal, (hM.rd _ rfl a).trans ((n9 a).trans ha9), ?_⟩
          refine ⟨⟨by decide, by decide, by decide⟩, rfl, hM.k, m0, N, 0, s, 2 ^ ma - 1, _, by rw [← pm1, ← sh1 ma (by omega)]; rfl, hM, ⟨by decide, by omega, by omega, bc_le s⟩, g0, fun mt => br1 ?_, fun nmt => br0 (jd_pk [2, 3, 4, 5, 6, 7] (skip (fun gs => absurd ((e0 s hsb).mpr gs.1) nmt)))⟩
          refine ⟨hM.k, _, hM.rf _ rfl, hM.kd _ rfl, c, _, hM.ix _ rfl rfl hcl, (hM.rd _ rfl c).trans ((n9 c).trans hc9), ?_⟩
          refine ⟨⟨by decide, by decide, by decide⟩, rfl, hM.k, m0, N, 1, s, 2 ^ mc - 1, _, by rw [← pm1, ← sh1 mc (by omega)]; rfl, hM, ⟨by decide, by omega, by omega, bc_le s⟩, g1, fun mt2 => br1 (jd_pk [3, 0, 4, 5, 6, 7] ?_), fun nmt => br0 (jd_pk [2, 3, 4, 5, 6, 7] (skip (fun gs => absurd ((e1 s hsb).mpr gs.2) nmt)))⟩
          exact fin s (by omega) ⟨(e0 s hsb).mp mt, (e1 s hsb).mp mt2⟩ (fun t ht gt => by
            by_cases z : t = s
            · subst z; exact Or.inr ⟨rfl, Or.inl rfl⟩
            · exact nob_tr (hall t (by omega) gt) hbet)
        have hs10 : s < 1024 := by omega
        have hB10 : B < 1024 := by omega
        have hbs := bc_le s
        have hbB := bc_le B
        refine jd_s cdo_113 hev [268, 224] 60 z00 ?_
        refine ⟨hM.k, _, hM.rf _ rfl, hM.kd _ rfl, b, _, hM.ix _ rfl rfl hbl, (hM.rd _ rfl b).trans ((n9 b).trans hb9), fun c0 => ?_, fun _ => ?_⟩
        · have c0 : (1 : Int32) <<< (nI mb &&& 31) ≤ nI s := c0
          rw [sh1 mb (by omega)] at c0
          have := ge_n (by omega) (by omega) c0
          omega
        · refine ⟨⟨by decide, by decide, by decide⟩, rfl, Nat.le_of_ble_eq_true rfl, s, rfl, hs10, ?_⟩
          refine ⟨⟨by decide, by decide, by decide⟩, rfl, Nat.le_of_ble_eq_true rfl, B, rfl, hB10, ?_⟩
          refine ⟨fun c1 => jd_pk [2, 3, 4, 5, 6, 7] (skip (fun _ => Or.inl ?_)), fun c1 => ?_⟩
          · exact (nI_ltI (by omega) (by omega)).mp c1
          · have c1' : ¬ bc s < bc B := fun z => c1 ((nI_ltI (by omega) (by omega)).mpr z)
            refine ⟨fun c2 => try_ (Or.inl ?_), fun c2 => ?_⟩
            · have : ¬ bc s = bc B := fun z => c2 (by rw [z])
              omega
            · have c2' : bc s = bc B := (nI_eq (by omega) (by omega)).mp c2
              refine ⟨⟨by decide, by decide, by decide⟩, rfl, Nat.le_of_ble_eq_true rfl, nI s, nI B, rfl, fun c3 => br1n (try_ (Or.inr ⟨c2'.symm, (ahI hs10 hB10).mp c3⟩)), fun c3 => br0n (jd_pk [2, 3, 4, 5, 6, 7] (skip (fun _ => Or.inr ⟨c2', Or.inr ?_⟩)))⟩
              rcases ahd_or hs10 hB10 (by omega) with ⟨_, q⟩ | ⟨_, q⟩
              · exact absurd ((ahI hs10 hB10).mpr q) c3
              · exact q
    refine jd_s cdo_113 hev [170] 20 z00 ?_
    have hb0 := Nat.two_pow_pos mb
    exact key (2 ^ mb - 1) 1 0 (by omega) (by decide) (by decide) ⟨Mt_0 _ _, Mt_0 _ _⟩ (fun t ht _ => by
      obtain rfl : t = 0 := by omega
      exact Or.inr ⟨rfl, Or.inl rfl⟩)
  -- what goes with what
  have rows : ∀ d v w', v + d = mb → RM m0 (mGw M a b c ma mc v) w' → Jd l 113 13 0 0 (some .int) Po 3 [(4, .int (nI v)), (0, .ref m0), (1, .int (nI a)), (2, .int (nI b)), (3, .int (nI c))] [] w' 0 0 := by
    intro d
    induction d with
    | zero =>
      intro v w' hv hM
      obtain rfl : v = mb := by omega
      refine jd_s cdo_113 hev [164] 20 z00 ?_
      refine ⟨hM.k, _, hM.rf _ rfl, hM.kd _ rfl, b, _, hM.ix _ rfl rfl hbl, (hM.rd _ rfl b).trans ((mGw_ot M a b c ma mc 9 b (by decide) v).trans hb9), fun _ => sets _ w' rfl hM, fun z => absurd (nI_le (Nat.le_refl v) (by omega)) z⟩
    | succ d ih =>
      intro v w' hv hM
      have hvb : v < mb := by omega
      have hn : mGw M a b c ma mc (v + 1) = u2 (u2 (mGw M a b c ma mc v) 42 v (nI (gPl M a b ma v))) 42 (10 + v) (nI (gSt M b c mc v)) := rfl
      have not_ : ∀ f i, f ≠ 42 → mGw M a b c ma mc v f i = M f i := fun f i hf => mGw_ot M a b c ma mc f i hf v
      have ihv := ih (v + 1)
      rw [hn] at ihv
      generalize mGw M a b c ma mc v = N at hM not_ ihv
      obtain ⟨hp1, hp2, hp3⟩ := hbr v hvb
      have fb : ∀ p q k, fitB N p q k ↔ fitb M p q k = true := fun p q k => by
        rw [fitb_iff, fitB, fitB, not_ 36 k (by decide), not_ 37 k (by decide), not_ 1 p (by decide), not_ 1 q (by decide)]
      have st : ∀ d i, i + d = mc → Jd l 113 13 0 0 (some .int) Po 89 [(8, .int (nI i)), (7, .int (nI (mkM (fun i => fitb M (prN M b v) (prN M c i) 1) i))), (6, .int (nI (gPl M a b ma v))), (5, .int (nI (prN M b v))), (4, .int (nI v)), (0, .ref m0), (1, .int (nI a)), (2, .int (nI b)), (3, .int (nI c))] [] w' 0 0 := by
        intro d
        induction d with
        | zero =>
          intro i hi
          obtain rfl : i = mc := by omega
          refine jd_s cdo_113 hev [3] 40 z00 ?_
          refine ⟨hM.k, _, hM.rf _ rfl, hM.kd _ rfl, c, _, hM.ix _ rfl rfl hcl, (hM.rd _ rfl c).trans ((not_ 9 c (by decide)).trans hc9), fun _ => ?_, fun z => absurd (nI_le (Nat.le_refl i) (by omega)) z⟩
          refine ⟨hM.k, _, hM.rf _ rfl, hM.kd _ rfl, v, hM.ix _ rfl rfl (show v < 20 by omega), ?_⟩
          have hM := hM.sa 42 rfl v (nI (gPl M a b ma v))
          refine ⟨hM.k, _, hM.rf _ rfl, hM.kd _ rfl, 10 + v, hM.ix _ rfl (nI_add 10 v) (show 10 + v < 20 by omega), ?_⟩
          have hM := hM.sa 42 rfl (10 + v) (nI (gSt M b c i v))
          have := ihv _ (by omega) hM
          rw [← nI_1] at this
          exact jd_pk [0, 5, 6, 7, 8] this
        | succ d ih2 =>
          intro i hi
          have him : i < mc := by omega
          obtain ⟨hq1, hq2, hq3⟩ := hcr i him
          have nxt : ∀ x, x = mkM (fun i => fitb M (prN M b v) (prN M c i) 1) (i + 1) → Jd l 113 13 0 0 (some .int) Po 131 [(8, .int (nI i)), (7, .int (nI x)), (6, .int (nI (gPl M a b ma v))), (5, .int (nI (prN M b v))), (4, .int (nI v)), (0, .ref m0), (1, .int (nI a)), (2, .int (nI b)), (3, .int (nI c))] [] w' 0 0 := by
            intro x hx
            refine jd_s cdo_113 hev [89] 20 z00 ?_
            have := ih2 (i + 1) (by omega)
            rw [← nI_1, ← hx] at this
            exact this
          refine jd_s cdo_113 hev [131] 40 z00 ?_
          refine ⟨hM.k, _, hM.rf _ rfl, hM.kd _ rfl, c, _, hM.ix _ rfl rfl hcl, (hM.rd _ rfl c).trans ((not_ 9 c (by decide)).trans hc9), fun z => ?_, fun _ => ?_⟩
          · have := ge_n (by omega) (by omega) z
            omega
          · refine ⟨hM.k, _, hM.rf _ rfl, hM.kd _ rfl, 300 * c + i, _, hM.ix _ rfl (by rw [n300, nI_add]) (show 300 * c + i < 18000 by omega), (hM.rd _ rfl _).trans ((not_ 8 _ (by decide)).trans hq1), ?_⟩
            refine ⟨⟨by decide, by decide, by decide⟩, rfl, hM.k, m0, N, prN M b v, prN M c i, 1, rfl, hM, ⟨hp2, hq2, by decide, (not_ 0 _ (by decide)).trans hp3⟩, fun y => br1 ?_, fun n => br0 (nxt _ ?_)⟩
            · have := nxt (mkM (fun i => fitb M (prN M b v) (prN M c i) 1) i ||| 2 ^ i) (by rw [mkM, if_pos ((fb _ _ _).mp y)])
              rw [← nI_or, ← sh1 i (by omega)] at this
              exact jd_pk [1, 0, 2, 3, 4, 5, 6, 7, 8] this
            · rw [mkM, if_neg (fun z => n ((fb _ _ _).mpr z)), Nat.or_zero]
      have pl : ∀ d i, i + d = ma → Jd l 113 13 0 0 (some .int) Po 38 [(8, .int (nI i)), (7, .int 0), (6, .int (nI (mkM (fun i => fitb M (prN M a i) (prN M b v) 0) i))), (5, .int (nI (prN M b v))), (4, .int (nI v)), (0, .ref m0), (1, .int (nI a)), (2, .int (nI b)), (3, .int (nI c))] [] w' 0 0 := by
        intro d
        induction d with
        | zero =>
          intro i hi
          obtain rfl : i = ma := by omega
          refine jd_s cdo_113 hev [89] 40 z00 ?_
          refine ⟨hM.k, _, hM.rf _ rfl, hM.kd _ rfl, a, _, hM.ix _ rfl rfl hal, (hM.rd _ rfl a).trans ((not_ 9 a (by decide)).trans ha9), fun _ => ?_, fun z => absurd (nI_le (Nat.le_refl i) (by omega)) z⟩
          exact st mc 0 (by omega)
        | succ d ih2 =>
          intro i hi
          have him : i < ma := by omega
          obtain ⟨hq1, hq2, hq3⟩ := har i him
          have nxt : ∀ x, x = mkM (fun i => fitb M (prN M a i) (prN M b v) 0) (i + 1) → Jd l 113 13 0 0 (some .int) Po 80 [(8, .int (nI i)), (7, .int 0), (6, .int (nI x)), (5, .int (nI (prN M b v))), (4, .int (nI v)), (0, .ref m0), (1, .int (nI a)), (2, .int (nI b)), (3, .int (nI c))] [] w' 0 0 := by
            intro x hx
            refine jd_s cdo_113 hev [38] 20 z00 ?_
            have := ih2 (i + 1) (by omega)
            rw [← nI_1, ← hx] at this
            exact this
          refine jd_s cdo_113 hev [80] 40 z00 ?_
          refine ⟨hM.k, _, hM.rf _ rfl, hM.kd _ rfl, a, _, hM.ix _ rfl rfl hal, (hM.rd _ rfl a).trans ((not_ 9 a (by decide)).trans ha9), fun z => ?_, fun _ => ?_⟩
          · have := ge_n (by omega) (by omega) z
            omega
          · refine ⟨hM.k, _, hM.rf _ rfl, hM.kd _ rfl, 300 * a + i, _, hM.ix _ rfl (by rw [n300, nI_add]) (show 300 * a + i < 18000 by omega), (hM.rd _ rfl _).trans ((not_ 8 _ (by decide)).trans hq1), ?_⟩
            refine ⟨⟨by decide, by decide, by decide⟩, rfl, hM.k, m0, N, prN M a i, prN M b v, 0, rfl, hM, ⟨hq2, hp2, by decide, (not_ 0 _ (by decide)).trans hq3⟩, fun y => br1 ?_, fun n => br0 (nxt _ ?_)⟩
            · have := nxt (mkM (fun i => fitb M (prN M a i) (prN M b v) 0) i ||| 2 ^ i) (by rw [mkM, if_pos ((fb _ _ _).mp y)])
              rw [← nI_or, ← sh1 i (by omega)] at this
              exact jd_pk [1, 2, 0, 3, 4, 5, 6, 7, 8] this
            · rw [mkM, if_neg (fun z => n ((fb _ _ _).mpr z)), Nat.or_zero]
      refine jd_s cdo_113 hev [38] 40 z00 ?_
      refine ⟨hM.k, _, hM.rf _ rfl, hM.kd _ rfl, b, _, hM.ix _ rfl rfl hbl, (hM.rd _ rfl b).trans ((not_ 9 b (by decide)).trans hb9), fun z => ?_, fun _ => ?_⟩
      · have := ge_n (by omega) (by omega) z
        omega
      · refine ⟨hM.k, _, hM.rf _ rfl, hM.kd _ rfl, 300 * b + v, _, hM.ix _ rfl (by rw [n300, nI_add]) (show 300 * b + v < 18000 by omega), (hM.rd _ rfl _).trans ((not_ 8 _ (by decide)).trans hp1), ?_⟩
        exact pl ma 0 (by omega)
  refine jd_s cdo_113 hev [3] 10 z00 ?_
  exact rows mb 0 w (by omega) hM
end
section
/-! the reference: most, make -/
def sp_most : Sp := fun as w K => ∃ m0 M N x y z nl, ∃ mn : Nat → Nat, as = [.ref m0, .int x, .int y, .int z] ∧ RM m0 M w ∧ N = u2 M 41 0 0 ∧ (N 16 0 = nI nl ∧ nl ≤ 60) ∧ (∀ j, j < nl → N 9 j = nI (mn j) ∧ mn j ≤ 300) ∧ (G42 N ∧ ∀ a b c, okMk N nl mn x y z a b c → okR N a (mn a) 0 ∧ okR N b (mn b) 1 ∧ okR N c (mn c) 2) ∧ (∀ a b c B w', okMk N nl mn x y z a b c → isB N a b c (mn a) (mn b) (mn c) B → RM m0 (mGw N a b c (mn a) (mn c) (mn b)) w' → K (some (.int (nI (bc B)))) w') ∧ ((¬ ∃ a b c, okMk N nl mn x y z a b c) → ∀ w', RM m0 N w' → K (some (.int (-1))) w')
theorem c_most (l : Launch) : Ct l 111 14 0 0 sp_most := by
  refine ct_jd (by decide) rfl (fun as w Po h => ?_)
  obtain ⟨m0, M, N, x, y, z, nl, mn, rfl, hM, eN, hn, hm, ⟨h42, hok⟩, h1, h2⟩ := h
  refine ⟨Nat.le_of_ble_eq_true rfl, jd_run cdo_111 (evL_ok (L := [(112, 4, 0, 0, sp_areLots), (113, 13, 0, 0, sp_taken), (114, 1, 0, 0, sp_bitCount)]) (by simpa using ⟨c_areLots l, c_taken l, c_bitCount l⟩)) 40 z00 ?_⟩
  refine ⟨hM.k, ?_⟩
  have hM := hM.si 41 rfl 0
  rw [← eN] at hM
  refine ⟨⟨by decide, by decide, by decide⟩, rfl, hM.k, m0, N, x, y, z, nl, mn, rfl, hM, hn, hm, fun a b c hk => br1 ?_, fun hno => br0 (h2 hno _ hM)⟩
  obtain ⟨ha, hb, hc⟩ := hok a b c hk
  refine ⟨⟨by decide, by decide, by decide⟩, rfl, hM.k, m0, N, a, b, c, mn a, mn b, mn c, by rw [hk.1.2.1, hk.2.1.2.1, hk.2.2.1.2.1]; rfl, hM, ⟨ha, hb, hc, h42⟩, fun w' B hw' hB => ?_⟩
  refine ⟨⟨by decide, by decide, by decide⟩, rfl, Nat.le_of_ble_eq_true rfl, B, rfl, Nat.lt_of_lt_of_le hB.1 (p10 hb.2.1), ?_⟩
  exact h1 a b c B w' hk hB hw'
/-- the first place that does -/
def fF (g : Nat → Nat) (w be os i : Nat) : Prop := i < 10 ∧ ffP g w be os i ∧ ∀ j, j < i → ¬ ffP g w be os j
/-- the wheels of be in their order, each with its plate and its stone -/
def MkS (g0 g1 : Nat → Nat) : List (Nat × Nat × Nat) → Nat → Nat → Nat → Nat → Nat → Prop
  | [], be, pl, st, pl', st' => be = 0 ∧ pl' = pl ∧ st' = st
  | q :: t, be, pl, st, pl', st' => be ≠ 0 ∧ q.1 = tz be ∧ fF g0 q.1 (be ^^^ 2 ^ q.1) pl q.2.1 ∧ fF g1 q.1 (be ^^^ 2 ^ q.1) st q.2.2 ∧ MkS g0 g1 t (be ^^^ 2 ^ q.1) (pl ^^^ 2 ^ q.2.1) (st ^^^ 2 ^ q.2.2) pl' st'
def mW1 (M : Ms) (k P : Nat) : Ms := u2 (u2 M 4 P 2) 5 P (nI k)
def mW (M : Ms) (k P Q R : Nat) : Ms := u2 (u2 (mW1 (mW1 (mW1 (u2 (u2 (u2 M 38 (3 * k) (nI P)) 38 (3 * k + 1) (nI Q)) 38 (3 * k + 2) (nI R)) k P) k Q) k R) 39 k 0) 40 0 (nI (k + 1))
def mMk (a b c : Nat) : List (Nat × Nat × Nat) → Nat → Ms → Ms
  | [], _, M => M
  | q :: t, k, M => mMk a b c t (k + 1) (mW M k (prN M a q.2.1) (prN M b q.1) (prN M c q.2.2))
theorem mW1_ot (M : Ms) (k P f i : Nat) (h : f ≠ 4 ∧ f ≠ 5) : mW1 M k P f i = M f i := by rw [mW1, u2_ne h.2, u2_ne h.1]
theorem mW_40 (M : Ms) (k P Q R : Nat) : mW M k P Q R 40 0 = nI (k + 1) := by simp [mW, u2]
theorem mW_ot (M : Ms) (k P Q R f i : Nat) (h : f ≠ 38 ∧ f ≠ 4 ∧ f ≠ 5 ∧ f ≠ 39 ∧ f ≠ 40) : mW M k P Q R f i = M f i := by
  obtain ⟨h1, h2, h3, h4, h5⟩ := h
  rw [mW, mW1, mW1, mW1, u2_ne h5, u2_ne h4, u2_ne h3, u2_ne h2, u2_ne h3, u2_ne h2, u2_ne h3, u2_ne h2, u2_ne h1, u2_ne h1, u2_ne h1]
theorem mMk_ot (a b c f i : Nat) (h : f ≠ 38 ∧ f ≠ 4 ∧ f ≠ 5 ∧ f ≠ 39 ∧ f ≠ 40) : ∀ (T : List (Nat × Nat × Nat)) (k : Nat) (M : Ms), mMk a b c T k M f i = M f i
  | [], _, _ => rfl
  | q :: t, k, M => by rw [mMk, mMk_ot a b c f i h t, mW_ot _ _ _ _ _ _ _ h]
theorem mLvP_9 (l s f j : Nat) (h : f ≠ 8 ∧ (f = 9 → j ≠ l)) : ∀ i c M, mLvP l s i c M f j = M f j
  | 0, c, M => rfl
  | i + 1, c, M => by
    rw [mLvP]
    split
    · rw [mLvP_9 l s f j h i]
      have h1 : ¬ (f = 9 ∧ j = l) := fun z => h.2 z.1 z.2
      have h2 : ¬ (f = 8 ∧ 300 * l + i ≤ j ∧ j < 300 * l + (c - 1)) := fun z => h.1 z.1
      rw [mTake, mTakeK, if_neg h1, if_neg h2]
    · exact mLvP_9 l s f j h i c M
def mMake (M : Ms) (a b c ma mb mc B pl st : Nat) (T : List (Nat × Nat × Nat)) (nw : Nat) : Ms := mLvP c ((2 ^ mc - 1) ^^^ st) mc mc (mLvP b B mb mb (mLvP a ((2 ^ ma - 1) ^^^ pl) ma ma (mMk a b c T nw (mGw M a b c ma mc mb))))
theorem ffP_cong {g g' : Nat → Nat} {w be os i : Nat} (h1 : g w = g' w) (h2 : ∀ v, be.testBit v = true → g v = g' v) : ffP g w be os i ↔ ffP g' w be os i := by
  rw [ffP, ffP, h1, Mt_cong h2]
theorem n3I (k : Nat) : (3 : Int32) * nI k = nI (3 * k) := by rw [show (3 : Int32) = nI 3 from rfl, pk_mul]
theorem x_2 {a i m : Nat} (ha : a < 2 ^ m) (h : a.testBit i = true) : a ^^^ 2 ^ i < 2 ^ m := Nat.xor_lt_two_pow ha (Nat.pow_lt_pow_right (by decide) (bl_lt ha h))
section MKB
variable {l : Launch} {Po : Option Value → Hp → Prop} {m0 k : Nat} {v6 v5 v11 v10 v7 v9 v8 v4 v1 v2 v3 : Value}
/-- a piece of the watch is told of it -/
theorem mk_b {i X : Nat} {P : Ms} {w : Hp} (hM : RM m0 P w) (hi : i < 3) (hk : k < 100) (h38 : P 38 (3 * k + i) = nI X) (hX : X < 300) (h40 : P 40 0 = nI k) (h : ∀ w', RM m0 (mW1 P k X) w' → Jd l 118 14 0 0 (some .int) Po 197 [(13, .int (nI (i + 1))), (12, .int (nI (3 * k))), (6, v6), (5, v5), (11, v11), (10, v10), (7, v7), (9, v9), (8, v8), (4, v4), (0, .ref m0), (1, v1), (2, v2), (3, v3)] [] w' 0 0) : Jd l 118 14 0 0 (some .int) Po 197 [(13, .int (nI i)), (12, .int (nI (3 * k))), (6, v6), (5, v5), (11, v11), (10, v10), (7, v7), (9, v9), (8, v8), (4, v4), (0, .ref m0), (1, v1), (2, v2), (3, v3)] [] w 0 0 := by
  refine jd_s cdo_118 ev0 [197] 60 z00 ⟨fun q => ?_, fun _ => ?_⟩
  · have := ge_n (a := i) (b := 3) (by omega) (by omega) q
    omega
  refine ⟨hM.k, _, hM.rf _ rfl, hM.k, _, hM.rf _ rfl, hM.kd _ rfl, 3 * k + i, _, hM.ix _ rfl (nI_add (3 * k) i) (show 3 * k + i < 300 by omega), (hM.rd _ rfl _).trans h38, hM.kd _ rfl, X, hM.ix _ rfl rfl hX, ?_⟩
  have hM := hM.sa 4 rfl X 2
  refine ⟨hM.k, _, hM.rf _ rfl, hM.k, _, hM.rf _ rfl, hM.kd _ rfl, 3 * k + i, _, hM.ix _ rfl (nI_add (3 * k) i) (show 3 * k + i < 300 by omega), (hM.rd _ rfl _).trans h38, hM.k, _, (hM.ri _ rfl).trans h40, hM.kd _ rfl, X, hM.ix _ rfl rfl hX, ?_⟩
  have hM := hM.sa 5 rfl X (nI k)
  have := h _ hM
  rw [← nI_1] at this
  exact this
/-- the three pieces into the row of watches -/
theorem mk_a {a b c p s t X Y Z pl st : Nat} {P : Ms} {w : Hp} {x4 : Int32} {v7 v8 : Value} (hM : RM m0 P w) (hk : k < 100) (hal : a < 60 ∧ b < 60 ∧ c < 60) (hpp : p < 10 ∧ s < 10 ∧ t < 10) (qa : P 8 (300 * a + p) = nI X) (qb : P 8 (300 * b + t) = nI Y) (qc : P 8 (300 * c + s) = nI Z) (h40 : P 40 0 = nI k) (h : ∀ w', RM m0 (u2 (u2 (u2 P 38 (3 * k) (nI X)) 38 (3 * k + 1) (nI Y)) 38 (3 * k + 2) (nI Z)) w' → Jd l 118 14 0 0 (some .int) Po 197 [(13, .int (nI 0)), (12, .int (nI (3 * k))), (6, .int (nI (st ^^^ 2 ^ s))), (5, .int (nI (pl ^^^ 2 ^ p))), (11, .int (nI s)), (10, .int (nI p)), (7, v7), (9, .int (nI t)), (8, v8), (4, .int x4), (0, .ref m0), (1, .int (nI a)), (2, .int (nI b)), (3, .int (nI c))] [] w' 0 0) : Jd l 118 14 0 0 (some .int) Po 104 [(11, .int (nI s)), (10, .int (nI p)), (7, v7), (9, .int (nI t)), (8, v8), (6, .int (nI st)), (5, .int (nI pl)), (4, .int x4), (0, .ref m0), (1, .int (nI a)), (2, .int (nI b)), (3, .int (nI c))] [] w 0 0 := by
  obtain ⟨hal, hbl, hcl⟩ := hal
  obtain ⟨hp, hs, ht⟩ := hpp
  rw [← nI_xor, ← nI_xor, ← sh1 p (by omega), ← sh1 s (by omega), ← n3I] at h
  refine jd_s cdo_118 ev0 [150] 60 z00 ?_
  refine ⟨hM.k, _, (hM.ri _ rfl).trans h40, ?_⟩
  refine ⟨hM.k, _, hM.rf _ rfl, hM.k, _, hM.rf _ rfl, hM.kd _ rfl, 300 * a + p, _, hM.ix _ rfl (by rw [n300, nI_add]) (show 300 * a + p < 18000 by omega), (hM.rd _ rfl _).trans qa, hM.kd _ rfl, 3 * k, hM.ix _ rfl (n3I k) (show 3 * k < 300 by omega), ?_⟩
  have hM := hM.sa 38 rfl (3 * k) (nI X)
  refine jd_s cdo_118 ev0 [172] 60 z00 ?_
  refine ⟨hM.k, _, hM.rf _ rfl, hM.k, _, hM.rf _ rfl, hM.kd _ rfl, 300 * b + t, _, hM.ix _ rfl (by rw [n300, nI_add]) (show 300 * b + t < 18000 by omega), (hM.rd _ rfl _).trans qb, hM.kd _ rfl, 3 * k + 1, hM.ix _ rfl (by rw [n3I, nI_1]) (show 3 * k + 1 < 300 by omega), ?_⟩
  have hM := hM.sa 38 rfl (3 * k + 1) (nI Y)
  refine jd_s cdo_118 ev0 [197] 60 z00 ?_
  refine ⟨hM.k, _, hM.rf _ rfl, hM.k, _, hM.rf _ rfl, hM.kd _ rfl, 300 * c + s, _, hM.ix _ rfl (by rw [n300, nI_add]) (show 300 * c + s < 18000 by omega), (hM.rd _ rfl _).trans qc, hM.kd _ rfl, 3 * k + 2, hM.ix _ rfl (by rw [n3I]; exact nI_add (3 * k) 2) (show 3 * k + 2 < 300 by omega), ?_⟩
  have hM := hM.sa 38 rfl (3 * k + 2) (nI Z)
  exact h _ hM
/-- the watch is there -/
theorem mk_e {P : Ms} {w : Hp} {made : Nat} {x7 : Int32} (hM : RM m0 P w) (hk : k < 100) (h40 : P 40 0 = nI k) (h : ∀ w', RM m0 (u2 (u2 P 39 k 0) 40 0 (nI (k + 1))) w' → Jd l 118 14 0 0 (some .int) Po 57 [(8, .int (nI (made + 1))), (7, .int x7), (6, v6), (5, v5), (4, v4), (0, .ref m0), (1, v1), (2, v2), (3, v3)] [] w' 0 0) : Jd l 118 14 0 0 (some .int) Po 197 [(13, .int (nI 3)), (12, .int (nI (3 * k))), (6, v6), (5, v5), (11, v11), (10, v10), (7, .int x7), (9, v9), (8, .int (nI made)), (4, v4), (0, .ref m0), (1, v1), (2, v2), (3, v3)] [] w 0 0 := by
  rw [← nI_1, ← nI_1] at h
  refine jd_s cdo_118 ev0 [57] 60 z00 ?_
  refine ⟨fun _ => ?_, fun q => absurd (show (3 : Int32) ≤ nI 3 by decide) q⟩
  refine ⟨hM.k, _, hM.rf _ rfl, hM.k, _, (hM.ri _ rfl).trans h40, hM.kd _ rfl, Or.inl rfl, k, hM.ix _ rfl rfl hk, ?_⟩
  have hM := hM.sa 39 rfl k 0
  refine ⟨hM.k, _, (hM.ri _ rfl).trans h40, hM.k, ?_⟩
  have hM := hM.si 40 rfl (nI k + 1)
  exact jd_pk [0, 7, 3, 4, 9, 10, 11, 12, 13] (h _ hM)
end MKB
theorem mk_z {l : Launch} {Po : Option Value → Hp → Prop} {m0 a b c ma mb mc B pl st t : Nat} {Q : Ms} {w2 : Hp} {x7 : Int32} (hM2 : RM m0 Q w2) (hab : a ≠ b) (hac : a ≠ c) (hbc : b ≠ c) (hal : a < 60) (hbl : b < 60) (hcl : c < 60) (ham : ma ≤ 10) (hbm : mb ≤ 10) (hcm : mc ≤ 10) (hB1 : B < 2 ^ mb) (hpl' : pl < 2 ^ ma) (hst' : st < 2 ^ mc) (ta : Q 9 a = nI ma) (tb : Q 9 b = nI mb) (tc : Q 9 c = nI mc) (h : ∀ w', RM m0 (mLvP c ((2 ^ mc - 1) ^^^ st) mc mc (mLvP b B mb mb (mLvP a ((2 ^ ma - 1) ^^^ pl) ma ma Q))) w' → Po (some (.int (nI t))) w') : Jd l 118 14 0 0 (some .int) Po 270 [(8, .int (nI t)), (7, .int x7), (6, .int (nI st)), (5, .int (nI pl)), (4, .int (nI B)), (0, .ref m0), (1, .int (nI a)), (2, .int (nI b)), (3, .int (nI c))] [] w2 0 0 := by
  have ha2 := p10 ham
  have hb2 := p10 hbm
  have hc2 := p10 hcm
  have ppa := Nat.two_pow_pos ma
  have ppc := Nat.two_pow_pos mc
  refine jd_s cdo_118 (evL_ok (L := [(120, 2, 0, 0, sp_leave)]) (by simpa using c_leave l)) [] 60 z00 ?_
  refine ⟨hM2.k, _, hM2.rf _ rfl, hM2.kd _ rfl, a, _, hM2.ix _ rfl rfl hal, (hM2.rd _ rfl a).trans ta, ?_⟩
  have xa : (2 ^ ma - 1) ^^^ pl < 2 ^ ma := Nat.xor_lt_two_pow (by omega) hpl'
  have xc : (2 ^ mc - 1) ^^^ st < 2 ^ mc := Nat.xor_lt_two_pow (by omega) hst'
  refine ⟨⟨by decide, by decide, by decide⟩, rfl, hM2.k, m0, _, a, (2 ^ ma - 1) ^^^ pl, ma, by rw [← nI_xor, ← pm1, ← sh1 ma (by omega)]; rfl, hM2, ⟨hal, by omega, ham, ta⟩, fun w3 hM3 => ?_⟩
  refine ⟨⟨by decide, by decide, by decide⟩, rfl, hM3.k, m0, _, b, B, mb, rfl, hM3, ⟨hbl, by omega, hbm, (mLvP_9 a _ 9 b ⟨by decide, fun _ => Ne.symm hab⟩ _ _ _).trans tb⟩, fun w4 hM4 => ?_⟩
  have t9c := (mLvP_9 b B 9 c ⟨by decide, fun _ => Ne.symm hbc⟩ mb mb (mLvP a ((2 ^ ma - 1) ^^^ pl) ma ma Q)).trans ((mLvP_9 a ((2 ^ ma - 1) ^^^ pl) 9 c ⟨by decide, fun _ => Ne.symm hac⟩ ma ma Q).trans tc)
  refine ⟨hM4.k, _, hM4.rf _ rfl, hM4.kd _ rfl, c, _, hM4.ix _ rfl rfl hcl, (hM4.rd _ rfl c).trans t9c, ?_⟩
  refine ⟨⟨by decide, by decide, by decide⟩, rfl, hM4.k, m0, _, c, (2 ^ mc - 1) ^^^ st, mc, by rw [← nI_xor, ← pm1, ← sh1 mc (by omega)]; rfl, hM4, ⟨hcl, by omega, hcm, t9c⟩, fun w5 hM5 => ?_⟩
  exact h w5 hM5
theorem mk_s {l : Launch} {Po : Option Value → Hp → Prop} {m0 be pl st : Nat} {P : Ms} {w : Hp} {x8 x4 x1 x2 x3 : Int32} {G0 G1 : Nat → Nat} (hM : RM m0 P w) (g0 : gwOK P 0 G0) (g1 : gwOK P 1 G1) (hpos : 0 < be) (hbe : be < 1024) (hpl : pl < 1024) (hst : st < 1024) (i0 : ∃ i, i < 10 ∧ ffP G0 (tz be) (be ^^^ 2 ^ tz be) pl i) (i1 : ∃ i, i < 10 ∧ ffP G1 (tz be) (be ^^^ 2 ^ tz be) st i) (h : ∀ p s, fF G0 (tz be) (be ^^^ 2 ^ tz be) pl p → fF G1 (tz be) (be ^^^ 2 ^ tz be) st s → Jd l 118 14 0 0 (some .int) Po 104 [(11, .int (nI s)), (10, .int (nI p)), (7, .int (nI (be ^^^ 2 ^ tz be))), (9, .int (nI (tz be))), (8, .int x8), (6, .int (nI st)), (5, .int (nI pl)), (4, .int x4), (0, .ref m0), (1, .int x1), (2, .int x2), (3, .int x3)] [] w 0 0) : Jd l 118 14 0 0 (some .int) Po 57 [(8, .int x8), (7, .int (nI be)), (6, .int (nI st)), (5, .int (nI pl)), (4, .int x4), (0, .ref m0), (1, .int x1), (2, .int x2), (3, .int x3)] [] w 0 0 := by
  obtain ⟨ht, htb⟩ := tz_ok be hbe hpos
  have hx : be ^^^ 2 ^ tz be < 1024 := x_lt hbe (p_lt ht)
  have hne : ¬ nI be = 0 := nI_ne0 hpos (by omega)
  have e1 : nI be ^^^ ((1 : Int32) <<< (nI (tz be) &&& 31)) = nI (be ^^^ 2 ^ tz be) := by rw [sh1 _ (by omega), nI_xor]
  refine jd_s cdo_118 (evL_ok (L := [(117, 1, 0, 0, sp_ntz), (119, 13, 0, 0, sp_firstFor)]) (by simpa using ⟨c_ntz l, c_firstFor l⟩)) [104] 60 z00 ⟨fun q => absurd q hne, fun _ => ?_⟩
  refine ⟨⟨by decide, by decide, by decide⟩, rfl, Nat.le_of_ble_eq_true rfl, be, rfl, hbe, hpos, ?_⟩
  refine ⟨⟨by decide, by decide, by decide⟩, rfl, hM.k, m0, P, 0, tz be, be ^^^ 2 ^ tz be, pl, G0, by rw [← e1]; rfl, hM, ⟨by decide, ht, hx, hpl⟩, g0, fun p hp hfp hfl => ?_, fun hno => absurd i0 hno⟩
  refine ⟨⟨by decide, by decide, by decide⟩, rfl, hM.k, m0, P, 1, tz be, be ^^^ 2 ^ tz be, st, G1, by rw [← e1]; rfl, hM, ⟨by decide, ht, hx, hst⟩, g1, fun s hs hfs hfsl => ?_, fun hno => absurd i1 hno⟩
  have := h p s ⟨hp, hfp, hfl⟩ ⟨hs, hfs, hfsl⟩
  rw [← e1] at this
  exact this
def sp_make : Sp := fun as w K => ∃ m0 M N x y z nl nw, ∃ mn : Nat → Nat, as = [.ref m0, .int x, .int y, .int z] ∧ RM m0 M w ∧ N = u2 M 41 0 0 ∧ (N 16 0 = nI nl ∧ nl ≤ 60 ∧ N 40 0 = nI nw) ∧ (∀ j, j < nl → N 9 j = nI (mn j) ∧ mn j ≤ 300) ∧ (G42 N ∧ ∀ a b c, okMk N nl mn x y z a b c → okR N a (mn a) 0 ∧ okR N b (mn b) 1 ∧ okR N c (mn c) 2 ∧ ∀ B, isB N a b c (mn a) (mn b) (mn c) B → nw + bc B ≤ 100) ∧ (∀ a b c B T pl st w', okMk N nl mn x y z a b c → isB N a b c (mn a) (mn b) (mn c) B → MkS (gPl N a b (mn a)) (gSt N b c (mn c)) T B (2 ^ mn a - 1) (2 ^ mn c - 1) pl st → RM m0 (mMake N a b c (mn a) (mn b) (mn c) B pl st T nw) w' → K (some (.int (nI T.length))) w') ∧ ((¬ ∃ a b c, okMk N nl mn x y z a b c) → ∀ w', RM m0 N w' → K (some (.int (-1))) w')
set_option maxHeartbeats 1000000 in
theorem c_make (l : Launch) : Ct l 118 14 0 0 sp_make := by
  have hev : ∀ (k : Nat) (r : Nat × Nat × Nat × Sp), evL [(112, 4, 0, 0, sp_areLots), (113, 13, 0, 0, sp_taken), (117, 1, 0, 0, sp_ntz), (119, 13, 0, 0, sp_firstFor), (120, 2, 0, 0, sp_leave)] k = some r → Ct l k r.1 r.2.1 r.2.2.1 r.2.2.2 := evL_ok (by simpa using ⟨c_areLots l, c_taken l, c_ntz l, c_firstFor l, c_leave l⟩)
  refine ct_jd (by decide) rfl (fun as w Po h => ?_)
  obtain ⟨m0, M, N, x, y, z, nl, nw, mn, rfl, hM, eN, ⟨hn, hn2, hnw⟩, hm, ⟨h42, hok⟩, h1, h2⟩ := h
  refine ⟨Nat.le_of_ble_eq_true rfl, jd_s cdo_118 hev [57] 60 z00 ?_⟩
  refine ⟨hM.k, ?_⟩
  have hM := hM.si 41 rfl 0
  rw [← eN] at hM
  refine ⟨⟨by decide, by decide, by decide⟩, rfl, hM.k, m0, N, x, y, z, nl, mn, rfl, hM, ⟨hn, hn2⟩, hm, fun a b c hk => br1n ?_, fun hno => br0n (h2 hno _ hM)⟩
  obtain ⟨ha, hb, hc, hcnt⟩ := hok a b c hk
  have hab : a ≠ b := fun q => absurd (hk.2.2.2.1.1.symm.trans ((congrArg (N 7) q).trans hk.2.2.2.1.2.1)) (by decide)
  have hac : a ≠ c := fun q => absurd (hk.2.2.2.1.1.symm.trans ((congrArg (N 7) q).trans hk.2.2.2.1.2.2)) (by decide)
  have hbc : b ≠ c := fun q => absurd (hk.2.2.2.1.2.1.symm.trans ((congrArg (N 7) q).trans hk.2.2.2.1.2.2)) (by decide)
  obtain rfl : x = nI a := hk.1.2.1
  obtain rfl : y = nI b := hk.2.1.2.1
  obtain rfl : z = nI c := hk.2.2.1.2.1
  refine ⟨⟨by decide, by decide, by decide⟩, rfl, hM.k, m0, N, a, b, c, mn a, mn b, mn c, rfl, hM, ⟨ha, hb, hc, h42⟩, fun w1 B hM1 hB => ?_⟩
  replace h1 := fun T pl st w' => h1 a b c B T pl st w' hk hB
  replace hcnt := hcnt B hB
  clear h2 hok hM hm hn hn2 eN hk
  obtain ⟨ha9, ham, hal, har⟩ := ha
  obtain ⟨hb9, hbm, hbl, hbr⟩ := hb
  obtain ⟨hc9, hcm, hcl, hcr⟩ := hc
  generalize mn a = ma at *
  generalize mn b = mb at *
  generalize mn c = mc at *
  have ha2 := p10 ham
  have hb2 := p10 hbm
  have hc2 := p10 hcm
  obtain ⟨hB1, hB2, -⟩ := hB
  have base : ∀ f i, f ≠ 42 → mGw N a b c ma mc mb f i = N f i := fun f i hf => mGw_ot N a b c ma mc f i hf mb
  have hG : G42 (mGw N a b c ma mc mb) := G42_mGw h42 ham hcm mb
  have b0 : ∀ v, v < mb → pN (mGw N a b c ma mc mb 42 (10 * 0 + v)) = gPl N a b ma v := fun v hv => by
    rw [Nat.mul_zero, Nat.zero_add, mGw_0 N a b c ma mc v mb hbm hv]
    exact pN_n (by have := mkM_lt (fun i => fitb N (prN N a i) (prN N b v) 0) ma ham; exact Nat.lt_trans this (by decide))
  have b1 : ∀ v, v < mb → pN (mGw N a b c ma mc mb 42 (10 * 1 + v)) = gSt N b c mc v := fun v hv => by
    rw [Nat.mul_one, mGw_1 N a b c ma mc v mb hbm hv]
    exact pN_n (by have := mkM_lt (fun i => fitb N (prN N b v) (prN N c i) 1) mc hcm; exact Nat.lt_trans this (by decide))
  have key : ∀ n be pl st P k made w', bc be = n → be < 2 ^ mb → pl < 2 ^ ma → st < 2 ^ mc → Mt (gPl N a b ma) be pl → Mt (gSt N b c mc) be st → (∀ f i, f ≠ 38 ∧ f ≠ 4 ∧ f ≠ 5 ∧ f ≠ 39 ∧ f ≠ 40 → P f i = mGw N a b c ma mc mb f i) → P 40 0 = nI k → k + n ≤ 100 → RM m0 P w' → (∀ T pl' st' w2, MkS (gPl N a b ma) (gSt N b c mc) T be pl st pl' st' → pl' < 2 ^ ma → st' < 2 ^ mc → RM m0 (mMk a b c T k P) w2 → Jd l 118 14 0 0 (some .int) Po 270 [(8, .int (nI (made + T.length))), (7, .int 0), (6, .int (nI st')), (5, .int (nI pl')), (4, .int (nI B)), (0, .ref m0), (1, .int (nI a)), (2, .int (nI b)), (3, .int (nI c))] [] w2 0 0) → Jd l 118 14 0 0 (some .int) Po 57 [(8, .int (nI made)), (7, .int (nI be)), (6, .int (nI st)), (5, .int (nI pl)), (4, .int (nI B)), (0, .ref m0), (1, .int (nI a)), (2, .int (nI b)), (3, .int (nI c))] [] w' 0 0 := by
    intro n
    induction n with
    | zero =>
      intro be pl st P k made w' hbe hbe2 hpl hst _ _ _ _ _ hM hk
      obtain rfl := bc_0 be (by omega) hbe
      refine jd_s cdo_118 hev [270] 10 z00 ⟨fun _ => ?_, fun q => absurd rfl q⟩
      exact hk [] pl st w' ⟨rfl, rfl, rfl⟩ hpl hst hM
    | succ n ih =>
      intro be pl st P k made w' hbe hbe2 hpl hst mt0 mt1 hP h40 hkn hM hk
      have hpos : 0 < be := by
        rcases Nat.eq_zero_or_pos be with q | q
        · rw [q] at hbe
          exact absurd (show bc 0 = 0 by decide) (by omega)
        · exact q
      obtain ⟨ht, htb⟩ := tz_ok be (by omega) hpos
      have htm : tz be < mb := bl_lt hbe2 htb
      have hbx := bc_x ht htb
      have hbe' : be ^^^ 2 ^ tz be < 2 ^ mb := x_2 hbe2 htb
      have bits : ∀ v, (be ^^^ 2 ^ tz be).testBit v = true → v < mb := fun v hv => bl_lt hbe' hv
      have g0 : gwOK P 0 (fun w => pN (mGw N a b c ma mc mb 42 (10 * 0 + w))) := fun w hw => by rw [hP 42 _ (by decide)]; exact hG (10 * 0 + w) (by omega)
      have g1 : gwOK P 1 (fun w => pN (mGw N a b c ma mc mb 42 (10 * 1 + w))) := fun w hw => by rw [hP 42 _ (by decide)]; exact hG (10 * 1 + w) (by omega)
      have c0 : ∀ i, ffP (fun w => pN (mGw N a b c ma mc mb 42 (10 * 0 + w))) (tz be) (be ^^^ 2 ^ tz be) pl i ↔ ffP (gPl N a b ma) (tz be) (be ^^^ 2 ^ tz be) pl i := fun i => ffP_cong (b0 _ htm) (fun v hv => b0 v (bits v hv))
      have c1 : ∀ i, ffP (fun w => pN (mGw N a b c ma mc mb 42 (10 * 1 + w))) (tz be) (be ^^^ 2 ^ tz be) st i ↔ ffP (gSt N b c mc) (tz be) (be ^^^ 2 ^ tz be) st i := fun i => ffP_cong (b1 _ htm) (fun v hv => b1 v (bits v hv))
      have i0 : ∃ i, i < 10 ∧ ffP (fun w => pN (mGw N a b c ma mc mb 42 (10 * 0 + w))) (tz be) (be ^^^ 2 ^ tz be) pl i := by
        obtain ⟨o, ho1, ho2, ho3⟩ := (Mt_step htb).mp mt0
        exact ⟨o, b_lt (show pl < 1024 by omega) ho2, (c0 o).mpr ⟨ho1, ho2, ho3⟩⟩
      have i1 : ∃ i, i < 10 ∧ ffP (fun w => pN (mGw N a b c ma mc mb 42 (10 * 1 + w))) (tz be) (be ^^^ 2 ^ tz be) st i := by
        obtain ⟨o, ho1, ho2, ho3⟩ := (Mt_step htb).mp mt1
        exact ⟨o, b_lt (show st < 1024 by omega) ho2, (c1 o).mpr ⟨ho1, ho2, ho3⟩⟩
      refine mk_s hM g0 g1 hpos (by omega) (by omega) (by omega) i0 i1 (fun p s hp0 hs0 => ?_)
      obtain ⟨hp, hfp, hfl⟩ := hp0
      obtain ⟨hs, hfs, hfsl⟩ := hs0
      replace hfp := (c0 p).mp hfp
      replace hfl : ∀ j, j < p → ¬ ffP (gPl N a b ma) (tz be) (be ^^^ 2 ^ tz be) pl j := fun j hj q => hfl j hj ((c0 j).mpr q)
      replace hfs := (c1 s).mp hfs
      replace hfsl : ∀ j, j < s → ¬ ffP (gSt N b c mc) (tz be) (be ^^^ 2 ^ tz be) st j := fun j hj q => hfsl j hj ((c1 j).mpr q)
      have hpm : p < ma := bl_lt hpl hfp.2.1
      have hsm : s < mc := bl_lt hst hfs.2.1
      obtain ⟨qa1, qa2, -⟩ := har p hpm
      obtain ⟨qb1, qb2, -⟩ := hbr (tz be) htm
      obtain ⟨qc1, qc2, -⟩ := hcr s hsm
      have p8 : ∀ i, P 8 i = N 8 i := fun i => (hP 8 i (by decide)).trans (base 8 i (by decide))
      have qa : P 8 (300 * a + p) = nI (prN P a p) ∧ prN P a p < 300 := by rw [prN, p8]; exact ⟨qa1, qa2⟩
      have qb : P 8 (300 * b + tz be) = nI (prN P b (tz be)) ∧ prN P b (tz be) < 300 := by rw [prN, p8]; exact ⟨qb1, qb2⟩
      have qc : P 8 (300 * c + s) = nI (prN P c s) ∧ prN P c s < 300 := by rw [prN, p8]; exact ⟨qc1, qc2⟩
      have hih := fun P' w2 => ih (be ^^^ 2 ^ tz be) (pl ^^^ 2 ^ p) (st ^^^ 2 ^ s) P' (k + 1) (made + 1) w2 (by omega) hbe' (x_2 hpl hfp.2.1) (x_2 hst hfs.2.1) hfp.2.2 hfs.2.2
      have hkk := fun T pl' st' w2 hT => hk ((tz be, p, s) :: T) pl' st' w2 ⟨by omega, rfl, ⟨hp, hfp, hfl⟩, ⟨hs, hfs, hfsl⟩, hT⟩
      have emk : ∀ T, mMk a b c ((tz be, p, s) :: T) k P = mMk a b c T (k + 1) (mW P k (prN P a p) (prN P b (tz be)) (prN P c s)) := fun T => rfl
      have hih := hih (mW P k (prN P a p) (prN P b (tz be)) (prN P c s))
      simp only [emk] at hkk
      clear emk
      generalize prN P a p = X at *
      generalize prN P b (tz be) = Y at *
      generalize prN P c s = Z at *
      have r0 : u2 (u2 (u2 P 38 (3 * k) (nI X)) 38 (3 * k + 1) (nI Y)) 38 (3 * k + 2) (nI Z) 38 (3 * k + 0) = nI X := by simp [u2]
      have r1 : u2 (u2 (u2 P 38 (3 * k) (nI X)) 38 (3 * k + 1) (nI Y)) 38 (3 * k + 2) (nI Z) 38 (3 * k + 1) = nI Y := by simp [u2]
      have r2 : u2 (u2 (u2 P 38 (3 * k) (nI X)) 38 (3 * k + 1) (nI Y)) 38 (3 * k + 2) (nI Z) 38 (3 * k + 2) = nI Z := by simp [u2]
      refine mk_a hM (by omega) ⟨hal, hbl, hcl⟩ ⟨hp, hs, ht⟩ qa.1 qb.1 qc.1 h40 (fun w2 hM => ?_)
      have p40 : u2 (u2 (u2 P 38 (3 * k) (nI X)) 38 (3 * k + 1) (nI Y)) 38 (3 * k + 2) (nI Z) 40 0 = nI k := by rw [u2_ne (by decide), u2_ne (by decide), u2_ne (by decide)]; exact h40
      generalize e3 : u2 (u2 (u2 P 38 (3 * k) (nI X)) 38 (3 * k + 1) (nI Y)) 38 (3 * k + 2) (nI Z) = P3 at *
      refine mk_b (i := 0) (X := X) hM (by decide) (by omega) r0 qa.2 p40 (fun w2 hM => ?_)
      refine mk_b (i := 1) (X := Y) hM (by decide) (by omega) ((mW1_ot _ _ _ _ _ (by decide)).trans r1) qb.2 ((mW1_ot _ _ _ _ _ (by decide)).trans p40) (fun w2 hM => ?_)
      refine mk_b (i := 2) (X := Z) hM (by decide) (by omega) ((mW1_ot _ _ _ _ _ (by decide)).trans ((mW1_ot _ _ _ _ _ (by decide)).trans r2)) qc.2 ((mW1_ot _ _ _ _ _ (by decide)).trans ((mW1_ot _ _ _ _ _ (by decide)).trans p40)) (fun w2 hM => ?_)
      refine mk_e hM (by omega) ((mW1_ot _ _ _ _ _ (by decide)).trans ((mW1_ot _ _ _ _ _ (by decide)).trans ((mW1_ot _ _ _ _ _ (by decide)).trans p40))) (fun w2 hM => ?_)
      have eW : u2 (u2 (mW1 (mW1 (mW1 P3 k X) k Y) k Z) 39 k 0) 40 0 (nI (k + 1)) = mW P k X Y Z := by rw [← e3, mW]
      rw [eW] at hM
      exact hih _ (fun f i hf => (mW_ot P k X Y Z f i hf).trans (hP f i hf)) (mW_40 P k X Y Z) (by omega) hM (fun T pl' st' w2 hT q1 q2 hM2 => by
        have := hkk T pl' st' w2 hT q1 q2 hM2
        rw [List.length_cons, show made + (T.length + 1) = made + 1 + T.length by omega] at this
        exact this)
  have n9 : ∀ i, mGw N a b c ma mc mb 9 i = N 9 i := fun i => base 9 i (by decide)
  refine ⟨hM1.k, _, hM1.rf _ rfl, hM1.kd _ rfl, a, _, hM1.ix _ rfl rfl hal, (hM1.rd _ rfl a).trans ((n9 a).trans ha9), ?_⟩
  refine ⟨hM1.k, _, hM1.rf _ rfl, hM1.kd _ rfl, c, _, hM1.ix _ rfl rfl hcl, (hM1.rd _ rfl c).trans ((n9 c).trans hc9), ?_⟩
  have ppa := Nat.two_pow_pos ma
  have ppc := Nat.two_pow_pos mc
  have go := key (bc B) B (2 ^ ma - 1) (2 ^ mc - 1) _ nw 0 w1 rfl hB1 (by omega) (by omega) hB2.1 hB2.2 (fun _ _ _ => rfl) ((base 40 0 (by decide)).trans hnw) hcnt hM1 (fun T pl' st' w2 hT hpl' hst' hM2 => by
    rw [Nat.zero_add]
    exact mk_z hM2 hab hac hbc hal hbl hcl ham hbm hcm hB1 hpl' hst' ((mMk_ot a b c 9 a (by decide) T nw _).trans ((n9 a).trans ha9)) ((mMk_ot a b c 9 b (by decide) T nw _).trans ((n9 b).trans hb9)) ((mMk_ot a b c 9 c (by decide) T nw _).trans ((n9 c).trans hc9)) (fun w5 hM5 => h1 T pl' st' w5 hT hM5))
  rw [← pm1, ← pm1, ← sh1 ma (by omega), ← sh1 mc (by omega)] at go
  exact go
end
section
/-! the reference: a new one; what the library gives -/
/-- the rows that stand so far -/
def RI (m0 n : Nat) (S : Hp) : Prop := gK S m0 = some 10 ∧ gZ S = m0 + 1 + n ∧ (∀ f, mAr f = true → mOf f ≤ n → gR S 10 f m0 = some (m0 + mOf f) ∧ gK S (m0 + mOf f) = some (mKd f) ∧ gN S (m0 + mOf f) = mLn f ∧ ∀ i, gA S (m0 + mOf f) i = 0) ∧ ∀ f, mIn f = true → gI S 10 f m0 = 0
theorem RI.k {m0 n : Nat} {S : Hp} (h : RI m0 n S) (t z : Nat) : gK (sArr S t z) m0 = some 10 := by
  have : m0 ≠ gZ S := by have := h.2.1; omega
  simp [gK, sArr, this]
  exact h.1
theorem RI.st {m0 n : Nat} {S : Hp} (h : RI m0 n S) (f : Nat) (hf : mAr f = true) (hn : mOf f = n + 1) : RI m0 (n + 1) (sR (sArr S (mKd f) (mLn f)) 10 f m0 (some (gZ S))) := by
  obtain ⟨h1, h2, h3, h4⟩ := h
  have hz : gZ S = m0 + mOf f := by omega
  refine ⟨?_, ?_, fun g hg hgn => ?_, fun g hg => ?_⟩
  · have : m0 ≠ gZ S := by omega
    show (if m0 = gZ S then some (mKd f) else gK S m0) = some 10
    rw [if_neg this]
    exact h1
  · show gZ S + 1 = _
    omega
  · by_cases hfg : g = f
    · subst hfg
      refine ⟨?_, ?_, ?_, fun i => ?_⟩
      · show u3 (gR S) 10 g m0 (some (gZ S)) 10 g m0 = _
        simp [u3, hz]
      · show (if m0 + mOf g = gZ S then some (mKd g) else _) = _
        rw [if_pos hz.symm]
      · show (if m0 + mOf g = gZ S then mLn g else _) = _
        rw [if_pos hz.symm]
      · show (if m0 + mOf g = gZ S then 0 else _) = _
        rw [if_pos hz.symm]
    · have hne : mOf g ≠ mOf f := fun q => hfg (mOf_inj g (mAr_el hg).1 f (mAr_el hf).1 (mAr_el hg).2 (mAr_el hf).2 q)
      have hne2 : m0 + mOf g ≠ gZ S := by omega
      obtain ⟨a1, a2, a3, a4⟩ := h3 g hg (by omega)
      refine ⟨?_, ?_, ?_, fun i => ?_⟩
      · show u3 (gR S) 10 f m0 (some (gZ S)) 10 g m0 = _
        rw [u3, if_neg (fun q => hfg q.2.1)]
        exact a1
      · show (if m0 + mOf g = gZ S then some (mKd f) else _) = _
        rw [if_neg hne2]; exact a2
      · show (if m0 + mOf g = gZ S then mLn f else _) = _
        rw [if_neg hne2]; exact a3
      · show (if m0 + mOf g = gZ S then 0 else _) = _
        rw [if_neg hne2]; exact a4 i
  · exact h4 g hg
theorem mOf_le : ∀ f, f < 43 → mOf f ≤ 33 := by decide +kernel
theorem RI.all {m0 : Nat} {S : Hp} (h : RI m0 33 S) : RM m0 (fun _ _ => 0) S := ⟨h.1, fun f hf => h.2.2.1 f hf (mOf_le f (mAr_el hf).1), h.2.2.2⟩
def sp_minit : Sp := fun as w K => ∃ m0, as = [.ref m0] ∧ RI m0 0 w ∧ ∀ w', RM m0 (fun _ _ => 0) w' → gZ w' = m0 + 34 → K none w'
theorem c_minit (l : Launch) : Ct l 82 1 33 22658 sp_minit := by
  refine ct_jd (by decide) rfl (fun as w Po h => ?_)
  obtain ⟨m0, rfl, h, hk⟩ := h
  refine ⟨Nat.le_of_ble_eq_true rfl, ?_⟩
  have s30 : ∀ w, RI m0 30 w → Jd l 82 1 33 22658 none Po 252 [(0, .ref m0)] [] w 30 22238 := by
    intro w h
    refine jd_s cdo_82 ev0 [] 60 ⟨by decide, by decide⟩ ?_
    refine ⟨300, ⟨rfl, by decide⟩, ⟨by decide, by decide⟩, h.k _ _, some (gZ _), rfl, ?_⟩
    replace h := h.st 38 rfl rfl
    refine ⟨100, ⟨rfl, by decide⟩, ⟨by decide, by decide⟩, h.k _ _, some (gZ _), rfl, ?_⟩
    replace h := h.st 39 rfl rfl
    refine ⟨20, ⟨rfl, by decide⟩, ⟨by decide, by decide⟩, h.k _ _, some (gZ _), rfl, ?_⟩
    replace h := h.st 42 rfl rfl
    exact hk _ h.all h.2.1
  have s27 : ∀ w, RI m0 27 w → Jd l 82 1 33 22658 none Po 230 [(0, .ref m0)] [] w 27 22134 := by
    intro w h
    refine jd_s cdo_82 ev0 [252] 60 ⟨by decide, by decide⟩ ?_
    refine ⟨100, ⟨rfl, by decide⟩, ⟨by decide, by decide⟩, h.k _ _, some (gZ _), rfl, ?_⟩
    replace h := h.st 34 rfl rfl
    refine ⟨2, ⟨rfl, by decide⟩, ⟨by decide, by decide⟩, h.k _ _, some (gZ _), rfl, ?_⟩
    replace h := h.st 36 rfl rfl
    refine ⟨2, ⟨rfl, by decide⟩, ⟨by decide, by decide⟩, h.k _ _, some (gZ _), rfl, ?_⟩
    replace h := h.st 37 rfl rfl
    exact s30 _ h
  have s24 : ∀ w, RI m0 24 w → Jd l 82 1 33 22658 none Po 206 [(0, .ref m0)] [] w 24 21834 := by
    intro w h
    refine jd_s cdo_82 ev0 [230] 60 ⟨by decide, by decide⟩ ?_
    refine ⟨100, ⟨rfl, by decide⟩, ⟨by decide, by decide⟩, h.k _ _, some (gZ _), rfl, ?_⟩
    replace h := h.st 31 rfl rfl
    refine ⟨100, ⟨rfl, by decide⟩, ⟨by decide, by decide⟩, h.k _ _, some (gZ _), rfl, ?_⟩
    replace h := h.st 32 rfl rfl
    refine ⟨100, ⟨rfl, by decide⟩, ⟨by decide, by decide⟩, h.k _ _, some (gZ _), rfl, ?_⟩
    replace h := h.st 33 rfl rfl
    exact s27 _ h
  have s21 : ∀ w, RI m0 21 w → Jd l 82 1 33 22658 none Po 179 [(0, .ref m0)] [] w 21 20334 := by
    intro w h
    refine jd_s cdo_82 ev0 [206] 60 ⟨by decide, by decide⟩ ?_
    refine ⟨500, ⟨rfl, by decide⟩, ⟨by decide, by decide⟩, h.k _ _, some (gZ _), rfl, ?_⟩
    replace h := h.st 27 rfl rfl
    refine ⟨500, ⟨rfl, by decide⟩, ⟨by decide, by decide⟩, h.k _ _, some (gZ _), rfl, ?_⟩
    replace h := h.st 28 rfl rfl
    refine ⟨500, ⟨rfl, by decide⟩, ⟨by decide, by decide⟩, h.k _ _, some (gZ _), rfl, ?_⟩
    replace h := h.st 29 rfl rfl
    exact s24 _ h
  have s18 : ∀ w, RI m0 18 w → Jd l 82 1 33 22658 none Po 155 [(0, .ref m0)] [] w 18 20307 := by
    intro w h
    refine jd_s cdo_82 ev0 [179] 60 ⟨by decide, by decide⟩ ?_
    refine ⟨9, ⟨rfl, by decide⟩, ⟨by decide, by decide⟩, h.k _ _, some (gZ _), rfl, ?_⟩
    replace h := h.st 21 rfl rfl
    refine ⟨9, ⟨rfl, by decide⟩, ⟨by decide, by decide⟩, h.k _ _, some (gZ _), rfl, ?_⟩
    replace h := h.st 22 rfl rfl
    refine ⟨9, ⟨rfl, by decide⟩, ⟨by decide, by decide⟩, h.k _ _, some (gZ _), rfl, ?_⟩
    replace h := h.st 23 rfl rfl
    exact s21 _ h
  have s15 : ∀ w, RI m0 15 w → Jd l 82 1 33 22658 none Po 131 [(0, .ref m0)] [] w 15 20280 := by
    intro w h
    refine jd_s cdo_82 ev0 [155] 60 ⟨by decide, by decide⟩ ?_
    refine ⟨9, ⟨rfl, by decide⟩, ⟨by decide, by decide⟩, h.k _ _, some (gZ _), rfl, ?_⟩
    replace h := h.st 18 rfl rfl
    refine ⟨9, ⟨rfl, by decide⟩, ⟨by decide, by decide⟩, h.k _ _, some (gZ _), rfl, ?_⟩
    replace h := h.st 19 rfl rfl
    refine ⟨9, ⟨rfl, by decide⟩, ⟨by decide, by decide⟩, h.k _ _, some (gZ _), rfl, ?_⟩
    replace h := h.st 20 rfl rfl
    exact s18 _ h
  have s12 : ∀ w, RI m0 12 w → Jd l 82 1 33 22658 none Po 107 [(0, .ref m0)] [] w 12 20100 := by
    intro w h
    refine jd_s cdo_82 ev0 [131] 60 ⟨by decide, by decide⟩ ?_
    refine ⟨60, ⟨rfl, by decide⟩, ⟨by decide, by decide⟩, h.k _ _, some (gZ _), rfl, ?_⟩
    replace h := h.st 13 rfl rfl
    refine ⟨60, ⟨rfl, by decide⟩, ⟨by decide, by decide⟩, h.k _ _, some (gZ _), rfl, ?_⟩
    replace h := h.st 14 rfl rfl
    refine ⟨60, ⟨rfl, by decide⟩, ⟨by decide, by decide⟩, h.k _ _, some (gZ _), rfl, ?_⟩
    replace h := h.st 15 rfl rfl
    exact s15 _ h
  have s9 : ∀ w, RI m0 9 w → Jd l 82 1 33 22658 none Po 83 [(0, .ref m0)] [] w 9 19920 := by
    intro w h
    refine jd_s cdo_82 ev0 [107] 60 ⟨by decide, by decide⟩ ?_
    refine ⟨60, ⟨rfl, by decide⟩, ⟨by decide, by decide⟩, h.k _ _, some (gZ _), rfl, ?_⟩
    replace h := h.st 10 rfl rfl
    refine ⟨60, ⟨rfl, by decide⟩, ⟨by decide, by decide⟩, h.k _ _, some (gZ _), rfl, ?_⟩
    replace h := h.st 11 rfl rfl
    refine ⟨60, ⟨rfl, by decide⟩, ⟨by decide, by decide⟩, h.k _ _, some (gZ _), rfl, ?_⟩
    replace h := h.st 12 rfl rfl
    exact s12 _ h
  have s6 : ∀ w, RI m0 6 w → Jd l 82 1 33 22658 none Po 58 [(0, .ref m0)] [] w 6 1800 := by
    intro w h
    refine jd_s cdo_82 ev0 [83] 60 ⟨by decide, by decide⟩ ?_
    refine ⟨60, ⟨rfl, by decide⟩, ⟨by decide, by decide⟩, h.k _ _, some (gZ _), rfl, ?_⟩
    replace h := h.st 7 rfl rfl
    refine ⟨18000, ⟨rfl, by decide⟩, ⟨by decide, by decide⟩, h.k _ _, some (gZ _), rfl, ?_⟩
    replace h := h.st 8 rfl rfl
    refine ⟨60, ⟨rfl, by decide⟩, ⟨by decide, by decide⟩, h.k _ _, some (gZ _), rfl, ?_⟩
    replace h := h.st 9 rfl rfl
    exact s9 _ h
  have s3 : ∀ w, RI m0 3 w → Jd l 82 1 33 22658 none Po 31 [(0, .ref m0)] [] w 3 900 := by
    intro w h
    refine jd_s cdo_82 ev0 [58] 60 ⟨by decide, by decide⟩ ?_
    refine ⟨300, ⟨rfl, by decide⟩, ⟨by decide, by decide⟩, h.k _ _, some (gZ _), rfl, ?_⟩
    replace h := h.st 3 rfl rfl
    refine ⟨300, ⟨rfl, by decide⟩, ⟨by decide, by decide⟩, h.k _ _, some (gZ _), rfl, ?_⟩
    replace h := h.st 4 rfl rfl
    refine ⟨300, ⟨rfl, by decide⟩, ⟨by decide, by decide⟩, h.k _ _, some (gZ _), rfl, ?_⟩
    replace h := h.st 5 rfl rfl
    exact s6 _ h
  refine jd_s cdo_82 ev0 [31] 60 ⟨by decide, by decide⟩ ?_
  refine ⟨rfl, by decide, ?_⟩
  refine ⟨300, ⟨rfl, by decide⟩, ⟨by decide, by decide⟩, h.k _ _, some (gZ _), rfl, ?_⟩
  replace h := h.st 0 rfl rfl
  refine ⟨300, ⟨rfl, by decide⟩, ⟨by decide, by decide⟩, h.k _ _, some (gZ _), rfl, ?_⟩
  replace h := h.st 1 rfl rfl
  refine ⟨300, ⟨rfl, by decide⟩, ⟨by decide, by decide⟩, h.k _ _, some (gZ _), rfl, ?_⟩
  replace h := h.st 2 rfl rfl
  exact s3 _ h
def sp_min : Sp := fun as w K => ∃ a b : Int32, as = [.int a, .int b] ∧ K (some (.int (if a ≤ b then a else b))) w
theorem c_min (l : Launch) : Ct l 48 1 0 0 sp_min := by
  refine ct_jd (by decide) rfl (fun as w Po h => ?_)
  obtain ⟨a, b, rfl, h⟩ := h
  refine ⟨Nat.le_of_ble_eq_true rfl, jd_run cdo_48 ev0 20 z00 ⟨fun c => ?_, fun c => ?_⟩⟩
  · rw [if_neg (lt_nle c)] at h
    exact h
  · rw [if_pos (nlt_le c)] at h
    exact h
def flA (w : Hp) (a : Nat) (v : Int32) : Nat → Hp
  | 0 => w
  | k + 1 => sA (flA w a v k) a k v
theorem flA_k (w : Hp) (a : Nat) (v : Int32) : ∀ k, gK (flA w a v k) = gK w ∧ gN (flA w a v k) = gN w
  | 0 => ⟨rfl, rfl⟩
  | k + 1 => flA_k w a v k
def sp_fill : Sp := fun as w K => ∃ a v n, as = [.ref a, .int v] ∧ gK w a = some 20 ∧ gN w a = n ∧ n < 1000 ∧ K none (flA w a v n)
theorem c_fill (l : Launch) : Ct l 50 1 0 0 sp_fill := by
  refine ct_jd (by decide) rfl (fun as w Po h => ?_)
  obtain ⟨a, v, n, rfl, hk, hn, hn2, h⟩ := h
  refine ⟨Nat.le_of_ble_eq_true rfl, ?_⟩
  have key : ∀ d i, i + d = n → Jd l 50 1 0 0 none Po 5 [(3, .int (nI n)), (2, .int (nI i)), (0, .ref a), (1, .int v)] [] (flA w a v i) 0 0 := by
    intro d
    induction d with
    | zero =>
      intro i hi
      obtain rfl : i = n := by omega
      refine jd_s cdo_50 ev0 [] 20 z00 ⟨fun _ => h, fun c => absurd (nI_le (Nat.le_refl i) (by omega)) c⟩
    | succ d ih =>
      intro i hi
      refine jd_s cdo_50 ev0 [5] 20 z00 ⟨fun c => ?_, fun _ => ?_⟩
      · have := ge_n (by omega) (by omega) c
        omega
      · refine ⟨by rw [(flA_k w a v i).1]; exact hk, i, ⟨rfl, by rw [(flA_k w a v i).2, hn]; omega, by omega⟩, ?_⟩
        have := ih (i + 1) (by omega)
        rw [← nI_1] at this
        exact jd_pk [1, 0, 2, 3] this
  refine jd_s cdo_50 ev0 [5] 20 z00 ⟨hk, ?_⟩
  rw [hn]
  exact key n 0 (by omega)
end
section
/-! THE CLASS: its store by numbers: how many of a kind, where each lies, fields of numbers, links (0 none, j + 1 the j-th of the kind), rows.
0 Fit low high. 1 Home number rate off breaks way worked broke waiting firstWaiting lastWaiting lastSending lastWage. 2 Lot number kind first last size stand home toGo lastWorked worked nextWaiting. 3 Making plates stones wheelCount bestCount bestSet. 4 Mates fitting holder settled given seen. 5 Piece number kind raw size homes state place next. 6 Sending day pieces before. 7 Wage toldOn from amount before. 8 Watch plate wheel stone isBack. 9 WatchValley pieces lots homes watches plateFit stoneFit making pieceCount lotCount homeCount watchCount sendingCount wageCount today. 20 the rows of the two Mates. 23 to 26 the rows of pieces, lots, homes, watches -/
abbrev Cs : Type := (Nat → Nat) × (Nat → Nat → Nat) × (Nat → Nat → Nat → Int32) × (Nat → Nat → Nat → Nat) × (Nat → Nat → Int32)
def cN (C : Cs) : Nat → Nat := C.1
def cA (C : Cs) : Nat → Nat → Nat := C.2.1
def cI (C : Cs) : Nat → Nat → Nat → Int32 := C.2.2.1
def cL (C : Cs) : Nat → Nat → Nat → Nat := C.2.2.2.1
def cX (C : Cs) : Nat → Nat → Int32 := C.2.2.2.2
def tgT : List (List Nat) := [[], [0, 0, 0, 0, 0, 0, 0, 0, 2, 2, 6, 7], [0, 0, 5, 5, 0, 0, 1, 0, 5, 0, 2], [4, 4], [20, 20, 20], [0, 0, 0, 0, 0, 0, 0, 5], [0, 0, 6], [0, 0, 0, 7], [5, 5, 5], [23, 24, 25, 26, 0, 0, 3]]
/-- the kind that a link leads to -/
def tgt (t k : Nat) : Nat := (tgT.getD t []).getD k 0
def rwT (t : Nat) : Nat := [5, 2, 1, 8].getD (t - 23) 0
def rwL (t : Nat) : Nat := [300, 60, 9, 100].getD (t - 23) 0
def adO (C : Cs) (t : Nat) : Nat → Option Nat
  | 0 => none
  | j + 1 => some (cA C t j)
def wI (C : Cs) (t k i : Nat) (v : Int32) : Cs := (cN C, cA C, u3 (cI C) t k i v, cL C, cX C)
def wL (C : Cs) (t k i c : Nat) : Cs := (cN C, cA C, cI C, u3 (cL C) t k i c, cX C)
def wX (C : Cs) (i j : Nat) (v : Int32) : Cs := (cN C, cA C, cI C, cL C, u2 (cX C) i j v)
/-- one more of kind t, at a -/
def wN (C : Cs) (t a : Nat) : Cs := (fun s => if s = t then cN C t + 1 else cN C s, fun s i => if s = t ∧ i = cN C t then a else cA C s i, fun s k i => if s = t ∧ i = cN C t then 0 else cI C s k i, fun s k i => if s = t ∧ i = cN C t then 0 else cL C s k i, cX C)
def cSt (C : Cs) : Prop := cN C 9 = 1 ∧ cN C 0 = 2 ∧ cN C 3 = 1 ∧ cN C 4 = 2 ∧ cN C 20 = 6 ∧ cN C 23 = 1 ∧ cN C 24 = 1 ∧ cN C 25 = 1 ∧ cN C 26 = 1
def RX (C : Cs) (S : Hp) : Prop :=
  ((∀ t i, i < cN C t → gK S (cA C t i) = some t ∧ cA C t i < gZ S) ∧ (∀ t i j, i < cN C t → j < cN C t → cA C t i = cA C t j → i = j)) ∧
  ((∀ t k i, t < 10 → i < cN C t → isRf t k = false → gI S t k (cA C t i) = cI C t k i) ∧ (∀ t k i, t < 10 → i < cN C t → isRf t k = true → gR S t k (cA C t i) = adO C (tgt t k) (cL C t k i) ∧ cL C t k i ≤ cN C (tgt t k))) ∧
  ((∀ i j, i < cN C 20 → gA S (cA C 20 i) j = cX C i j) ∧ (∀ i, i < cN C 20 → gN S (cA C 20 i) = 10)) ∧
  (∀ t, 23 ≤ t → t < 27 → cN C t = 1 ∧ gN S (cA C t 0) = rwL t ∧ ∀ j, gQ S (cA C t 0) j = adO C (rwT t) (cL C t j 0) ∧ cL C t j 0 ≤ cN C (rwT t))
section RXS
variable {C : Cs} {S : Hp}
theorem RX.k (h : RX C S) (t i : Nat) (hi : i < cN C t) : gK S (cA C t i) = some t := (h.1.1 t i hi).1
theorem RX.z (h : RX C S) (t i : Nat) (hi : i < cN C t) : cA C t i < gZ S := (h.1.1 t i hi).2
theorem RX.inj (h : RX C S) {t i j : Nat} (hi : i < cN C t) (hj : j < cN C t) (e : cA C t i = cA C t j) : i = j := h.1.2 t i j hi hj e
theorem RX.gi (h : RX C S) (t k i : Nat) (ht : t < 10) (hi : i < cN C t) (hr : isRf t k = false) : gI S t k (cA C t i) = cI C t k i := h.2.1.1 t k i ht hi hr
theorem RX.gr (h : RX C S) (t k i : Nat) (ht : t < 10) (hi : i < cN C t) (hr : isRf t k = true) : gR S t k (cA C t i) = adO C (tgt t k) (cL C t k i) := (h.2.1.2 t k i ht hi hr).1
theorem RX.lb (h : RX C S) (t k i : Nat) (ht : t < 10) (hi : i < cN C t) (hr : isRf t k = true) : cL C t k i ≤ cN C (tgt t k) := (h.2.1.2 t k i ht hi hr).2
theorem RX.g0 (h : RX C S) (t k i : Nat) (ht : t < 10) (hi : i < cN C t) (hr : isRf t k = true) (e : cL C t k i = 0) : gR S t k (cA C t i) = none := by rw [h.gr t k i ht hi hr, e]; rfl
theorem RX.g1 (h : RX C S) (t k i : Nat) (ht : t < 10) (hi : i < cN C t) (hr : isRf t k = true) {j : Nat} (e : cL C t k i = j + 1) : gR S t k (cA C t i) = some (cA C (tgt t k) j) := by rw [h.gr t k i ht hi hr, e]; rfl
theorem RX.l1 (h : RX C S) (t k i : Nat) (ht : t < 10) (hi : i < cN C t) (hr : isRf t k = true) {j : Nat} (e : cL C t k i = j + 1) : j < cN C (tgt t k) := by
  have := h.lb t k i ht hi hr
  rw [e] at this
  exact this
theorem RX.xa (h : RX C S) (i j : Nat) (hi : i < cN C 20) : gA S (cA C 20 i) j = cX C i j := h.2.2.1.1 i j hi
theorem RX.xn (h : RX C S) (i : Nat) (hi : i < cN C 20) : gN S (cA C 20 i) = 10 := h.2.2.1.2 i hi
theorem RX.qn (h : RX C S) (t : Nat) (h1 : 23 ≤ t) (h2 : t < 27) : gN S (cA C t 0) = rwL t := (h.2.2.2 t h1 h2).2.1
theorem RX.qc (h : RX C S) (t : Nat) (h1 : 23 ≤ t) (h2 : t < 27) : cN C t = 1 := (h.2.2.2 t h1 h2).1
theorem RX.qq (h : RX C S) (t : Nat) (h1 : 23 ≤ t) (h2 : t < 27) (j : Nat) : gQ S (cA C t 0) j = adO C (rwT t) (cL C t j 0) := ((h.2.2.2 t h1 h2).2.2 j).1
theorem RX.ql (h : RX C S) (t : Nat) (h1 : 23 ≤ t) (h2 : t < 27) (j : Nat) : cL C t j 0 ≤ cN C (rwT t) := ((h.2.2.2 t h1 h2).2.2 j).2
/-- the place j of a row of links -/
theorem RX.ix (h : RX C S) (t : Nat) (h1 : 23 ≤ t) (h2 : t < 27) {x : Int32} {j : Nat} (hx : x = nI j) (hj : j < rwL t) : ixO x (gN S (cA C t 0)) j := by
  refine ⟨hx, by rw [h.qn t h1 h2]; exact hj, ?_⟩
  have : rwL t ≤ 300 := by
    have : ∀ t, 23 ≤ t → t < 27 → rwL t ≤ 300 := by
      intro t a b
      rcases (show t = 23 ∨ t = 24 ∨ t = 25 ∨ t = 26 by omega) with rfl | rfl | rfl | rfl <;> decide
    exact this t h1 h2
  omega
theorem RX.ixa (h : RX C S) (i : Nat) (hi : i < cN C 20) {x : Int32} {j : Nat} (hx : x = nI j) (hj : j < 10) : ixO x (gN S (cA C 20 i)) j := ⟨hx, by rw [h.xn i hi]; exact hj, by omega⟩
theorem RX.wi (h : RX C S) (t k i : Nat) (hi : i < cN C t) (v : Int32) : RX (wI C t k i v) (sI S t k (cA C t i) v) := by
  refine ⟨h.1, ⟨fun t' k' i' ht hi' hr => ?_, h.2.1.2⟩, h.2.2.1, h.2.2.2⟩
  show u3 (gI S) t k (cA C t i) v t' k' (cA C t' i') = u3 (cI C) t k i v t' k' i'
  by_cases e : t' = t ∧ k' = k ∧ i' = i
  · obtain ⟨rfl, rfl, rfl⟩ := e
    simp [u3]
  · have e2 : ¬ (t' = t ∧ k' = k ∧ cA C t' i' = cA C t i) := by
      rintro ⟨rfl, rfl, q⟩
      exact e ⟨rfl, rfl, h.inj hi' hi q⟩
    rw [u3, u3, if_neg e, if_neg e2]
    exact h.gi t' k' i' ht hi' hr
theorem RX.wl (h : RX C S) (t k i c : Nat) (hi : i < cN C t) (hc : c ≤ cN C (tgt t k)) (ht10 : t < 10) : RX (wL C t k i c) (sR S t k (cA C t i) (adO C (tgt t k) c)) := by
  refine ⟨h.1, ⟨h.2.1.1, fun t' k' i' ht hi' hr => ?_⟩, h.2.2.1, fun s h1 h2 => ⟨h.qc s h1 h2, h.qn s h1 h2, fun j => ?_⟩⟩
  · show u3 (gR S) t k (cA C t i) (adO C (tgt t k) c) t' k' (cA C t' i') = adO C (tgt t' k') (u3 (cL C) t k i c t' k' i') ∧ u3 (cL C) t k i c t' k' i' ≤ cN C (tgt t' k')
    by_cases e : t' = t ∧ k' = k ∧ i' = i
    · obtain ⟨rfl, rfl, rfl⟩ := e
      simp [u3, hc]
    · have e2 : ¬ (t' = t ∧ k' = k ∧ cA C t' i' = cA C t i) := by
        rintro ⟨rfl, rfl, q⟩
        exact e ⟨rfl, rfl, h.inj hi' hi q⟩
      rw [u3, u3, if_neg e, if_neg e2]
      exact h.2.1.2 t' k' i' ht hi' hr
  · show gQ S (cA C s 0) j = adO C (rwT s) (u3 (cL C) t k i c s j 0) ∧ u3 (cL C) t k i c s j 0 ≤ cN C (rwT s)
    have e : ¬ (s = t ∧ j = k ∧ 0 = i) := fun q => by omega
    rw [u3, if_neg e]
    exact ⟨h.qq s h1 h2 j, h.ql s h1 h2 j⟩
theorem RX.wx (h : RX C S) (i j : Nat) (hi : i < cN C 20) (v : Int32) : RX (wX C i j v) (sA S (cA C 20 i) j v) := by
  refine ⟨h.1, h.2.1, ⟨fun i' j' hi' => ?_, h.2.2.1.2⟩, h.2.2.2⟩
  show u2 (gA S) (cA C 20 i) j v (cA C 20 i') j' = u2 (cX C) i j v i' j'
  by_cases e : i' = i ∧ j' = j
  · obtain ⟨rfl, rfl⟩ := e
    simp [u2]
  · have e2 : ¬ (cA C 20 i' = cA C 20 i ∧ j' = j) := by
      rintro ⟨q, rfl⟩
      exact e ⟨h.inj hi' hi q, rfl⟩
    rw [u2, u2, if_neg e, if_neg e2]
    exact h.xa i' j' hi'
/-- a place of a row of links is written -/
theorem RX.wq (h : RX C S) (t j c : Nat) (h1 : 23 ≤ t) (h2 : t < 27) (hc : c < cN C (rwT t)) : RX (wL C t j 0 (c + 1)) (sQ S (cA C t 0) j (some (cA C (rwT t) c))) := by
  refine ⟨h.1, ⟨h.2.1.1, fun t' k' i' ht hi' hr => ?_⟩, h.2.2.1, fun s q1 q2 => ⟨h.qc s q1 q2, h.qn s q1 q2, fun j' => ?_⟩⟩
  · show gR S t' k' (cA C t' i') = adO C (tgt t' k') (u3 (cL C) t j 0 (c + 1) t' k' i') ∧ u3 (cL C) t j 0 (c + 1) t' k' i' ≤ cN C (tgt t' k')
    have e : ¬ (t' = t ∧ k' = j ∧ i' = 0) := fun q => by omega
    rw [u3, if_neg e]
    exact h.2.1.2 t' k' i' ht hi' hr
  · show u2 (gQ S) (cA C t 0) j (some (cA C (rwT t) c)) (cA C s 0) j' = adO C (rwT s) (u3 (cL C) t j 0 (c + 1) s j' 0) ∧ u3 (cL C) t j 0 (c + 1) s j' 0 ≤ cN C (rwT s)
    by_cases e : s = t ∧ j' = j
    · obtain ⟨rfl, rfl⟩ := e
      simp [u2, u3, adO]
      exact hc
    · have e2 : ¬ (cA C s 0 = cA C t 0 ∧ j' = j) := by
        rintro ⟨q, rfl⟩
        have k1 := h.k s 0 (by rw [h.qc s q1 q2]; decide)
        have k2 := h.k t 0 (by rw [h.qc t h1 h2]; decide)
        rw [q, k2] at k1
        exact e ⟨(Option.some.inj k1).symm, rfl⟩
      have e3 : ¬ (s = t ∧ j' = j ∧ 0 = 0) := fun q => e ⟨q.1, q.2.1⟩
      rw [u2, u3, if_neg e3, if_neg e2]
      exact ⟨h.qq s q1 q2 j', h.ql s q1 q2 j'⟩
theorem adO_n {C : Cs} {t a s c : Nat} (hc : c ≤ cN C s) : adO (wN C t a) s c = adO C s c := by
  cases c with
  | zero => rfl
  | succ j =>
    show some (if s = t ∧ j = cN C t then a else cA C s j) = some (cA C s j)
    rw [if_neg (fun q => by obtain ⟨rfl, rfl⟩ := q; omega)]
theorem wN_le {C : Cs} {t a s : Nat} : cN C s ≤ cN (wN C t a) s := by
  show _ ≤ if s = t then cN C t + 1 else cN C s
  split
  · rename_i q; subst q; omega
  · exact Nat.le_refl _
/-- a new object -/
theorem RX.new (h : RX C S) (t : Nat) (ht : t < 10) : RX (wN C t (gZ S)) (sNew S t) := by
  have old : ∀ s i, i < cN (wN C t (gZ S)) s → (i < cN C s ∧ cA (wN C t (gZ S)) s i = cA C s i ∧ ¬ (s = t ∧ i = cN C t)) ∨ (s = t ∧ i = cN C t ∧ cA (wN C t (gZ S)) s i = gZ S) := by
    intro s i hi
    by_cases e : s = t ∧ i = cN C t
    · exact Or.inr ⟨e.1, e.2, if_pos e⟩
    · refine Or.inl ⟨?_, if_neg e, e⟩
      have hi : i < if s = t then cN C t + 1 else cN C s := hi
      by_cases q : s = t
      · subst q
        rw [if_pos rfl] at hi
        have : ¬ i = cN C s := fun z => e ⟨rfl, z⟩
        omega
      · rw [if_neg q] at hi
        exact hi
  have a23 : ∀ s, 23 ≤ s → s < 27 → cA (wN C t (gZ S)) s 0 = cA C s 0 ∧ cA C s 0 ≠ gZ S := by
    intro s h1 h2
    have hz := h.z s 0 (by rw [h.qc s h1 h2]; decide)
    exact ⟨if_neg (fun q => by omega), by omega⟩
  have a20 : ∀ i, i < cN (wN C t (gZ S)) 20 → i < cN C 20 ∧ cA (wN C t (gZ S)) 20 i = cA C 20 i ∧ cA C 20 i ≠ gZ S := by
    intro i hi
    have hi : i < if 20 = t then cN C t + 1 else cN C 20 := hi
    rw [if_neg (by omega)] at hi
    have hz := h.z 20 i hi
    exact ⟨hi, if_neg (fun q => by omega), by omega⟩
  refine ⟨⟨fun s i hi => ?_, fun s i j hi hj e => ?_⟩, ⟨fun s k i hs hi hr => ?_, fun s k i hs hi hr => ?_⟩, ⟨fun i j hi => ?_, fun i hi => ?_⟩, fun s h1 h2 => ⟨?_, ?_, fun j => ?_⟩⟩
  · rcases old s i hi with ⟨q1, q2, -⟩ | ⟨q1, q2, q3⟩
    · rw [q2]
      have hz := h.z s i q1
      refine ⟨?_, show cA C s i < gZ S + 1 by omega⟩
      show (if cA C s i = gZ S then some t else gK S (cA C s i)) = _
      rw [if_neg (by omega)]
      exact h.k s i q1
    · rw [q3, q1]
      refine ⟨?_, show gZ S < gZ S + 1 by omega⟩
      show (if gZ S = gZ S then some t else _) = _
      rw [if_pos rfl]
  · rcases old s i hi with ⟨q1, q2, -⟩ | ⟨q1, q2, q3⟩
    · rcases old s j hj with ⟨p1, p2, -⟩ | ⟨p1, p2, p3⟩
      · rw [q2, p2] at e
        exact h.inj q1 p1 e
      · rw [q2, p3] at e
        have := h.z s i q1
        omega
    · rcases old s j hj with ⟨p1, p2, -⟩ | ⟨p1, p2, p3⟩
      · rw [q3, p2] at e
        have := h.z s j p1
        omega
      · omega
  · show (if cA (wN C t (gZ S)) s i = gZ S then 0 else gI S s k (cA (wN C t (gZ S)) s i)) = if s = t ∧ i = cN C t then 0 else cI C s k i
    rcases old s i hi with ⟨q1, q2, q3⟩ | ⟨q1, q2, q3⟩
    · rw [q2, if_neg q3, if_neg (by have := h.z s i q1; omega)]
      exact h.gi s k i hs q1 hr
    · rw [q3, if_pos rfl, if_pos ⟨q1, q2⟩]
  · show (if cA (wN C t (gZ S)) s i = gZ S then none else gR S s k (cA (wN C t (gZ S)) s i)) = adO (wN C t (gZ S)) (tgt s k) (if s = t ∧ i = cN C t then 0 else cL C s k i) ∧ (if s = t ∧ i = cN C t then 0 else cL C s k i) ≤ cN (wN C t (gZ S)) (tgt s k)
    rcases old s i hi with ⟨q1, q2, q3⟩ | ⟨q1, q2, q3⟩
    · rw [q2, if_neg q3, if_neg (by have := h.z s i q1; omega)]
      have hb := h.lb s k i hs q1 hr
      rw [adO_n hb]
      exact ⟨h.gr s k i hs q1 hr, Nat.le_trans hb wN_le⟩
    · rw [q3, if_pos rfl, if_pos ⟨q1, q2⟩]
      exact ⟨rfl, Nat.zero_le _⟩
  · obtain ⟨q1, q2, q3⟩ := a20 i hi
    rw [q2]
    exact h.xa i j q1
  · obtain ⟨q1, q2, q3⟩ := a20 i hi
    rw [q2]
    exact h.xn i q1
  · show (if s = t then cN C t + 1 else cN C s) = 1
    rw [if_neg (by omega)]
    exact h.qc s h1 h2
  · rw [(a23 s h1 h2).1]
    exact h.qn s h1 h2
  · rw [(a23 s h1 h2).1]
    show gQ S (cA C s 0) j = adO (wN C t (gZ S)) (rwT s) (if s = t ∧ 0 = cN C t then 0 else cL C s j 0) ∧ (if s = t ∧ 0 = cN C t then 0 else cL C s j 0) ≤ cN (wN C t (gZ S)) (rwT s)
    rw [if_neg (fun q => by omega)]
    have hb := h.ql s h1 h2 j
    rw [adO_n hb]
    exact ⟨h.qq s h1 h2 j, Nat.le_trans hb wN_le⟩
end RXS
end
section
/-! THE CLASS: what stands fixed, what is found by its number -/
section RXP
variable {C : Cs} {S : Hp}
theorem RX.k' (h : RX C S) (t i : Nat) {a : Nat} (ha : cA C t i = a) (hi : i < cN C t) : gK S a = some t := by rw [← ha]; exact h.k t i hi
theorem RX.gi' (h : RX C S) (t k i : Nat) {a : Nat} (ha : cA C t i = a) (ht : t < 10) (hi : i < cN C t) (hr : isRf t k = false) : gI S t k a = cI C t k i := by rw [← ha]; exact h.gi t k i ht hi hr
theorem RX.gr' (h : RX C S) (t k i : Nat) {a : Nat} (ha : cA C t i = a) (ht : t < 10) (hi : i < cN C t) (hr : isRf t k = true) : gR S t k a = adO C (tgt t k) (cL C t k i) := by rw [← ha]; exact h.gr t k i ht hi hr
theorem RX.wi' (h : RX C S) (t k i : Nat) {a : Nat} (ha : cA C t i = a) (hi : i < cN C t) (v : Int32) : RX (wI C t k i v) (sI S t k a v) := by rw [← ha]; exact h.wi t k i hi v
theorem RX.wl' (h : RX C S) (t k i c : Nat) {a : Nat} {o : Option Nat} (ha : cA C t i = a) (ho : adO C (tgt t k) c = o) (hi : i < cN C t) (hc : c ≤ cN C (tgt t k)) (ht10 : t < 10) : RX (wL C t k i c) (sR S t k a o) := by rw [← ha, ← ho]; exact h.wl t k i c hi hc ht10
theorem RX.wq' (h : RX C S) (t j c : Nat) {a b : Nat} (ha : cA C t 0 = a) (hb : cA C (rwT t) c = b) (h1 : 23 ≤ t) (h2 : t < 27) (hc : c < cN C (rwT t)) : RX (wL C t j 0 (c + 1)) (sQ S a j (some b)) := by rw [← ha, ← hb]; exact h.wq t j c h1 h2 hc
end RXP
def FX (C : Cs) : Prop := (cN C 9 = 1 ∧ cN C 0 = 2 ∧ cN C 3 = 1 ∧ cN C 4 = 2 ∧ cN C 20 = 6) ∧ (cL C 9 0 0 = 1 ∧ cL C 9 1 0 = 1 ∧ cL C 9 2 0 = 1 ∧ cL C 9 3 0 = 1 ∧ cL C 9 4 0 = 1 ∧ cL C 9 5 0 = 2 ∧ cL C 9 6 0 = 1) ∧ (cL C 3 0 0 = 1 ∧ cL C 3 1 0 = 2) ∧ ∀ k i, k < 3 → i < 2 → cL C 4 k i = 3 * i + k + 1
section FXS
variable {C : Cs}
theorem FX.x (h : FX C) : 0 < cN C 9 := by rw [h.1.1]; decide
theorem FX.l0 (h : FX C) : cL C 9 0 0 = 0 + 1 := h.2.1.1
theorem FX.l1 (h : FX C) : cL C 9 1 0 = 0 + 1 := h.2.1.2.1
theorem FX.l2 (h : FX C) : cL C 9 2 0 = 0 + 1 := h.2.1.2.2.1
theorem FX.l3 (h : FX C) : cL C 9 3 0 = 0 + 1 := h.2.1.2.2.2.1
theorem FX.l4 (h : FX C) : cL C 9 4 0 = 0 + 1 := h.2.1.2.2.2.2.1
theorem FX.l5 (h : FX C) : cL C 9 5 0 = 1 + 1 := h.2.1.2.2.2.2.2.1
theorem FX.l6 (h : FX C) : cL C 9 6 0 = 0 + 1 := h.2.1.2.2.2.2.2.2
end FXS
/-- those of kind t are found in the row a by their numbers; field f of the whole says how many -/
def NB (C : Cs) (a t f lim n : Nat) : Prop := cI C 9 f 0 = nI n ∧ n ≤ lim ∧ cN C t = n ∧ ∀ j, j < n → cL C a j 0 = j + 1
theorem u3_t {α : Type} {f : Nat → Nat → Nat → α} {c k a c' k' a' : Nat} {v : α} (h : c' ≠ c) : u3 f c k a v c' k' a' = f c' k' a' := by simp [u3, h]
theorem u3_k {α : Type} {f : Nat → Nat → Nat → α} {c k a c' k' a' : Nat} {v : α} (h : k' ≠ k) : u3 f c k a v c' k' a' = f c' k' a' := by simp [u3, h]
theorem FX_wL {C : Cs} (h : FX C) (t k i c : Nat) (ht : t ≠ 9 ∧ t ≠ 3 ∧ t ≠ 4) : FX (wL C t k i c) := by
  obtain ⟨h1, h2, h3, h4⟩ := h
  have e9 : ∀ k' i', cL (wL C t k i c) 9 k' i' = cL C 9 k' i' := fun k' i' => u3_t (Ne.symm ht.1)
  have e3 : ∀ k' i', cL (wL C t k i c) 3 k' i' = cL C 3 k' i' := fun k' i' => u3_t (Ne.symm ht.2.1)
  have e4 : ∀ k' i', cL (wL C t k i c) 4 k' i' = cL C 4 k' i' := fun k' i' => u3_t (Ne.symm ht.2.2)
  refine ⟨h1, ?_, ?_, fun k' i' a b => (e4 k' i').trans (h4 k' i' a b)⟩
  · rw [e9, e9, e9, e9, e9, e9, e9]; exact h2
  · rw [e3, e3]; exact h3
theorem NB_wL {C : Cs} {a t f lim n : Nat} (h : NB C a t f lim n) (t' k i c : Nat) (ht : a ≠ t') : NB (wL C t' k i c) a t f lim n := ⟨h.1, h.2.1, h.2.2.1, fun j hj => (u3_t ht).trans (h.2.2.2 j hj)⟩
theorem NB_wI {C : Cs} {a t f lim n : Nat} (h : NB C a t f lim n) (t' k i : Nat) (v : Int32) (ht : t' ≠ 9 ∨ k ≠ f) : NB (wI C t' k i v) a t f lim n := by
  refine ⟨?_, h.2⟩
  rcases ht with q | q
  · exact (u3_t (Ne.symm q)).trans h.1
  · exact (u3_k (Ne.symm q)).trans h.1
def sp_nb (a t f lim : Nat) : Sp := fun as w K => ∃ C x n, as = [.ref (cA C 9 0), .int x] ∧ RX C w ∧ FX C ∧ NB C a t f lim n ∧ (∀ j, j < n → x = nI j → K (some (.ref (cA C t j))) w) ∧ ((¬ ∃ j, j < n ∧ x = nI j) → K (some .null) w)
theorem nlt0 {x : Int32} (h : ¬ x < 0) : ∃ j, j < 2147483648 ∧ x = nI j := by
  obtain ⟨j, hj, e⟩ := nI_of h
  exact ⟨j, hj, e⟩
theorem c_lotN (l : Launch) : Ct l 14 1 0 0 (sp_nb 24 2 8 60) := by
  refine ct_jd (by decide) rfl (fun as w Po h => ?_)
  obtain ⟨C, x, n, rfl, hX, hF, ⟨hn, hn2, hc, hr⟩, h1, h2⟩ := h
  refine ⟨Nat.le_of_ble_eq_true rfl, jd_run cdo_14 ev0 30 z00 ?_⟩
  have h2 : (¬ ∃ j, j < n ∧ x = nI j) → ∃ o, Value.null = va_rf o ∧ Po (some .null) w := fun q => ⟨none, rfl, h2 q⟩
  refine ⟨fun c => h2 (fun ⟨j, hj, e⟩ => nI_pos (show j < 2147483648 by omega) (by rw [← e]; exact c)), fun c => ?_⟩
  obtain ⟨j, hj, rfl⟩ := nlt0 c
  refine ⟨hX.k 9 0 hF.x, _, (hX.gi 9 8 0 (by decide) hF.x rfl).trans hn, fun c2 => h2 (fun ⟨i, hi, e⟩ => ?_), fun c2 => ?_⟩
  · have := ge_n hj (by omega) c2
    have := (nI_eq hj (by omega)).mp e
    omega
  have hjn : j < n := (nI_ltI hj (by omega)).mp (nle_lt c2)
  refine ⟨fun c3 => ?_, fun _ => ?_⟩
  · have := ge_n (b := 60) hj (by omega) c3
    omega
  refine ⟨hX.k 9 0 hF.x, _, hX.g1 9 1 0 (by decide) hF.x rfl hF.l1, 24, ⟨hX.k 24 0 (by rw [hX.qc 24 (by decide) (by decide)]; decide), by decide, by decide⟩, j, hX.ix 24 (by decide) (by decide) rfl (show j < 60 by omega), some (cA C 2 j), (hX.qq 24 (by decide) (by decide) j).trans (by rw [hr j hjn]; rfl), ?_⟩
  exact ⟨some _, rfl, h1 j hjn rfl⟩
theorem c_homeN (l : Launch) : Ct l 19 1 0 0 (sp_nb 25 1 9 9) := by
  refine ct_jd (by decide) rfl (fun as w Po h => ?_)
  obtain ⟨C, x, n, rfl, hX, hF, ⟨hn, hn2, hc, hr⟩, h1, h2⟩ := h
  refine ⟨Nat.le_of_ble_eq_true rfl, jd_run cdo_19 ev0 30 z00 ?_⟩
  have h2 : (¬ ∃ j, j < n ∧ x = nI j) → ∃ o, Value.null = va_rf o ∧ Po (some .null) w := fun q => ⟨none, rfl, h2 q⟩
  refine ⟨fun c => h2 (fun ⟨j, hj, e⟩ => nI_pos (show j < 2147483648 by omega) (by rw [← e]; exact c)), fun c => ?_⟩
  obtain ⟨j, hj, rfl⟩ := nlt0 c
  refine ⟨hX.k 9 0 hF.x, _, (hX.gi 9 9 0 (by decide) hF.x rfl).trans hn, fun c2 => h2 (fun ⟨i, hi, e⟩ => ?_), fun c2 => ?_⟩
  · have := ge_n hj (by omega) c2
    have := (nI_eq hj (by omega)).mp e
    omega
  have hjn : j < n := (nI_ltI hj (by omega)).mp (nle_lt c2)
  refine ⟨fun c3 => ?_, fun _ => ?_⟩
  · have := ge_n (b := 9) hj (by omega) c3
    omega
  refine ⟨hX.k 9 0 hF.x, _, hX.g1 9 2 0 (by decide) hF.x rfl hF.l2, 25, ⟨hX.k 25 0 (by rw [hX.qc 25 (by decide) (by decide)]; decide), by decide, by decide⟩, j, hX.ix 25 (by decide) (by decide) rfl (show j < 9 by omega), some (cA C 1 j), (hX.qq 25 (by decide) (by decide) j).trans (by rw [hr j hjn]; rfl), ?_⟩
  exact ⟨some _, rfl, h1 j hjn rfl⟩
theorem c_watchN (l : Launch) : Ct l 33 1 0 0 (sp_nb 26 8 10 100) := by
  refine ct_jd (by decide) rfl (fun as w Po h => ?_)
  obtain ⟨C, x, n, rfl, hX, hF, ⟨hn, hn2, hc, hr⟩, h1, h2⟩ := h
  refine ⟨Nat.le_of_ble_eq_true rfl, jd_run cdo_33 ev0 30 z00 ?_⟩
  have h2 : (¬ ∃ j, j < n ∧ x = nI j) → ∃ o, Value.null = va_rf o ∧ Po (some .null) w := fun q => ⟨none, rfl, h2 q⟩
  refine ⟨fun c => h2 (fun ⟨j, hj, e⟩ => nI_pos (show j < 2147483648 by omega) (by rw [← e]; exact c)), fun c => ?_⟩
  obtain ⟨j, hj, rfl⟩ := nlt0 c
  refine ⟨hX.k 9 0 hF.x, _, (hX.gi 9 10 0 (by decide) hF.x rfl).trans hn, fun c2 => h2 (fun ⟨i, hi, e⟩ => ?_), fun c2 => ?_⟩
  · have := ge_n hj (by omega) c2
    have := (nI_eq hj (by omega)).mp e
    omega
  have hjn : j < n := (nI_ltI hj (by omega)).mp (nle_lt c2)
  refine ⟨fun c3 => ?_, fun _ => ?_⟩
  · have := ge_n (b := 100) hj (by omega) c3
    omega
  refine ⟨hX.k 9 0 hF.x, _, hX.g1 9 3 0 (by decide) hF.x rfl hF.l3, 26, ⟨hX.k 26 0 (by rw [hX.qc 26 (by decide) (by decide)]; decide), by decide, by decide⟩, j, hX.ix 26 (by decide) (by decide) rfl (show j < 100 by omega), some (cA C 8 j), (hX.qq 26 (by decide) (by decide) j).trans (by rw [hr j hjn]; rfl), ?_⟩
  exact ⟨some _, rfl, h1 j hjn rfl⟩
theorem c_pieceN (l : Launch) : Ct l 43 1 0 0 (sp_nb 23 5 7 300) := by
  refine ct_jd (by decide) rfl (fun as w Po h => ?_)
  obtain ⟨C, x, n, rfl, hX, hF, ⟨hn, hn2, hc, hr⟩, h1, h2⟩ := h
  refine ⟨Nat.le_of_ble_eq_true rfl, jd_run cdo_43 ev0 30 z00 ?_⟩
  have h2 : (¬ ∃ j, j < n ∧ x = nI j) → ∃ o, Value.null = va_rf o ∧ Po (some .null) w := fun q => ⟨none, rfl, h2 q⟩
  refine ⟨fun c => h2 (fun ⟨j, hj, e⟩ => nI_pos (show j < 2147483648 by omega) (by rw [← e]; exact c)), fun c => ?_⟩
  obtain ⟨j, hj, rfl⟩ := nlt0 c
  refine ⟨hX.k 9 0 hF.x, _, (hX.gi 9 7 0 (by decide) hF.x rfl).trans hn, fun c2 => h2 (fun ⟨i, hi, e⟩ => ?_), fun c2 => ?_⟩
  · have := ge_n hj (by omega) c2
    have := (nI_eq hj (by omega)).mp e
    omega
  have hjn : j < n := (nI_ltI hj (by omega)).mp (nle_lt c2)
  refine ⟨fun c3 => ?_, fun _ => ?_⟩
  · have := ge_n (b := 300) hj (by omega) c3
    omega
  refine ⟨hX.k 9 0 hF.x, _, hX.g1 9 0 0 (by decide) hF.x rfl hF.l0, 23, ⟨hX.k 23 0 (by rw [hX.qc 23 (by decide) (by decide)]; decide), by decide, by decide⟩, j, hX.ix 23 (by decide) (by decide) rfl (show j < 300 by omega), some (cA C 5 j), (hX.qq 23 (by decide) (by decide) j).trans (by rw [hr j hjn]; rfl), ?_⟩
  exact ⟨some _, rfl, h1 j hjn rfl⟩
def sp_lotAtHouse : Sp := fun as w K => ∃ C x n, as = [.ref (cA C 9 0), .int x] ∧ RX C w ∧ FX C ∧ NB C 24 2 8 60 n ∧ (∀ j, j < n → x = nI j → cI C 2 5 j = 0 → K (some (.ref (cA C 2 j))) w) ∧ ((¬ ∃ j, j < n ∧ x = nI j ∧ cI C 2 5 j = 0) → K (some .null) w)
theorem c_lotAtHouse (l : Launch) : Ct l 13 2 0 0 sp_lotAtHouse := by
  refine ct_jd (by decide) rfl (fun as w Po h => ?_)
  obtain ⟨C, x, n, rfl, hX, hF, hN, h1, h2⟩ := h
  refine ⟨Nat.le_of_ble_eq_true rfl, jd_run cdo_13 (evL_ok (L := [(14, 1, 0, 0, sp_nb 24 2 8 60)]) (by simpa using c_lotN l)) 30 z00 ?_⟩
  refine ⟨⟨by decide, by decide, by decide⟩, rfl, hX.k 9 0 hF.x, C, x, n, rfl, hX, hF, hN, fun j hj e => ?_, fun q => ⟨none, rfl, h2 (fun ⟨j, hj, e, _⟩ => q ⟨j, hj, e⟩)⟩⟩
  have hj2 : j < cN C 2 := by rw [hN.2.2.1]; exact hj
  refine ⟨hX.k 2 j hj2, _, hX.gi 2 5 j (by decide) hj2 rfl, fun c => ⟨none, rfl, h2 (fun ⟨i, hi, e2, q⟩ => c ?_)⟩, fun c => ⟨some _, rfl, h1 j hj e c⟩⟩
  have := hN.2.1
  rw [two_eq (by omega) (by omega) e e2]
  exact q
def sp_lotForMaking : Sp := fun as w K => ∃ C x k n, as = [.ref (cA C 9 0), .int x, .int k] ∧ RX C w ∧ FX C ∧ NB C 24 2 8 60 n ∧ (∀ j, j < n → x = nI j → cI C 2 5 j = 0 → cI C 2 1 j = k → cI C 2 4 j ≤ 10 → K (some (.ref (cA C 2 j))) w) ∧ ((¬ ∃ j, j < n ∧ x = nI j ∧ cI C 2 5 j = 0 ∧ cI C 2 1 j = k ∧ cI C 2 4 j ≤ 10) → K (some .null) w)
theorem c_lotForMaking (l : Launch) : Ct l 46 3 0 0 sp_lotForMaking := by
  refine ct_jd (by decide) rfl (fun as w Po h => ?_)
  obtain ⟨C, x, k, n, rfl, hX, hF, hN, h1, h2⟩ := h
  refine ⟨Nat.le_of_ble_eq_true rfl, jd_run cdo_46 (evL_ok (L := [(13, 2, 0, 0, sp_lotAtHouse)]) (by simpa using c_lotAtHouse l)) 30 z00 ?_⟩
  refine ⟨⟨by decide, by decide, by decide⟩, rfl, hX.k 9 0 hF.x, C, x, n, rfl, hX, hF, hN, fun j hj e hs => ?_, fun q => ⟨none, rfl, h2 (fun ⟨j, hj, e, q2, _⟩ => q ⟨j, hj, e, q2⟩)⟩⟩
  have hj2 : j < cN C 2 := by rw [hN.2.2.1]; exact hj
  have hn60 := hN.2.1
  have no : ¬ (cI C 2 1 j = k ∧ cI C 2 4 j ≤ 10) → ∃ o, Value.null = va_rf o ∧ Po (some .null) w := fun q => ⟨none, rfl, h2 (fun ⟨i, hi, e2, _, q2⟩ => q (by rw [two_eq (by omega) (by omega) e e2]; exact q2))⟩
  refine ⟨hX.k 2 j hj2, _, hX.gi 2 1 j (by decide) hj2 rfl, fun c => no (fun q => c q.1), fun c => ?_⟩
  refine ⟨hX.k 2 j hj2, _, hX.gi 2 4 j (by decide) hj2 rfl, fun c2 => no (fun q => lt_nle c2 q.2), fun c2 => ⟨some _, rfl, h1 j hj e hs c (nlt_le c2)⟩⟩
end
section
/-! THE CLASS: rows of pieces, lots that wait, a day's work -/
/-- only homes, lots and pieces have changed -/
def Kp (C D : Cs) : Prop := (cA D = cA C ∧ cN D = cN C ∧ cX D = cX C) ∧ (∀ t k i, t ≠ 1 → t ≠ 2 → t ≠ 5 → cI D t k i = cI C t k i) ∧ ∀ t k i, t ≠ 1 → t ≠ 2 → t ≠ 5 → cL D t k i = cL C t k i
theorem Kp.rf (C : Cs) : Kp C C := ⟨⟨rfl, rfl, rfl⟩, fun _ _ _ _ _ _ => rfl, fun _ _ _ _ _ _ => rfl⟩
theorem Kp.tr {C D E : Cs} (h : Kp C D) (g : Kp D E) : Kp C E := ⟨⟨g.1.1.trans h.1.1, g.1.2.1.trans h.1.2.1, g.1.2.2.trans h.1.2.2⟩, fun t k i a b c => (g.2.1 t k i a b c).trans (h.2.1 t k i a b c), fun t k i a b c => (g.2.2 t k i a b c).trans (h.2.2 t k i a b c)⟩
theorem Kp.wi {C D : Cs} (h : Kp C D) (t k i : Nat) (v : Int32) (ht : t = 1 ∨ t = 2 ∨ t = 5) : Kp C (wI D t k i v) := ⟨h.1, fun t' k' i' a b c => (u3_t (by omega)).trans (h.2.1 t' k' i' a b c), h.2.2⟩
theorem Kp.wl {C D : Cs} (h : Kp C D) (t k i c : Nat) (ht : t = 1 ∨ t = 2 ∨ t = 5) : Kp C (wL D t k i c) := ⟨h.1, h.2.1, fun t' k' i' a b c => (u3_t (by omega)).trans (h.2.2 t' k' i' a b c)⟩
theorem Kp.fx {C D : Cs} (h : Kp C D) (f : FX C) : FX D := by
  obtain ⟨h1, h2, h3, h4⟩ := f
  have e : ∀ t k i, t = 9 ∨ t = 3 ∨ t = 4 → cL D t k i = cL C t k i := fun t k i q => h.2.2 t k i (by omega) (by omega) (by omega)
  refine ⟨by rw [h.1.2.1]; exact h1, ?_, ?_, fun k' i' a b => (e 4 k' i' (by decide)).trans (h4 k' i' a b)⟩
  · rw [e 9 _ _ (by decide), e 9 _ _ (by decide), e 9 _ _ (by decide), e 9 _ _ (by decide), e 9 _ _ (by decide), e 9 _ _ (by decide), e 9 _ _ (by decide)]; exact h2
  · rw [e 3 _ _ (by decide), e 3 _ _ (by decide)]; exact h3
theorem Kp.nb {C D : Cs} (h : Kp C D) {a t f lim n : Nat} (ha : 23 ≤ a) (g : NB C a t f lim n) : NB D a t f lim n := ⟨(h.2.1 9 f 0 (by decide) (by decide) (by decide)).trans g.1, g.2.1, by rw [h.1.2.1]; exact g.2.2.1, fun j hj => (h.2.2 a j 0 (by omega) (by omega) (by omega)).trans (g.2.2.2 j hj)⟩
def cApp (C : Cs) (l p : Nat) : Cs := wI (wL (match cL C 2 3 l with
  | 0 => wL (wL (wI C 5 6 p (cI C 2 0 l)) 5 7 p 0) 2 2 l (p + 1)
  | q + 1 => wL (wL (wI C 5 6 p (cI C 2 0 l)) 5 7 p 0) 5 7 q (p + 1)) 2 3 l (p + 1)) 2 4 l (cI C 2 4 l + 1)
theorem cApp_Kp (C : Cs) (l p : Nat) : Kp C (cApp C l p) := by
  unfold cApp
  split
  · exact (((((Kp.rf C).wi 5 _ _ _ (by decide)).wl 5 _ _ _ (by decide)).wl 2 _ _ _ (by decide)).wl 2 _ _ _ (by decide)).wi 2 _ _ _ (by decide)
  · exact (((((Kp.rf C).wi 5 _ _ _ (by decide)).wl 5 _ _ _ (by decide)).wl 5 _ _ _ (by decide)).wl 2 _ _ _ (by decide)).wi 2 _ _ _ (by decide)
def sp_append : Sp := fun as w K => ∃ C l p, as = [.ref (cA C 2 l), .ref (cA C 5 p)] ∧ RX C w ∧ (l < cN C 2 ∧ p < cN C 5) ∧ ∀ w', RX (cApp C l p) w' → K none w'
theorem c_append (l : Launch) : Ct l 11 1 0 0 sp_append := by
  refine ct_jd (by decide) rfl (fun as w Po h => ?_)
  obtain ⟨C, lo, p, rfl, hX, ⟨hl, hp⟩, h⟩ := h
  refine ⟨Nat.le_of_ble_eq_true rfl, jd_run cdo_11 ev0 40 z00 ?_⟩
  refine ⟨hX.k 2 lo hl, _, hX.gi 2 0 lo (by decide) hl rfl, hX.k 5 p hp, ?_⟩
  have hX := hX.wi 5 6 p hp (cI C 2 0 lo)
  refine ⟨hX.k 5 p hp, none, rfl, ?_⟩
  have hX := hX.wl 5 7 p 0 hp (Nat.zero_le _) (by decide)
  cases e : cL C 2 3 lo with
  | zero =>
    refine ⟨hX.k 2 lo hl, _, hX.g0 2 3 lo (by decide) hl rfl e, ?_⟩
    refine ⟨hX.k 2 lo hl, some (cA C 5 p), rfl, ?_⟩
    have hX := hX.wl 2 2 lo (p + 1) hl hp (by decide)
    refine ⟨hX.k 2 lo hl, some (cA C 5 p), rfl, ?_⟩
    have hX := hX.wl 2 3 lo (p + 1) hl hp (by decide)
    refine ⟨hX.k 2 lo hl, _, hX.gi 2 4 lo (by decide) hl rfl, hX.k 2 lo hl, ?_⟩
    have hX := hX.wi 2 4 lo hl (cI C 2 4 lo + 1)
    refine h _ ?_
    rw [cApp, e]
    exact hX
  | succ q =>
    have hq : q < cN C 5 := hX.l1 2 3 lo (by decide) hl rfl e
    refine ⟨hX.k 2 lo hl, _, hX.g1 2 3 lo (by decide) hl rfl e, ?_⟩
    refine ⟨hX.k 2 lo hl, _, hX.g1 2 3 lo (by decide) hl rfl e, hX.k 5 q hq, some (cA C 5 p), rfl, ?_⟩
    have hX := hX.wl 5 7 q (p + 1) hq hp (by decide)
    refine ⟨hX.k 2 lo hl, some (cA C 5 p), rfl, ?_⟩
    have hX := hX.wl 2 3 lo (p + 1) hl hp (by decide)
    refine ⟨hX.k 2 lo hl, _, hX.gi 2 4 lo (by decide) hl rfl, hX.k 2 lo hl, ?_⟩
    have hX := hX.wi 2 4 lo hl (cI C 2 4 lo + 1)
    refine h _ ?_
    rw [cApp, e]
    exact hX
def cUn1 (C : Cs) (l b p : Nat) : Cs := match b with
  | 0 => wL C 2 2 l (cL C 5 7 p)
  | q + 1 => wL C 5 7 q (cL C 5 7 p)
def cUnl (C : Cs) (l b p : Nat) : Cs := wI (if cL (cUn1 C l b p) 5 7 p = 0 then wL (cUn1 C l b p) 2 3 l b else cUn1 C l b p) 2 4 l (cI C 2 4 l - 1)
theorem cUnl_Kp (C : Cs) (l b p : Nat) : Kp C (cUnl C l b p) := by
  have h1 : Kp C (cUn1 C l b p) := by
    unfold cUn1
    split
    · exact (Kp.rf C).wl 2 _ _ _ (by decide)
    · exact (Kp.rf C).wl 5 _ _ _ (by decide)
  unfold cUnl
  split
  · exact (h1.wl 2 _ _ _ (by decide)).wi 2 _ _ _ (by decide)
  · exact h1.wi 2 _ _ _ (by decide)
def sp_unlink : Sp := fun as w K => ∃ C l b p, as = [.ref (cA C 2 l), va_rf (adO C 5 b), .ref (cA C 5 p)] ∧ RX C w ∧ (l < cN C 2 ∧ b ≤ cN C 5 ∧ p < cN C 5) ∧ ∀ w', RX (cUnl C l b p) w' → K none w'
theorem c_unlink (l : Launch) : Ct l 16 1 0 0 sp_unlink := by
  refine ct_jd (by decide) rfl (fun as w Po h => ?_)
  obtain ⟨C, lo, b, p, rfl, hX, ⟨hl, hb, hp⟩, h⟩ := h
  have fin : ∀ D S (v : Value), v = va_rf (adO C 5 b) → RX D S → D = cUn1 C lo b p → cA D = cA C → cN D = cN C → cI D = cI C → Jd l 16 1 0 0 none Po 23 [(0, .ref (cA C 2 lo)), (1, v), (2, .ref (cA C 5 p))] [] S 0 0 := by
    intro D S v hv hX eD eA eN eI
    have hl : lo < cN D 2 := by rw [eN]; exact hl
    have hp : p < cN D 5 := by rw [eN]; exact hp
    have hb : b ≤ cN D 5 := by rw [eN]; exact hb
    have eO : adO C 5 b = adO D 5 b := by
      cases b with
      | zero => rfl
      | succ q => show some _ = some _; rw [eA]
    rw [eO] at hv
    rw [cUnl, ← eD, ← eI] at h
    rw [← eA]
    clear eO eD eI eA eN
    cases e : cL D 5 7 p with
    | zero =>
      rw [if_pos e] at h
      have hX1 := hX.wl 2 3 lo b hl hb (by decide)
      cases b with
      | zero =>
        subst hv
        refine jd_s cdo_16 ev0 [] 40 z00 ⟨hX.k 5 p hp, _, hX.g0 5 7 p (by decide) hp rfl e, hX.k 2 lo hl, none, rfl, ?_⟩
        have hX := hX1
        refine ⟨hX.k 2 lo hl, _, hX.gi 2 4 lo (by decide) hl rfl, hX.k 2 lo hl, ?_⟩
        exact h _ (hX.wi 2 4 lo hl (cI D 2 4 lo - 1))
      | succ q =>
        subst hv
        refine jd_s cdo_16 ev0 [] 40 z00 ⟨hX.k 5 p hp, _, hX.g0 5 7 p (by decide) hp rfl e, hX.k 2 lo hl, some (cA D 5 q), rfl, ?_⟩
        have hX := hX1
        refine ⟨hX.k 2 lo hl, _, hX.gi 2 4 lo (by decide) hl rfl, hX.k 2 lo hl, ?_⟩
        exact h _ (hX.wi 2 4 lo hl (cI D 2 4 lo - 1))
    | succ j =>
      rw [if_neg (by rw [e]; exact Nat.succ_ne_zero j)] at h
      refine jd_s cdo_16 ev0 [] 40 z00 ⟨hX.k 5 p hp, _, hX.g1 5 7 p (by decide) hp rfl e, ?_⟩
      refine ⟨hX.k 2 lo hl, _, hX.gi 2 4 lo (by decide) hl rfl, hX.k 2 lo hl, ?_⟩
      exact h _ (hX.wi 2 4 lo hl (cI D 2 4 lo - 1))
  have hlb : cL C 5 7 p ≤ cN C 5 := hX.lb 5 7 p (by decide) hp rfl
  cases b with
  | zero =>
    refine ⟨Nat.le_of_ble_eq_true rfl, jd_s cdo_16 ev0 [23] 40 z00 ?_⟩
    refine ⟨hX.k 5 p hp, _, hX.gr 5 7 p (by decide) hp rfl, ?_⟩
    have hX1 := hX.wl 2 2 lo (cL C 5 7 p) hl hlb (by decide)
    cases e : cL C 5 7 p with
    | zero =>
      rw [e] at hX1
      exact ⟨hX.k 2 lo hl, none, rfl, fin _ _ _ rfl hX1 (by rw [cUn1, e]) rfl rfl rfl⟩
    | succ j =>
      rw [e] at hX1
      exact ⟨hX.k 2 lo hl, some (cA C 5 j), rfl, fin _ _ _ rfl hX1 (by rw [cUn1, e]) rfl rfl rfl⟩
  | succ q =>
    have hq : q < cN C 5 := hb
    refine ⟨Nat.le_of_ble_eq_true rfl, jd_s cdo_16 ev0 [23] 40 z00 ?_⟩
    refine ⟨hX.k 5 p hp, _, hX.gr 5 7 p (by decide) hp rfl, ?_⟩
    have hX1 := hX.wl 5 7 q (cL C 5 7 p) hq hlb (by decide)
    cases e : cL C 5 7 p with
    | zero =>
      rw [e] at hX1
      exact ⟨hX.k 5 q hq, none, rfl, fin _ _ _ rfl hX1 (by rw [cUn1, e]) rfl rfl rfl⟩
    | succ j =>
      rw [e] at hX1
      exact ⟨hX.k 5 q hq, some (cA C 5 j), rfl, fin _ _ _ rfl hX1 (by rw [cUn1, e]) rfl rfl rfl⟩
def cMv (a b : Nat) : Nat → Cs → Cs
  | 0, C => C
  | k + 1, C => match cL C 2 2 a with
    | 0 => C
    | q + 1 => cMv a b k (cApp (cUnl C a 0 q) b q)
theorem cMv_Kp (a b : Nat) : ∀ k C, Kp C (cMv a b k C)
  | 0, C => Kp.rf C
  | k + 1, C => by
    unfold cMv
    split
    · exact Kp.rf C
    · exact ((cUnl_Kp _ _ _ _).tr (cApp_Kp _ _ _)).tr (cMv_Kp a b k _)
def sp_moveFirst : Sp := fun as w K => ∃ C a n b, as = [.ref (cA C 2 a), .int (nI n), .ref (cA C 2 b)] ∧ RX C w ∧ (a < cN C 2 ∧ b < cN C 2 ∧ n ≤ 300) ∧ ∀ w', RX (cMv a b n C) w' → K none w'
theorem c_moveFirst (l : Launch) : Ct l 15 2 0 0 sp_moveFirst := by
  have hev : ∀ (k : Nat) (r : Nat × Nat × Nat × Sp), evL [(16, 1, 0, 0, sp_unlink), (11, 1, 0, 0, sp_append)] k = some r → Ct l k r.1 r.2.1 r.2.2.1 r.2.2.2 := evL_ok (by simpa using ⟨c_unlink l, c_append l⟩)
  refine ct_jd (by decide) rfl (fun as w Po h => ?_)
  obtain ⟨C, a, n, b, rfl, hX, ⟨ha, hb, hn⟩, h⟩ := h
  refine ⟨Nat.le_of_ble_eq_true rfl, ?_⟩
  have key : ∀ d i D w', i + d = n → Kp C D → RX D w' → (∀ w2, RX (cMv a b d D) w2 → Po none w2) → Jd l 15 2 0 0 none Po 2 [(3, .int (nI i)), (0, .ref (cA C 2 a)), (1, .int (nI n)), (2, .ref (cA C 2 b))] [] w' 0 0 := by
    intro d
    induction d with
    | zero =>
      intro i D w' hi hK hX hk
      obtain rfl : i = n := by omega
      refine jd_s cdo_15 hev [] 20 z00 ⟨fun _ => hk _ hX, fun c => absurd (nI_le (Nat.le_refl i) (by omega)) c⟩
    | succ d ih =>
      intro i D w' hi hK hX hk
      have ha' : a < cN D 2 := by rw [hK.1.2.1]; exact ha
      have hb' : b < cN D 2 := by rw [hK.1.2.1]; exact hb
      rw [← hK.1.1]
      refine jd_s cdo_15 hev [2] 40 z00 ⟨fun c => ?_, fun _ => ?_⟩
      · have := ge_n (by omega) (by omega) c
        omega
      rw [cMv] at hk
      cases e : cL D 2 2 a with
      | zero =>
        rw [e] at hk
        exact ⟨hX.k 2 a ha', _, hX.g0 2 2 a (by decide) ha' rfl e, hk _ hX⟩
      | succ q =>
        rw [e] at hk
        have hq : q < cN D 5 := hX.l1 2 2 a (by decide) ha' rfl e
        refine ⟨hX.k 2 a ha', _, hX.g1 2 2 a (by decide) ha' rfl e, ?_⟩
        refine ⟨hX.k 2 a ha', _, hX.g1 2 2 a (by decide) ha' rfl e, ?_⟩
        refine ⟨⟨by decide, by decide, by decide⟩, rfl, hX.k 2 a ha', D, a, 0, q, rfl, hX, ⟨ha', Nat.zero_le _, hq⟩, fun w2 hX2 => ?_⟩
        have hK2 := cUnl_Kp D a 0 q
        have hb2 : b < cN (cUnl D a 0 q) 2 := by rw [hK2.1.2.1]; exact hb'
        have hq2 : q < cN (cUnl D a 0 q) 5 := by rw [hK2.1.2.1]; exact hq
        refine ⟨⟨by decide, by decide, by decide⟩, rfl, hX2.k' 2 b (by rw [hK2.1.1]) hb2, cUnl D a 0 q, b, q, by rw [hK2.1.1]; rfl, hX2, ⟨hb2, hq2⟩, fun w3 hX3 => ?_⟩
        have := ih (i + 1) _ w3 (by omega) ((hK.tr hK2).tr (cApp_Kp _ b q)) hX3 hk
        rw [← nI_1, ← hK.1.1] at this
        exact jd_pk [0, 2, 3, 4] this
  refine jd_s cdo_15 hev [2] 10 z00 ?_
  exact key n 0 C w (by omega) (Kp.rf C) hX h
end
section
/-! THE CLASS: lots that come, wait and go, a piece's work -/
theorem u3_e {α : Type} {f : Nat → Nat → Nat → α} {c k a : Nat} {v : α} : u3 f c k a v c k a = v := by simp [u3]
theorem cI_wI (C : Cs) (t k i : Nat) (v : Int32) (t' k' i' : Nat) : cI (wI C t k i v) t' k' i' = if t' = t ∧ k' = k ∧ i' = i then v else cI C t' k' i' := id rfl
theorem cI_wL (C : Cs) (t k i c t' k' i' : Nat) : cI (wL C t k i c) t' k' i' = cI C t' k' i' := id rfl
theorem cL_wL (C : Cs) (t k i c t' k' i' : Nat) : cL (wL C t k i c) t' k' i' = if t' = t ∧ k' = k ∧ i' = i then c else cL C t' k' i' := id rfl
theorem cL_wI (C : Cs) (t k i : Nat) (v : Int32) (t' k' i' : Nat) : cL (wI C t k i v) t' k' i' = cL C t' k' i' := id rfl
def cRec (C : Cs) (h l : Nat) : Cs := wI (wL (match cL C 1 9 h with
  | 0 => wL C 1 8 h (l + 1)
  | q + 1 => wL C 2 10 q (l + 1)) 1 9 h (l + 1)) 1 7 h (cI C 1 7 h + 1)
theorem cRec_Kp (C : Cs) (h l : Nat) : Kp C (cRec C h l) := by
  unfold cRec
  split
  · exact (((Kp.rf C).wl 1 _ _ _ (by decide)).wl 1 _ _ _ (by decide)).wi 1 _ _ _ (by decide)
  · exact (((Kp.rf C).wl 2 _ _ _ (by decide)).wl 1 _ _ _ (by decide)).wi 1 _ _ _ (by decide)
def sp_receive : Sp := fun as w K => ∃ C h l, as = [.ref (cA C 1 h), .ref (cA C 2 l)] ∧ RX C w ∧ (h < cN C 1 ∧ l < cN C 2) ∧ ∀ w', RX (cRec C h l) w' → K none w'
theorem c_receive (l : Launch) : Ct l 23 1 0 0 sp_receive := by
  refine ct_jd (by decide) rfl (fun as w Po h => ?_)
  obtain ⟨C, ho, lo, rfl, hX, ⟨hh, hl⟩, h⟩ := h
  refine ⟨Nat.le_of_ble_eq_true rfl, jd_run cdo_23 ev0 40 z00 ?_⟩
  cases e : cL C 1 9 ho with
  | zero =>
    refine ⟨hX.k 1 ho hh, _, hX.g0 1 9 ho (by decide) hh rfl e, ?_⟩
    refine ⟨hX.k 1 ho hh, some (cA C 2 lo), rfl, ?_⟩
    have hX := hX.wl 1 8 ho (lo + 1) hh hl (by decide)
    refine ⟨hX.k 1 ho hh, some (cA C 2 lo), rfl, ?_⟩
    have hX := hX.wl 1 9 ho (lo + 1) hh hl (by decide)
    refine ⟨hX.k 1 ho hh, _, hX.gi 1 7 ho (by decide) hh rfl, hX.k 1 ho hh, ?_⟩
    have hX := hX.wi 1 7 ho hh (cI C 1 7 ho + 1)
    refine h _ ?_
    rw [cRec, e]
    exact hX
  | succ q =>
    have hq : q < cN C 2 := hX.l1 1 9 ho (by decide) hh rfl e
    refine ⟨hX.k 1 ho hh, _, hX.g1 1 9 ho (by decide) hh rfl e, ?_⟩
    refine ⟨hX.k 1 ho hh, _, hX.g1 1 9 ho (by decide) hh rfl e, hX.k 2 q hq, some (cA C 2 lo), rfl, ?_⟩
    have hX := hX.wl 2 10 q (lo + 1) hq hl (by decide)
    refine ⟨hX.k 1 ho hh, some (cA C 2 lo), rfl, ?_⟩
    have hX := hX.wl 1 9 ho (lo + 1) hh hl (by decide)
    refine ⟨hX.k 1 ho hh, _, hX.gi 1 7 ho (by decide) hh rfl, hX.k 1 ho hh, ?_⟩
    have hX := hX.wi 1 7 ho hh (cI C 1 7 ho + 1)
    refine h _ ?_
    rw [cRec, e]
    exact hX
def cTH (C : Cs) (l : Nat) (v : Int32) : Cs := wL (wI (wL (wI (wI C 2 5 l 3) 2 7 l v) 2 8 l 0) 2 9 l 0) 2 10 l 0
theorem cTH_Kp (C : Cs) (l : Nat) (v : Int32) : Kp C (cTH C l v) := (((((Kp.rf C).wi 2 _ _ _ (by decide)).wi 2 _ _ _ (by decide)).wl 2 _ _ _ (by decide)).wi 2 _ _ _ (by decide)).wl 2 _ _ _ (by decide)
def sp_turnHome : Sp := fun as w K => ∃ C l v, as = [.ref (cA C 2 l), .int v] ∧ RX C w ∧ l < cN C 2 ∧ ∀ w', RX (cTH C l v) w' → K none w'
theorem c_turnHome (l : Launch) : Ct l 27 1 0 0 sp_turnHome := by
  refine ct_jd (by decide) rfl (fun as w Po h => ?_)
  obtain ⟨C, lo, v, rfl, hX, hl, h⟩ := h
  refine ⟨Nat.le_of_ble_eq_true rfl, jd_run cdo_27 ev0 40 z00 ?_⟩
  refine ⟨hX.k 2 lo hl, ?_⟩
  have hX := hX.wi 2 5 lo hl 3
  refine ⟨hX.k 2 lo hl, ?_⟩
  have hX := hX.wi 2 7 lo hl v
  refine ⟨hX.k 2 lo hl, none, rfl, ?_⟩
  have hX := hX.wl 2 8 lo 0 hl (Nat.zero_le _) (by decide)
  refine ⟨hX.k 2 lo hl, ?_⟩
  have hX := hX.wi 2 9 lo hl 0
  refine ⟨hX.k 2 lo hl, none, rfl, ?_⟩
  exact h _ (hX.wl 2 10 lo 0 hl (Nat.zero_le _) (by decide))
def cRl1 (C : Cs) (h l : Nat) : Cs := wI (if cL C 2 10 l = 0 then wL (wL C 1 8 h 0) 1 9 h 0 else wL C 1 8 h (cL C 2 10 l)) 1 7 h (cI C 1 7 h - 1)
def cRel (C : Cs) (h l : Nat) : Cs := cTH (cRl1 C h l) l (cI C 1 4 h)
theorem cRl1_Kp (C : Cs) (h l : Nat) : Kp C (cRl1 C h l) := by
  unfold cRl1
  split
  · exact (((Kp.rf C).wl 1 _ _ _ (by decide)).wl 1 _ _ _ (by decide)).wi 1 _ _ _ (by decide)
  · exact ((Kp.rf C).wl 1 _ _ _ (by decide)).wi 1 _ _ _ (by decide)
theorem cRel_Kp (C : Cs) (h l : Nat) : Kp C (cRel C h l) := (cRl1_Kp C h l).tr (cTH_Kp _ _ _)
def sp_release : Sp := fun as w K => ∃ C h l, as = [.ref (cA C 1 h), .ref (cA C 2 l)] ∧ RX C w ∧ (h < cN C 1 ∧ l < cN C 2) ∧ ∀ w', RX (cRel C h l) w' → K none w'
theorem c_release (l : Launch) : Ct l 26 2 0 0 sp_release := by
  refine ct_jd (by decide) rfl (fun as w Po h => ?_)
  obtain ⟨C, ho, lo, rfl, hX, ⟨hh, hl⟩, h⟩ := h
  refine ⟨Nat.le_of_ble_eq_true rfl, jd_run cdo_26 (evL_ok (L := [(27, 1, 0, 0, sp_turnHome)]) (by simpa using c_turnHome l)) 40 z00 ?_⟩
  have hlb : cL C 2 10 lo ≤ cN C 2 := hX.lb 2 10 lo (by decide) hl rfl
  refine ⟨hX.k 2 lo hl, _, hX.gr 2 10 lo (by decide) hl rfl, hX.k 1 ho hh, _, rfl, ?_⟩
  have hX := hX.wl 1 8 ho (cL C 2 10 lo) hh hlb (by decide)
  rw [cRel, cRl1] at h
  cases e : cL C 2 10 lo with
  | zero =>
    rw [e] at hX h
    rw [if_pos rfl] at h
    refine ⟨hX.k 1 ho hh, _, hX.g0 1 8 ho (by decide) hh rfl u3_e, hX.k 1 ho hh, none, rfl, ?_⟩
    have hX := hX.wl 1 9 ho 0 hh (Nat.zero_le _) (by decide)
    refine ⟨hX.k 1 ho hh, _, hX.gi 1 7 ho (by decide) hh rfl, hX.k 1 ho hh, ?_⟩
    have hX := hX.wi 1 7 ho hh (cI C 1 7 ho - 1)
    refine ⟨hX.k 1 ho hh, _, hX.gi 1 4 ho (by decide) hh rfl, ?_⟩
    exact ⟨⟨by decide, by decide, by decide⟩, rfl, hX.k 2 lo hl, _, lo, _, by rfl, hX, hl, h⟩
  | succ q =>
    rw [e] at hX h
    rw [if_neg (Nat.succ_ne_zero q)] at h
    refine ⟨hX.k 1 ho hh, _, hX.g1 1 8 ho (by decide) hh rfl u3_e, ?_⟩
    refine ⟨hX.k 1 ho hh, _, hX.gi 1 7 ho (by decide) hh rfl, hX.k 1 ho hh, ?_⟩
    have hX := hX.wi 1 7 ho hh (cI C 1 7 ho - 1)
    refine ⟨hX.k 1 ho hh, _, hX.gi 1 4 ho (by decide) hh rfl, ?_⟩
    exact ⟨⟨by decide, by decide, by decide⟩, rfl, hX.k 2 lo hl, _, lo, _, by rfl, hX, hl, h⟩
def cLR (C : Cs) (p : Nat) (s v : Int32) : Cs := wI (wI C 5 5 p s) 5 6 p v
theorem cLR_Kp (C : Cs) (p : Nat) (s v : Int32) : Kp C (cLR C p s v) := ((Kp.rf C).wi 5 _ _ _ (by decide)).wi 5 _ _ _ (by decide)
def sp_leaveRow : Sp := fun as w K => ∃ C p s v, as = [.ref (cA C 5 p), .int s, .int v] ∧ RX C w ∧ p < cN C 5 ∧ ∀ w', RX (cLR C p s v) w' → K none w'
theorem c_leaveRow (l : Launch) : Ct l 29 1 0 0 sp_leaveRow := by
  refine ct_jd (by decide) rfl (fun as w Po h => ?_)
  obtain ⟨C, p, s, v, rfl, hX, hp, h⟩ := h
  refine ⟨Nat.le_of_ble_eq_true rfl, jd_run cdo_29 ev0 40 z00 ?_⟩
  refine ⟨hX.k 5 p hp, ?_⟩
  have hX := hX.wi 5 5 p hp s
  exact ⟨hX.k 5 p hp, h _ (hX.wi 5 6 p hp v)⟩
/-- the code of the piece that is worked next -/
def cNW (C : Cs) (l : Nat) : Nat := match cL C 2 8 l with
  | 0 => cL C 2 2 l
  | q + 1 => cL C 5 7 q
def sp_nextToWork : Sp := fun as w K => ∃ C l, as = [.ref (cA C 2 l)] ∧ RX C w ∧ l < cN C 2 ∧ (cNW C l ≤ cN C 5 → K (some (va_rf (adO C 5 (cNW C l)))) w)
theorem c_nextToWork (l : Launch) : Ct l 25 1 0 0 sp_nextToWork := by
  refine ct_jd (by decide) rfl (fun as w Po h => ?_)
  obtain ⟨C, lo, rfl, hX, hl, h⟩ := h
  refine ⟨Nat.le_of_ble_eq_true rfl, jd_run cdo_25 ev0 40 z00 ?_⟩
  rw [cNW] at h
  cases e : cL C 2 8 lo with
  | zero =>
    rw [e] at h
    refine ⟨hX.k 2 lo hl, _, hX.g0 2 8 lo (by decide) hl rfl e, ?_⟩
    exact ⟨hX.k 2 lo hl, _, hX.gr 2 2 lo (by decide) hl rfl, _, rfl, h (hX.lb 2 2 lo (by decide) hl rfl)⟩
  | succ q =>
    have hq : q < cN C 5 := hX.l1 2 8 lo (by decide) hl rfl e
    rw [e] at h
    refine ⟨hX.k 2 lo hl, _, hX.g1 2 8 lo (by decide) hl rfl e, ?_⟩
    refine ⟨hX.k 2 lo hl, _, hX.g1 2 8 lo (by decide) hl rfl e, ?_⟩
    exact ⟨hX.k 5 q hq, _, hX.gr 5 7 q (by decide) hq rfl, _, rfl, h (hX.lb 5 7 q (by decide) hq rfl)⟩
def cW4 (C : Cs) (h l p : Nat) : Cs := wI (wI (wI (wI C 5 3 p (cI C 5 3 p + cI C 1 2 h)) 5 4 p (cI C 5 4 p ||| (1 <<< (cI C 1 0 h &&& 31)))) 1 5 h (cI C 1 5 h + 1)) 2 9 l (cI C 2 9 l + 1)
def cBk (C : Cs) (h l p : Nat) : Cs := cUnl (cLR (wI (cW4 C h l p) 1 6 h (cI C 1 6 h + 1)) p 1 (cI C 1 0 h)) l (cL C 2 8 l) p
def cWP (C : Cs) (h l p : Nat) : Cs := if cI C 1 3 h ≤ 0 ∨ ¬ remI (cI C 1 5 h + 1) (cI C 1 3 h) = 0 then wL (cW4 C h l p) 2 8 l (p + 1) else cBk C h l p
theorem cW4_Kp (C : Cs) (h l p : Nat) : Kp C (cW4 C h l p) := ((((Kp.rf C).wi 5 _ _ _ (by decide)).wi 5 _ _ _ (by decide)).wi 1 _ _ _ (by decide)).wi 2 _ _ _ (by decide)
theorem cWP_Kp (C : Cs) (h l p : Nat) : Kp C (cWP C h l p) := by
  unfold cWP
  split
  · exact (cW4_Kp C h l p).wl 2 _ _ _ (by decide)
  · exact (((cW4_Kp C h l p).wi 1 _ _ _ (by decide)).tr (cLR_Kp _ _ _ _)).tr (cUnl_Kp _ _ _ _)
def sp_workPiece : Sp := fun as w K => ∃ C h l p, as = [.ref (cA C 1 h), .ref (cA C 2 l), .ref (cA C 5 p)] ∧ RX C w ∧ (h < cN C 1 ∧ l < cN C 2 ∧ p < cN C 5) ∧ ∀ w', RX (cWP C h l p) w' → K none w'
theorem c_workPiece (l : Launch) : Ct l 28 2 0 0 sp_workPiece := by
  refine ct_jd (by decide) rfl (fun as w Po h => ?_)
  obtain ⟨C, ho, lo, p, rfl, hX, ⟨hh, hl, hp⟩, h⟩ := h
  have hev : ∀ (k : Nat) (r : Nat × Nat × Nat × Sp), evL [(16, 1, 0, 0, sp_unlink), (29, 1, 0, 0, sp_leaveRow)] k = some r → Ct l k r.1 r.2.1 r.2.2.1 r.2.2.2 := evL_ok (by simpa using ⟨c_unlink l, c_leaveRow l⟩)
  have keep : ∀ w2, RX (cW4 C ho lo p) w2 → (cI C 1 3 ho ≤ 0 ∨ ¬ remI (cI C 1 5 ho + 1) (cI C 1 3 ho) = 0) → Jd l 28 2 0 0 none Po 98 [(0, .ref (cA C 1 ho)), (1, .ref (cA C 2 lo)), (2, .ref (cA C 5 p))] [] w2 0 0 := by
    intro w2 hX hc
    refine jd_s cdo_28 hev [] 20 z00 ⟨hX.k 2 lo hl, some (cA C 5 p), rfl, ?_⟩
    have hX := hX.wl 2 8 lo (p + 1) hl hp (by decide)
    refine h _ ?_
    rw [cWP, if_pos hc]
    exact hX
  have brk : ∀ w2, RX (cW4 C ho lo p) w2 → ¬ (cI C 1 3 ho ≤ 0 ∨ ¬ remI (cI C 1 5 ho + 1) (cI C 1 3 ho) = 0) → Jd l 28 2 0 0 none Po 67 [(0, .ref (cA C 1 ho)), (1, .ref (cA C 2 lo)), (2, .ref (cA C 5 p))] [] w2 0 0 := by
    intro w2 hX hc
    rw [cWP, if_neg hc] at h
    refine jd_s cdo_28 hev [] 40 z00 ?_
    refine ⟨hX.k 1 ho hh, _, hX.gi 1 6 ho (by decide) hh rfl, hX.k 1 ho hh, ?_⟩
    have hX := hX.wi 1 6 ho hh (cI C 1 6 ho + 1)
    refine ⟨hX.k 1 ho hh, _, hX.gi 1 0 ho (by decide) hh rfl, ?_⟩
    refine ⟨⟨by decide, by decide, by decide⟩, rfl, hX.k 5 p hp, _, p, 1, cI C 1 0 ho, by rfl, hX, hp, fun w3 hX => ?_⟩
    refine ⟨hX.k 2 lo hl, _, hX.gr 2 8 lo (by decide) hl rfl, ?_⟩
    refine ⟨⟨by decide, by decide, by decide⟩, rfl, hX.k 2 lo hl, _, lo, cL C 2 8 lo, p, by rfl, hX, ⟨hl, hX.lb 2 8 lo (by decide) hl rfl, hp⟩, h⟩
  refine ⟨Nat.le_of_ble_eq_true rfl, jd_s cdo_28 hev [67, 98] 60 z00 ?_⟩
  refine ⟨hX.k 5 p hp, _, hX.gi 5 3 p (by decide) hp rfl, hX.k 1 ho hh, _, hX.gi 1 2 ho (by decide) hh rfl, hX.k 5 p hp, ?_⟩
  have hX := hX.wi 5 3 p hp (cI C 5 3 p + cI C 1 2 ho)
  refine ⟨hX.k 5 p hp, _, hX.gi 5 4 p (by decide) hp rfl, hX.k 1 ho hh, _, hX.gi 1 0 ho (by decide) hh rfl, hX.k 5 p hp, ?_⟩
  have hX := hX.wi 5 4 p hp (cI C 5 4 p ||| (1 <<< (cI C 1 0 ho &&& 31)))
  refine ⟨hX.k 1 ho hh, _, hX.gi 1 5 ho (by decide) hh rfl, hX.k 1 ho hh, ?_⟩
  have hX := hX.wi 1 5 ho hh (cI C 1 5 ho + 1)
  refine ⟨hX.k 2 lo hl, _, hX.gi 2 9 lo (by decide) hl rfl, hX.k 2 lo hl, ?_⟩
  have hX := hX.wi 2 9 lo hl (cI C 2 9 lo + 1)
  have hX : RX (cW4 C ho lo p) _ := hX
  have e5 : cI (cW4 C ho lo p) 1 5 ho = cI C 1 5 ho + 1 := by simp [cW4, cI_wI]
  refine ⟨hX.k 1 ho hh, _, hX.gi 1 3 ho (by decide) hh rfl, fun c => keep _ hX (Or.inl c), fun c => ?_⟩
  refine ⟨hX.k 1 ho hh, _, (hX.gi 1 5 ho (by decide) hh rfl).trans e5, hX.k 1 ho hh, _, hX.gi 1 3 ho (by decide) hh rfl, fun z => c (by rw [show cI (cW4 C ho lo p) 1 3 ho = 0 from z]; decide), fun c2 => keep _ hX (Or.inr c2), fun c2 => brk _ hX (fun q => q.elim c (fun q => q c2))⟩
def cTv1 (C : Cs) (sn : Int32) (l : Nat) : Cs := if sn = 0 ∧ 0 < cI C 2 7 l then wI C 2 7 l (cI C 2 7 l - 1) else C
def cTv2 (s : Int32) (h l : Nat) (D : Cs) : Cs := if 0 < cI D 2 7 l then D else if s = 1 then cRec (wI D 2 5 l 2) h l else wL (wI D 2 5 l 0) 2 6 l 0
def cTv (C : Cs) (sn : Int32) (l : Nat) : Cs := match cL C 2 6 l with
  | 0 => C
  | h + 1 => if cI C 2 5 l = 0 ∨ cI C 2 5 l = 2 then C else cTv2 (cI C 2 5 l) h l (cTv1 C sn l)
theorem cTv1_Kp (C : Cs) (sn : Int32) (l : Nat) : Kp C (cTv1 C sn l) := by
  unfold cTv1
  split
  · exact (Kp.rf C).wi 2 _ _ _ (by decide)
  · exact Kp.rf C
theorem cTv2_Kp (s : Int32) (h l : Nat) (D : Cs) : Kp D (cTv2 s h l D) := by
  unfold cTv2
  split
  · exact Kp.rf D
  · split
    · exact ((Kp.rf D).wi 2 _ _ _ (by decide)).tr (cRec_Kp _ _ _)
    · exact ((Kp.rf D).wi 2 _ _ _ (by decide)).wl 2 _ _ _ (by decide)
theorem cTv_Kp (C : Cs) (sn : Int32) (l : Nat) : Kp C (cTv C sn l) := by
  unfold cTv
  split
  · exact Kp.rf C
  · split
    · exact Kp.rf C
    · exact (cTv1_Kp C sn l).tr (cTv2_Kp _ _ _ _)
def sp_travel : Sp := fun as w K => ∃ C l sn, as = [.ref (cA C 2 l), .int sn] ∧ RX C w ∧ l < cN C 2 ∧ ∀ w', RX (cTv C sn l) w' → K none w'
theorem c_travel (l : Launch) : Ct l 22 2 0 0 sp_travel := by
  refine ct_jd (by decide) rfl (fun as w Po h => ?_)
  obtain ⟨C, lo, sn, rfl, hX, hl, h⟩ := h
  have hev : ∀ (k : Nat) (r : Nat × Nat × Nat × Sp), evL [(23, 1, 0, 0, sp_receive)] k = some r → Ct l k r.1 r.2.1 r.2.2.1 r.2.2.2 := evL_ok (by simpa using c_receive l)
  refine ⟨Nat.le_of_ble_eq_true rfl, ?_⟩
  rw [cTv] at h
  cases e : cL C 2 6 lo with
  | zero =>
    rw [e] at h
    exact jd_run cdo_22 hev 20 z00 ⟨hX.k 2 lo hl, _, hX.g0 2 6 lo (by decide) hl rfl e, h _ hX⟩
  | succ ho =>
    rw [e] at h
    have hh : ho < cN C 1 := hX.l1 2 6 lo (by decide) hl rfl e
    dsimp only at h
    have tail : ∀ D w2, RX D w2 → cN D = cN C → cA D = cA C → cL D 2 6 lo = ho + 1 → cI D 2 5 lo = cI C 2 5 lo → (∀ w', RX (cTv2 (cI C 2 5 lo) ho lo D) w' → Po none w') → Jd l 22 2 0 0 none Po 44 [(0, .ref (cA C 2 lo)), (1, .int sn)] [] w2 0 0 := by
      intro D w2 hX eN eA eh e5 hk
      rw [cTv2] at hk
      have hl : lo < cN D 2 := by rw [eN]; exact hl
      have hh : ho < cN D 1 := by rw [eN]; exact hh
      rw [← eA]
      refine jd_s cdo_22 hev [] 60 z00 ⟨hX.k 2 lo hl, _, hX.gi 2 7 lo (by decide) hl rfl, fun c => ?_, fun c => ?_⟩
      · rw [if_neg (fun q => lt_nle q c)] at hk
        refine ⟨hX.k 2 lo hl, _, (hX.gi 2 5 lo (by decide) hl rfl).trans e5, fun c2 => ?_, fun c2 => ?_⟩
        · rw [if_neg c2] at hk
          refine ⟨hX.k 2 lo hl, ?_⟩
          have hX := hX.wi 2 5 lo hl 0
          refine ⟨hX.k 2 lo hl, none, rfl, ?_⟩
          exact hk _ (hX.wl 2 6 lo 0 hl (Nat.zero_le _) (by decide))
        · rw [if_pos c2] at hk
          refine ⟨hX.k 2 lo hl, ?_⟩
          have hX := hX.wi 2 5 lo hl 2
          refine ⟨hX.k 2 lo hl, _, hX.g1 2 6 lo (by decide) hl rfl eh, ?_⟩
          exact ⟨⟨by decide, by decide, by decide⟩, rfl, hX.k 1 ho hh, _, ho, lo, by rfl, hX, ⟨hh, hl⟩, hk⟩
      · rw [if_pos (nle_lt c)] at hk
        exact hk _ hX
    refine jd_s cdo_22 hev [44] 60 z00 ⟨hX.k 2 lo hl, _, hX.g1 2 6 lo (by decide) hl rfl e, ?_⟩
    refine ⟨hX.k 2 lo hl, _, hX.gi 2 5 lo (by decide) hl rfl, fun c => ?_, fun c => ?_⟩
    · rw [if_pos (Or.inl c)] at h
      exact h _ hX
    refine ⟨hX.k 2 lo hl, _, hX.gi 2 5 lo (by decide) hl rfl, fun c2 => ?_, fun c2 => ?_⟩
    · rw [if_neg (fun q => q.elim c c2), cTv1] at h
      refine ⟨fun c3 => ?_, fun c3 => ?_⟩
      · rw [if_neg (fun q => c3 q.1)] at h
        exact tail C w hX rfl rfl e rfl h
      · refine ⟨hX.k 2 lo hl, _, hX.gi 2 7 lo (by decide) hl rfl, fun c4 => ?_, fun c4 => ?_⟩
        · rw [if_neg (fun q => lt_nle q.2 c4)] at h
          exact tail C w hX rfl rfl e rfl h
        · rw [if_pos ⟨c3, nle_lt c4⟩] at h
          refine ⟨hX.k 2 lo hl, _, hX.gi 2 7 lo (by decide) hl rfl, hX.k 2 lo hl, ?_⟩
          exact tail _ _ (hX.wi 2 7 lo hl (cI C 2 7 lo - 1)) rfl rfl e rfl h
    · rw [if_pos (Or.inr c2)] at h
      exact h _ hX
end
section
/-! THE CLASS: a home's day, a day -/
def cWD (h : Nat) : Nat → Nat → Cs → Cs × Nat
  | 0, n, C => (C, n)
  | f + 1, n, C => match cL C 1 8 h with
    | 0 => (C, n)
    | l + 1 => match cNW C l with
      | 0 => cWD h f n (cRel C h l)
      | p + 1 => if nI n < cI C 1 1 h then cWD h f (n + 1) (cWP C h l p) else (C, n)
theorem cWD_Kp (h : Nat) : ∀ f n C, Kp C (cWD h f n C).1
  | 0, n, C => Kp.rf C
  | f + 1, n, C => by
    unfold cWD
    split
    · exact Kp.rf C
    · split
      · exact (cRel_Kp _ _ _).tr (cWD_Kp h f _ _)
      · split
        · exact (cWP_Kp _ _ _ _).tr (cWD_Kp h f _ _)
        · exact Kp.rf C
def sp_workDay : Sp := fun as w K => ∃ C h fu, as = [.ref (cA C 1 h)] ∧ RX C w ∧ (h < cN C 1 ∧ fu = 80) ∧ ∀ w', RX (cWD h fu 0 C).1 w' → K (some (.int (nI (cWD h fu 0 C).2))) w'
theorem c_workDay (l : Launch) : Ct l 24 3 0 0 sp_workDay := by
  have hev : ∀ (k : Nat) (r : Nat × Nat × Nat × Sp), evL [(25, 1, 0, 0, sp_nextToWork), (26, 2, 0, 0, sp_release), (28, 2, 0, 0, sp_workPiece)] k = some r → Ct l k r.1 r.2.1 r.2.2.1 r.2.2.2 := evL_ok (by simpa using ⟨c_nextToWork l, c_release l, c_workPiece l⟩)
  refine ct_jd (by decide) rfl (fun as w Po h => ?_)
  obtain ⟨C, ho, fu, rfl, hX, ⟨hh, hfu⟩, h⟩ := h
  refine ⟨Nat.le_of_ble_eq_true rfl, ?_⟩
  have key : ∀ d i n D w', i + d = 80 → Kp C D → RX D w' → (∀ w2, RX (cWD ho d n D).1 w2 → Po (some (.int (nI (cWD ho d n D).2))) w2) → Jd l 24 3 0 0 (some .int) Po 4 [(2, .int (nI i)), (1, .int (nI n)), (0, .ref (cA C 1 ho))] [] w' 0 0 := by
    intro d
    induction d with
    | zero =>
      intro i n D w' hi hK hX hk
      obtain rfl : i = 80 := by omega
      exact jd_s cdo_24 hev [] 20 z00 ⟨fun _ => hk _ hX, fun c => absurd (by decide) c⟩
    | succ d ih =>
      intro i n D w' hi hK hX hk
      have hh' : ho < cN D 1 := by rw [hK.1.2.1]; exact hh
      rw [← hK.1.1]
      refine jd_s cdo_24 hev [4] 60 z00 ⟨fun c => ?_, fun _ => ?_⟩
      · have := ge_n (a := i) (b := 80) (by omega) (by omega) c
        omega
      rw [cWD] at hk
      cases e : cL D 1 8 ho with
      | zero =>
        rw [e] at hk
        exact ⟨hX.k 1 ho hh', _, hX.g0 1 8 ho (by decide) hh' rfl e, hk _ hX⟩
      | succ lo =>
        rw [e] at hk
        have hlo : lo < cN D 2 := hX.l1 1 8 ho (by decide) hh' rfl e
        refine ⟨hX.k 1 ho hh', _, hX.g1 1 8 ho (by decide) hh' rfl e, ?_⟩
        refine ⟨⟨by decide, by decide, by decide⟩, rfl, hX.k 2 lo hlo, D, lo, rfl, hX, hlo, fun hb => ?_⟩
        dsimp only at hk
        cases e2 : cNW D lo with
        | zero =>
          rw [e2] at hk
          refine ⟨⟨by decide, by decide, by decide⟩, rfl, hX.k 1 ho hh', D, ho, lo, rfl, hX, ⟨hh', hlo⟩, fun w2 hX2 => ?_⟩
          have := ih (i + 1) n _ w2 (by omega) (hK.tr (cRel_Kp _ _ _)) hX2 hk
          rw [← nI_1, ← hK.1.1] at this
          exact jd_pk [0, 3, 4] this
        | succ p =>
          rw [e2] at hk hb
          dsimp only at hk
          refine ⟨hX.k 1 ho hh', _, hX.gi 1 1 ho (by decide) hh' rfl, fun c => ?_, fun c => ?_⟩
          · rw [if_neg (fun q => lt_nle q c)] at hk
            exact hk _ hX
          · rw [if_pos (nle_lt c)] at hk
            refine ⟨⟨by decide, by decide, by decide⟩, rfl, hX.k 1 ho hh', D, ho, lo, p, rfl, hX, ⟨hh', hlo, hb⟩, fun w2 hX2 => ?_⟩
            have := ih (i + 1) (n + 1) _ w2 (by omega) (hK.tr (cWP_Kp _ _ _ _)) hX2 hk
            rw [← nI_1, ← nI_1, ← hK.1.1] at this
            exact jd_pk [0, 1, 4] this
  refine jd_s cdo_24 hev [4] 10 z00 ?_
  exact key fu 0 0 C w (by omega) (Kp.rf C) hX h
def cTvs (C : Cs) (sn : Int32) : Nat → Cs
  | 0 => C
  | n + 1 => cTv (cTvs C sn n) sn n
theorem cTvs_Kp (C : Cs) (sn : Int32) : ∀ n, Kp C (cTvs C sn n)
  | 0 => Kp.rf C
  | n + 1 => (cTvs_Kp C sn n).tr (cTv_Kp _ _ _)
def cWDs (fu : Nat) (C : Cs) : Nat → Cs × Nat
  | 0 => (C, 0)
  | n + 1 => ((cWD n fu 0 (cWDs fu C n).1).1, (cWDs fu C n).2 + (cWD n fu 0 (cWDs fu C n).1).2)
theorem cWDs_Kp (fu : Nat) (C : Cs) : ∀ n, Kp C (cWDs fu C n).1
  | 0 => Kp.rf C
  | n + 1 => (cWDs_Kp fu C n).tr (cWD_Kp _ _ _ _)
def cDay (fu : Nat) (C : Cs) (sn : Int32) (nl nh : Nat) : Cs := wI (cWDs fu (cTvs C sn nl) nh).1 9 13 0 (cI C 9 13 0 + 1)
def sp_cday : Sp := fun as w K => ∃ C sn nl nh fu, fu = 80 ∧ as = [.ref (cA C 9 0), .int sn] ∧ RX C w ∧ FX C ∧ NB C 24 2 8 60 nl ∧ NB C 25 1 9 9 nh ∧ (400 ≤ cI C 9 13 0 → K (some (.int (-1))) w) ∧ (cI C 9 13 0 < 400 → ∀ w', RX (cDay fu C sn nl nh) w' → K (some (.int (nI (cWDs fu (cTvs C sn nl) nh).2))) w')
theorem c_day (l : Launch) : Ct l 21 4 0 0 sp_cday := by
  have hev : ∀ (k : Nat) (r : Nat × Nat × Nat × Sp), evL [(14, 1, 0, 0, sp_nb 24 2 8 60), (19, 1, 0, 0, sp_nb 25 1 9 9), (22, 2, 0, 0, sp_travel), (24, 3, 0, 0, sp_workDay)] k = some r → Ct l k r.1 r.2.1 r.2.2.1 r.2.2.2 := evL_ok (by simpa using ⟨c_lotN l, c_homeN l, c_travel l, c_workDay l⟩)
  refine ct_jd (by decide) rfl (fun as w Po h => ?_)
  obtain ⟨C, sn, nl, nh, fu, hfu, rfl, hX, hF, hNl, hNh, h1, h2⟩ := h
  refine ⟨Nat.le_of_ble_eq_true rfl, ?_⟩
  have key2 : (cI C 9 13 0 < 400) → ∀ d i w', i + d = nh → RX (cWDs fu (cTvs C sn nl) i).1 w' → Jd l 21 4 0 0 (some .int) Po 47 [(3, .int (nI i)), (2, .int (nI (cWDs fu (cTvs C sn nl) i).2)), (0, .ref (cA C 9 0)), (1, .int sn)] [] w' 0 0 := by
    intro hd d
    induction d with
    | zero =>
      intro i w' hi hX
      obtain rfl : i = nh := by omega
      have hK : Kp C (cWDs fu (cTvs C sn nl) i).1 := (cTvs_Kp C sn nl).tr (cWDs_Kp fu _ i)
      have hN := hK.nb (by decide) hNh
      have hF := hK.fx hF
      rw [← hK.1.1]
      refine jd_s cdo_21 hev [] 40 z00 ⟨hX.k 9 0 hF.x, _, (hX.gi 9 9 0 (by decide) hF.x rfl).trans hN.1, fun _ => ?_, fun c => absurd (nI_le (Nat.le_refl i) (by have := hNh.2.1; omega)) c⟩
      refine ⟨hX.k 9 0 hF.x, _, (hX.gi 9 13 0 (by decide) hF.x rfl).trans (hK.2.1 9 13 0 (by decide) (by decide) (by decide)), hX.k 9 0 hF.x, ?_⟩
      exact h2 hd _ (hX.wi 9 13 0 hF.x (cI C 9 13 0 + 1))
    | succ d ih =>
      intro i w' hi hX
      have hn9 := hNh.2.1
      have hK : Kp C (cWDs fu (cTvs C sn nl) i).1 := (cTvs_Kp C sn nl).tr (cWDs_Kp fu _ i)
      have hN := hK.nb (by decide) hNh
      have hF := hK.fx hF
      rw [← hK.1.1]
      refine jd_s cdo_21 hev [47] 40 z00 ⟨hX.k 9 0 hF.x, _, (hX.gi 9 9 0 (by decide) hF.x rfl).trans hN.1, fun c => ?_, fun _ => ?_⟩
      · have := ge_n (a := i) (b := nh) (by omega) (by omega) c
        omega
      refine ⟨⟨by decide, by decide, by decide⟩, rfl, hX.k 9 0 hF.x, _, nI i, nh, by rfl, hX, hF, hN, fun j hj ej => ?_, fun q => absurd ⟨i, by omega, rfl⟩ q⟩
      obtain rfl : i = j := (nI_eq (by omega) (by omega)).mp ej
      have hi1 : i < cN (cWDs fu (cTvs C sn nl) i).1 1 := by rw [hN.2.2.1]; exact hj
      refine ⟨⟨by decide, by decide, by decide⟩, rfl, hX.k 1 i hi1, _, i, fu, by rfl, hX, ⟨hi1, hfu⟩, fun w2 hX2 => ?_⟩
      have := ih (i + 1) w2 (by omega) hX2
      rw [← nI_1, cWDs, ← nI_add, ← hK.1.1] at this
      exact jd_pk [0, 1, 3, 4] this
  have key1 : (cI C 9 13 0 < 400) → ∀ d i w', i + d = nl → RX (cTvs C sn i) w' → Jd l 21 4 0 0 (some .int) Po 14 [(2, .int (nI i)), (0, .ref (cA C 9 0)), (1, .int sn)] [] w' 0 0 := by
    intro hd d
    induction d with
    | zero =>
      intro i w' hi hX
      obtain rfl : i = nl := by omega
      have hK : Kp C (cTvs C sn i) := cTvs_Kp C sn i
      have hN := hK.nb (by decide) hNl
      have hF := hK.fx hF
      refine jd_s cdo_21 hev [47] 40 z00 ⟨hX.k' 9 0 (by rw [hK.1.1]) hF.x, _, (hX.gi' 9 8 0 (by rw [hK.1.1]) (by decide) hF.x rfl).trans hN.1, fun _ => ?_, fun c => absurd (nI_le (Nat.le_refl i) (by have := hNl.2.1; omega)) c⟩
      exact jd_pk [0, 1, 2, 3] (key2 hd nh 0 w' (by omega) hX)
    | succ d ih =>
      intro i w' hi hX
      have hn60 := hNl.2.1
      have hK : Kp C (cTvs C sn i) := cTvs_Kp C sn i
      have hN := hK.nb (by decide) hNl
      have hF := hK.fx hF
      rw [← hK.1.1]
      refine jd_s cdo_21 hev [14] 40 z00 ⟨hX.k 9 0 hF.x, _, (hX.gi 9 8 0 (by decide) hF.x rfl).trans hN.1, fun c => ?_, fun _ => ?_⟩
      · have := ge_n (a := i) (b := nl) (by omega) (by omega) c
        omega
      refine ⟨⟨by decide, by decide, by decide⟩, rfl, hX.k 9 0 hF.x, _, nI i, nl, by rfl, hX, hF, hN, fun j hj ej => ?_, fun q => absurd ⟨i, by omega, rfl⟩ q⟩
      obtain rfl : i = j := (nI_eq (by omega) (by omega)).mp ej
      have hi1 : i < cN (cTvs C sn i) 2 := by rw [hN.2.2.1]; exact hj
      refine ⟨⟨by decide, by decide, by decide⟩, rfl, hX.k 2 i hi1, _, i, sn, by rfl, hX, hi1, fun w2 hX2 => ?_⟩
      have := ih (i + 1) w2 (by omega) hX2
      rw [← nI_1, ← hK.1.1] at this
      exact jd_pk [0, 2, 3] this
  refine jd_s cdo_21 hev [14] 20 z00 ⟨hX.k 9 0 hF.x, _, hX.gi 9 13 0 (by decide) hF.x rfl, fun c => ?_, fun c => h1 (nlt_le c)⟩
  exact key1 c nl 0 w (by omega) hX
end
section
/-! THE CLASS: what is made new: homes, lots, sendings, wages -/
theorem cA_new (C : Cs) (t a : Nat) : cA (wN C t a) t (cN C t) = a := if_pos ⟨rfl, rfl⟩
theorem cN_new (C : Cs) (t a : Nat) : cN C t < cN (wN C t a) t := by
  show _ < if t = t then cN C t + 1 else cN C t
  rw [if_pos rfl]
  exact Nat.lt_succ_self _
theorem cN_wN (C : Cs) (t a s : Nat) : cN (wN C t a) s = if s = t then cN C t + 1 else cN C s := id rfl
theorem cA_wN (C : Cs) (t a s i : Nat) : cA (wN C t a) s i = if s = t ∧ i = cN C t then a else cA C s i := id rfl
theorem cI_wN (C : Cs) (t a s k i : Nat) : cI (wN C t a) s k i = if s = t ∧ i = cN C t then 0 else cI C s k i := id rfl
theorem cL_wN (C : Cs) (t a s k i : Nat) : cL (wN C t a) s k i = if s = t ∧ i = cN C t then 0 else cL C s k i := id rfl
theorem cI_wNt {C : Cs} {t a s k i : Nat} (h : s ≠ t) : cI (wN C t a) s k i = cI C s k i := if_neg (fun q => h q.1)
theorem cL_wNt {C : Cs} {t a s k i : Nat} (h : s ≠ t) : cL (wN C t a) s k i = cL C s k i := if_neg (fun q => h q.1)
theorem cN_wNt {C : Cs} {t a s : Nat} (h : s ≠ t) : cN (wN C t a) s = cN C s := if_neg h
theorem cA_wNt {C : Cs} {t a s i : Nat} (h : s ≠ t) : cA (wN C t a) s i = cA C s i := if_neg (fun q => h q.1)
theorem FX_wN {C : Cs} (h : FX C) (t a : Nat) (ht : t = 1 ∨ t = 2 ∨ t = 5 ∨ t = 6 ∨ t = 7 ∨ t = 8) : FX (wN C t a) := by
  obtain ⟨h1, h2, h3, h4⟩ := h
  have e : ∀ s k i, s = 9 ∨ s = 3 ∨ s = 4 → cL (wN C t a) s k i = cL C s k i := fun s k i q => cL_wNt (by omega)
  refine ⟨?_, ?_, ?_, fun k' i' p q => (e 4 k' i' (by decide)).trans (h4 k' i' p q)⟩
  · rw [cN_wNt (by omega), cN_wNt (by omega), cN_wNt (by omega), cN_wNt (by omega), cN_wNt (by omega)]; exact h1
  · rw [e 9 _ _ (by decide), e 9 _ _ (by decide), e 9 _ _ (by decide), e 9 _ _ (by decide), e 9 _ _ (by decide), e 9 _ _ (by decide), e 9 _ _ (by decide)]; exact h2
  · rw [e 3 _ _ (by decide), e 3 _ _ (by decide)]; exact h3
theorem FX_wI {C : Cs} (h : FX C) (t k i : Nat) (v : Int32) : FX (wI C t k i v) := h
def cHI (C : Cs) (i : Nat) (n r o b v : Int32) : Cs := wI (wI (wI (wI (wI C 1 0 i n) 1 1 i r) 1 2 i o) 1 3 i b) 1 4 i v
def sp_HomeInit : Sp := fun as w K => ∃ C i a n r o b v, as = [.ref a, .int n, .int r, .int o, .int b, .int v] ∧ RX C w ∧ (i < cN C 1 ∧ cA C 1 i = a) ∧ ∀ w', RX (cHI C i n r o b v) w' → K none w'
theorem c_HomeInit (l : Launch) : Ct l 5 1 0 0 sp_HomeInit := by
  refine ct_jd (by decide) rfl (fun as w Po h => ?_)
  obtain ⟨C, i, a, n, r, o, b, v, rfl, hX, ⟨hi, rfl⟩, h⟩ := h
  refine ⟨Nat.le_of_ble_eq_true rfl, jd_run cdo_5 ev0 40 z00 ?_⟩
  refine ⟨rfl, by decide, hX.k 1 i hi, ?_⟩
  have hX := hX.wi 1 0 i hi n
  refine ⟨hX.k 1 i hi, ?_⟩
  have hX := hX.wi 1 1 i hi r
  refine ⟨hX.k 1 i hi, ?_⟩
  have hX := hX.wi 1 2 i hi o
  refine ⟨hX.k 1 i hi, ?_⟩
  have hX := hX.wi 1 3 i hi b
  refine ⟨hX.k 1 i hi, ?_⟩
  exact h _ (hX.wi 1 4 i hi v)
def cLI (C : Cs) (i : Nat) (n k : Int32) : Cs := wI (wI (wI C 2 5 i 0) 2 0 i n) 2 1 i k
def sp_LotInit : Sp := fun as w K => ∃ C i a n k, as = [.ref a, .int n, .int k] ∧ RX C w ∧ (i < cN C 2 ∧ cA C 2 i = a) ∧ ∀ w', RX (cLI C i n k) w' → K none w'
theorem c_LotInit (l : Launch) : Ct l 9 1 0 0 sp_LotInit := by
  refine ct_jd (by decide) rfl (fun as w Po h => ?_)
  obtain ⟨C, i, a, n, k, rfl, hX, ⟨hi, rfl⟩, h⟩ := h
  refine ⟨Nat.le_of_ble_eq_true rfl, jd_run cdo_9 ev0 40 z00 ?_⟩
  refine ⟨rfl, by decide, hX.k 2 i hi, ?_⟩
  have hX := hX.wi 2 5 i hi 0
  refine ⟨hX.k 2 i hi, ?_⟩
  have hX := hX.wi 2 0 i hi n
  refine ⟨hX.k 2 i hi, ?_⟩
  exact h _ (hX.wi 2 1 i hi k)
def cPI (C : Cs) (i : Nat) (n k s r : Int32) : Cs := wI (wI (wI (wI (wI C 5 5 i 0) 5 0 i n) 5 1 i k) 5 3 i s) 5 2 i r
def sp_PieceInit : Sp := fun as w K => ∃ C i a n k s r, as = [.ref a, .int n, .int k, .int s, .int r] ∧ RX C w ∧ (i < cN C 5 ∧ cA C 5 i = a) ∧ ∀ w', RX (cPI C i n k s r) w' → K none w'
theorem c_PieceInit (l : Launch) : Ct l 10 1 0 0 sp_PieceInit := by
  refine ct_jd (by decide) rfl (fun as w Po h => ?_)
  obtain ⟨C, i, a, n, k, s, r, rfl, hX, ⟨hi, rfl⟩, h⟩ := h
  refine ⟨Nat.le_of_ble_eq_true rfl, jd_run cdo_10 ev0 40 z00 ?_⟩
  refine ⟨rfl, by decide, hX.k 5 i hi, ?_⟩
  have hX := hX.wi 5 5 i hi 0
  refine ⟨hX.k 5 i hi, ?_⟩
  have hX := hX.wi 5 0 i hi n
  refine ⟨hX.k 5 i hi, ?_⟩
  have hX := hX.wi 5 1 i hi k
  refine ⟨hX.k 5 i hi, ?_⟩
  have hX := hX.wi 5 3 i hi s
  refine ⟨hX.k 5 i hi, ?_⟩
  exact h _ (hX.wi 5 2 i hi r)
def cSI (C : Cs) (i : Nat) (d p : Int32) (b : Nat) : Cs := wL (wI (wI C 6 0 i d) 6 1 i p) 6 2 i b
def sp_SendInit : Sp := fun as w K => ∃ C i a d p b, as = [.ref a, .int d, .int p, va_rf (adO C 6 b)] ∧ RX C w ∧ (i < cN C 6 ∧ cA C 6 i = a ∧ b ≤ cN C 6) ∧ ∀ w', RX (cSI C i d p b) w' → K none w'
theorem c_SendInit (l : Launch) : Ct l 20 1 0 0 sp_SendInit := by
  refine ct_jd (by decide) rfl (fun as w Po h => ?_)
  obtain ⟨C, i, a, d, p, b, rfl, hX, ⟨hi, rfl, hb⟩, h⟩ := h
  cases b with
  | zero =>
    refine ⟨Nat.le_of_ble_eq_true rfl, jd_run cdo_20 ev0 40 z00 ?_⟩
    refine ⟨rfl, by decide, hX.k 6 i hi, ?_⟩
    have hX := hX.wi 6 0 i hi d
    refine ⟨hX.k 6 i hi, ?_⟩
    have hX := hX.wi 6 1 i hi p
    refine ⟨hX.k 6 i hi, none, rfl, ?_⟩
    exact h _ (hX.wl 6 2 i 0 hi hb (by decide))
  | succ q =>
    refine ⟨Nat.le_of_ble_eq_true rfl, jd_run cdo_20 ev0 40 z00 ?_⟩
    refine ⟨rfl, by decide, hX.k 6 i hi, ?_⟩
    have hX := hX.wi 6 0 i hi d
    refine ⟨hX.k 6 i hi, ?_⟩
    have hX := hX.wi 6 1 i hi p
    refine ⟨hX.k 6 i hi, some (cA C 6 q), rfl, ?_⟩
    exact h _ (hX.wl 6 2 i (q + 1) hi hb (by decide))
def cGI (C : Cs) (i : Nat) (t f v : Int32) (b : Nat) : Cs := wL (wI (wI (wI C 7 0 i t) 7 1 i f) 7 2 i v) 7 3 i b
def sp_WageInit : Sp := fun as w K => ∃ C i a t f v b, as = [.ref a, .int t, .int f, .int v, va_rf (adO C 7 b)] ∧ RX C w ∧ (i < cN C 7 ∧ cA C 7 i = a ∧ b ≤ cN C 7) ∧ ∀ w', RX (cGI C i t f v b) w' → K none w'
theorem c_WageInit (l : Launch) : Ct l 40 1 0 0 sp_WageInit := by
  refine ct_jd (by decide) rfl (fun as w Po h => ?_)
  obtain ⟨C, i, a, t, f, v, b, rfl, hX, ⟨hi, rfl, hb⟩, h⟩ := h
  cases b with
  | zero =>
    refine ⟨Nat.le_of_ble_eq_true rfl, jd_run cdo_40 ev0 40 z00 ?_⟩
    refine ⟨rfl, by decide, hX.k 7 i hi, ?_⟩
    have hX := hX.wi 7 0 i hi t
    refine ⟨hX.k 7 i hi, ?_⟩
    have hX := hX.wi 7 1 i hi f
    refine ⟨hX.k 7 i hi, ?_⟩
    have hX := hX.wi 7 2 i hi v
    refine ⟨hX.k 7 i hi, none, rfl, ?_⟩
    exact h _ (hX.wl 7 3 i 0 hi hb (by decide))
  | succ q =>
    refine ⟨Nat.le_of_ble_eq_true rfl, jd_run cdo_40 ev0 40 z00 ?_⟩
    refine ⟨rfl, by decide, hX.k 7 i hi, ?_⟩
    have hX := hX.wi 7 0 i hi t
    refine ⟨hX.k 7 i hi, ?_⟩
    have hX := hX.wi 7 1 i hi f
    refine ⟨hX.k 7 i hi, ?_⟩
    have hX := hX.wi 7 2 i hi v
    refine ⟨hX.k 7 i hi, some (cA C 7 q), rfl, ?_⟩
    exact h _ (hX.wl 7 3 i (q + 1) hi hb (by decide))
def cHome (C : Cs) (a n : Nat) (r o b y : Int32) : Cs := wI (wL (cHI (wN C 1 a) n (nI n) r o b y) 25 n 0 (n + 1)) 9 9 0 (nI (n + 1))
def sp_chome : Sp := fun as w K => ∃ C r o b y n, as = [.ref (cA C 9 0), .int r, .int o, .int b, .int y] ∧ RX C w ∧ FX C ∧ NB C 25 1 9 9 n ∧ (okHome r o b y n → ∀ a w', RX (cHome C a n r o b y) w' → K (some (.int (nI n))) w') ∧ (¬ okHome r o b y n → K (some (.int (-1))) w)
theorem c_homeT (l : Launch) (Po : Option Value → Hp → Prop) (C : Cs) (r o b y : Int32) (n : Nat) : ∀ E w2 z, RX E w2 → cA E 9 0 = cA C 9 0 → cA E 1 n = z → n < cN E 1 → FX E → cI E 9 9 0 = nI n → cI E 1 0 n = nI n → n < 9 → (∀ w', RX (wI (wL E 25 n 0 (n + 1)) 9 9 0 (nI (n + 1))) w' → Po (some (.int (nI n))) w') → Jd l 4 2 1 12 (some .int) Po 76 [(0, .ref (cA C 9 0)), (1, .int r), (2, .int o), (3, .int b), (4, .int y)] [.ref z] w2 1 12 := by
  have hev : ∀ (k : Nat) (r : Nat × Nat × Nat × Sp), evL [(5, 1, 0, 0, sp_HomeInit)] k = some r → Ct l k r.1 r.2.1 r.2.2.1 r.2.2.2 := evL_ok (by simpa using c_HomeInit l)
  intro E w2 z hX eA ha hi hF1 e99 e0 hn9' h1
  refine jd_s cdo_4 hev [] 40 ⟨by decide, by decide⟩ ?_
  refine ⟨hX.k' 9 0 eA hF1.x, some (cA E 25 0), (hX.gr' 9 2 0 eA (by decide) hF1.x rfl).trans (by rw [hF1.l2]; rfl), hX.k' 9 0 eA hF1.x, _, (hX.gi' 9 9 0 eA (by decide) hF1.x rfl).trans e99, ?_⟩
  refine ⟨25, ⟨hX.k 25 0 (by rw [hX.qc 25 (by decide) (by decide)]; decide), by decide, by decide, hX.k' 1 n ha hi⟩, n, hX.ix 25 (by decide) (by decide) rfl hn9', ?_⟩
  have hX := hX.wq' 25 n n rfl ha (by decide) (by decide) hi
  refine ⟨hX.k' 9 0 eA hF1.x, _, (hX.gi' 9 9 0 eA (by decide) hF1.x rfl).trans e99, hX.k' 9 0 eA hF1.x, ?_⟩
  have hX := hX.wi' 9 9 0 eA hF1.x (nI n + 1)
  refine ⟨hX.k' 1 n ha hi, _, (hX.gi' 1 0 n ha (by decide) hi rfl).trans e0, ?_⟩
  refine h1 _ ?_
  rw [← nI_1]
  exact hX
theorem cHI_fx {D : Cs} (hF : FX D) (i : Nat) (n r o b v : Int32) : FX (cHI D i n r o b v) := hF
theorem cHI_A (D : Cs) (i : Nat) (n r o b v : Int32) : cA (cHI D i n r o b v) = cA D := rfl
theorem cHI_N (D : Cs) (i : Nat) (n r o b v : Int32) : cN (cHI D i n r o b v) = cN D := rfl
theorem cHI_9 (D : Cs) (i : Nat) (n r o b v : Int32) (k : Nat) : cI (cHI D i n r o b v) 9 k 0 = cI D 9 k 0 := by simp [cHI, cI_wI]
theorem cHI_0 (D : Cs) (i : Nat) (n r o b v : Int32) : cI (cHI D i n r o b v) 1 0 i = n := by simp [cHI, cI_wI]
theorem c_homeM (l : Launch) (Po : Option Value → Hp → Prop) (C : Cs) (r o b y : Int32) (n : Nat) (w : Hp) (hX : RX C w) (hF : FX C) (hN : NB C 25 1 9 9 n) (hn9 : n < 9) (h1 : ∀ a w', RX (cHome C a n r o b y) w' → Po (some (.int (nI n))) w') : Jd l 4 2 1 12 (some .int) Po 60 [(0, .ref (cA C 9 0)), (1, .int r), (2, .int o), (3, .int b), (4, .int y)] [] w 0 0 := by
  have hev : ∀ (k : Nat) (r : Nat × Nat × Nat × Sp), evL [(5, 1, 0, 0, sp_HomeInit)] k = some r → Ct l k r.1 r.2.1 r.2.2.1 r.2.2.2 := evL_ok (by simpa using c_HomeInit l)
  obtain ⟨hn, -, hc, hr⟩ := hN
  have h1 := h1 (gZ w)
  have hX1 := hX.new 1 (by decide)
  have ha : cA (wN C 1 (gZ w)) 1 n = gZ w := by rw [← hc]; exact cA_new C 1 _
  have hi : n < cN (wN C 1 (gZ w)) 1 := by have := cN_new C 1 (gZ w); rw [hc] at this; exact this
  have hF1 : FX (wN C 1 (gZ w)) := FX_wN hF 1 _ (by decide)
  have eA : cA (wN C 1 (gZ w)) 9 0 = cA C 9 0 := cA_wNt (by decide)
  have e99 : cI (wN C 1 (gZ w)) 9 9 0 = nI n := (cI_wNt (by decide)).trans hn
  rw [cHome] at h1
  refine jd_s cdo_4 hev [76] 40 ⟨by decide, by decide⟩ ?_
  refine ⟨⟨by decide, by decide⟩, ?_⟩
  refine ⟨hX1.k' 9 0 eA hF1.x, _, (hX1.gi' 9 9 0 eA (by decide) hF1.x rfl).trans e99, ?_⟩
  refine ⟨⟨by decide, by decide, by decide⟩, rfl, wN C 1 (gZ w), n, gZ w, nI n, r, o, b, y, rfl, hX1, ⟨hi, ha⟩, fun w2 hX => ?_⟩
  exact c_homeT l Po C r o b y n (cHI (wN C 1 (gZ w)) n (nI n) r o b y) w2 (gZ w) hX (by rw [cHI_A]; exact eA) (by rw [cHI_A]; exact ha) (by rw [cHI_N]; exact hi) (cHI_fx hF1 _ _ _ _ _ _) (by rw [cHI_9]; exact e99) (cHI_0 _ _ _ _ _ _ _) hn9 h1
theorem c_home (l : Launch) : Ct l 4 2 1 12 sp_chome := by
  have hev : ∀ (k : Nat) (r : Nat × Nat × Nat × Sp), evL [(5, 1, 0, 0, sp_HomeInit)] k = some r → Ct l k r.1 r.2.1 r.2.2.1 r.2.2.2 := evL_ok (by simpa using c_HomeInit l)
  refine ct_jd (by decide) rfl (fun as w Po h => ?_)
  obtain ⟨C, r, o, b, y, n, rfl, hX, hF, hN, h1, h2⟩ := h
  have hn := hN.1
  have hn9 := hN.2.1
  refine ⟨Nat.le_of_ble_eq_true rfl, jd_s cdo_4 hev [60] 80 ⟨by decide, by decide⟩ ?_⟩
  refine ⟨fun c => h2 (fun q => lt_nle c q.1.1), fun c1 => ⟨fun c => h2 (fun q => lt_nle c q.1.2), fun c2 => ⟨fun c => h2 (fun q => lt_nle c q.2.1.1), fun c3 => ⟨fun c4 => ?_, fun c => h2 (fun q => c q.2.1.2)⟩⟩⟩⟩
  refine ⟨fun c => h2 (fun q => lt_nle c q.2.2.1.1), fun c5 => ⟨fun c => h2 (fun q => lt_nle c q.2.2.1.2), fun c6 => ⟨fun c => h2 (fun q => lt_nle c q.2.2.2.1.1), fun c7 => ⟨fun c8 => ?_, fun c => h2 (fun q => c q.2.2.2.1.2)⟩⟩⟩⟩
  refine ⟨hX.k 9 0 hF.x, _, (hX.gi 9 9 0 (by decide) hF.x rfl).trans hn, fun c9 => ?_, fun c => h2 (fun q => c ((nI_ltI (a := n) (b := 9) (by omega) (by omega)).mpr q.2.2.2.2))⟩
  have hn9' : n < 9 := (nI_ltI (a := n) (b := 9) (by omega) (by omega)).mp c9
  have hok : okHome r o b y n := ⟨⟨nlt_le c1, nlt_le c2⟩, ⟨nlt_le c3, c4⟩, ⟨nlt_le c5, nlt_le c6⟩, ⟨nlt_le c7, c8⟩, hn9'⟩
  exact c_homeM l Po C r o b y n w hX hF hN hn9' (h1 hok)
end
section
/-! THE CLASS: a new lot, split, join, send, wage -/
theorem cLI_fx {D : Cs} (hF : FX D) (i : Nat) (n k : Int32) : FX (cLI D i n k) := hF
theorem cLI_A (D : Cs) (i : Nat) (n k : Int32) : cA (cLI D i n k) = cA D := rfl
theorem cLI_N (D : Cs) (i : Nat) (n k : Int32) : cN (cLI D i n k) = cN D := rfl
theorem cLI_9 (D : Cs) (i : Nat) (n k : Int32) (j : Nat) : cI (cLI D i n k) 9 j 0 = cI D 9 j 0 := by simp [cLI, cI_wI]
def cNL (C : Cs) (a n : Nat) (k : Int32) : Cs := wI (wL (cLI (wN C 2 a) n (nI n) k) 24 n 0 (n + 1)) 9 8 0 (nI (n + 1))
def sp_cnewLot : Sp := fun as w K => ∃ C k n, as = [.ref (cA C 9 0), .int k] ∧ RX C w ∧ FX C ∧ NB C 24 2 8 60 n ∧ (n < 60 → ∀ a w', RX (cNL C a n k) w' → cA (cNL C a n k) 2 n = a → K (some (.ref a)) w') ∧ (¬ n < 60 → K (some .null) w)
theorem c_cnewLotT (l : Launch) (Po : Option Value → Hp → Prop) (C : Cs) (k : Int32) (n : Nat) : ∀ E w2 z, RX E w2 → cA E 9 0 = cA C 9 0 → cA E 2 n = z → n < cN E 2 → FX E → cI E 9 8 0 = nI n → n < 60 → (∀ w', RX (wI (wL E 24 n 0 (n + 1)) 9 8 0 (nI (n + 1))) w' → Po (some (.ref z)) w') → Jd l 8 2 1 11 (some (.object "WatchValley$Lot")) Po 23 [(0, .ref (cA C 9 0)), (1, .int k)] [.ref z] w2 1 11 := by
  intro E w2 z hX eA ha hi hF1 e98 hn9' h1
  refine jd_s cdo_8 ev0 [] 40 ⟨by decide, by decide⟩ ?_
  refine ⟨hX.k' 9 0 eA hF1.x, some (cA E 24 0), (hX.gr' 9 1 0 eA (by decide) hF1.x rfl).trans (by rw [hF1.l1]; rfl), hX.k' 9 0 eA hF1.x, _, (hX.gi' 9 8 0 eA (by decide) hF1.x rfl).trans e98, ?_⟩
  refine ⟨24, ⟨hX.k 24 0 (by rw [hX.qc 24 (by decide) (by decide)]; decide), by decide, by decide, hX.k' 2 n ha hi⟩, n, hX.ix 24 (by decide) (by decide) rfl hn9', ?_⟩
  have hX := hX.wq' 24 n n rfl ha (by decide) (by decide) hi
  refine ⟨hX.k' 9 0 eA hF1.x, _, (hX.gi' 9 8 0 eA (by decide) hF1.x rfl).trans e98, hX.k' 9 0 eA hF1.x, ?_⟩
  have hX := hX.wi' 9 8 0 eA hF1.x (nI n + 1)
  refine ⟨some z, rfl, h1 _ ?_⟩
  rw [← nI_1]
  exact hX
theorem c_cnewLot (l : Launch) : Ct l 8 2 1 11 sp_cnewLot := by
  have hev : ∀ (k : Nat) (r : Nat × Nat × Nat × Sp), evL [(9, 1, 0, 0, sp_LotInit)] k = some r → Ct l k r.1 r.2.1 r.2.2.1 r.2.2.2 := evL_ok (by simpa using c_LotInit l)
  refine ct_jd (by decide) rfl (fun as w Po h => ?_)
  obtain ⟨C, k, n, rfl, hX, hF, ⟨hn, hn60, hc, hr⟩, h1, h2⟩ := h
  refine ⟨Nat.le_of_ble_eq_true rfl, jd_s cdo_8 hev [23] 40 ⟨by decide, by decide⟩ ?_⟩
  refine ⟨hX.k 9 0 hF.x, _, (hX.gi 9 8 0 (by decide) hF.x rfl).trans hn, fun c => ?_, fun c => ⟨none, rfl, h2 (fun q => c ((nI_ltI (a := n) (b := 60) (by omega) (by omega)).mpr q))⟩⟩
  have hn' : n < 60 := (nI_ltI (a := n) (b := 60) (by omega) (by omega)).mp c
  have h1 := h1 hn' (gZ w)
  have hX1 := hX.new 2 (by decide)
  have ha : cA (wN C 2 (gZ w)) 2 n = gZ w := by rw [← hc]; exact cA_new C 2 _
  have hi : n < cN (wN C 2 (gZ w)) 2 := by have := cN_new C 2 (gZ w); rw [hc] at this; exact this
  have hF1 : FX (wN C 2 (gZ w)) := FX_wN hF 2 _ (by decide)
  have eA : cA (wN C 2 (gZ w)) 9 0 = cA C 9 0 := cA_wNt (by decide)
  have e98 : cI (wN C 2 (gZ w)) 9 8 0 = nI n := (cI_wNt (by decide)).trans hn
  refine ⟨⟨by decide, by decide⟩, ?_⟩
  refine ⟨hX1.k' 9 0 eA hF1.x, _, (hX1.gi' 9 8 0 eA (by decide) hF1.x rfl).trans e98, ?_⟩
  refine ⟨⟨by decide, by decide, by decide⟩, rfl, wN C 2 (gZ w), n, gZ w, nI n, k, rfl, hX1, ⟨hi, ha⟩, fun w2 hX => ?_⟩
  exact c_cnewLotT l Po C k n (cLI (wN C 2 (gZ w)) n (nI n) k) w2 (gZ w) hX (by rw [cLI_A]; exact eA) (by rw [cLI_A]; exact ha) (by rw [cLI_N]; exact hi) (cLI_fx hF1 _ _ _) (by rw [cLI_9]; exact e98) hn' (fun w' hX' => h1 w' hX' ha)
theorem cNL_A (C : Cs) (a n : Nat) (k : Int32) (t i : Nat) (ht : t ≠ 2) : cA (cNL C a n k) t i = cA C t i := cA_wNt ht
theorem cNL_Ao (C : Cs) (a n : Nat) (k : Int32) (i : Nat) (hi : i < cN C 2) : cA (cNL C a n k) 2 i = cA C 2 i := if_neg (fun q => by omega)
theorem cNL_N (C : Cs) (a n : Nat) (k : Int32) (t : Nat) (ht : t ≠ 2) : cN (cNL C a n k) t = cN C t := cN_wNt (a := a) ht
theorem cNL_N2 (C : Cs) (a n : Nat) (k : Int32) : cN (cNL C a n k) 2 = cN C 2 + 1 := (cN_wN C 2 a 2).trans (if_pos rfl)
theorem cNL_F (C : Cs) (a n : Nat) (k : Int32) (hF : FX C) : FX (cNL C a n k) := FX_wI (FX_wL (cLI_fx (FX_wN hF 2 a (by decide)) _ _ _) _ _ _ _ (by decide)) _ _ _ _
def cSpl (C : Cs) (a j n : Nat) (m : Nat) : Cs := cMv j n m (cNL C a n (cI C 2 1 j))
def sp_csplit : Sp := fun as w K => ∃ C x y n, ∃ mn : Nat → Nat, as = [.ref (cA C 9 0), .int x, .int y] ∧ RX C w ∧ FX C ∧ NB C 24 2 8 60 n ∧ (∀ j, j < n → cI C 2 4 j = nI (mn j) ∧ mn j ≤ 300) ∧ (∀ j m, j < n → m ≤ mn j → x = nI j → y = nI m → cI C 2 5 j = 0 → n < 60 → ∀ a w', RX (cSpl C a j n m) w' → K (some (.int (nI n))) w') ∧ ((¬ ∃ j m, j < n ∧ m ≤ mn j ∧ x = nI j ∧ y = nI m ∧ cI C 2 5 j = 0 ∧ n < 60) → K (some (.int (-1))) w)
theorem cMv_0 (a b : Nat) : ∀ k C l, cI (cMv a b k C) 2 0 l = cI C 2 0 l
  | 0, C, l => rfl
  | k + 1, C, l => by
    have e1 : ∀ q, cI (cUnl C a 0 q) 2 0 l = cI C 2 0 l := fun q => by
      unfold cUnl
      rw [cI_wI, if_neg (fun z => absurd z.2.1 (by decide))]
      split <;> rfl
    have e2 : ∀ D q, cI (cApp D b q) 2 0 l = cI D 2 0 l := fun D q => by
      unfold cApp
      rw [cI_wI, if_neg (fun z => absurd z.2.1 (by decide)), cI_wL]
      split
      · rw [cI_wL, cI_wL, cI_wI, if_neg (fun z => absurd z.1 (by decide))]
      · rw [cI_wL, cI_wL, cI_wI, if_neg (fun z => absurd z.1 (by decide))]
    unfold cMv
    split
    · rfl
    · rw [cMv_0 a b k, e2, e1]
theorem c_split (l : Launch) : Ct l 12 3 1 11 sp_csplit := by
  have hev : ∀ (k : Nat) (r : Nat × Nat × Nat × Sp), evL [(13, 2, 0, 0, sp_lotAtHouse), (8, 2, 1, 11, sp_cnewLot), (15, 2, 0, 0, sp_moveFirst)] k = some r → Ct l k r.1 r.2.1 r.2.2.1 r.2.2.2 := evL_ok (by simpa using ⟨c_lotAtHouse l, c_cnewLot l, c_moveFirst l⟩)
  refine ct_jd (by decide) rfl (fun as w Po h => ?_)
  obtain ⟨C, x, y, n, mn, rfl, hX, hF, hN, hmn, h1, h2⟩ := h
  have hn60 := hN.2.1
  refine ⟨Nat.le_of_ble_eq_true rfl, jd_run cdo_12 hev 60 ⟨by decide, by decide⟩ ?_⟩
  refine ⟨⟨by decide, by decide, by decide⟩, rfl, hX.k 9 0 hF.x, C, x, n, rfl, hX, hF, hN, fun j hj ex h0 => ?_, fun q => h2 (fun ⟨j, m, hj, _, e, _, h0, _⟩ => q ⟨j, hj, e, h0⟩)⟩
  have hj2 : j < cN C 2 := by rw [hN.2.2.1]; exact hj
  have no : (¬ ∃ m, m ≤ mn j ∧ y = nI m ∧ n < 60) → Po (some (.int (-1))) w := fun q => h2 (fun ⟨i, m, hi, hm, e, ey, _, hn⟩ => q ⟨m, by rw [two_eq (a := j) (b := i) (by omega) (by omega) ex e]; exact hm, ey, hn⟩)
  have hmj := (hmn j hj).2
  refine ⟨fun c => no (fun ⟨m, hm, e, _⟩ => nI_pos (show m < 2147483648 by omega) (by rw [← e]; exact c)), fun c => ?_⟩
  obtain ⟨m, hm, rfl⟩ := nlt0 c
  refine ⟨hX.k 2 j hj2, _, (hX.gi 2 4 j (by decide) hj2 rfl).trans (hmn j hj).1, fun c2 => ?_, fun c2 => no (fun ⟨m', hm', e, _⟩ => c2 ((nI_leI (by omega) (by omega)).mpr (by rw [(nI_eq hm (by omega)).mp e]; exact hm')))⟩
  have hm' : m ≤ mn j := (nI_leI hm (by omega)).mp c2
  refine ⟨hX.k 2 j hj2, _, hX.gi 2 1 j (by decide) hj2 rfl, ?_⟩
  refine ⟨⟨by decide, by decide, by decide⟩, rfl, hX.k 9 0 hF.x, C, cI C 2 1 j, n, rfl, hX, hF, hN, fun hn a w2 hX2 ea => ?_, fun hn => no (fun ⟨_, _, _, q⟩ => hn q)⟩
  have eN : n < cN (cNL C a n (cI C 2 1 j)) 2 := by rw [cNL_N2, hN.2.2.1]; exact Nat.lt_succ_self n
  have eJ : j < cN (cNL C a n (cI C 2 1 j)) 2 := by rw [cNL_N2, hN.2.2.1]; omega
  have eaj : cA (cNL C a n (cI C 2 1 j)) 2 j = cA C 2 j := cNL_Ao C a n _ j hj2
  have e0 : cI (cNL C a n (cI C 2 1 j)) 2 0 n = nI n := by simp [cNL, cLI, cI_wI, cI_wL]
  have h1 := h1 j m hj hm' ex rfl h0 hn a
  rw [cSpl] at h1
  generalize cNL C a n (cI C 2 1 j) = D at *
  refine ⟨⟨by decide, by decide, by decide⟩, rfl, hX2.k' 2 j eaj eJ, D, j, m, n, by rw [eaj, ea]; rfl, hX2, ⟨eJ, eN, by omega⟩, fun w3 hX3 => ?_⟩
  have hK := cMv_Kp j n m D
  refine ⟨hX3.k' 2 n (by rw [hK.1.1]; exact ea) (by rw [hK.1.2.1]; exact eN), _, (hX3.gi' 2 0 n (by rw [hK.1.1]; exact ea) (by decide) (by rw [hK.1.2.1]; exact eN) rfl).trans ((cMv_0 j n m D n).trans e0), ?_⟩
  exact h1 _ hX3
def sp_cjoin : Sp := fun as w K => ∃ C x y n, ∃ mn : Nat → Nat, as = [.ref (cA C 9 0), .int x, .int y] ∧ RX C w ∧ FX C ∧ NB C 24 2 8 60 n ∧ (∀ j, j < n → cI C 2 4 j = nI (mn j) ∧ mn j ≤ 300) ∧ (∀ a b, a < n → b < n → x = nI a → y = nI b → cI C 2 5 a = 0 → cI C 2 5 b = 0 → a ≠ b → cI C 2 1 a = cI C 2 1 b → ∀ w', RX (cMv b a (mn b) C) w' → K (some (.int (cI (cMv b a (mn b) C) 2 4 a))) w') ∧ ((¬ ∃ a b, a < n ∧ b < n ∧ x = nI a ∧ y = nI b ∧ cI C 2 5 a = 0 ∧ cI C 2 5 b = 0 ∧ a ≠ b ∧ cI C 2 1 a = cI C 2 1 b) → K (some (.int (-1))) w)
theorem c_join (l : Launch) : Ct l 17 3 0 0 sp_cjoin := by
  have hev : ∀ (k : Nat) (r : Nat × Nat × Nat × Sp), evL [(13, 2, 0, 0, sp_lotAtHouse), (15, 2, 0, 0, sp_moveFirst)] k = some r → Ct l k r.1 r.2.1 r.2.2.1 r.2.2.2 := evL_ok (by simpa using ⟨c_lotAtHouse l, c_moveFirst l⟩)
  refine ct_jd (by decide) rfl (fun as w Po h => ?_)
  obtain ⟨C, x, y, n, mn, rfl, hX, hF, hN, hmn, h1, h2⟩ := h
  have hn60 := hN.2.1
  refine ⟨Nat.le_of_ble_eq_true rfl, jd_run cdo_17 hev 60 z00 ?_⟩
  refine ⟨⟨by decide, by decide, by decide⟩, rfl, hX.k 9 0 hF.x, C, x, n, rfl, hX, hF, hN, fun a ha ex a0 => ?_, fun q => ?_⟩
  · have ha2 : a < cN C 2 := by rw [hN.2.2.1]; exact ha
    refine ⟨⟨by decide, by decide, by decide⟩, rfl, hX.k 9 0 hF.x, C, y, n, rfl, hX, hF, hN, fun b hb ey b0 => ?_, fun q => h2 (fun ⟨_, b, _, hb, _, e, _, b0, _⟩ => q ⟨b, hb, e, b0⟩)⟩
    have hb2 : b < cN C 2 := by rw [hN.2.2.1]; exact hb
    have no : ¬ (a ≠ b ∧ cI C 2 1 a = cI C 2 1 b) → Po (some (.int (-1))) w := fun q => h2 (fun ⟨a', b', ha', hb', ea, eb, _, _, q'⟩ => q (by
      rw [two_eq (a := a) (b := a') (by omega) (by omega) ex ea, two_eq (a := b) (b := b') (by omega) (by omega) ey eb]; exact q'))
    refine ⟨fun c => no (fun q => q.1 (two_eq (by omega) (by omega) ex (c.trans ey))), fun c => ?_⟩
    have hab : a ≠ b := fun e => c (by rw [ex, ey, e])
    refine ⟨hX.k 2 a ha2, _, hX.gi 2 1 a (by decide) ha2 rfl, hX.k 2 b hb2, _, hX.gi 2 1 b (by decide) hb2 rfl, fun c2 => ?_, fun c2 => no (fun q => c2 q.2)⟩
    refine ⟨hX.k 2 b hb2, _, (hX.gi 2 4 b (by decide) hb2 rfl).trans (hmn b hb).1, ?_⟩
    refine ⟨⟨by decide, by decide, by decide⟩, rfl, hX.k 2 b hb2, C, b, mn b, a, rfl, hX, ⟨hb2, ha2, (hmn b hb).2⟩, fun w3 hX3 => ?_⟩
    have hK := cMv_Kp b a (mn b) C
    refine ⟨hX3.k' 2 a (by rw [hK.1.1]) (by rw [hK.1.2.1]; exact ha2), _, hX3.gi' 2 4 a (by rw [hK.1.1]) (by decide) (by rw [hK.1.2.1]; exact ha2) rfl, ?_⟩
    exact h1 a b ha hb ex ey a0 b0 hab c2 _ hX3
  · have no : Po (some (.int (-1))) w := h2 (fun ⟨a, _, ha, _, e, _, a0, _⟩ => q ⟨a, ha, e, a0⟩)
    exact ⟨⟨by decide, by decide, by decide⟩, rfl, hX.k 9 0 hF.x, C, y, n, rfl, hX, hF, hN, fun b hb ey b0 => no, fun q => no⟩
end
section
/-! THE CLASS: send, wage, raw -/
theorem cSI_fx {D : Cs} (hF : FX D) (i : Nat) (d p : Int32) (b : Nat) : FX (cSI D i d p b) := FX_wL (C := wI (wI D 6 0 i d) 6 1 i p) hF _ _ _ _ (by decide)
def cSend (C : Cs) (a j h ns : Nat) : Cs := wI (wI (wL (wL (cSI (wN (wI C 9 11 0 (nI (ns + 1))) 6 a) ns (cI C 9 13 0) (cI C 2 4 j) (cL C 1 10 h)) 1 10 h (ns + 1)) 2 6 j (h + 1)) 2 5 j 1) 2 7 j (cI C 1 4 h)
theorem c_csendT (l : Launch) (Po : Option Value → Hp → Prop) (a0 al ah : Nat) (x y : Int32) (j h ns : Nat) (v : Int32) : ∀ E w2 z, RX E w2 → cA E 1 h = ah → cA E 2 j = al → cA E 6 ns = z → ns < cN E 6 → h < cN E 1 → j < cN E 2 → cI E 1 4 h = v → (∀ w', RX (wI (wI (wL (wL E 1 10 h (ns + 1)) 2 6 j (h + 1)) 2 5 j 1) 2 7 j v) w' → Po (some (.int 1)) w') → Jd l 18 3 1 3 (some .boolean) Po 66 [(4, .ref ah), (3, .ref al), (0, .ref a0), (1, .int x), (2, .int y)] [.ref z, .ref ah] w2 1 3 := by
  intro E w2 z hX ea el ez hs hh hj hv h1
  refine jd_s cdo_18 ev0 [] 40 ⟨by decide, by decide⟩ ?_
  refine ⟨hX.k' 1 h ea hh, some z, rfl, ?_⟩
  have hX := hX.wl' 1 10 h (ns + 1) (o := some z) ea (by rw [← ez]; rfl) hh hs (by decide)
  refine ⟨hX.k' 2 j el hj, some ah, rfl, ?_⟩
  have hX := hX.wl' 2 6 j (h + 1) (o := some ah) el (by rw [← ea]; rfl) hj hh (by decide)
  refine ⟨hX.k' 2 j el hj, ?_⟩
  have hX := hX.wi' 2 5 j el hj 1
  refine ⟨hX.k' 1 h ea hh, _, (hX.gi' 1 4 h ea (by decide) hh rfl).trans hv, hX.k' 2 j el hj, ?_⟩
  have hX := hX.wi' 2 7 j el hj v
  exact ⟨Or.inr rfl, h1 _ hX⟩
def sp_csend : Sp := fun as w K => ∃ C x y nl nh ns, as = [.ref (cA C 9 0), .int x, .int y] ∧ RX C w ∧ FX C ∧ NB C 24 2 8 60 nl ∧ NB C 25 1 9 9 nh ∧ (cI C 9 11 0 = nI ns ∧ ns ≤ 500 ∧ cN C 6 = ns) ∧ (∀ j h, j < nl → h < nh → x = nI j → y = nI h → cI C 2 5 j = 0 → ns < 500 → ∀ a w', RX (cSend C a j h ns) w' → K (some (.int 1)) w') ∧ ((¬ ∃ j h, j < nl ∧ h < nh ∧ x = nI j ∧ y = nI h ∧ cI C 2 5 j = 0 ∧ ns < 500) → K (some (.int 0)) w)
theorem c_csendN (l : Launch) (Po : Option Value → Hp → Prop) (D : Cs) (x y : Int32) (j h ns : Nat) (w : Hp) (hX : RX D w) (hF1 : FX D) (hc : cN D 6 = ns) (hj : j < cN D 2) (hh : h < cN D 1) (h1 : ∀ a w', RX (wI (wI (wL (wL (cSI (wN D 6 a) ns (cI D 9 13 0) (cI D 2 4 j) (cL D 1 10 h)) 1 10 h (ns + 1)) 2 6 j (h + 1)) 2 5 j 1) 2 7 j (cI D 1 4 h)) w' → Po (some (.int 1)) w') : Jd l 18 3 1 3 (some .boolean) Po 44 [(4, .ref (cA D 1 h)), (3, .ref (cA D 2 j)), (0, .ref (cA D 9 0)), (1, .int x), (2, .int y)] [] w 0 0 := by
  have hev : ∀ (k : Nat) (r : Nat × Nat × Nat × Sp), evL [(20, 1, 0, 0, sp_SendInit)] k = some r → Ct l k r.1 r.2.1 r.2.2.1 r.2.2.2 := evL_ok (by simpa using c_SendInit l)
  have hlb : cL D 1 10 h ≤ cN D 6 := hX.lb 1 10 h (by decide) hh rfl
  have h1 := h1 (gZ w)
  have hX1 := hX.new 6 (by decide)
  have ez : cA (wN D 6 (gZ w)) 6 ns = gZ w := by rw [← hc]; exact cA_new D 6 _
  have hns : ns < cN (wN D 6 (gZ w)) 6 := by have := cN_new D 6 (gZ w); rw [hc] at this; exact this
  have hF2 : FX (wN D 6 (gZ w)) := FX_wN hF1 6 _ (by decide)
  have b9 : cA (wN D 6 (gZ w)) 9 0 = cA D 9 0 := cA_wNt (by decide)
  have b1 : cA (wN D 6 (gZ w)) 1 h = cA D 1 h := cA_wNt (by decide)
  have b2 : cA (wN D 6 (gZ w)) 2 j = cA D 2 j := cA_wNt (by decide)
  have f13 : cI (wN D 6 (gZ w)) 9 13 0 = cI D 9 13 0 := cI_wNt (by decide)
  have f24 : cI (wN D 6 (gZ w)) 2 4 j = cI D 2 4 j := cI_wNt (by decide)
  have f14 : cI (wN D 6 (gZ w)) 1 4 h = cI D 1 4 h := cI_wNt (by decide)
  have fL : cL (wN D 6 (gZ w)) 1 10 h = cL D 1 10 h := cL_wNt (by decide)
  have hj2 : j < cN (wN D 6 (gZ w)) 2 := by rw [cN_wNt (by decide)]; exact hj
  have hh2 : h < cN (wN D 6 (gZ w)) 1 := by rw [cN_wNt (by decide)]; exact hh
  have hlb2 : cL D 1 10 h ≤ cN (wN D 6 (gZ w)) 6 := Nat.le_trans hlb wN_le
  refine jd_s cdo_18 hev [66] 40 ⟨by decide, by decide⟩ ?_
  refine ⟨⟨by decide, by decide⟩, ?_⟩
  generalize wN D 6 (gZ w) = E at *
  refine ⟨hX1.k' 9 0 b9 hF2.x, _, (hX1.gi' 9 13 0 b9 (by decide) hF2.x rfl).trans f13, ?_⟩
  refine ⟨hX1.k' 2 j b2 hj2, _, (hX1.gi' 2 4 j b2 (by decide) hj2 rfl).trans f24, ?_⟩
  refine ⟨hX1.k' 1 h b1 hh2, _, (hX1.gr' 1 10 h b1 (by decide) hh2 rfl).trans (by rw [fL]), ?_⟩
  refine ⟨⟨by decide, by decide, by decide⟩, rfl, E, ns, gZ w, cI D 9 13 0, cI D 2 4 j, cL D 1 10 h, rfl, hX1, ⟨hns, ez, hlb2⟩, fun w2 hX => ?_⟩
  exact c_csendT l Po _ _ _ x y j h ns _ (cSI E ns (cI D 9 13 0) (cI D 2 4 j) (cL D 1 10 h)) w2 (gZ w) hX b1 b2 ez hns hh2 hj2 (by simp [cSI, cI_wI, cI_wL]; exact f14) h1
theorem c_csendM (l : Launch) (Po : Option Value → Hp → Prop) (C : Cs) (x y : Int32) (j h ns : Nat) (w : Hp) (hX : RX C w) (hF : FX C) (hs : cI C 9 11 0 = nI ns) (hc : cN C 6 = ns) (hj : j < cN C 2) (hh : h < cN C 1) (h1 : ∀ a w', RX (cSend C a j h ns) w' → Po (some (.int 1)) w') : Jd l 18 3 1 3 (some .boolean) Po 34 [(4, .ref (cA C 1 h)), (3, .ref (cA C 2 j)), (0, .ref (cA C 9 0)), (1, .int x), (2, .int y)] [] w 0 0 := by
  have e13 : cI (wI C 9 11 0 (nI (ns + 1))) 9 13 0 = cI C 9 13 0 := by simp [cI_wI]
  have e24 : cI (wI C 9 11 0 (nI (ns + 1))) 2 4 j = cI C 2 4 j := by simp [cI_wI]
  have e14 : cI (wI C 9 11 0 (nI (ns + 1))) 1 4 h = cI C 1 4 h := by simp [cI_wI]
  have eL : cL (wI C 9 11 0 (nI (ns + 1))) 1 10 h = cL C 1 10 h := rfl
  refine jd_s cdo_18 ev0 [44] 40 ⟨by decide, by decide⟩ ?_
  refine ⟨hX.k 9 0 hF.x, _, (hX.gi 9 11 0 (by decide) hF.x rfl).trans hs, hX.k 9 0 hF.x, ?_⟩
  have hX := hX.wi 9 11 0 hF.x (nI ns + 1)
  rw [nI_1] at hX ⊢
  simp only [cSend, ← e13, ← e24, ← e14, ← eL] at h1
  exact c_csendN l Po (wI C 9 11 0 (nI (ns + 1))) x y j h ns _ hX (FX_wI hF _ _ _ _) hc hj hh h1
theorem c_csend (l : Launch) : Ct l 18 3 1 3 sp_csend := by
  have hev : ∀ (k : Nat) (r : Nat × Nat × Nat × Sp), evL [(13, 2, 0, 0, sp_lotAtHouse), (19, 1, 0, 0, sp_nb 25 1 9 9)] k = some r → Ct l k r.1 r.2.1 r.2.2.1 r.2.2.2 := evL_ok (by simpa using ⟨c_lotAtHouse l, c_homeN l⟩)
  refine ct_jd (by decide) rfl (fun as w Po h => ?_)
  obtain ⟨C, x, y, nl, nh, ns, rfl, hX, hF, hNl, hNh, ⟨hs, hs5, hc⟩, h1, h2⟩ := h
  have hn60 := hNl.2.1
  have hn9 := hNh.2.1
  refine ⟨Nat.le_of_ble_eq_true rfl, jd_s cdo_18 hev [34] 60 ⟨by decide, by decide⟩ ?_⟩
  refine ⟨⟨by decide, by decide, by decide⟩, rfl, hX.k 9 0 hF.x, C, x, nl, rfl, hX, hF, hNl, fun j hj ex j0 => ?_, fun q => ?_⟩
  · have hj2 : j < cN C 2 := by rw [hNl.2.2.1]; exact hj
    refine ⟨⟨by decide, by decide, by decide⟩, rfl, hX.k 9 0 hF.x, C, y, nh, rfl, hX, hF, hNh, fun h hh ey => ?_, fun q => ⟨Or.inl rfl, h2 (fun ⟨_, h, _, hh, _, e, _⟩ => q ⟨h, hh, e⟩)⟩⟩
    have hh2 : h < cN C 1 := by rw [hNh.2.2.1]; exact hh
    refine ⟨hX.k 9 0 hF.x, _, (hX.gi 9 11 0 (by decide) hF.x rfl).trans hs, fun c => ?_, fun c => ⟨Or.inl rfl, h2 (fun ⟨_, _, _, _, _, _, _, q⟩ => c ((nI_ltI (a := ns) (b := 500) (by omega) (by omega)).mpr q))⟩⟩
    exact c_csendM l Po C x y j h ns w hX hF hs hc hj2 hh2 (h1 j h hj hh ex ey j0 ((nI_ltI (a := ns) (b := 500) (by omega) (by omega)).mp c))
  · have no : Po (some (.int 0)) w := h2 (fun ⟨a, _, ha, _, e, _, a0, _⟩ => q ⟨a, ha, e, a0⟩)
    exact ⟨⟨by decide, by decide, by decide⟩, rfl, hX.k 9 0 hF.x, C, y, nh, rfl, hX, hF, hNh, fun b hb ey => ⟨Or.inl rfl, no⟩, fun q => ⟨Or.inl rfl, no⟩⟩
def cWage (C : Cs) (a h ng : Nat) (f v : Int32) : Cs := wL (cGI (wN (wI C 9 12 0 (nI (ng + 1))) 7 a) ng (cI C 9 13 0) f v (cL C 1 11 h)) 1 11 h (ng + 1)
theorem c_cwageN (l : Launch) (Po : Option Value → Hp → Prop) (D : Cs) (y f v : Int32) (h ng : Nat) (w : Hp) (hX : RX D w) (hF1 : FX D) (e12 : cI D 9 12 0 = nI (ng + 1)) (hc : cN D 7 = ng) (hh : h < cN D 1) (h1 : ∀ a w', RX (wL (cGI (wN D 7 a) ng (cI D 9 13 0) f v (cL D 1 11 h)) 1 11 h (ng + 1)) w' → Po (some (.int (nI (ng + 1)))) w') : Jd l 39 3 1 4 (some .int) Po 57 [(4, .ref (cA D 1 h)), (0, .ref (cA D 9 0)), (1, .int y), (2, .int f), (3, .int v)] [] w 0 0 := by
  have hev : ∀ (k : Nat) (r : Nat × Nat × Nat × Sp), evL [(40, 1, 0, 0, sp_WageInit)] k = some r → Ct l k r.1 r.2.1 r.2.2.1 r.2.2.2 := evL_ok (by simpa using c_WageInit l)
  have hlb : cL D 1 11 h ≤ cN D 7 := hX.lb 1 11 h (by decide) hh rfl
  have h1 := h1 (gZ w)
  have hX1 := hX.new 7 (by decide)
  have ez : cA (wN D 7 (gZ w)) 7 ng = gZ w := by rw [← hc]; exact cA_new D 7 _
  have hns : ng < cN (wN D 7 (gZ w)) 7 := by have := cN_new D 7 (gZ w); rw [hc] at this; exact this
  have hF2 : FX (wN D 7 (gZ w)) := FX_wN hF1 7 _ (by decide)
  have b9 : cA (wN D 7 (gZ w)) 9 0 = cA D 9 0 := cA_wNt (by decide)
  have b1 : cA (wN D 7 (gZ w)) 1 h = cA D 1 h := cA_wNt (by decide)
  have f13 : cI (wN D 7 (gZ w)) 9 13 0 = cI D 9 13 0 := cI_wNt (by decide)
  have f12 : cI (wN D 7 (gZ w)) 9 12 0 = nI (ng + 1) := (cI_wNt (by decide)).trans e12
  have fL : cL (wN D 7 (gZ w)) 1 11 h = cL D 1 11 h := cL_wNt (by decide)
  have hh2 : h < cN (wN D 7 (gZ w)) 1 := by rw [cN_wNt (by decide)]; exact hh
  have hlb2 : cL D 1 11 h ≤ cN (wN D 7 (gZ w)) 7 := Nat.le_trans hlb wN_le
  refine jd_s cdo_39 hev [] 40 ⟨by decide, by decide⟩ ?_
  refine ⟨⟨by decide, by decide⟩, ?_⟩
  generalize wN D 7 (gZ w) = E at *
  refine ⟨hX1.k' 9 0 b9 hF2.x, _, (hX1.gi' 9 13 0 b9 (by decide) hF2.x rfl).trans f13, ?_⟩
  refine ⟨hX1.k' 1 h b1 hh2, _, (hX1.gr' 1 11 h b1 (by decide) hh2 rfl).trans (by rw [fL]), ?_⟩
  refine ⟨⟨by decide, by decide, by decide⟩, rfl, E, ng, gZ w, cI D 9 13 0, f, v, cL D 1 11 h, rfl, hX1, ⟨hns, ez, hlb2⟩, fun w2 hX => ?_⟩
  have f12 : cI (cGI E ng (cI D 9 13 0) f v (cL D 1 11 h)) 9 12 0 = nI (ng + 1) := by simp [cGI, cI_wI, cI_wL]; exact f12
  have hF3 : FX (cGI E ng (cI D 9 13 0) f v (cL D 1 11 h)) := FX_wL (C := wI (wI (wI E 7 0 ng (cI D 9 13 0)) 7 1 ng f) 7 2 ng v) hF2 _ _ _ _ (by decide)
  have ez : cA (cGI E ng (cI D 9 13 0) f v (cL D 1 11 h)) 7 ng = gZ w := ez
  have b1 : cA (cGI E ng (cI D 9 13 0) f v (cL D 1 11 h)) 1 h = cA D 1 h := b1
  have b9 : cA (cGI E ng (cI D 9 13 0) f v (cL D 1 11 h)) 9 0 = cA D 9 0 := b9
  have hns : ng < cN (cGI E ng (cI D 9 13 0) f v (cL D 1 11 h)) 7 := hns
  have hh2 : h < cN (cGI E ng (cI D 9 13 0) f v (cL D 1 11 h)) 1 := hh2
  generalize cGI E ng (cI D 9 13 0) f v (cL D 1 11 h) = G at *
  refine ⟨hX.k' 1 h b1 hh2, some (gZ w), rfl, ?_⟩
  have hX := hX.wl' 1 11 h (ng + 1) (o := some (gZ w)) b1 (by rw [← ez]; rfl) hh2 hns (by decide)
  refine ⟨hX.k' 9 0 b9 hF3.x, _, (hX.gi' 9 12 0 b9 (by decide) hF3.x rfl).trans f12, ?_⟩
  exact h1 _ hX
theorem c_cwageM (l : Launch) (Po : Option Value → Hp → Prop) (C : Cs) (y f v : Int32) (h ng : Nat) (w : Hp) (hX : RX C w) (hF : FX C) (hs : cI C 9 12 0 = nI ng) (hc : cN C 7 = ng) (hh : h < cN C 1) (h1 : ∀ a w', RX (cWage C a h ng f v) w' → Po (some (.int (nI (ng + 1)))) w') : Jd l 39 3 1 4 (some .int) Po 47 [(4, .ref (cA C 1 h)), (0, .ref (cA C 9 0)), (1, .int y), (2, .int f), (3, .int v)] [] w 0 0 := by
  have e13 : cI (wI C 9 12 0 (nI (ng + 1))) 9 13 0 = cI C 9 13 0 := by simp [cI_wI]
  have e12 : cI (wI C 9 12 0 (nI (ng + 1))) 9 12 0 = nI (ng + 1) := by simp [cI_wI]
  have eL : cL (wI C 9 12 0 (nI (ng + 1))) 1 11 h = cL C 1 11 h := rfl
  refine jd_s cdo_39 ev0 [57] 40 ⟨by decide, by decide⟩ ?_
  refine ⟨hX.k 9 0 hF.x, _, (hX.gi 9 12 0 (by decide) hF.x rfl).trans hs, hX.k 9 0 hF.x, ?_⟩
  have hX := hX.wi 9 12 0 hF.x (nI ng + 1)
  rw [nI_1] at hX ⊢
  simp only [cWage, ← e13, ← eL] at h1
  exact c_cwageN l Po (wI C 9 12 0 (nI (ng + 1))) y f v h ng _ hX (FX_wI hF _ _ _ _) e12 hc hh h1
def sp_cwage : Sp := fun as w K => ∃ C y f v nh ng, as = [.ref (cA C 9 0), .int y, .int f, .int v] ∧ RX C w ∧ FX C ∧ NB C 25 1 9 9 nh ∧ (cI C 9 12 0 = nI ng ∧ ng ≤ 100 ∧ cN C 7 = ng) ∧ (okWage y f v nh ng → ∀ h, h < nh → y = nI h → ∀ a w', RX (cWage C a h ng f v) w' → K (some (.int (nI (ng + 1)))) w') ∧ (¬ okWage y f v nh ng → K (some (.int (-1))) w)
theorem c_cwage (l : Launch) : Ct l 39 3 1 4 sp_cwage := by
  have hev : ∀ (k : Nat) (r : Nat × Nat × Nat × Sp), evL [(19, 1, 0, 0, sp_nb 25 1 9 9)] k = some r → Ct l k r.1 r.2.1 r.2.2.1 r.2.2.2 := evL_ok (by simpa using c_homeN l)
  refine ct_jd (by decide) rfl (fun as w Po h => ?_)
  obtain ⟨C, y, f, v, nh, ng, rfl, hX, hF, hNh, ⟨hs, hs5, hc⟩, h1, h2⟩ := h
  have hn9 := hNh.2.1
  refine ⟨Nat.le_of_ble_eq_true rfl, jd_s cdo_39 hev [47] 60 ⟨by decide, by decide⟩ ?_⟩
  refine ⟨⟨by decide, by decide, by decide⟩, rfl, hX.k 9 0 hF.x, C, y, nh, rfl, hX, hF, hNh, fun h hh ey => ?_, fun q => h2 (fun z => q z.1)⟩
  have hh2 : h < cN C 1 := by rw [hNh.2.2.1]; exact hh
  refine ⟨fun c => h2 (fun q => lt_nle c q.2.1.1), fun c1 => ⟨fun c => h2 (fun q => lt_nle c q.2.1.2), fun c2 => ⟨fun c => h2 (fun q => lt_nle c q.2.2.1.1), fun c3 => ⟨fun c4 => ?_, fun c => h2 (fun q => c q.2.2.1.2)⟩⟩⟩⟩
  refine ⟨hX.k 9 0 hF.x, _, (hX.gi 9 12 0 (by decide) hF.x rfl).trans hs, fun c => ?_, fun c => h2 (fun q => c ((nI_ltI (a := ng) (b := 100) (by omega) (by omega)).mpr q.2.2.2))⟩
  exact c_cwageM l Po C y f v h ng w hX hF hs hc hh2 (h1 ⟨⟨h, hh, ey⟩, ⟨nlt_le c1, nlt_le c2⟩, ⟨nlt_le c3, c4⟩, (nI_ltI (a := ng) (b := 100) (by omega) (by omega)).mp c⟩ h hh ey)
end
section
/-! THE CLASS: raw -/
def sp_isRawSize : Sp := fun as w K => ∃ x : Int64, as = [.long x] ∧ ((-100 ≤ x.toInt ∧ x.toInt ≤ 100) → K (some (.int 1)) w) ∧ (¬ (-100 ≤ x.toInt ∧ x.toInt ≤ 100) → K (some (.int 0)) w)
theorem c_isRawSize (l : Launch) : Ct l 7 1 0 0 sp_isRawSize := by
  refine ct_jd (by decide) rfl (fun as w Po h => ?_)
  obtain ⟨x, rfl, h1, h2⟩ := h
  refine ⟨Nat.le_of_ble_eq_true rfl, jd_run cdo_7 ev0 30 z00 ?_⟩
  have e1 : ((-100 : Int32).toInt64).toInt = -100 := by decide
  have e2 : ((100 : Int32).toInt64).toInt = 100 := by decide
  refine ⟨fun c => ⟨Or.inl rfl, h2 (fun q => ?_)⟩, fun c => ⟨fun c2 => ⟨Or.inl rfl, h2 (fun q => ?_)⟩, fun c2 => ⟨Or.inr rfl, h1 ⟨?_, ?_⟩⟩⟩⟩
  · have := (cmp_lt _ _).mp c
    rw [e1] at this
    omega
  · have := (cmp_le x (100 : Int32).toInt64).mpr (by rw [e2]; omega)
    exact lt_nle c2 this
  · rcases Int.lt_or_le x.toInt (-100) with q | q
    · exact absurd ((cmp_lt x (-100 : Int32).toInt64).mpr (by rw [e1]; exact q)) c
    · exact q
  · have := (cmp_le _ _).mp (nlt_le c2)
    rw [e2] at this
    exact this
theorem m64 (m : Nat) (hm : m < 1000) : (nI (m + 1)).toInt64 - Int64.ofNat 1 = (nI m).toInt64 := by
  apply Int64.toInt_inj.mp
  have e : (Int64.ofNat 1).toInt = 1 := by decide
  rw [Int64.toInt_sub, Int32.toInt_toInt64, Int32.toInt_toInt64, nI_toInt (by omega), nI_toInt (by omega), e, bm64 (by omega) (by omega)]
  omega
theorem sz_all {f st : Int32} {m : Nat} (h0 : szOK f st 0) (h1 : szOK f st m) : ∀ i, i ≤ m → szOK f st i := by
  intro i hi
  unfold szOK at *
  rcases Int.lt_or_le st.toInt 0 with q | q
  · have a1 := Int.mul_le_mul_of_nonpos_right (show (i : Int) ≤ m by omega) (show st.toInt ≤ 0 by omega)
    have a2 := Int.mul_le_mul_of_nonpos_right (show (0 : Int) ≤ i by omega) (show st.toInt ≤ 0 by omega)
    omega
  · have a1 := Int.mul_le_mul_of_nonneg_right (show (i : Int) ≤ m by omega) q
    have a2 := Int.mul_le_mul_of_nonneg_right (show (0 : Int) ≤ i by omega) q
    omega
theorem cApp_20 (D : Cs) (b q l : Nat) : cI (cApp D b q) 2 0 l = cI D 2 0 l := by
  unfold cApp
  rw [cI_wI, if_neg (fun z => absurd z.2.1 (by decide)), cI_wL]
  split
  · rw [cI_wL, cI_wL, cI_wI, if_neg (fun z => absurd z.1 (by decide))]
  · rw [cI_wL, cI_wL, cI_wI, if_neg (fun z => absurd z.1 (by decide))]
def cRw1 (a : Nat) (k s : Int32) (lo p : Nat) (D : Cs) : Cs := cApp (wI (wL (cPI (wN D 5 a) p (nI p) k s (nI lo)) 23 p 0 (p + 1)) 9 7 0 (nI (p + 1))) lo p
def cRwQ (lo np : Nat) (k f st : Int32) : List Nat → Nat → Cs → Cs
  | [], _, D => D
  | a :: t, i, D => cRwQ lo np k f st t (i + 1) (cRw1 a k (f + nI i * st) lo (np + i) D)
def RwI (C : Cs) (z lo np : Nat) (D : Cs) : Prop := FX D ∧ cN D 5 = np ∧ cI D 9 7 0 = nI np ∧ cA D 9 0 = cA C 9 0 ∧ cA D 2 lo = z ∧ lo < cN D 2 ∧ cI D 2 0 lo = nI lo
theorem cPI_fx {D : Cs} (hF : FX D) (i : Nat) (n k s r : Int32) : FX (cPI D i n k s r) := hF
theorem RwI_1 {C D : Cs} {z lo p a : Nat} {k s : Int32} (h : RwI C z lo p D) : RwI C z lo (p + 1) (cRw1 a k s lo p D) := by
  obtain ⟨hF, h5, h7, hA, hz, hl, h0⟩ := h
  have hK := cApp_Kp (wI (wL (cPI (wN D 5 a) p (nI p) k s (nI lo)) 23 p 0 (p + 1)) 9 7 0 (nI (p + 1))) lo p
  have hF2 : FX (wI (wL (cPI (wN D 5 a) p (nI p) k s (nI lo)) 23 p 0 (p + 1)) 9 7 0 (nI (p + 1))) := FX_wI (FX_wL (cPI_fx (FX_wN hF 5 a (by decide)) _ _ _ _ _) _ _ _ _ (by decide)) _ _ _ _
  refine ⟨hK.fx hF2, ?_, ?_, ?_, ?_, ?_, ?_⟩
  · rw [cRw1, hK.1.2.1]
    exact (cN_wN D 5 a 5).trans (by rw [if_pos rfl, h5])
  · rw [cRw1, hK.2.1 9 7 0 (by decide) (by decide) (by decide), cI_wI, if_pos ⟨rfl, rfl, rfl⟩]
  · rw [cRw1, hK.1.1]
    exact (cA_wNt (C := D) (a := a) (show 9 ≠ 5 by decide)).trans hA
  · rw [cRw1, hK.1.1]
    exact (cA_wNt (C := D) (a := a) (show 2 ≠ 5 by decide)).trans hz
  · rw [cRw1, hK.1.2.1]
    exact Nat.lt_of_lt_of_eq hl (cN_wNt (C := D) (a := a) (show 2 ≠ 5 by decide)).symm
  · rw [cRw1, cApp_20, cI_wI, if_neg (fun z => absurd z.1 (by decide)), cI_wL, ← h0]
    simp [cPI, cI_wI, cI_wN]
theorem c_crawT (l : Launch) (Po : Option Value → Hp → Prop) (C : Cs) (k f st : Int32) (n' i z np lo : Nat) (la : Int64) (nc ns : Nat) (zp : Nat) (hb : nc ≤ 31 ∧ ns ≤ 251) : ∀ E w2, RX E w2 → FX E → cA E 9 0 = cA C 9 0 → cA E 2 lo = z → lo < cN E 2 → cA E 5 np = zp → np < cN E 5 → cI E 9 7 0 = nI np → np < 300 → (∀ w', RX (cApp (wI (wL E 23 np 0 (np + 1)) 9 7 0 (nI (np + 1))) lo np) w' → Jd l 6 3 31 251 (some .int) Po 82 [(8, .int (nI (i + 1))), (7, .ref z), (5, .long la), (0, .ref (cA C 9 0)), (1, .int k), (2, .int (nI n')), (3, .int f), (4, .int st)] [] w' nc ns) → Jd l 6 3 31 251 (some .int) Po 112 [(8, .int (nI i)), (7, .ref z), (5, .long la), (0, .ref (cA C 9 0)), (1, .int k), (2, .int (nI n')), (3, .int f), (4, .int st)] [.ref zp] w2 nc ns := by
  have hev : ∀ (k : Nat) (r : Nat × Nat × Nat × Sp), evL [(11, 1, 0, 0, sp_append)] k = some r → Ct l k r.1 r.2.1 r.2.2.1 r.2.2.2 := evL_ok (by simpa using c_append l)
  intro E w2 hX hF eA ez hl ep hp e7 h300 h1
  refine jd_s cdo_6 hev [82] 40 hb ?_
  refine ⟨hX.k' 9 0 eA hF.x, some (cA E 23 0), (hX.gr' 9 0 0 eA (by decide) hF.x rfl).trans (by rw [hF.l0]; rfl), hX.k' 9 0 eA hF.x, _, (hX.gi' 9 7 0 eA (by decide) hF.x rfl).trans e7, ?_⟩
  refine ⟨23, ⟨hX.k 23 0 (by rw [hX.qc 23 (by decide) (by decide)]; decide), by decide, by decide, hX.k' 5 np ep hp⟩, np, hX.ix 23 (by decide) (by decide) rfl h300, ?_⟩
  have hX := hX.wq' 23 np np rfl ep (by decide) (by decide) hp
  refine ⟨hX.k' 9 0 eA hF.x, _, (hX.gi' 9 7 0 eA (by decide) hF.x rfl).trans e7, hX.k' 9 0 eA hF.x, ?_⟩
  have hX := hX.wi' 9 7 0 eA hF.x (nI np + 1)
  rw [nI_1] at hX
  refine ⟨⟨by decide, hb.1, hb.2⟩, rfl, hX.k' 2 lo ez hl, wI (wL E 23 np 0 (np + 1)) 9 7 0 (nI (np + 1)), lo, np, by rw [← ez, ← ep]; rfl, by rw [nI_1]; exact hX, ⟨hl, hp⟩, fun w3 hX3 => ?_⟩
  have := h1 w3 hX3
  rw [← nI_1] at this
  exact jd_pk [0, 2, 3, 4, 5, 6, 7, 8] this
theorem c_crawK (l : Launch) (Po : Option Value → Hp → Prop) (C : Cs) (k f st : Int32) (n' z np nl : Nat) (la : Int64) (hn30 : n' ≤ 30) (hp3 : np + n' ≤ 300) : ∀ d i D w', i + d = n' → RX D w' → RwI C z nl (np + i) D → (∀ ads w2, ads.length = d → RX (cRwQ nl np k f st ads i D) w2 → Po (some (.int (nI nl))) w2) → Jd l 6 3 31 251 (some .int) Po 82 [(8, .int (nI i)), (7, .ref z), (5, .long la), (0, .ref (cA C 9 0)), (1, .int k), (2, .int (nI n')), (3, .int f), (4, .int st)] [] w' (1 + i) (11 + 8 * i) := by
  have hev : ∀ (k : Nat) (r : Nat × Nat × Nat × Sp), evL [(10, 1, 0, 0, sp_PieceInit)] k = some r → Ct l k r.1 r.2.1 r.2.2.1 r.2.2.2 := evL_ok (by simpa using c_PieceInit l)
  intro d
  induction d with
  | zero =>
    intro i D w' hi hX hR hk
    obtain ⟨hF, h5, h7, hA, hz, hl, h0⟩ := hR
    obtain rfl : i = n' := by omega
    refine jd_s cdo_6 hev [] 20 ⟨by omega, by omega⟩ ⟨fun _ => ?_, fun c => absurd (nI_le (Nat.le_refl i) (by omega)) c⟩
    exact ⟨hX.k' 2 nl hz hl, _, (hX.gi' 2 0 nl hz (by decide) hl rfl).trans h0, hk [] w' rfl hX⟩
  | succ d ih =>
    intro i D w' hi hX hR hk
    have hR1 := hR
    obtain ⟨hF, h5, h7, hA, hz, hl, h0⟩ := hR
    refine jd_s cdo_6 hev [112] 40 ⟨by omega, by omega⟩ ⟨fun c => ?_, fun _ => ?_⟩
    · have := ge_n (a := i) (b := n') (by omega) (by omega) c
      omega
    have hX1 := hX.new 5 (by decide)
    have ep : cA (wN D 5 (gZ w')) 5 (np + i) = gZ w' := by rw [← h5]; exact cA_new D 5 _
    have hp : np + i < cN (wN D 5 (gZ w')) 5 := by have := cN_new D 5 (gZ w'); rw [h5] at this; exact this
    have hF1 : FX (wN D 5 (gZ w')) := FX_wN hF 5 _ (by decide)
    have eA : cA (wN D 5 (gZ w')) 9 0 = cA C 9 0 := (cA_wNt (by decide)).trans hA
    have eZ : cA (wN D 5 (gZ w')) 2 nl = z := (cA_wNt (by decide)).trans hz
    have hl1 : nl < cN (wN D 5 (gZ w')) 2 := by rw [cN_wNt (by decide)]; exact hl
    have e7 : cI (wN D 5 (gZ w')) 9 7 0 = nI (np + i) := (cI_wNt (by decide)).trans h7
    have e0 : cI (wN D 5 (gZ w')) 2 0 nl = nI nl := (cI_wNt (by decide)).trans h0
    refine ⟨⟨by omega, show 11 + 8 * i + 8 ≤ 251 by omega⟩, ?_⟩
    refine ⟨hX1.k' 9 0 eA hF1.x, _, (hX1.gi' 9 7 0 eA (by decide) hF1.x rfl).trans e7, ?_⟩
    refine ⟨hX1.k' 2 nl eZ hl1, _, (hX1.gi' 2 0 nl eZ (by decide) hl1 rfl).trans e0, ?_⟩
    refine ⟨⟨by decide, show 1 + i + 1 + 0 ≤ 31 by omega, show 11 + 8 * i + 8 + 0 ≤ 251 by omega⟩, rfl, wN D 5 (gZ w'), np + i, gZ w', nI (np + i), k, f + nI i * st, nI nl, rfl, hX1, ⟨hp, ep⟩, fun w2 hX2 => ?_⟩
    refine c_crawT l Po C k f st n' i z (np + i) nl la (1 + i + 1) (11 + 8 * i + 8) (gZ w') ⟨by omega, by omega⟩ (cPI (wN D 5 (gZ w')) (np + i) (nI (np + i)) k (f + nI i * st) (nI nl)) w2 hX2 (cPI_fx hF1 _ _ _ _ _) eA eZ hl1 ep hp (by simp only [cPI, cI_wI]; simp; exact e7) (by omega) (fun w3 hX3 => ?_)
    have e1 : 1 + (i + 1) = 1 + i + 1 := by omega
    have e2 : 11 + 8 * (i + 1) = 11 + 8 * i + 8 := by omega
    have := ih (i + 1) (cRw1 (gZ w') k (f + nI i * st) nl (np + i) D) w3 (by omega) hX3 (RwI_1 hR1) (fun ads w2 ha hX4 => hk (gZ w' :: ads) w2 (by rw [List.length_cons, ha]) hX4)
    rw [e1, e2] at this
    exact this
def sp_craw : Sp := fun as w K => ∃ C k n f st np nl, as = [.ref (cA C 9 0), .int k, .int n, .int f, .int st] ∧ RX C w ∧ FX C ∧ NB C 23 5 7 300 np ∧ NB C 24 2 8 60 nl ∧ (∀ n', okRaw k n f st np nl n' → ∀ a ads w', ads.length = n' → RX (cRwQ nl np k f st ads 0 (cNL C a nl k)) w' → K (some (.int (nI nl))) w') ∧ ((¬ ∃ n', okRaw k n f st np nl n') → K (some (.int (-1))) w)
theorem c_raw (l : Launch) : Ct l 6 3 31 251 sp_craw := by
  have hev : ∀ (k : Nat) (r : Nat × Nat × Nat × Sp), evL [(7, 1, 0, 0, sp_isRawSize), (8, 2, 1, 11, sp_cnewLot)] k = some r → Ct l k r.1 r.2.1 r.2.2.1 r.2.2.2 := evL_ok (by simpa using ⟨c_isRawSize l, c_cnewLot l⟩)
  refine ct_jd (by decide) rfl (fun as w Po h => ?_)
  obtain ⟨C, k, n, f, st, np, nl, rfl, hX, hF, hNp, hNl, h1, h2⟩ := h
  have hnp := hNp.2.1
  have hnl := hNl.2.1
  refine ⟨Nat.le_of_ble_eq_true rfl, jd_s cdo_6 hev [82] 80 ⟨by decide, by decide⟩ ?_⟩
  refine ⟨fun c => h2 (fun ⟨_, q⟩ => lt_nle c q.1.1), fun c1 => ⟨fun c => h2 (fun ⟨_, q⟩ => lt_nle c q.1.2), fun c2 => ⟨fun c => h2 (fun ⟨n', q⟩ => lt_nle c (by rw [q.2.1.1]; exact nI_le (a := 1) q.2.1.2.1 (by have := q.2.1.2.2; omega))), fun c3 => ⟨fun c4 => ?_, fun c => h2 (fun ⟨n', q⟩ => c (by rw [q.2.1.1]; exact nI_le (b := 30) q.2.1.2.2 (by decide)))⟩⟩⟩⟩
  obtain ⟨n', hn', rfl⟩ : ∃ n' : Nat, n' < 2 ^ 31 ∧ n = nI n' := nI_of (one_pos (nlt_le c3))
  have hn1 : 1 ≤ n' := ge_n (b := 1) (by omega) (by decide) (nlt_le c3)
  have hn30 : n' ≤ 30 := ge_n (a := 30) (by decide) (by omega) c4
  obtain ⟨m, rfl⟩ : ∃ m, n' = m + 1 := ⟨n' - 1, by omega⟩
  have only : ∀ n'', okRaw k (nI (m + 1)) f st np nl n'' → n'' = m + 1 := fun n'' z => ((nI_eq (by omega) (by have := z.2.1.2.2; omega)).mp z.2.1.1).symm
  have ef : f.toInt64.toInt = f.toInt + ((0 : Nat) : Int) * st.toInt := by rw [Int32.toInt_toInt64]; simp
  have el : (f.toInt64 + ((nI (m + 1)).toInt64 - Int64.ofNat 1) * st.toInt64).toInt = f.toInt + (m : Int) * st.toInt := by rw [m64 m (by omega), sz64 f st m (by omega)]
  refine ⟨⟨by decide, by decide, by decide⟩, rfl, Nat.le_of_ble_eq_true rfl, f.toInt64, rfl, fun c5 => br1 ?_, fun c => br0 (h2 (fun ⟨n'', q⟩ => c (by rw [ef]; exact q.2.2.2.2 0 (by have := q.2.1.2.1; omega))))⟩
  refine ⟨⟨by decide, by decide, by decide⟩, rfl, Nat.le_of_ble_eq_true rfl, f.toInt64 + ((nI (m + 1)).toInt64 - Int64.ofNat 1) * st.toInt64, rfl, fun c6 => br1 ?_, fun c => br0 (h2 (fun ⟨n'', q⟩ => c (by rw [el]; exact q.2.2.2.2 m (by have := only n'' q; omega))))⟩
  rw [ef] at c5
  rw [el] at c6
  have hall : ∀ i, i < m + 1 → szOK f st i := fun i hi => sz_all c5 c6 i (by omega)
  refine ⟨hX.k 9 0 hF.x, _, (hX.gi 9 7 0 (by decide) hF.x rfl).trans hNp.1, ?_⟩
  show cc6 .le (nI np + nI (m + 1)) 300 _ _
  rw [nI_add]
  refine ⟨fun c7 => ?_, fun c => h2 (fun ⟨n'', q⟩ => c (nI_le (b := 300) (by have := q.2.2.2.1; have := only n'' q; omega) (by decide)))⟩
  have hp3 : np + (m + 1) ≤ 300 := ge_n (a := 300) (by decide) (by omega) c7
  refine ⟨⟨by decide, by decide, by decide⟩, rfl, hX.k 9 0 hF.x, C, k, nl, rfl, hX, hF, hNl, fun hn a w2 hX2 ea => ?_, fun hn => h2 (fun ⟨_, q⟩ => hn q.2.2.1)⟩
  have hok : okRaw k (nI (m + 1)) f st np nl (m + 1) := ⟨⟨nlt_le c1, nlt_le c2⟩, ⟨rfl, hn1, hn30⟩, hn, hp3, hall⟩
  have hR : RwI C a nl (np + 0) (cNL C a nl k) := by
    refine ⟨cNL_F C a nl k hF, ?_, ?_, ?_, ea, ?_, ?_⟩
    · rw [cNL_N C a nl k 5 (by decide)]; exact hNp.2.2.1
    · rw [show np + 0 = np from rfl, ← hNp.1]
      simp [cNL, cLI, cI_wI, cI_wL, cI_wN]
    · exact cNL_A C a nl k 9 0 (by decide)
    · rw [cNL_N2, hNl.2.2.1]; exact Nat.lt_succ_self nl
    · simp [cNL, cLI, cI_wI, cI_wL]
  exact c_crawK l Po C k f st (m + 1) a np nl _ hn30 hp3 (m + 1) 0 (cNL C a nl k) w2 (by omega) hX2 hR (fun ads w3 ha hX3 => h1 (m + 1) hok a ads w3 ha hX3)
end
section
/-! THE CLASS: what is asked of the whole, of lots and homes -/
def cBr (C : Cs) : Nat → Int32
  | 0 => 0
  | n + 1 => cBr C n + cI C 1 6 n
def sp_broken : Sp := fun as w K => ∃ C n, as = [.ref (cA C 9 0)] ∧ RX C w ∧ FX C ∧ NB C 25 1 9 9 n ∧ K (some (.int (cBr C n))) w
theorem c_broken (l : Launch) : Ct l 31 2 0 0 sp_broken := by
  have hev : ∀ (k : Nat) (r : Nat × Nat × Nat × Sp), evL [(19, 1, 0, 0, sp_nb 25 1 9 9)] k = some r → Ct l k r.1 r.2.1 r.2.2.1 r.2.2.2 := evL_ok (by simpa using c_homeN l)
  refine ct_jd (by decide) rfl (fun as w Po h => ?_)
  obtain ⟨C, n, rfl, hX, hF, hN, h⟩ := h
  have hn := hN.2.1
  refine ⟨Nat.le_of_ble_eq_true rfl, ?_⟩
  have key : ∀ d i, i + d = n → Jd l 31 2 0 0 (some .int) Po 4 [(2, .int (nI i)), (1, .int (cBr C i)), (0, .ref (cA C 9 0))] [] w 0 0 := by
    intro d
    induction d with
    | zero =>
      intro i hi
      have e : i = n := by omega
      rw [e]
      exact jd_s cdo_31 hev [] 20 z00 ⟨hX.k 9 0 hF.x, _, (hX.gi 9 9 0 (by decide) hF.x rfl).trans hN.1, fun _ => h, fun c => absurd (nI_le (Nat.le_refl n) (by omega)) c⟩
    | succ d ih =>
      intro i hi
      refine jd_s cdo_31 hev [4] 40 z00 ⟨hX.k 9 0 hF.x, _, (hX.gi 9 9 0 (by decide) hF.x rfl).trans hN.1, fun c => ?_, fun _ => ?_⟩
      · have := ge_n (a := i) (b := n) (by omega) (by omega) c
        omega
      refine ⟨⟨by decide, by decide, by decide⟩, rfl, hX.k 9 0 hF.x, C, nI i, n, rfl, hX, hF, hN, fun j hj ej => ?_, fun q => absurd ⟨i, by omega, rfl⟩ q⟩
      obtain rfl : i = j := (nI_eq (by omega) (by omega)).mp ej
      have hi1 : i < cN C 1 := by rw [hN.2.2.1]; exact hj
      refine ⟨hX.k 1 i hi1, _, hX.gi 1 6 i (by decide) hi1 rfl, ?_⟩
      have := ih (i + 1) (by omega)
      rw [← nI_1] at this
      exact jd_pk [0, 1, 3] this
  refine jd_s cdo_31 hev [4] 10 z00 ?_
  exact key n 0 (by omega)
def bkC (C : Cs) : Nat → Bool := fun k => !decide (cI C 8 3 k = 0)
def sp_wback : Sp := fun as w K => ∃ C n, as = [.ref (cA C 9 0)] ∧ RX C w ∧ FX C ∧ NB C 26 8 10 100 n ∧ K (some (.int (nI (cn (bkC C) n)))) w
theorem c_wback (l : Launch) : Ct l 32 2 0 0 sp_wback := by
  have hev : ∀ (k : Nat) (r : Nat × Nat × Nat × Sp), evL [(33, 1, 0, 0, sp_nb 26 8 10 100)] k = some r → Ct l k r.1 r.2.1 r.2.2.1 r.2.2.2 := evL_ok (by simpa using c_watchN l)
  refine ct_jd (by decide) rfl (fun as w Po h => ?_)
  obtain ⟨C, n, rfl, hX, hF, hN, h⟩ := h
  have hn := hN.2.1
  refine ⟨Nat.le_of_ble_eq_true rfl, ?_⟩
  have key : ∀ d i, i + d = n → Jd l 32 2 0 0 (some .int) Po 4 [(2, .int (nI i)), (1, .int (nI (cn (bkC C) i))), (0, .ref (cA C 9 0))] [] w 0 0 := by
    intro d
    induction d with
    | zero =>
      intro i hi
      have e : i = n := by omega
      rw [e]
      exact jd_s cdo_32 hev [] 20 z00 ⟨hX.k 9 0 hF.x, _, (hX.gi 9 10 0 (by decide) hF.x rfl).trans hN.1, fun _ => h, fun c => absurd (nI_le (Nat.le_refl n) (by omega)) c⟩
    | succ d ih =>
      intro i hi
      refine jd_s cdo_32 hev [4] 40 z00 ⟨hX.k 9 0 hF.x, _, (hX.gi 9 10 0 (by decide) hF.x rfl).trans hN.1, fun c => ?_, fun _ => ?_⟩
      · have := ge_n (a := i) (b := n) (by omega) (by omega) c
        omega
      refine ⟨⟨by decide, by decide, by decide⟩, rfl, hX.k 9 0 hF.x, C, nI i, n, rfl, hX, hF, hN, fun j hj ej => ?_, fun q => absurd ⟨i, by omega, rfl⟩ q⟩
      obtain rfl : i = j := (nI_eq (by omega) (by omega)).mp ej
      have hi1 : i < cN C 8 := by rw [hN.2.2.1]; exact hj
      have := ih (i + 1) (by omega)
      refine ⟨hX.k 8 i hi1, _, hX.gi 8 3 i (by decide) hi1 rfl, fun c => ?_, fun c => ?_⟩
      · rw [cn_n (by simp [bkC, c]), ← nI_1] at this
        exact jd_pk [0, 2, 3] this
      · rw [cn_y (by simp [bkC, c]), ← nI_1, ← nI_1] at this
        exact jd_pk [0, 1, 3] this
  refine jd_s cdo_32 hev [4] 10 z00 ?_
  exact key n 0 (by omega)
def otC (C : Cs) : Nat → Bool := fun k => !decide (cI C 2 5 k = 0)
def sp_lout : Sp := fun as w K => ∃ C n, as = [.ref (cA C 9 0)] ∧ RX C w ∧ FX C ∧ NB C 24 2 8 60 n ∧ K (some (.int (nI (cn (otC C) n)))) w
theorem c_lout (l : Launch) : Ct l 34 2 0 0 sp_lout := by
  have hev : ∀ (k : Nat) (r : Nat × Nat × Nat × Sp), evL [(14, 1, 0, 0, sp_nb 24 2 8 60)] k = some r → Ct l k r.1 r.2.1 r.2.2.1 r.2.2.2 := evL_ok (by simpa using c_lotN l)
  refine ct_jd (by decide) rfl (fun as w Po h => ?_)
  obtain ⟨C, n, rfl, hX, hF, hN, h⟩ := h
  have hn := hN.2.1
  refine ⟨Nat.le_of_ble_eq_true rfl, ?_⟩
  have key : ∀ d i, i + d = n → Jd l 34 2 0 0 (some .int) Po 4 [(2, .int (nI i)), (1, .int (nI (cn (otC C) i))), (0, .ref (cA C 9 0))] [] w 0 0 := by
    intro d
    induction d with
    | zero =>
      intro i hi
      have e : i = n := by omega
      rw [e]
      exact jd_s cdo_34 hev [] 20 z00 ⟨hX.k 9 0 hF.x, _, (hX.gi 9 8 0 (by decide) hF.x rfl).trans hN.1, fun _ => h, fun c => absurd (nI_le (Nat.le_refl n) (by omega)) c⟩
    | succ d ih =>
      intro i hi
      refine jd_s cdo_34 hev [4] 40 z00 ⟨hX.k 9 0 hF.x, _, (hX.gi 9 8 0 (by decide) hF.x rfl).trans hN.1, fun c => ?_, fun _ => ?_⟩
      · have := ge_n (a := i) (b := n) (by omega) (by omega) c
        omega
      refine ⟨⟨by decide, by decide, by decide⟩, rfl, hX.k 9 0 hF.x, C, nI i, n, rfl, hX, hF, hN, fun j hj ej => ?_, fun q => absurd ⟨i, by omega, rfl⟩ q⟩
      obtain rfl : i = j := (nI_eq (by omega) (by omega)).mp ej
      have hi1 : i < cN C 2 := by rw [hN.2.2.1]; exact hj
      have := ih (i + 1) (by omega)
      refine ⟨hX.k 2 i hi1, _, hX.gi 2 5 i (by decide) hi1 rfl, fun c => ?_, fun c => ?_⟩
      · rw [cn_n (by simp [otC, c]), ← nI_1] at this
        exact jd_pk [0, 2, 3] this
      · rw [cn_y (by simp [otC, c]), ← nI_1, ← nI_1] at this
        exact jd_pk [0, 1, 3] this
  refine jd_s cdo_34 hev [4] 10 z00 ?_
  exact key n 0 (by omega)
def countC (C : Cs) (nl nh nw c : Nat) : Int32 := match c with
  | 0 => cI C 9 13 0
  | 1 => cI C 9 9 0
  | 2 => cI C 9 8 0
  | 3 => cI C 9 7 0
  | 4 => cBr C nh
  | 5 => cI C 9 10 0
  | 6 => nI (cn (bkC C) nw)
  | 7 => nI (cn (otC C) nl)
  | _ => -1
def sp_ccount : Sp := fun as w K => ∃ C x nl nh nw, as = [.ref (cA C 9 0), .int x] ∧ RX C w ∧ FX C ∧ NB C 24 2 8 60 nl ∧ NB C 25 1 9 9 nh ∧ NB C 26 8 10 100 nw ∧ (∀ c, c < 8 → x = nI c → K (some (.int (countC C nl nh nw c))) w) ∧ ((¬ ∃ c, c < 8 ∧ x = nI c) → K (some (.int (-1))) w)
theorem c_count (l : Launch) : Ct l 30 3 0 0 sp_ccount := by
  have hev : ∀ (k : Nat) (r : Nat × Nat × Nat × Sp), evL [(31, 2, 0, 0, sp_broken), (32, 2, 0, 0, sp_wback), (34, 2, 0, 0, sp_lout)] k = some r → Ct l k r.1 r.2.1 r.2.2.1 r.2.2.2 := evL_ok (by simpa using ⟨c_broken l, c_wback l, c_lout l⟩)
  refine ct_jd (by decide) rfl (fun as w Po h => ?_)
  obtain ⟨C, x, nl, nh, nw, rfl, hX, hF, hNl, hNh, hNw, h1, h2⟩ := h
  refine ⟨Nat.le_of_ble_eq_true rfl, jd_run cdo_30 hev 40 z00 ?_⟩
  refine ⟨fun z => h2 (fun ⟨c', hc, hy⟩ => tw_out (n := 8) (by decide) z rfl rfl ⟨c', hc, hy⟩), fun z => ?_, fun z => ?_, fun z => ?_, fun z => ?_, fun z => ?_, fun z => ?_, fun z => ?_, fun z => ?_, trivial⟩
  · exact ⟨hX.k 9 0 hF.x, _, hX.gi 9 13 0 (by decide) hF.x rfl, h1 0 (by decide) (ti_n (by decide) (by omega))⟩
  · exact ⟨hX.k 9 0 hF.x, _, hX.gi 9 9 0 (by decide) hF.x rfl, h1 1 (by decide) (ti_n (by decide) (by omega))⟩
  · exact ⟨hX.k 9 0 hF.x, _, hX.gi 9 8 0 (by decide) hF.x rfl, h1 2 (by decide) (ti_n (by decide) (by omega))⟩
  · exact ⟨hX.k 9 0 hF.x, _, hX.gi 9 7 0 (by decide) hF.x rfl, h1 3 (by decide) (ti_n (by decide) (by omega))⟩
  · exact ⟨⟨by decide, by decide, by decide⟩, rfl, hX.k 9 0 hF.x, C, nh, rfl, hX, hF, hNh, h1 4 (by decide) (ti_n (by decide) (by omega))⟩
  · exact ⟨hX.k 9 0 hF.x, _, hX.gi 9 10 0 (by decide) hF.x rfl, h1 5 (by decide) (ti_n (by decide) (by omega))⟩
  · exact ⟨⟨by decide, by decide, by decide⟩, rfl, hX.k 9 0 hF.x, C, nw, rfl, hX, hF, hNw, h1 6 (by decide) (ti_n (by decide) (by omega))⟩
  · exact ⟨⟨by decide, by decide, by decide⟩, rfl, hX.k 9 0 hF.x, C, nl, rfl, hX, hF, hNl, h1 7 (by decide) (ti_n (by decide) (by omega))⟩
def lotC (C : Cs) (l c : Nat) : Int32 := match c with
  | 0 => cI C 2 1 l
  | 1 => cI C 2 4 l
  | 2 => cI C 2 5 l
  | 3 => if cL C 2 6 l = 0 then -1 else cI C 1 0 (cL C 2 6 l - 1)
  | 4 => cI C 2 7 l
  | 5 => cI C 2 9 l
  | _ => -1
def sp_clot : Sp := fun as w K => ∃ C x y n, as = [.ref (cA C 9 0), .int x, .int y] ∧ RX C w ∧ FX C ∧ NB C 24 2 8 60 n ∧ (∀ j c, j < n → c < 6 → x = nI j → y = nI c → K (some (.int (lotC C j c))) w) ∧ ((¬ ∃ j c, j < n ∧ c < 6 ∧ x = nI j ∧ y = nI c) → K (some (.int (-1))) w)
theorem c_lot (l : Launch) : Ct l 35 2 0 0 sp_clot := by
  have hev : ∀ (k : Nat) (r : Nat × Nat × Nat × Sp), evL [(14, 1, 0, 0, sp_nb 24 2 8 60)] k = some r → Ct l k r.1 r.2.1 r.2.2.1 r.2.2.2 := evL_ok (by simpa using c_lotN l)
  refine ct_jd (by decide) rfl (fun as w Po h => ?_)
  obtain ⟨C, x, y, n, rfl, hX, hF, hN, h1, h2⟩ := h
  refine ⟨Nat.le_of_ble_eq_true rfl, jd_run cdo_35 hev 40 z00 ?_⟩
  refine ⟨⟨by decide, by decide, by decide⟩, rfl, hX.k 9 0 hF.x, C, x, n, rfl, hX, hF, hN, fun j hj ex => ?_, fun q => h2 (fun ⟨j, _, hj, _, e, _⟩ => q ⟨j, hj, e⟩)⟩
  have hj2 : j < cN C 2 := by rw [hN.2.2.1]; exact hj
  have h1 := fun c hc => h1 j c hj hc ex
  refine ⟨fun z => h2 (fun ⟨_, c', _, hc, _, hy⟩ => tw_out (n := 6) (by decide) z rfl rfl ⟨c', hc, hy⟩), fun z => ?_, fun z => ?_, fun z => ?_, fun z => ?_, fun z => ?_, fun z => ?_, trivial⟩
  · exact ⟨hX.k 2 j hj2, _, hX.gi 2 1 j (by decide) hj2 rfl, h1 0 (by decide) (ti_n (by decide) (by omega))⟩
  · exact ⟨hX.k 2 j hj2, _, hX.gi 2 4 j (by decide) hj2 rfl, h1 1 (by decide) (ti_n (by decide) (by omega))⟩
  · exact ⟨hX.k 2 j hj2, _, hX.gi 2 5 j (by decide) hj2 rfl, h1 2 (by decide) (ti_n (by decide) (by omega))⟩
  · have h3 := h1 3 (by decide) (ti_n (by decide) (by omega))
    rw [lotC] at h3
    cases e : cL C 2 6 j with
    | zero =>
      rw [if_pos e] at h3
      exact ⟨hX.k 2 j hj2, _, hX.g0 2 6 j (by decide) hj2 rfl e, h3⟩
    | succ ho =>
      have hh : ho < cN C 1 := hX.l1 2 6 j (by decide) hj2 rfl e
      rw [e, if_neg (Nat.succ_ne_zero ho)] at h3
      exact ⟨hX.k 2 j hj2, _, hX.g1 2 6 j (by decide) hj2 rfl e, hX.k 2 j hj2, _, hX.g1 2 6 j (by decide) hj2 rfl e, hX.k 1 ho hh, _, hX.gi 1 0 ho (by decide) hh rfl, h3⟩
  · exact ⟨hX.k 2 j hj2, _, hX.gi 2 7 j (by decide) hj2 rfl, h1 4 (by decide) (ti_n (by decide) (by omega))⟩
  · exact ⟨hX.k 2 j hj2, _, hX.gi 2 9 j (by decide) hj2 rfl, h1 5 (by decide) (ti_n (by decide) (by omega))⟩
def sp_cof : Sp := fun as w K => ∃ C x y n, as = [.ref (cA C 9 0), .int x, .int y] ∧ RX C w ∧ FX C ∧ NB C 25 1 9 9 n ∧ (∀ j c, j < n → c < 7 → x = nI j → y = nI c → K (some (.int (cI C 1 (c + 1) j))) w) ∧ ((¬ ∃ j c, j < n ∧ c < 7 ∧ x = nI j ∧ y = nI c) → K (some (.int (-1))) w)
theorem c_of (l : Launch) : Ct l 38 2 0 0 sp_cof := by
  have hev : ∀ (k : Nat) (r : Nat × Nat × Nat × Sp), evL [(19, 1, 0, 0, sp_nb 25 1 9 9)] k = some r → Ct l k r.1 r.2.1 r.2.2.1 r.2.2.2 := evL_ok (by simpa using c_homeN l)
  refine ct_jd (by decide) rfl (fun as w Po h => ?_)
  obtain ⟨C, x, y, n, rfl, hX, hF, hN, h1, h2⟩ := h
  refine ⟨Nat.le_of_ble_eq_true rfl, jd_run cdo_38 hev 40 z00 ?_⟩
  refine ⟨⟨by decide, by decide, by decide⟩, rfl, hX.k 9 0 hF.x, C, x, n, rfl, hX, hF, hN, fun j hj ex => ?_, fun q => h2 (fun ⟨j, _, hj, _, e, _⟩ => q ⟨j, hj, e⟩)⟩
  have hj2 : j < cN C 1 := by rw [hN.2.2.1]; exact hj
  have h1 := fun c hc => h1 j c hj hc ex
  refine ⟨fun z => h2 (fun ⟨_, c', _, hc, _, hy⟩ => tw_out (n := 7) (by decide) z rfl rfl ⟨c', hc, hy⟩), fun z => ?_, fun z => ?_, fun z => ?_, fun z => ?_, fun z => ?_, fun z => ?_, fun z => ?_, trivial⟩
  · exact ⟨hX.k 1 j hj2, _, hX.gi 1 1 j (by decide) hj2 rfl, h1 0 (by decide) (ti_n (by decide) (by omega))⟩
  · exact ⟨hX.k 1 j hj2, _, hX.gi 1 2 j (by decide) hj2 rfl, h1 1 (by decide) (ti_n (by decide) (by omega))⟩
  · exact ⟨hX.k 1 j hj2, _, hX.gi 1 3 j (by decide) hj2 rfl, h1 2 (by decide) (ti_n (by decide) (by omega))⟩
  · exact ⟨hX.k 1 j hj2, _, hX.gi 1 4 j (by decide) hj2 rfl, h1 3 (by decide) (ti_n (by decide) (by omega))⟩
  · exact ⟨hX.k 1 j hj2, _, hX.gi 1 5 j (by decide) hj2 rfl, h1 4 (by decide) (ti_n (by decide) (by omega))⟩
  · exact ⟨hX.k 1 j hj2, _, hX.gi 1 6 j (by decide) hj2 rfl, h1 5 (by decide) (ti_n (by decide) (by omega))⟩
  · exact ⟨hX.k 1 j hj2, _, hX.gi 1 7 j (by decide) hj2 rfl, h1 6 (by decide) (ti_n (by decide) (by omega))⟩
end
section
/-! THE CLASS: what is asked of watches -/
def WK (C : Cs) (nw : Nat) : Prop := ∀ k i, k < nw → i < 3 → cL C 8 i k ≠ 0
def wPc (C : Cs) (i k : Nat) : Nat := cL C 8 i k - 1
theorem WK.e {C : Cs} {nw k i : Nat} (h : WK C nw) (hk : k < nw) (hi : i < 3) : cL C 8 i k = wPc C i k + 1 := by
  have := h k i hk hi
  unfold wPc
  omega
def hoC (C : Cs) (k : Nat) : Int32 := cI C 5 4 (wPc C 0 k) ||| cI C 5 4 (wPc C 1 k) ||| cI C 5 4 (wPc C 2 k)
def sp_hTW : Sp := fun as w K => ∃ C k nw, as = [.ref (cA C 8 k)] ∧ RX C w ∧ (k < nw ∧ cN C 8 = nw ∧ WK C nw) ∧ K (some (.int (hoC C k))) w
theorem c_hTW (l : Launch) : Ct l 70 1 0 0 sp_hTW := by
  refine ct_jd (by decide) rfl (fun as w Po h => ?_)
  obtain ⟨C, k, nw, rfl, hX, ⟨hk, hc, hW⟩, h⟩ := h
  have hk8 : k < cN C 8 := by rw [hc]; exact hk
  have p0 : wPc C 0 k < cN C 5 := hX.l1 8 0 k (by decide) hk8 rfl (hW.e hk (by decide))
  have p1 : wPc C 1 k < cN C 5 := hX.l1 8 1 k (by decide) hk8 rfl (hW.e hk (by decide))
  have p2 : wPc C 2 k < cN C 5 := hX.l1 8 2 k (by decide) hk8 rfl (hW.e hk (by decide))
  refine ⟨Nat.le_of_ble_eq_true rfl, jd_run cdo_70 ev0 40 z00 ?_⟩
  refine ⟨hX.k 8 k hk8, _, hX.g1 8 0 k (by decide) hk8 rfl (hW.e hk (by decide)), hX.k 5 _ p0, _, hX.gi 5 4 _ (by decide) p0 rfl, ?_⟩
  refine ⟨hX.k 8 k hk8, _, hX.g1 8 1 k (by decide) hk8 rfl (hW.e hk (by decide)), hX.k 5 _ p1, _, hX.gi 5 4 _ (by decide) p1 rfl, ?_⟩
  exact ⟨hX.k 8 k hk8, _, hX.g1 8 2 k (by decide) hk8 rfl (hW.e hk (by decide)), hX.k 5 _ p2, _, hX.gi 5 4 _ (by decide) p2 rfl, h⟩
def watchC (C : Cs) (k c : Nat) : Int32 := match c with
  | 0 => cI C 5 0 (wPc C 0 k)
  | 1 => cI C 5 0 (wPc C 1 k)
  | 2 => cI C 5 0 (wPc C 2 k)
  | 3 => if cI C 8 3 k = 0 then 0 else 1
  | 4 => hoC C k
  | _ => -1
def sp_cwatch : Sp := fun as w K => ∃ C x y n, as = [.ref (cA C 9 0), .int x, .int y] ∧ RX C w ∧ FX C ∧ NB C 26 8 10 100 n ∧ WK C n ∧ (∀ j c, j < n → c < 5 → x = nI j → y = nI c → K (some (.int (watchC C j c))) w) ∧ ((¬ ∃ j c, j < n ∧ c < 5 ∧ x = nI j ∧ y = nI c) → K (some (.int (-1))) w)
theorem c_watch (l : Launch) : Ct l 69 2 0 0 sp_cwatch := by
  have hev : ∀ (k : Nat) (r : Nat × Nat × Nat × Sp), evL [(33, 1, 0, 0, sp_nb 26 8 10 100), (70, 1, 0, 0, sp_hTW)] k = some r → Ct l k r.1 r.2.1 r.2.2.1 r.2.2.2 := evL_ok (by simpa using ⟨c_watchN l, c_hTW l⟩)
  refine ct_jd (by decide) rfl (fun as w Po h => ?_)
  obtain ⟨C, x, y, n, rfl, hX, hF, hN, hW, h1, h2⟩ := h
  refine ⟨Nat.le_of_ble_eq_true rfl, jd_run cdo_69 hev 40 z00 ?_⟩
  refine ⟨⟨by decide, by decide, by decide⟩, rfl, hX.k 9 0 hF.x, C, x, n, rfl, hX, hF, hN, fun j hj ex => ?_, fun q => h2 (fun ⟨j, _, hj, _, e, _⟩ => q ⟨j, hj, e⟩)⟩
  have hj2 : j < cN C 8 := by rw [hN.2.2.1]; exact hj
  have h1 := fun c hc => h1 j c hj hc ex
  have p0 : wPc C 0 j < cN C 5 := hX.l1 8 0 j (by decide) hj2 rfl (hW.e hj (by decide))
  have p1 : wPc C 1 j < cN C 5 := hX.l1 8 1 j (by decide) hj2 rfl (hW.e hj (by decide))
  have p2 : wPc C 2 j < cN C 5 := hX.l1 8 2 j (by decide) hj2 rfl (hW.e hj (by decide))
  refine ⟨fun z => h2 (fun ⟨_, c', _, hc, _, hy⟩ => tw_out (n := 5) (by decide) z rfl rfl ⟨c', hc, hy⟩), fun z => ?_, fun z => ?_, fun z => ?_, fun z => ?_, fun z => ?_, trivial⟩
  · exact ⟨hX.k 8 j hj2, _, hX.g1 8 0 j (by decide) hj2 rfl (hW.e hj (by decide)), hX.k 5 _ p0, _, hX.gi 5 0 _ (by decide) p0 rfl, h1 0 (by decide) (ti_n (by decide) (by omega))⟩
  · exact ⟨hX.k 8 j hj2, _, hX.g1 8 1 j (by decide) hj2 rfl (hW.e hj (by decide)), hX.k 5 _ p1, _, hX.gi 5 0 _ (by decide) p1 rfl, h1 1 (by decide) (ti_n (by decide) (by omega))⟩
  · exact ⟨hX.k 8 j hj2, _, hX.g1 8 2 j (by decide) hj2 rfl (hW.e hj (by decide)), hX.k 5 _ p2, _, hX.gi 5 0 _ (by decide) p2 rfl, h1 2 (by decide) (ti_n (by decide) (by omega))⟩
  · have h3 := h1 3 (by decide) (ti_n (by decide) (by omega))
    rw [watchC] at h3
    refine ⟨hX.k 8 j hj2, _, hX.gi 8 3 j (by decide) hj2 rfl, fun c => ?_, fun c => ?_⟩
    · rw [if_pos c] at h3; exact h3
    · rw [if_neg c] at h3; exact h3
  · exact ⟨⟨by decide, by decide, by decide⟩, rfl, hX.k 8 j hj2, C, j, n, rfl, hX, ⟨hj, hN.2.2.1, hW⟩, h1 4 (by decide) (ti_n (by decide) (by omega))⟩
def sp_cback : Sp := fun as w K => ∃ C x b n, as = [.ref (cA C 9 0), .int x, .int b] ∧ RX C w ∧ FX C ∧ NB C 26 8 10 100 n ∧ (b = 0 ∨ b = 1) ∧ (∀ j, j < n → x = nI j → ∀ w', RX (wI C 8 3 j b) w' → K (some (.int 1)) w') ∧ ((¬ ∃ j, j < n ∧ x = nI j) → K (some (.int 0)) w)
theorem c_back (l : Launch) : Ct l 71 2 0 0 sp_cback := by
  have hev : ∀ (k : Nat) (r : Nat × Nat × Nat × Sp), evL [(33, 1, 0, 0, sp_nb 26 8 10 100)] k = some r → Ct l k r.1 r.2.1 r.2.2.1 r.2.2.2 := evL_ok (by simpa using c_watchN l)
  refine ct_jd (by decide) rfl (fun as w Po h => ?_)
  obtain ⟨C, x, b, n, rfl, hX, hF, hN, hb, h1, h2⟩ := h
  refine ⟨Nat.le_of_ble_eq_true rfl, jd_run cdo_71 hev 40 z00 ?_⟩
  refine ⟨⟨by decide, by decide, by decide⟩, rfl, hX.k 9 0 hF.x, C, x, n, rfl, hX, hF, hN, fun j hj ex => ?_, fun q => ⟨Or.inl rfl, h2 q⟩⟩
  have hj2 : j < cN C 8 := by rw [hN.2.2.1]; exact hj
  exact ⟨hX.k 8 j hj2, hb, Or.inr rfl, h1 j hj ex _ (hX.wi 8 3 j hj2 b)⟩
def sp_wWB : Sp := fun as w K => ∃ C k nw x, as = [.ref (cA C 8 k), .int x] ∧ RX C w ∧ (k < nw ∧ cN C 8 = nw ∧ WK C nw) ∧ (hoC C k >>> (x &&& 31) &&& 1 = 1 → K (some (.int 1)) w) ∧ (¬ hoC C k >>> (x &&& 31) &&& 1 = 1 → K (some (.int 0)) w)
theorem c_wWB (l : Launch) : Ct l 74 2 0 0 sp_wWB := by
  have hev : ∀ (k : Nat) (r : Nat × Nat × Nat × Sp), evL [(70, 1, 0, 0, sp_hTW)] k = some r → Ct l k r.1 r.2.1 r.2.2.1 r.2.2.2 := evL_ok (by simpa using c_hTW l)
  refine ct_jd (by decide) rfl (fun as w Po h => ?_)
  obtain ⟨C, k, nw, x, rfl, hX, hk, h1, h2⟩ := h
  have hk8 : k < cN C 8 := by rw [hk.2.1]; exact hk.1
  refine ⟨Nat.le_of_ble_eq_true rfl, jd_run cdo_74 hev 40 z00 ?_⟩
  exact ⟨⟨by decide, by decide, by decide⟩, rfl, hX.k 8 k hk8, C, k, nw, rfl, hX, hk, fun c => ⟨Or.inl rfl, h2 c⟩, fun c => ⟨Or.inr rfl, h1 c⟩⟩
def cofC (C : Cs) (x : Int32) (bad : Bool) : Nat → Bool := fun k => decide ((hoC C k >>> (x &&& 31)) &&& 1 = 1) && (!bad || !decide (cI C 8 3 k = 0))
def sp_wOf : Sp := fun as w K => ∃ C x n, ∃ b : Bool, as = [.ref (cA C 9 0), .int x, .int (if b = true then 1 else 0)] ∧ RX C w ∧ FX C ∧ NB C 26 8 10 100 n ∧ WK C n ∧ K (some (.int (nI (cn (cofC C x b) n)))) w
theorem c_wOf (l : Launch) : Ct l 73 3 0 0 sp_wOf := by
  have hev : ∀ (k : Nat) (r : Nat × Nat × Nat × Sp), evL [(33, 1, 0, 0, sp_nb 26 8 10 100), (74, 2, 0, 0, sp_wWB)] k = some r → Ct l k r.1 r.2.1 r.2.2.1 r.2.2.2 := evL_ok (by simpa using ⟨c_watchN l, c_wWB l⟩)
  refine ct_jd (by decide) rfl (fun as w Po h => ?_)
  obtain ⟨C, x, n, b, rfl, hX, hF, hN, hW, h⟩ := h
  have hn := hN.2.1
  refine ⟨Nat.le_of_ble_eq_true rfl, ?_⟩
  have key : ∀ d i, i + d = n → Jd l 73 3 0 0 (some .int) Po 5 [(4, .int (nI i)), (3, .int (nI (cn (cofC C x b) i))), (0, .ref (cA C 9 0)), (1, .int x), (2, .int (if b = true then 1 else 0))] [] w 0 0 := by
    intro d
    induction d with
    | zero =>
      intro i hi
      have e : i = n := by omega
      rw [e]
      exact jd_s cdo_73 hev [] 20 z00 ⟨hX.k 9 0 hF.x, _, (hX.gi 9 10 0 (by decide) hF.x rfl).trans hN.1, fun _ => h, fun c => absurd (nI_le (Nat.le_refl n) (by omega)) c⟩
    | succ d ih =>
      intro i hi
      refine jd_s cdo_73 hev [5] 40 z00 ⟨hX.k 9 0 hF.x, _, (hX.gi 9 10 0 (by decide) hF.x rfl).trans hN.1, fun c => ?_, fun _ => ?_⟩
      · have := ge_n (a := i) (b := n) (by omega) (by omega) c
        omega
      refine ⟨⟨by decide, by decide, by decide⟩, rfl, hX.k 9 0 hF.x, C, nI i, n, rfl, hX, hF, hN, fun j hj ej => ?_, fun q => absurd ⟨i, by omega, rfl⟩ q⟩
      obtain rfl : i = j := (nI_eq (by omega) (by omega)).mp ej
      have hi1 : i < cN C 8 := by rw [hN.2.2.1]; exact hj
      have := ih (i + 1) (by omega)
      refine ⟨⟨by decide, by decide, by decide⟩, rfl, hX.k 8 i hi1, C, i, n, x, rfl, hX, ⟨hj, hN.2.2.1, hW⟩, fun c => br1 ?_, fun c => br0 ?_⟩
      · refine ⟨hX.k 8 i hi1, _, hX.gi 8 3 i (by decide) hi1 rfl, fun c3 => ?_, fun c3 => ?_⟩
        · rw [cn_y (show cofC C x b i = true by simp [cofC, c, c3]), ← nI_1, ← nI_1] at this
          exact jd_pk [0, 1, 3, 4, 5] this
        · cases b with
          | true =>
            rw [cn_n (show ¬ cofC C x true i = true by simp [cofC, c3]), ← nI_1] at this
            refine ⟨fun _ => ?_, fun z => absurd z (by decide)⟩
            exact jd_pk [0, 2, 3, 4, 5] this
          | false =>
            rw [cn_y (show cofC C x false i = true by simp [cofC, c]), ← nI_1, ← nI_1] at this
            refine ⟨fun z => absurd rfl z, fun _ => ?_⟩
            exact jd_pk [0, 1, 3, 4, 5] this
      · rw [cn_n (show ¬ cofC C x b i = true by simp [cofC, c]), ← nI_1] at this
        exact jd_pk [0, 2, 3, 4, 5] this
  refine jd_s cdo_73 hev [5] 10 z00 ?_
  exact key n 0 (by omega)
def sp_ccounts : Sp := fun as w K => ∃ C x y nh nw, as = [.ref (cA C 9 0), .int x, .int y] ∧ RX C w ∧ FX C ∧ NB C 25 1 9 9 nh ∧ NB C 26 8 10 100 nw ∧ WK C nw ∧ (∀ h, h < nh → x = nI h → (y = 0 → K (some (.int (nI (cn (cofC C x false) nw)))) w) ∧ (y = 1 → K (some (.int (nI (cn (cofC C x true) nw)))) w)) ∧ ((¬ ((∃ h, h < nh ∧ x = nI h) ∧ (y = 0 ∨ y = 1))) → K (some (.int (-1))) w)
theorem c_counts (l : Launch) : Ct l 72 4 0 0 sp_ccounts := by
  have hev : ∀ (k : Nat) (r : Nat × Nat × Nat × Sp), evL [(19, 1, 0, 0, sp_nb 25 1 9 9), (73, 3, 0, 0, sp_wOf)] k = some r → Ct l k r.1 r.2.1 r.2.2.1 r.2.2.2 := evL_ok (by simpa using ⟨c_homeN l, c_wOf l⟩)
  refine ct_jd (by decide) rfl (fun as w Po h => ?_)
  obtain ⟨C, x, y, nh, nw, rfl, hX, hF, hN, hNw, hW, h1, h2⟩ := h
  refine ⟨Nat.le_of_ble_eq_true rfl, jd_run cdo_72 hev 40 z00 ?_⟩
  refine ⟨⟨by decide, by decide, by decide⟩, rfl, hX.k 9 0 hF.x, C, x, nh, rfl, hX, hF, hN, fun j hj ex => ?_, fun q => h2 (fun z => q z.1)⟩
  obtain ⟨a0, a1⟩ := h1 j hj ex
  refine ⟨fun c => ?_, fun c => ⟨fun c2 => ?_, fun c2 => ?_⟩⟩
  · exact ⟨⟨by decide, by decide, by decide⟩, rfl, hX.k 9 0 hF.x, C, x, nw, false, rfl, hX, hF, hNw, hW, a0 ((i_eq _ _).mpr (by rw [c]; decide))⟩
  · exact ⟨⟨by decide, by decide, by decide⟩, rfl, hX.k 9 0 hF.x, C, x, nw, true, rfl, hX, hF, hNw, hW, a1 ((i_eq _ _).mpr (by rw [c2]; decide))⟩
  · refine h2 (fun z => z.2.elim (fun e => c ?_) (fun e => c2 ?_))
    · rw [e]; decide
    · rw [e]; decide
end
section
/-! THE CLASS: suspect, recall, wages -/
def badC (C : Cs) (nw k : Nat) : Nat := cn (cofC C (nI k) true) nw
def allC (C : Cs) (nw k : Nat) : Nat := cn (cofC C (nI k) false) nw
def sBd (C : Cs) (nw : Nat) (o : Option Nat) : Int32 := match o with
  | none => 0
  | some f => nI (badC C nw f)
def sAl (C : Cs) (nw : Nat) (o : Option Nat) : Int32 := match o with
  | none => 1
  | some f => nI (allC C nw f)
def susC (C : Cs) (m : Int32) (nw : Nat) : Nat → Option Nat
  | 0 => none
  | k + 1 => if nI (badC C nw k) < m ∨ nI (badC C nw k) * sAl C nw (susC C m nw k) ≤ sBd C nw (susC C m nw k) * nI (allC C nw k) then susC C m nw k else some k
def sp_csuspect : Sp := fun as w K => ∃ C x nh nw, as = [.ref (cA C 9 0), .int x] ∧ RX C w ∧ FX C ∧ NB C 25 1 9 9 nh ∧ NB C 26 8 10 100 nw ∧ WK C nw ∧ (1 ≤ x ∧ x ≤ 100 → K (some (.int (oI (susC C x nw nh)))) w) ∧ (¬ (1 ≤ x ∧ x ≤ 100) → K (some (.int (-1))) w)
theorem c_suspect (l : Launch) : Ct l 75 4 0 0 sp_csuspect := by
  have hev : ∀ (k : Nat) (r : Nat × Nat × Nat × Sp), evL [(73, 3, 0, 0, sp_wOf)] k = some r → Ct l k r.1 r.2.1 r.2.2.1 r.2.2.2 := evL_ok (by simpa using c_wOf l)
  refine ct_jd (by decide) rfl (fun as w Po h => ?_)
  obtain ⟨C, x, nh, nw, rfl, hX, hF, hN, hNw, hW, h1, h2⟩ := h
  have hn := hN.2.1
  refine ⟨Nat.le_of_ble_eq_true rfl, ?_⟩
  have key : 1 ≤ x ∧ x ≤ 100 → ∀ d i, i + d = nh → Jd l 75 4 0 0 (some .int) Po 23 [(5, .int (nI i)), (4, .int (sAl C nw (susC C x nw i))), (3, .int (sBd C nw (susC C x nw i))), (2, .int (oI (susC C x nw i))), (0, .ref (cA C 9 0)), (1, .int x)] [] w 0 0 := by
    intro hx d
    induction d with
    | zero =>
      intro i hi
      have e : i = nh := by omega
      rw [e]
      exact jd_s cdo_75 hev [] 20 z00 ⟨hX.k 9 0 hF.x, _, (hX.gi 9 9 0 (by decide) hF.x rfl).trans hN.1, fun _ => h1 hx, fun c => absurd (nI_le (Nat.le_refl nh) (by omega)) c⟩
    | succ d ih =>
      intro i hi
      have ih1 := ih (i + 1) (by omega)
      rw [susC] at ih1
      refine jd_s cdo_75 hev [23] 40 z00 ⟨hX.k 9 0 hF.x, _, (hX.gi 9 9 0 (by decide) hF.x rfl).trans hN.1, fun c => ?_, fun _ => ?_⟩
      · have := ge_n (a := i) (b := nh) (by omega) (by omega) c
        omega
      refine ⟨⟨by decide, by decide, by decide⟩, rfl, hX.k 9 0 hF.x, C, nI i, nw, true, rfl, hX, hF, hNw, hW, ?_⟩
      refine ⟨⟨by decide, by decide, by decide⟩, rfl, hX.k 9 0 hF.x, C, nI i, nw, false, rfl, hX, hF, hNw, hW, fun c => ?_, fun c => ⟨fun c2 => ?_, fun c2 => ?_⟩⟩
      · have c : nI (badC C nw i) < x := c
        rw [if_pos (Or.inl c), ← nI_1] at ih1
        exact jd_pk [0, 3, 4, 5, 6, 7] ih1
      · have c2 : nI (badC C nw i) * sAl C nw (susC C x nw i) ≤ sBd C nw (susC C x nw i) * nI (allC C nw i) := c2
        rw [if_pos (Or.inr c2), ← nI_1] at ih1
        exact jd_pk [0, 3, 4, 5, 6, 7] ih1
      · have c : ¬ nI (badC C nw i) < x := c
        have c2 : ¬ nI (badC C nw i) * sAl C nw (susC C x nw i) ≤ sBd C nw (susC C x nw i) * nI (allC C nw i) := c2
        rw [if_neg (fun z => z.elim c c2), ← nI_1] at ih1
        exact jd_pk [0, 1, 2, 3, 6, 7] ih1
  refine jd_s cdo_75 hev [23] 30 z00 ⟨fun c => h2 (fun q => lt_nle c q.1), fun c1 => ⟨fun c2 => ?_, fun c => h2 (fun q => c q.2)⟩⟩
  exact key ⟨nlt_le c1, c2⟩ nh 0 (by omega)
def hrC (C : Cs) (x : Int32) (k : Nat) : Prop := cI C 5 2 (wPc C 0 k) = x ∨ cI C 5 2 (wPc C 1 k) = x ∨ cI C 5 2 (wPc C 2 k) = x
def sp_hasRaw : Sp := fun as w K => ∃ C k nw x, as = [.ref (cA C 8 k), .int x] ∧ RX C w ∧ (k < nw ∧ cN C 8 = nw ∧ WK C nw) ∧ (hrC C x k → K (some (.int 1)) w) ∧ (¬ hrC C x k → K (some (.int 0)) w)
theorem c_hasRaw (l : Launch) : Ct l 77 1 0 0 sp_hasRaw := by
  refine ct_jd (by decide) rfl (fun as w Po h => ?_)
  obtain ⟨C, k, nw, x, rfl, hX, ⟨hk, hc, hW⟩, h1, h2⟩ := h
  have hk8 : k < cN C 8 := by rw [hc]; exact hk
  have p0 : wPc C 0 k < cN C 5 := hX.l1 8 0 k (by decide) hk8 rfl (hW.e hk (by decide))
  have p1 : wPc C 1 k < cN C 5 := hX.l1 8 1 k (by decide) hk8 rfl (hW.e hk (by decide))
  have p2 : wPc C 2 k < cN C 5 := hX.l1 8 2 k (by decide) hk8 rfl (hW.e hk (by decide))
  refine ⟨Nat.le_of_ble_eq_true rfl, jd_run cdo_77 ev0 40 z00 ?_⟩
  refine ⟨hX.k 8 k hk8, _, hX.g1 8 0 k (by decide) hk8 rfl (hW.e hk (by decide)), hX.k 5 _ p0, _, hX.gi 5 2 _ (by decide) p0 rfl, fun c => ⟨Or.inr rfl, h1 (Or.inl c)⟩, fun c0 => ?_⟩
  refine ⟨hX.k 8 k hk8, _, hX.g1 8 1 k (by decide) hk8 rfl (hW.e hk (by decide)), hX.k 5 _ p1, _, hX.gi 5 2 _ (by decide) p1 rfl, fun c => ⟨Or.inr rfl, h1 (Or.inr (Or.inl c))⟩, fun c1 => ?_⟩
  exact ⟨hX.k 8 k hk8, _, hX.g1 8 2 k (by decide) hk8 rfl (hW.e hk (by decide)), hX.k 5 _ p2, _, hX.gi 5 2 _ (by decide) p2 rfl, fun c => ⟨Or.inl rfl, h2 (fun z => z.elim c0 (fun z => z.elim c1 c))⟩, fun c => ⟨Or.inr rfl, h1 (Or.inr (Or.inr c))⟩⟩
def rcC (C : Cs) (x : Int32) : Nat → Bool := fun k => decide (cI C 5 2 (wPc C 0 k) = x ∨ cI C 5 2 (wPc C 1 k) = x ∨ cI C 5 2 (wPc C 2 k) = x)
def sp_crecall : Sp := fun as w K => ∃ C x nl nw, as = [.ref (cA C 9 0), .int x] ∧ RX C w ∧ FX C ∧ NB C 24 2 8 60 nl ∧ NB C 26 8 10 100 nw ∧ WK C nw ∧ ((∃ j, j < nl ∧ x = nI j) → K (some (.int (nI (cn (rcC C x) nw)))) w) ∧ ((¬ ∃ j, j < nl ∧ x = nI j) → K (some (.int (-1))) w)
theorem c_recall (l : Launch) : Ct l 76 2 0 0 sp_crecall := by
  have hev : ∀ (k : Nat) (r : Nat × Nat × Nat × Sp), evL [(14, 1, 0, 0, sp_nb 24 2 8 60), (33, 1, 0, 0, sp_nb 26 8 10 100), (77, 1, 0, 0, sp_hasRaw)] k = some r → Ct l k r.1 r.2.1 r.2.2.1 r.2.2.2 := evL_ok (by simpa using ⟨c_lotN l, c_watchN l, c_hasRaw l⟩)
  refine ct_jd (by decide) rfl (fun as w Po h => ?_)
  obtain ⟨C, x, nl, n, rfl, hX, hF, hNl, hN, hW, h1, h2⟩ := h
  have hn := hN.2.1
  refine ⟨Nat.le_of_ble_eq_true rfl, ?_⟩
  have key : (∃ j, j < nl ∧ x = nI j) → ∀ d i, i + d = n → Jd l 76 2 0 0 (some .int) Po 14 [(3, .int (nI i)), (2, .int (nI (cn (rcC C x) i))), (0, .ref (cA C 9 0)), (1, .int x)] [] w 0 0 := by
    intro hj d
    induction d with
    | zero =>
      intro i hi
      have e : i = n := by omega
      rw [e]
      exact jd_s cdo_76 hev [] 20 z00 ⟨hX.k 9 0 hF.x, _, (hX.gi 9 10 0 (by decide) hF.x rfl).trans hN.1, fun _ => h1 hj, fun c => absurd (nI_le (Nat.le_refl n) (by omega)) c⟩
    | succ d ih =>
      intro i hi
      refine jd_s cdo_76 hev [14] 40 z00 ⟨hX.k 9 0 hF.x, _, (hX.gi 9 10 0 (by decide) hF.x rfl).trans hN.1, fun c => ?_, fun _ => ?_⟩
      · have := ge_n (a := i) (b := n) (by omega) (by omega) c
        omega
      refine ⟨⟨by decide, by decide, by decide⟩, rfl, hX.k 9 0 hF.x, C, nI i, n, rfl, hX, hF, hN, fun j hj ej => ?_, fun q => absurd ⟨i, by omega, rfl⟩ q⟩
      obtain rfl : i = j := (nI_eq (by omega) (by omega)).mp ej
      have hi1 : i < cN C 8 := by rw [hN.2.2.1]; exact hj
      have := ih (i + 1) (by omega)
      refine ⟨⟨by decide, by decide, by decide⟩, rfl, hX.k 8 i hi1, C, i, n, x, rfl, hX, ⟨hj, hN.2.2.1, hW⟩, fun c => br1 ?_, fun c => br0 ?_⟩
      · rw [cn_y (show rcC C x i = true by unfold rcC; rw [decide_eq_true_eq]; exact c), ← nI_1, ← nI_1] at this
        exact jd_pk [0, 1, 3, 4] this
      · rw [cn_n (show ¬ rcC C x i = true by unfold rcC; rw [decide_eq_true_eq]; exact c), ← nI_1] at this
        exact jd_pk [0, 2, 3, 4] this
  refine jd_s cdo_76 hev [14] 30 z00 ⟨⟨by decide, by decide, by decide⟩, rfl, hX.k 9 0 hF.x, C, x, nl, rfl, hX, hF, hNl, fun j hj ex => ?_, fun q => h2 q⟩
  exact key ⟨j, hj, ex⟩ n 0 (by omega)
/-- a row of links from the code c on -/
def chL (nx : Nat → Nat) : Nat → List Nat → Prop
  | c, [] => c = 0
  | c, p :: t => c = p + 1 ∧ chL nx (nx p) t
/-- the wage that is better: the one told later wins among equal days, so a later of the chain must be more -/
def wgB (C : Cs) (o : Option Nat) (g : Nat) : Prop := match o with
  | none => True
  | some b => cI C 7 1 b < cI C 7 1 g
def wgC (C : Cs) (d kn : Int32) : List Nat → Option Nat → Option Nat
  | [], o => o
  | g :: t, none => wgC C d kn t (if cI C 7 0 g ≤ kn ∧ cI C 7 1 g ≤ d then some g else none)
  | g :: t, some b => wgC C d kn t (if cI C 7 0 g ≤ kn ∧ cI C 7 1 g ≤ d ∧ cI C 7 1 b < cI C 7 1 g then some g else some b)
def wgA (C : Cs) (o : Option Nat) : Int32 := match o with
  | none => 0
  | some b => cI C 7 2 b
def sp_cwageFor : Sp := fun as w K => ∃ C h d kn, ∃ G : List Nat, as = [.ref (cA C 1 h), .int d, .int kn] ∧ RX C w ∧ (h < cN C 1 ∧ chL (cL C 7 3) (cL C 1 11 h) G) ∧ K (some (.int (wgA C (wgC C d kn G none)))) w
def oRf (C : Cs) (t : Nat) (o : Option Nat) : Value := match o with
  | none => .null
  | some b => .ref (cA C t b)
theorem c_cwageFor (l : Launch) : Ct l 81 1 0 0 sp_cwageFor := by
  refine ct_jd (by decide) rfl (fun as w Po h => ?_)
  obtain ⟨C, ho, dd, kn, G, rfl, hX, ⟨hh, hG⟩, h⟩ := h
  refine ⟨Nat.le_of_ble_eq_true rfl, ?_⟩
  have key : ∀ (T : List Nat) (c : Nat) (o : Option Nat) (vc vo : Value), vc = va_rf (adO C 7 c) → vo = oRf C 7 o → c ≤ cN C 7 → chL (cL C 7 3) c T → (∀ b, o = some b → b < cN C 7) → wgC C dd kn T o = wgC C dd kn G none → Jd l 81 1 0 0 (some .int) Po 8 [(4, vc), (3, vo), (0, .ref (cA C 1 ho)), (1, .int dd), (2, .int kn)] [] w 0 0 := by
    intro T
    induction T with
    | nil =>
      intro c o vc vo evc evo hc hT hob hw
      obtain rfl : c = 0 := hT
      subst evc
      rw [← hw] at h
      cases o with
      | none =>
        subst evo
        exact jd_s cdo_81 ev0 [] 30 z00 h
      | some b =>
        subst evo
        have hb := hob b rfl
        exact jd_s cdo_81 ev0 [] 30 z00 ⟨hX.k 7 b hb, _, hX.gi 7 2 b (by decide) hb rfl, h⟩
    | cons g t ih =>
      intro c o vc vo evc evo hc hT hob hw
      obtain ⟨rfl, hT⟩ := hT
      subst evc
      have hg : g < cN C 7 := hc
      have hlb : cL C 7 3 g ≤ cN C 7 := hX.lb 7 3 g (by decide) hg rfl
      have nxt : ∀ (o' : Option Nat) (vo' : Value), vo' = oRf C 7 o' → (∀ b, o' = some b → b < cN C 7) → wgC C dd kn t o' = wgC C dd kn G none → Jd l 81 1 0 0 (some .int) Po 50 [(4, .ref (cA C 7 g)), (3, vo'), (0, .ref (cA C 1 ho)), (1, .int dd), (2, .int kn)] [] w 0 0 := by
        intro o' vo' evo' ho' hw'
        have hgr := hX.gr 7 3 g (by decide) hg rfl
        have := ih (cL C 7 3 g) o' (va_rf (adO C 7 (cL C 7 3 g))) vo' rfl evo' hlb hT ho' hw'
        revert this hgr
        generalize cL C 7 3 g = c'
        intro hgr this
        subst evo'
        cases c' with
        | zero =>
          cases o' with
          | none => exact jd_s cdo_81 ev0 [8] 30 z00 ⟨hX.k 7 g hg, _, hgr, this⟩
          | some b => exact jd_s cdo_81 ev0 [8] 30 z00 ⟨hX.k 7 g hg, _, hgr, this⟩
        | succ q =>
          cases o' with
          | none => exact jd_s cdo_81 ev0 [8] 30 z00 ⟨hX.k 7 g hg, _, hgr, this⟩
          | some b => exact jd_s cdo_81 ev0 [8] 30 z00 ⟨hX.k 7 g hg, _, hgr, this⟩
      cases o with
      | none =>
        subst evo
        rw [wgC] at hw
        refine jd_s cdo_81 ev0 [50] 30 z00 ⟨hX.k 7 g hg, _, hX.gi 7 0 g (by decide) hg rfl, fun c => ?_, fun c1 => ⟨hX.k 7 g hg, _, hX.gi 7 1 g (by decide) hg rfl, fun c => ?_, fun c2 => ?_⟩⟩
        · rw [if_neg (fun z => lt_nle c z.1)] at hw
          exact nxt none .null rfl (fun b e => by cases e) hw
        · rw [if_neg (fun z => lt_nle c z.2)] at hw
          exact nxt none .null rfl (fun b e => by cases e) hw
        · rw [if_pos ⟨nlt_le c1, nlt_le c2⟩] at hw
          exact jd_pk [1, 0, 2, 3, 4] (nxt (some g) (.ref (cA C 7 g)) rfl (fun b e => by cases e; exact hg) hw)
      | some b =>
        subst evo
        have hb := hob b rfl
        rw [wgC] at hw
        refine jd_s cdo_81 ev0 [50] 30 z00 ⟨hX.k 7 g hg, _, hX.gi 7 0 g (by decide) hg rfl, fun c => ?_, fun c1 => ⟨hX.k 7 g hg, _, hX.gi 7 1 g (by decide) hg rfl, fun c => ?_, fun c2 => ⟨hX.k 7 g hg, _, hX.gi 7 1 g (by decide) hg rfl, hX.k 7 b hb, _, hX.gi 7 1 b (by decide) hb rfl, fun c => ?_, fun c3 => ?_⟩⟩⟩
        · rw [if_neg (fun z => lt_nle c z.1)] at hw
          exact nxt (some b) (.ref (cA C 7 b)) rfl (fun b' e => by cases e; exact hb) hw
        · rw [if_neg (fun z => lt_nle c z.2.1)] at hw
          exact nxt (some b) (.ref (cA C 7 b)) rfl (fun b' e => by cases e; exact hb) hw
        · rw [if_neg (fun z => lt_nle z.2.2 c)] at hw
          exact nxt (some b) (.ref (cA C 7 b)) rfl (fun b' e => by cases e; exact hb) hw
        · rw [if_pos ⟨nlt_le c1, nlt_le c2, nle_lt c3⟩] at hw
          exact jd_pk [1, 0, 2, 3, 4] (nxt (some g) (.ref (cA C 7 g)) rfl (fun b e => by cases e; exact hg) hw)
  have hlb : cL C 1 11 ho ≤ cN C 7 := hX.lb 1 11 ho (by decide) hh rfl
  have hgr := hX.gr 1 11 ho (by decide) hh rfl
  have := key G (cL C 1 11 ho) none _ _ rfl rfl hlb hG (fun b e => by cases e) rfl
  revert this hgr
  generalize cL C 1 11 ho = c'
  intro hgr this
  cases c' with
  | zero => exact jd_s cdo_81 ev0 [8] 30 z00 ⟨hX.k 1 ho hh, _, hgr, this⟩
  | succ q => exact jd_s cdo_81 ev0 [8] 30 z00 ⟨hX.k 1 ho hh, _, hgr, this⟩
def dueC (C : Cs) (h : Nat) (kn : Int32) (G : List Nat) : List Nat → Int64 → Int64
  | [], s => s
  | e :: t, s => dueC C h kn G t (if cI C 6 0 e ≤ kn then s + (cI C 6 1 e).toInt64 * (wgA C (wgC C (cI C 6 0 e) kn G none)).toInt64 else s)
def sp_dueAK : Sp := fun as w K => ∃ C h kn, ∃ (G E : List Nat), as = [.ref (cA C 1 h), .int kn] ∧ RX C w ∧ (h < cN C 1 ∧ chL (cL C 7 3) (cL C 1 11 h) G ∧ chL (cL C 6 2) (cL C 1 10 h) E) ∧ K (some (.long (dueC C h kn G E 0))) w
theorem c_dueAK (l : Launch) : Ct l 80 2 0 0 sp_dueAK := by
  have hev : ∀ (k : Nat) (r : Nat × Nat × Nat × Sp), evL [(81, 1, 0, 0, sp_cwageFor)] k = some r → Ct l k r.1 r.2.1 r.2.2.1 r.2.2.2 := evL_ok (by simpa using c_cwageFor l)
  refine ct_jd (by decide) rfl (fun as w Po h => ?_)
  obtain ⟨C, ho, kn, G, E, rfl, hX, ⟨hh, hG, hE⟩, h⟩ := h
  refine ⟨Nat.le_of_ble_eq_true rfl, ?_⟩
  have key : ∀ (T : List Nat) (c : Nat) (s : Int64) (vc : Value), vc = va_rf (adO C 6 c) → c ≤ cN C 6 → chL (cL C 6 2) c T → dueC C ho kn G T s = dueC C ho kn G E 0 → Jd l 80 2 0 0 (some .long) Po 8 [(4, vc), (2, .long s), (0, .ref (cA C 1 ho)), (1, .int kn)] [] w 0 0 := by
    intro T
    induction T with
    | nil =>
      intro c s vc evc hc hT hw
      obtain rfl : c = 0 := hT
      subst evc
      rw [← hw] at h
      exact jd_s cdo_80 hev [] 30 z00 h
    | cons e t ih =>
      intro c s vc evc hc hT hw
      obtain ⟨rfl, hT⟩ := hT
      subst evc
      have he : e < cN C 6 := hc
      have hlb : cL C 6 2 e ≤ cN C 6 := hX.lb 6 2 e (by decide) he rfl
      have nxt : ∀ s', dueC C ho kn G t s' = dueC C ho kn G E 0 → Jd l 80 2 0 0 (some .long) Po 43 [(4, .ref (cA C 6 e)), (2, .long s'), (0, .ref (cA C 1 ho)), (1, .int kn)] [] w 0 0 := by
        intro s' hw'
        have hgr := hX.gr 6 2 e (by decide) he rfl
        have := ih (cL C 6 2 e) s' (va_rf (adO C 6 (cL C 6 2 e))) rfl hlb hT hw'
        revert this hgr
        generalize cL C 6 2 e = c'
        intro hgr this
        cases c' with
        | zero => exact jd_s cdo_80 hev [8] 30 z00 ⟨hX.k 6 e he, _, hgr, this⟩
        | succ q => exact jd_s cdo_80 hev [8] 30 z00 ⟨hX.k 6 e he, _, hgr, this⟩
      rw [dueC] at hw
      refine jd_s cdo_80 hev [43] 40 z00 ⟨hX.k 6 e he, _, hX.gi 6 0 e (by decide) he rfl, fun c => ?_, fun c1 => ?_⟩
      · rw [if_neg (fun z => lt_nle c z)] at hw
        exact nxt s hw
      · rw [if_pos (nlt_le c1)] at hw
        refine ⟨hX.k 6 e he, _, hX.gi 6 1 e (by decide) he rfl, hX.k 6 e he, _, hX.gi 6 0 e (by decide) he rfl, ?_⟩
        refine ⟨⟨by decide, by decide, by decide⟩, rfl, hX.k 1 ho hh, C, ho, cI C 6 0 e, kn, G, rfl, hX, ⟨hh, hG⟩, ?_⟩
        exact jd_pk [1, 0, 2, 3] (nxt _ hw)
  have hlb : cL C 1 10 ho ≤ cN C 6 := hX.lb 1 10 ho (by decide) hh rfl
  have hgr := hX.gr 1 10 ho (by decide) hh rfl
  have := key E (cL C 1 10 ho) 0 _ rfl hlb hE rfl
  revert this hgr
  generalize cL C 1 10 ho = c'
  intro hgr this
  cases c' with
  | zero => exact jd_s cdo_80 hev [8] 30 z00 ⟨hX.k 1 ho hh, _, hgr, this⟩
  | succ q => exact jd_s cdo_80 hev [8] 30 z00 ⟨hX.k 1 ho hh, _, hgr, this⟩
end
section
/-! THE CLASS: a place of a lot's row, fits -/
/-- the code of the k-th behind c -/
def cNth (C : Cs) : Nat → Nat → Nat
  | 0, c => c
  | _ + 1, 0 => 0
  | k + 1, q + 1 => cNth C k (cL C 5 7 q)
def sp_pieceAt : Sp := fun as w K => ∃ C l x n, as = [.ref (cA C 2 l), .int x] ∧ RX C w ∧ (l < cN C 2 ∧ cI C 2 4 l = nI n ∧ n ≤ 300) ∧ (∀ i, i < n → x = nI i → cNth C i (cL C 2 2 l) ≤ cN C 5 → K (some (va_rf (adO C 5 (cNth C i (cL C 2 2 l))))) w) ∧ ((¬ ∃ i, i < n ∧ x = nI i) → K (some .null) w)
theorem cNth_0 (C : Cs) (k : Nat) : cNth C k 0 = 0 := by cases k <;> rfl
theorem c_pieceAt (l : Launch) : Ct l 37 1 0 0 sp_pieceAt := by
  refine ct_jd (by decide) rfl (fun as w Po h => ?_)
  obtain ⟨C, lo, x, n, rfl, hX, ⟨hl, h4, hn⟩, h1, h2⟩ := h
  refine ⟨Nat.le_of_ble_eq_true rfl, ?_⟩
  have key : ∀ m, m < n → x = nI m → ∀ d i c (vc : Value), i + d = m → vc = va_rf (adO C 5 c) → c ≤ cN C 5 → cNth C d c = cNth C m (cL C 2 2 lo) → Jd l 37 1 0 0 (some (.object "WatchValley$Piece")) Po 21 [(3, .int (nI i)), (2, vc), (0, .ref (cA C 2 lo)), (1, .int x)] [] w 0 0 := by
    intro m hm ex d
    induction d with
    | zero =>
      intro i c vc hi hv hc hw
      subst hv
      have hk := h1 m hm ex
      rw [← hw] at hk
      have e : x = nI i := by rw [ex, ← hi]; rfl
      cases c with
      | zero => exact jd_s cdo_37 ev0 [] 20 z00 ⟨fun _ => ⟨none, rfl, hk (Nat.zero_le _)⟩, fun _ => ⟨none, rfl, hk (Nat.zero_le _)⟩⟩
      | succ q => exact jd_s cdo_37 ev0 [] 20 z00 ⟨fun _ => ⟨some _, rfl, hk hc⟩, fun z => absurd (by rw [e]; exact nI_le (Nat.le_refl i) (by omega)) z⟩
    | succ d ih =>
      intro i c vc hi hv hc hw
      subst hv
      have hk := h1 m hm ex
      cases c with
      | zero =>
        rw [← hw, cNth_0] at hk
        exact jd_s cdo_37 ev0 [] 20 z00 ⟨fun _ => ⟨none, rfl, hk (Nat.zero_le _)⟩, fun _ => ⟨none, rfl, hk (Nat.zero_le _)⟩⟩
      | succ q =>
        rw [cNth] at hw
        have hq : q < cN C 5 := hc
        have hlb : cL C 5 7 q ≤ cN C 5 := hX.lb 5 7 q (by decide) hq rfl
        have hgr := hX.gr 5 7 q (by decide) hq rfl
        have := ih (i + 1) (cL C 5 7 q) _ (by omega) rfl hlb hw
        rw [← nI_1] at this
        refine jd_s cdo_37 ev0 [21] 20 z00 ⟨fun z => ?_, fun _ => ?_⟩
        · rw [ex] at z
          have := ge_n (a := i) (b := m) (by omega) (by omega) z
          omega
        · revert this hgr
          generalize cL C 5 7 q = c'
          intro hgr this
          cases c' with
          | zero => exact ⟨hX.k 5 q hq, _, hgr, jd_pk [0, 1, 2, 3] this⟩
          | succ q' => exact ⟨hX.k 5 q hq, _, hgr, jd_pk [0, 1, 2, 3] this⟩
  have hlb : cL C 2 2 lo ≤ cN C 5 := hX.lb 2 2 lo (by decide) hl rfl
  have hgr := hX.gr 2 2 lo (by decide) hl rfl
  refine jd_s cdo_37 ev0 [21] 30 z00 ⟨fun c => ⟨none, rfl, h2 (fun ⟨i, hi, e⟩ => nI_pos (show i < 2147483648 by omega) (by rw [← e]; exact c))⟩, fun c => ?_⟩
  obtain ⟨m, hm, rfl⟩ := nlt0 c
  refine ⟨hX.k 2 lo hl, _, (hX.gi 2 4 lo (by decide) hl rfl).trans h4, fun c2 => ?_, fun c2 => ⟨none, rfl, h2 (fun ⟨i, hi, e⟩ => c2 ((nI_ltI hm (by omega)).mpr (by rw [(nI_eq hm (by omega)).mp e]; exact hi)))⟩⟩
  have hmn : m < n := (nI_ltI hm (by omega)).mp c2
  have := key m hmn rfl m 0 (cL C 2 2 lo) _ (by omega) rfl hlb rfl
  revert this hgr
  generalize cL C 2 2 lo = c'
  intro hgr this
  cases c' with
  | zero => exact ⟨hX.k 2 lo hl, _, hgr, this⟩
  | succ q' => exact ⟨hX.k 2 lo hl, _, hgr, this⟩
def atC (C : Cs) (c : Nat) : Int32 := match c with
  | 0 => -1
  | p + 1 => cI C 5 0 p
def sp_cat : Sp := fun as w K => ∃ C x y n, ∃ mn : Nat → Nat, as = [.ref (cA C 9 0), .int x, .int y] ∧ RX C w ∧ FX C ∧ NB C 24 2 8 60 n ∧ (∀ j, j < n → cI C 2 4 j = nI (mn j) ∧ mn j ≤ 300) ∧ (∀ j i, j < n → i < mn j → x = nI j → y = nI i → K (some (.int (atC C (cNth C i (cL C 2 2 j))))) w) ∧ ((¬ ∃ j i, j < n ∧ i < mn j ∧ x = nI j ∧ y = nI i) → K (some (.int (-1))) w)
theorem c_at (l : Launch) : Ct l 36 2 0 0 sp_cat := by
  have hev : ∀ (k : Nat) (r : Nat × Nat × Nat × Sp), evL [(14, 1, 0, 0, sp_nb 24 2 8 60), (37, 1, 0, 0, sp_pieceAt)] k = some r → Ct l k r.1 r.2.1 r.2.2.1 r.2.2.2 := evL_ok (by simpa using ⟨c_lotN l, c_pieceAt l⟩)
  refine ct_jd (by decide) rfl (fun as w Po h => ?_)
  obtain ⟨C, x, y, n, mn, rfl, hX, hF, hN, hmn, h1, h2⟩ := h
  have hn60 := hN.2.1
  refine ⟨Nat.le_of_ble_eq_true rfl, jd_run cdo_36 hev 40 z00 ?_⟩
  refine ⟨⟨by decide, by decide, by decide⟩, rfl, hX.k 9 0 hF.x, C, x, n, rfl, hX, hF, hN, fun j hj ex => ?_, fun q => h2 (fun ⟨j, _, hj, _, e, _⟩ => q ⟨j, hj, e⟩)⟩
  have hj2 : j < cN C 2 := by rw [hN.2.2.1]; exact hj
  refine ⟨⟨by decide, by decide, by decide⟩, rfl, hX.k 2 j hj2, C, j, y, mn j, rfl, hX, ⟨hj2, hmn j hj⟩, fun i hi ey hb => ?_, fun q => h2 (fun ⟨j', i, hj', hi, e, ey⟩ => q ⟨i, by rw [two_eq (a := j) (b := j') (by omega) (by omega) ex e]; exact hi, ey⟩)⟩
  have h1 := h1 j i hj hi ex ey
  revert h1 hb
  generalize cNth C i (cL C 2 2 j) = c
  intro hb h1
  cases c with
  | zero => exact h1
  | succ p => exact ⟨hX.k 5 p hb, _, hX.gi 5 0 p (by decide) hb rfl, h1⟩
def cFit (C : Cs) (j : Nat) (a b : Int32) : Cs := wI (wI C 0 0 j a) 0 1 j b
def sp_cfit : Sp := fun as w K => ∃ C x a b, as = [.ref (cA C 9 0), .int x, .int a, .int b] ∧ RX C w ∧ FX C ∧ (∀ j, j < 2 → x = nI j → a ≤ b → ∀ w', RX (cFit C j a b) w' → K (some (.int 1)) w') ∧ ((¬ ((∃ j, j < 2 ∧ x = nI j) ∧ a ≤ b)) → K (some (.int 0)) w)
theorem c_fit (l : Launch) : Ct l 41 1 0 0 sp_cfit := by
  refine ct_jd (by decide) rfl (fun as w Po h => ?_)
  obtain ⟨C, x, a, b, rfl, hX, hF, h1, h2⟩ := h
  have n0 : 0 < cN C 0 := by rw [hF.1.2.1]; decide
  have n1 : 1 < cN C 0 := by rw [hF.1.2.1]; decide
  refine ⟨Nat.le_of_ble_eq_true rfl, jd_run cdo_41 ev0 40 z00 ?_⟩
  refine ⟨fun c => ⟨Or.inl rfl, h2 (fun ⟨⟨j, hj, e⟩, _⟩ => nI_pos (show j < 2147483648 by omega) (by rw [← e]; exact c))⟩, fun c => ?_⟩
  obtain ⟨j, hj, rfl⟩ := nlt0 c
  refine ⟨fun c2 => ⟨Or.inl rfl, h2 (fun ⟨⟨i, hi, e⟩, _⟩ => lt_nle c2 (by rw [e]; exact nI_le (b := 1) (by omega) (by decide)))⟩, fun c2 => ?_⟩
  have hj2 : j ≤ 1 := ge_n (a := 1) (by decide) hj (nlt_le c2)
  refine ⟨fun c3 => ?_, fun c3 => ⟨Or.inl rfl, h2 (fun z => c3 z.2)⟩⟩
  rcases (show j = 0 ∨ j = 1 by omega) with rfl | rfl
  · refine ⟨fun z => absurd rfl z, fun _ => ⟨hX.k 9 0 hF.x, _, hX.g1 9 4 0 (by decide) hF.x rfl hF.l4, hX.k 0 0 n0, ?_⟩⟩
    have hX := hX.wi 0 0 0 n0 a
    refine ⟨hX.k 0 0 n0, Or.inr rfl, ?_⟩
    exact h1 0 (by decide) rfl c3 _ (hX.wi 0 1 0 n0 b)
  · refine ⟨fun _ => ⟨hX.k 9 0 hF.x, _, hX.g1 9 5 0 (by decide) hF.x rfl hF.l5, hX.k 0 1 n1, ?_⟩, fun z => absurd z (by decide)⟩
    have hX := hX.wi 0 0 1 n1 a
    refine ⟨hX.k 0 1 n1, Or.inr rfl, ?_⟩
    exact h1 1 (by decide) rfl c3 _ (hX.wi 0 1 1 n1 b)
/-- by how much the mate is more, or less, than the wheel -/
def mor (C : Cs) (wh mt : Nat) : Int32 := if cI C 5 1 mt = 0 then cI C 5 3 mt - cI C 5 3 wh else cI C 5 3 wh - cI C 5 3 mt
def alw (C : Cs) (f wh mt : Nat) : Prop := cI C 0 0 f ≤ mor C wh mt ∧ mor C wh mt ≤ cI C 0 1 f
def sp_allows : Sp := fun as w K => ∃ C f wh mt, as = [.ref (cA C 0 f), .ref (cA C 5 wh), .ref (cA C 5 mt)] ∧ RX C w ∧ (f < cN C 0 ∧ wh < cN C 5 ∧ mt < cN C 5) ∧ (alw C f wh mt → K (some (.int 1)) w) ∧ (¬ alw C f wh mt → K (some (.int 0)) w)
theorem c_allows (l : Launch) : Ct l 44 1 0 0 sp_allows := by
  refine ct_jd (by decide) rfl (fun as w Po h => ?_)
  obtain ⟨C, f, wh, mt, rfl, hX, ⟨hf, hw, hm⟩, h1, h2⟩ := h
  have tail : ∀ v, v = mor C wh mt → Jd l 44 1 0 0 (some .boolean) Po 28 [(0, .ref (cA C 0 f)), (1, .ref (cA C 5 wh)), (2, .ref (cA C 5 mt))] [.int v] w 0 0 := by
    rintro v rfl
    refine jd_s cdo_44 ev0 [] 30 z00 ⟨hX.k 0 f hf, _, hX.gi 0 0 f (by decide) hf rfl, fun c => ⟨Or.inl rfl, h2 (fun z => lt_nle c z.1)⟩, fun c1 => ⟨hX.k 0 f hf, _, hX.gi 0 1 f (by decide) hf rfl, fun c => ⟨Or.inl rfl, h2 (fun z => lt_nle c z.2)⟩, fun c2 => ⟨Or.inr rfl, h1 ⟨nlt_le c1, nlt_le c2⟩⟩⟩⟩
  refine ⟨Nat.le_of_ble_eq_true rfl, jd_s cdo_44 ev0 [28] 30 z00 ⟨hX.k 5 mt hm, _, hX.gi 5 1 mt (by decide) hm rfl, fun c => ?_, fun c => ?_⟩⟩
  · exact ⟨hX.k 5 wh hw, _, hX.gi 5 3 wh (by decide) hw rfl, hX.k 5 mt hm, _, hX.gi 5 3 mt (by decide) hm rfl, tail _ (by rw [mor, if_neg c])⟩
  · exact ⟨hX.k 5 mt hm, _, hX.gi 5 3 mt (by decide) hm rfl, hX.k 5 wh hw, _, hX.gi 5 3 wh (by decide) hw rfl, tail _ (by rw [mor, if_pos c])⟩
def sp_cfits : Sp := fun as w K => ∃ C x y n, as = [.ref (cA C 9 0), .int x, .int y] ∧ RX C w ∧ FX C ∧ NB C 23 5 7 300 n ∧
  (∀ p q, p < n → q < n → x = nI p → y = nI q → (cI C 5 1 p = 0 → cI C 5 1 q = 1 → (alw C 0 q p → K (some (.int 1)) w) ∧ (¬ alw C 0 q p → K (some (.int 0)) w)) ∧ (cI C 5 1 p = 1 → cI C 5 1 q = 2 → (alw C 1 p q → K (some (.int 1)) w) ∧ (¬ alw C 1 p q → K (some (.int 0)) w)) ∧ (¬ (cI C 5 1 p = 0 ∧ cI C 5 1 q = 1) → ¬ (cI C 5 1 p = 1 ∧ cI C 5 1 q = 2) → K (some (.int (-1))) w)) ∧ ((¬ ∃ p q, p < n ∧ q < n ∧ x = nI p ∧ y = nI q) → K (some (.int (-1))) w)
theorem c_fits (l : Launch) : Ct l 42 2 0 0 sp_cfits := by
  have hev : ∀ (k : Nat) (r : Nat × Nat × Nat × Sp), evL [(43, 1, 0, 0, sp_nb 23 5 7 300), (44, 1, 0, 0, sp_allows)] k = some r → Ct l k r.1 r.2.1 r.2.2.1 r.2.2.2 := evL_ok (by simpa using ⟨c_pieceN l, c_allows l⟩)
  refine ct_jd (by decide) rfl (fun as w Po h => ?_)
  obtain ⟨C, x, y, n, rfl, hX, hF, hN, h1, h2⟩ := h
  have n0 : 0 < cN C 0 := by rw [hF.1.2.1]; decide
  have n1 : 1 < cN C 0 := by rw [hF.1.2.1]; decide
  refine ⟨Nat.le_of_ble_eq_true rfl, jd_s cdo_42 hev [59] 60 z00 ?_⟩
  refine ⟨⟨by decide, by decide, by decide⟩, rfl, hX.k 9 0 hF.x, C, x, n, rfl, hX, hF, hN, fun p hp ex => ?_, fun q => ?_⟩
  · have hp5 : p < cN C 5 := by rw [hN.2.2.1]; exact hp
    refine ⟨⟨by decide, by decide, by decide⟩, rfl, hX.k 9 0 hF.x, C, y, n, rfl, hX, hF, hN, fun q hq ey => ?_, fun z => h2 (fun ⟨_, q, _, hq, _, ey⟩ => z ⟨q, hq, ey⟩)⟩
    have hq5 : q < cN C 5 := by rw [hN.2.2.1]; exact hq
    obtain ⟨a1, a2, a3⟩ := h1 p q hp hq ex ey
    have sec : ¬ (cI C 5 1 p = 0 ∧ cI C 5 1 q = 1) → Jd l 42 2 0 0 (some .int) Po 59 [(4, .ref (cA C 5 q)), (3, .ref (cA C 5 p)), (0, .ref (cA C 9 0)), (1, .int x), (2, .int y)] [] w 0 0 := by
      intro hno
      refine jd_s cdo_42 hev [] 60 z00 ⟨hX.k 5 p hp5, _, hX.gi 5 1 p (by decide) hp5 rfl, fun c => a3 hno (fun z => c z.1), fun c1 => ?_⟩
      refine ⟨hX.k 5 q hq5, _, hX.gi 5 1 q (by decide) hq5 rfl, fun c => a3 hno (fun z => c z.2), fun c2 => ?_⟩
      refine ⟨hX.k 9 0 hF.x, _, hX.g1 9 5 0 (by decide) hF.x rfl hF.l5, ?_⟩
      exact ⟨⟨by decide, by decide, by decide⟩, rfl, hX.k 0 1 n1, C, 1, p, q, rfl, hX, ⟨n1, hp5, hq5⟩, fun c => br1 ((a2 c1 c2).1 c), fun c => br0 ((a2 c1 c2).2 c)⟩
    refine ⟨hX.k 5 p hp5, _, hX.gi 5 1 p (by decide) hp5 rfl, fun c => sec (fun z => c z.1), fun c1 => ?_⟩
    refine ⟨hX.k 5 q hq5, _, hX.gi 5 1 q (by decide) hq5 rfl, fun c => sec (fun z => c z.2), fun c2 => ?_⟩
    refine ⟨hX.k 9 0 hF.x, _, hX.g1 9 4 0 (by decide) hF.x rfl hF.l4, ?_⟩
    exact ⟨⟨by decide, by decide, by decide⟩, rfl, hX.k 0 0 n0, C, 0, q, p, rfl, hX, ⟨n0, hq5, hp5⟩, fun c => br1 ((a1 c1 c2).1 c), fun c => br0 ((a1 c1 c2).2 c)⟩
  · have no : Po (some (.int (-1))) w := h2 (fun ⟨p, _, hp, _, e, _⟩ => q ⟨p, hp, e⟩)
    exact ⟨⟨by decide, by decide, by decide⟩, rfl, hX.k 9 0 hF.x, C, y, n, rfl, hX, hF, hN, fun b hb ey => no, fun q => no⟩
end
section
/-! THE CLASS: seats: one more wheel, others moved -/
abbrev St : Type := Int32 × (Nat → Int32)
def bt (p : Nat) : Int32 := 1 <<< (nI p &&& 31)
def b2i (b : Bool) : Int32 := if b = true then 1 else 0
def hU (h : Nat → Int32) (p : Nat) (v : Int32) : Nat → Int32 := fun j => if j = p then v else h j
def sLp (rc : Int32 → St → Bool × St) (fw gv wh : Int32) : Nat → Nat → St → Bool × St
  | 0, _, s => (false, s)
  | d + 1, p, s => if fw &&& (gv ^^^ -1) &&& (s.1 ^^^ -1) &&& bt p = 0 then sLp rc fw gv wh d (p + 1) s else if s.2 p = -1 then (true, (s.1 ||| bt p, hU s.2 p wh)) else match rc (s.2 p) (s.1 ||| bt p, s.2) with
    | (true, s2) => (true, (s2.1, hU s2.2 p wh))
    | (false, s2) => sLp rc fw gv wh d (p + 1) s2
def sOM (ft : Nat → Int32) (gv : Int32) : Nat → Int32 → St → Bool × St
  | 0, _, s => (false, s)
  | f + 1, wh, s => if 0 ≤ wh ∧ wh < 10 then sLp (sOM ft gv f) (ft (pN wh)) gv wh 10 0 s else (false, s)
/-- what the seats of mates m are -/
def wM (C : Cs) (m : Nat) (s : St) : Cs := (cN C, cA C, u3 (cI C) 4 4 m s.1, cL C, fun i j => if i = 3 * m + 1 then s.2 j else cX C i j)
theorem u3_u3 {α : Type} (f : Nat → Nat → Nat → α) (a b c : Nat) (x y : α) : u3 (u3 f a b c x) a b c y = u3 f a b c y := by
  funext i j k
  unfold u3
  by_cases h : i = a ∧ j = b ∧ k = c
  · rw [if_pos h, if_pos h]
  · rw [if_neg h, if_neg h, if_neg h]
theorem wM_wI (C : Cs) (m : Nat) (s : St) (v : Int32) : wI (wM C m s) 4 4 m v = wM C m (v, s.2) := by
  show (cN C, cA C, u3 (u3 (cI C) 4 4 m s.1) 4 4 m v, cL C, _) = (cN C, cA C, u3 (cI C) 4 4 m v, cL C, _)
  rw [u3_u3]
  rfl
theorem wM_wX (C : Cs) (m : Nat) (s : St) (p : Nat) (v : Int32) : wX (wM C m s) (3 * m + 1) p v = wM C m (s.1, hU s.2 p v) := by
  have e : u2 (fun i j => if i = 3 * m + 1 then s.2 j else cX C i j) (3 * m + 1) p v = fun i j => if i = 3 * m + 1 then hU s.2 p v j else cX C i j := by
    funext i j
    unfold u2 hU
    by_cases h : i = 3 * m + 1
    · by_cases h2 : j = p
      · rw [if_pos ⟨h, h2⟩, if_pos h, if_pos h2]
      · rw [if_neg (fun q => h2 q.2)]
        dsimp only
        rw [if_pos h, if_pos h, if_neg h2]
    · rw [if_neg (fun q => h q.1)]
      dsimp only
      rw [if_neg h, if_neg h]
  show (cN C, cA C, u3 (cI C) 4 4 m s.1, cL C, u2 (fun i j => if i = 3 * m + 1 then s.2 j else cX C i j) (3 * m + 1) p v) = (cN C, cA C, u3 (cI C) 4 4 m s.1, cL C, _)
  rw [e]
theorem wM_fx {C : Cs} (h : FX C) (m : Nat) (s : St) : FX (wM C m s) := h
theorem wM_44 (C : Cs) (m : Nat) (s : St) : cI (wM C m s) 4 4 m = s.1 := u3_e
theorem wM_43 (C : Cs) (m : Nat) (s : St) : cI (wM C m s) 4 3 m = cI C 4 3 m := by
  show u3 (cI C) 4 4 m s.1 4 3 m = _
  exact u3_k (by decide)
theorem wM_X1 (C : Cs) (m : Nat) (s : St) (j : Nat) : cX (wM C m s) (3 * m + 1) j = s.2 j := if_pos rfl
theorem wM_X0 (C : Cs) (m : Nat) (s : St) (j : Nat) : cX (wM C m s) (3 * m) j = cX C (3 * m) j := if_neg (by omega)
def sp_sOM (f : Nat) : Sp := fun as w K => ∃ C m s wh, as = [.ref (cA C 4 m), .int wh, .int (nI (11 - f))] ∧ RX (wM C m s) w ∧ FX C ∧ (m < 2 ∧ f ≤ 11) ∧ ∀ w', RX (wM C m (sOM (cX C (3 * m)) (cI C 4 3 m) f wh s).2) w' → K (some (.int (b2i (sOM (cX C (3 * m)) (cI C 4 3 m) f wh s).1))) w'
theorem c_sOM (l : Launch) : ∀ f, Ct l 55 (f + 1) 0 0 (sp_sOM f) := by
  intro f
  induction f with
  | zero =>
    refine ct_jd (by decide) rfl (fun as w Po h => ?_)
    obtain ⟨C, m, s, wh, rfl, hX, hF, ⟨hm, -⟩, h⟩ := h
    refine ⟨Nat.le_of_ble_eq_true rfl, jd_run cdo_55 ev0 30 z00 ?_⟩
    exact ⟨fun _ => ⟨Or.inl rfl, h _ hX⟩, fun _ => ⟨fun _ => ⟨Or.inl rfl, h _ hX⟩, fun _ => ⟨fun c => absurd c (by decide), fun _ => ⟨Or.inl rfl, h _ hX⟩⟩⟩⟩
  | succ f ihf =>
    have hev : ∀ (k : Nat) (r : Nat × Nat × Nat × Sp), evL [(55, f + 1, 0, 0, sp_sOM f)] k = some r → Ct l k r.1 r.2.1 r.2.2.1 r.2.2.2 := evL_ok (by simpa using ihf)
    refine ct_jd (by decide) rfl (fun as w Po h => ?_)
    obtain ⟨C, m, s, wh, rfl, hX, hF, ⟨hm, hf⟩, h⟩ := h
    have hm4 : m < cN C 4 := by rw [hF.1.2.2.2.1]; exact hm
    have h20 : 3 * m + 1 < cN C 20 := by rw [hF.1.2.2.2.2]; omega
    have h20' : 3 * m < cN C 20 := by rw [hF.1.2.2.2.2]; omega
    have l0 : cL C 4 0 m = 3 * m + 1 := hF.2.2.2 0 m (by decide) hm
    have l1 : cL C 4 1 m = 3 * m + 1 + 1 := hF.2.2.2 1 m (by decide) hm
    have e11 : nI (11 - (f + 1)) + 1 = nI (11 - f) := by rw [nI_1]; exact congrArg nI (by omega)
    refine ⟨Nat.le_of_ble_eq_true rfl, ?_⟩
    have key : ∀ j, j < 10 → wh = nI j → ∀ d p s w', p + d = 10 → RX (wM C m s) w' → (∀ w2, RX (wM C m (sLp (sOM (cX C (3 * m)) (cI C 4 3 m) f) (cX C (3 * m) j) (cI C 4 3 m) wh d p s).2) w2 → Po (some (.int (b2i (sLp (sOM (cX C (3 * m)) (cI C 4 3 m) f) (cX C (3 * m) j) (cI C 4 3 m) wh d p s).1))) w2) → Jd l 55 (f + 1 + 1) 0 0 (some .boolean) Po 20 [(3, .int (nI p)), (0, .ref (cA C 4 m)), (1, .int wh), (2, .int (nI (11 - (f + 1))))] [] w' 0 0 := by
      intro j hj ej d
      induction d with
      | zero =>
        intro p s w' hp hX hk
        obtain rfl : p = 10 := by omega
        exact jd_s cdo_55 hev [] 20 z00 ⟨fun _ => ⟨Or.inl rfl, hk _ hX⟩, fun c => absurd (by decide) c⟩
      | succ d ih =>
        intro p s w' hp hX hk
        rw [sLp] at hk
        have hF1 := wM_fx hF m s
        have last : ∀ s2 w2, RX (wM C m s2) w2 → (∀ w3, RX (wM C m (s2.1, hU s2.2 p wh)) w3 → Po (some (.int 1)) w3) → Jd l 55 (f + 1 + 1) 0 0 (some .boolean) Po 97 [(4, .int (bt p)), (3, .int (nI p)), (0, .ref (cA C 4 m)), (1, .int wh), (2, .int (nI (11 - (f + 1))))] [] w2 0 0 := by
          intro s2 w2 hX hk
          refine jd_s cdo_55 hev [] 20 z00 ⟨hX.k 4 m hm4, _, hX.g1 4 1 m (by decide) hm4 rfl l1, hX.k 20 (3 * m + 1) h20, p, hX.ixa (3 * m + 1) h20 rfl (by omega), Or.inr rfl, ?_⟩
          have hX := hX.wx (3 * m + 1) p h20 wh
          rw [wM_wX] at hX
          exact hk _ hX
        have next : ∀ s2 w2, RX (wM C m s2) w2 → (∀ w3, RX (wM C m (sLp (sOM (cX C (3 * m)) (cI C 4 3 m) f) (cX C (3 * m) j) (cI C 4 3 m) wh d (p + 1) s2).2) w3 → Po (some (.int (b2i (sLp (sOM (cX C (3 * m)) (cI C 4 3 m) f) (cX C (3 * m) j) (cI C 4 3 m) wh d (p + 1) s2).1))) w3) → Jd l 55 (f + 1 + 1) 0 0 (some .boolean) Po 106 [(4, .int (bt p)), (3, .int (nI p)), (0, .ref (cA C 4 m)), (1, .int wh), (2, .int (nI (11 - (f + 1))))] [] w2 0 0 := by
          intro s2 w2 hX hk
          have := ih (p + 1) s2 w2 (by omega) hX hk
          rw [← nI_1] at this
          exact jd_s cdo_55 hev [20] 20 z00 (jd_pk [0, 2, 3, 4] this)
        refine jd_s cdo_55 hev [60, 106] 40 z00 ⟨fun c => ?_, fun _ => ?_⟩
        · have := ge_n (a := p) (b := 10) (by omega) (by omega) c
          omega
        refine ⟨hX.k 4 m hm4, _, hX.g1 4 0 m (by decide) hm4 rfl l0, hX.k 20 (3 * m) h20', j, _, hX.ixa (3 * m) h20' ej hj, (hX.xa (3 * m) j h20').trans (wM_X0 C m s j), ?_⟩
        refine ⟨hX.k 4 m hm4, _, (hX.gi 4 3 m (by decide) hm4 rfl).trans (wM_43 C m s), hX.k 4 m hm4, _, (hX.gi 4 4 m (by decide) hm4 rfl).trans (wM_44 C m s), fun c => ?_, fun c => ?_⟩
        · have c : ¬ cX C (3 * m) j &&& (cI C 4 3 m ^^^ -1) &&& (s.1 ^^^ -1) &&& bt p = 0 := c
          rw [if_neg c] at hk
          refine jd_s cdo_55 hev [71] 40 z00 ⟨hX.k 4 m hm4, _, (hX.gi 4 4 m (by decide) hm4 rfl).trans (wM_44 C m s), hX.k 4 m hm4, ?_⟩
          have hX := hX.wi 4 4 m hm4 (s.1 ||| bt p)
          rw [wM_wI] at hX
          have go : ∀ w3, RX (wM C m (s.1 ||| bt p, s.2)) w3 → Jd l 55 (f + 1 + 1) 0 0 (some .boolean) Po 71 [(4, .int (bt p)), (3, .int (nI p)), (0, .ref (cA C 4 m)), (1, .int wh), (2, .int (nI (11 - (f + 1))))] [] w3 0 0 := by
            intro w3 hX
            refine jd_s cdo_55 hev [97, 106] 40 z00 ⟨hX.k 4 m hm4, _, hX.g1 4 1 m (by decide) hm4 rfl l1, hX.k 20 (3 * m + 1) h20, p, _, hX.ixa (3 * m + 1) h20 rfl (by omega), (hX.xa (3 * m + 1) p h20).trans (wM_X1 C m _ p), fun c2 => ?_, fun c2 => ?_⟩
            · have c2 : s.2 p = -1 := c2
              rw [if_pos c2] at hk
              exact last _ _ hX hk
            · have c2 : ¬ s.2 p = -1 := c2
              rw [if_neg c2] at hk
              refine ⟨hX.k 4 m hm4, _, hX.g1 4 1 m (by decide) hm4 rfl l1, hX.k 20 (3 * m + 1) h20, p, _, hX.ixa (3 * m + 1) h20 rfl (by omega), (hX.xa (3 * m + 1) p h20).trans (wM_X1 C m _ p), ?_⟩
              refine ⟨⟨Nat.lt_succ_self _, Nat.le_refl _, Nat.le_refl _⟩, rfl, hX.k 4 m hm4, C, m, (s.1 ||| bt p, s.2), s.2 p, by rw [← e11]; rfl, hX, hF, ⟨hm, by omega⟩, ?_⟩
              revert hk
              cases er : sOM (cX C (3 * m)) (cI C 4 3 m) f (s.2 p) (s.1 ||| bt p, s.2) with
              | mk b s2 =>
                intro hk w4 hX4
                cases b with
                | true => exact br1 (last s2 w4 hX4 hk)
                | false => exact br0 (next s2 w4 hX4 hk)
          exact go _ hX
        · have c : cX C (3 * m) j &&& (cI C 4 3 m ^^^ -1) &&& (s.1 ^^^ -1) &&& bt p = 0 := c
          rw [if_pos c] at hk
          exact next s w' hX hk
    rw [sOM] at h
    refine jd_s cdo_55 hev [20] 30 z00 ⟨fun c => ?_, fun c => ?_⟩
    · rw [if_neg (fun q => lt_nle c q.1)] at h
      exact ⟨Or.inl rfl, h _ hX⟩
    obtain ⟨j, hj, rfl⟩ := nlt0 c
    refine ⟨fun c2 => ?_, fun c2 => ?_⟩
    · rw [if_neg (fun q => lt_nle q.2 c2)] at h
      exact ⟨Or.inl rfl, h _ hX⟩
    have hj10 : j < 10 := (nI_ltI (b := 10) hj (by omega)).mp (nle_lt c2)
    rw [if_pos ⟨nlt_le c, nle_lt c2⟩, pN_n (by omega)] at h
    refine ⟨fun _ => ?_, fun c3 => absurd (nI_le (b := 10) (by omega) (by decide)) c3⟩
    exact key j hj10 rfl 10 0 s w (by omega) hX h
end
section
/-! THE CLASS: wheels tried -/
def sp_seat (fu : Nat) : Sp := fun as w K => ∃ C m s wh, as = [.ref (cA C 4 m), .int wh] ∧ RX (wM C m s) w ∧ FX C ∧ m < 2 ∧ ∀ w', RX (wM C m (sOM (cX C (3 * m)) (cI C 4 3 m) fu wh (0, s.2)).2) w' → K (some (.int (b2i (sOM (cX C (3 * m)) (cI C 4 3 m) fu wh (0, s.2)).1))) w'
theorem b2i_01 (b : Bool) : b2i b = 0 ∨ b2i b = 1 := by cases b <;> decide
theorem c_seat (l : Launch) (fu : Nat) (hfu : fu = 11) : Ct l 54 13 0 0 (sp_seat fu) := by
  have hev : ∀ (k : Nat) (r : Nat × Nat × Nat × Sp), evL [(55, fu + 1, 0, 0, sp_sOM fu)] k = some r → Ct l k r.1 r.2.1 r.2.2.1 r.2.2.2 := evL_ok (by simpa using c_sOM l fu)
  refine ct_jd (by decide) rfl (fun as w Po h => ?_)
  obtain ⟨C, m, s, wh, rfl, hX, hF, hm, h⟩ := h
  have hm4 : m < cN C 4 := by rw [hF.1.2.2.2.1]; exact hm
  refine ⟨Nat.le_of_ble_eq_true rfl, jd_run cdo_54 hev 30 z00 ⟨hX.k 4 m hm4, ?_⟩⟩
  have hX := hX.wi 4 4 m hm4 0
  rw [wM_wI] at hX
  refine ⟨⟨show fu + 1 < 13 by omega, Nat.le_refl _, Nat.le_refl _⟩, rfl, hX.k 4 m hm4, C, m, (0, s.2), wh, by rw [hfu]; rfl, hX, hF, ⟨hm, by omega⟩, fun w' hX' => ⟨b2i_01 _, h w' hX'⟩⟩
def uP (h : Nat → Int32) (wh : Int32) (p : Nat) : Nat → Int32 := fun j => if j < p ∧ h j = wh then -1 else h j
theorem uP_s {h : Nat → Int32} {wh : Int32} {p : Nat} (e : h p = wh) : hU (uP h wh p) p (-1) = uP h wh (p + 1) := by
  funext j
  unfold hU uP
  by_cases h1 : j = p
  · subst h1
    rw [if_pos rfl, if_pos ⟨Nat.lt_succ_self _, e⟩]
  · rw [if_neg h1]
    by_cases h2 : j < p ∧ h j = wh
    · rw [if_pos h2, if_pos ⟨by omega, h2.2⟩]
    · rw [if_neg h2, if_neg (fun q => h2 ⟨by omega, q.2⟩)]
theorem uP_n {h : Nat → Int32} {wh : Int32} {p : Nat} (e : ¬ h p = wh) : uP h wh (p + 1) = uP h wh p := by
  funext j
  unfold uP
  by_cases h1 : j = p
  · subst h1
    rw [if_neg (fun q => e q.2), if_neg (fun q => e q.2)]
  · by_cases h2 : j < p ∧ h j = wh
    · rw [if_pos h2, if_pos ⟨by omega, h2.2⟩]
    · rw [if_neg h2, if_neg (fun q => h2 ⟨by omega, q.2⟩)]
theorem uP_0 (h : Nat → Int32) (wh : Int32) : uP h wh 0 = h := by
  funext j
  unfold uP
  rw [if_neg (fun q => by omega)]
def sp_unseat : Sp := fun as w K => ∃ C m s wh, as = [.ref (cA C 4 m), .int wh] ∧ RX (wM C m s) w ∧ FX C ∧ m < 2 ∧ ∀ w', RX (wM C m (s.1, uP s.2 wh 10)) w' → K none w'
theorem c_unseat (l : Launch) : Ct l 56 1 0 0 sp_unseat := by
  refine ct_jd (by decide) rfl (fun as w Po h => ?_)
  obtain ⟨C, m, s, wh, rfl, hX, hF, hm, h⟩ := h
  have hm4 : m < cN C 4 := by rw [hF.1.2.2.2.1]; exact hm
  have h20 : 3 * m + 1 < cN C 20 := by rw [hF.1.2.2.2.2]; omega
  have l1 : cL C 4 1 m = 3 * m + 1 + 1 := hF.2.2.2 1 m (by decide) hm
  refine ⟨Nat.le_of_ble_eq_true rfl, ?_⟩
  have key : ∀ d p w', p + d = 10 → RX (wM C m (s.1, uP s.2 wh p)) w' → Jd l 56 1 0 0 none Po 2 [(2, .int (nI p)), (0, .ref (cA C 4 m)), (1, .int wh)] [] w' 0 0 := by
    intro d
    induction d with
    | zero =>
      intro p w' hp hX
      obtain rfl : p = 10 := by omega
      exact jd_s cdo_56 ev0 [] 20 z00 ⟨fun _ => h _ hX, fun c => absurd (by decide) c⟩
    | succ d ih =>
      intro p w' hp hX
      have ep : uP s.2 wh p p = s.2 p := if_neg (fun q => by omega)
      refine jd_s cdo_56 ev0 [2] 30 z00 ⟨fun c => ?_, fun _ => ?_⟩
      · have := ge_n (a := p) (b := 10) (by omega) (by omega) c
        omega
      refine ⟨hX.k 4 m hm4, _, hX.g1 4 1 m (by decide) hm4 rfl l1, hX.k 20 (3 * m + 1) h20, p, _, hX.ixa (3 * m + 1) h20 rfl (by omega), (hX.xa (3 * m + 1) p h20).trans ((wM_X1 C m _ p).trans ep), fun c => ?_, fun c => ?_⟩
      · have := ih (p + 1) w' (by omega) (by rw [uP_n c]; exact hX)
        rw [← nI_1] at this
        exact this
      · refine ⟨hX.k 4 m hm4, _, hX.g1 4 1 m (by decide) hm4 rfl l1, hX.k 20 (3 * m + 1) h20, p, hX.ixa (3 * m + 1) h20 rfl (by omega), ?_⟩
        have hX := hX.wx (3 * m + 1) p h20 (-1)
        rw [wM_wX] at hX
        have := ih (p + 1) _ (by omega) (by rw [← uP_s c]; exact hX)
        rw [← nI_1] at this
        exact this
  refine jd_s cdo_56 ev0 [2] 10 z00 ?_
  exact key 10 0 w (by omega) (by rw [uP_0]; exact hX)
abbrev Ts : Type := (Int32 × Int32) × St × St
def tU0 (i : Nat) (T : Ts) : Ts := (T.1, (T.2.1.1, uP T.2.1.2 (nI i) 10), T.2.2)
def tU1 (i : Nat) (T : Ts) : Ts := (T.1, T.2.1, (T.2.2.1, uP T.2.2.2 (nI i) 10))
def tW (fu : Nat) (fp fs : Nat → Int32) (gp gs wc : Int32) : Nat → Nat → Int32 → Int32 → Ts → Ts
  | 0, _, _, _, T => T
  | f + 1, i, tk, st, T => if tk + wc - nI i ≤ T.1.1 then T else if wc ≤ nI i ∨ 10 ≤ i then ((tk, st), T.2) else
    tW fu fp fs gp gs wc f (i + 1) tk st (if (sOM fp gp fu (nI i) (0, T.2.1.2)).1 = true then (if (sOM fs gs fu (nI i) (0, T.2.2.2)).1 = true then tU0 i (tU1 i (tW fu fp fs gp gs wc f (i + 1) (tk + 1) (st ||| bt i) (T.1, (sOM fp gp fu (nI i) (0, T.2.1.2)).2, (sOM fs gs fu (nI i) (0, T.2.2.2)).2))) else tU0 i (T.1, (sOM fp gp fu (nI i) (0, T.2.1.2)).2, (sOM fs gs fu (nI i) (0, T.2.2.2)).2)) else (T.1, (sOM fp gp fu (nI i) (0, T.2.1.2)).2, T.2.2))
def wB (C : Cs) (b : Int32 × Int32) : Cs := wI (wI C 3 3 0 b.1) 3 4 0 b.2
def wT (C : Cs) (T : Ts) : Cs := wM (wM (wB C T.1) 0 T.2.1) 1 T.2.2
theorem u3_cm {α : Type} (f : Nat → Nat → Nat → α) (a b c d : Nat) (x y : α) (h : c ≠ d) : u3 (u3 f a b c x) a b d y = u3 (u3 f a b d y) a b c x := by
  funext i j k
  unfold u3
  by_cases h1 : i = a ∧ j = b ∧ k = c
  · by_cases h2 : i = a ∧ j = b ∧ k = d
    · omega
    · rw [if_pos h1, if_neg h2, if_pos h1]
  · by_cases h2 : i = a ∧ j = b ∧ k = d
    · rw [if_pos h2, if_neg h1, if_pos h2]
    · rw [if_neg h1, if_neg h2, if_neg h1]
theorem wM_cm (C : Cs) (a b : St) : wM (wM C 0 a) 1 b = wM (wM C 1 b) 0 a := by
  have e : (fun i j => if i = 4 then b.2 j else if i = 1 then a.2 j else cX C i j) = fun i j => if i = 1 then a.2 j else if i = 4 then b.2 j else cX C i j := by
    funext i j
    by_cases h : i = 1
    · subst h; rfl
    · by_cases h2 : i = 4
      · subst h2; rfl
      · rw [if_neg h, if_neg h2, if_neg h]
  show (cN C, cA C, u3 (u3 (cI C) 4 4 0 a.1) 4 4 1 b.1, cL C, _) = (cN C, cA C, u3 (u3 (cI C) 4 4 1 b.1) 4 4 0 a.1, cL C, _)
  rw [u3_cm (cI C) 4 4 0 1 a.1 b.1 (by decide)]
  exact congrArg (fun z => (cN C, cA C, u3 (u3 (cI C) 4 4 1 b.1) 4 4 0 a.1, cL C, z)) e
theorem wT_0 (C : Cs) (T : Ts) : wT C T = wM (wM (wB C T.1) 1 T.2.2) 0 T.2.1 := wM_cm _ _ _
theorem wB_b (C : Cs) (b : Int32 × Int32) (x y : Int32) : wI (wI (wB C b) 3 3 0 x) 3 4 0 y = wB C (x, y) := by
  have e : u3 (u3 (u3 (u3 (cI C) 3 3 0 b.1) 3 4 0 b.2) 3 3 0 x) 3 4 0 y = u3 (u3 (cI C) 3 3 0 x) 3 4 0 y := by
    funext i j k
    unfold u3
    by_cases h1 : i = 3 ∧ j = 4 ∧ k = 0
    · rw [if_pos h1, if_pos h1]
    · rw [if_neg h1, if_neg h1]
      by_cases h2 : i = 3 ∧ j = 3 ∧ k = 0
      · rw [if_pos h2, if_pos h2, if_neg h1]
      · rw [if_neg h2, if_neg h2, if_neg h1, if_neg h2]
  exact congrArg (fun z => (cN C, cA C, z, cL C, cX C)) e
theorem wI_wM (C : Cs) (k m : Nat) (s : St) (v : Int32) : wI (wM C m s) 3 k 0 v = wM (wI C 3 k 0 v) m s := by
  have e : u3 (u3 (cI C) 4 4 m s.1) 3 k 0 v = u3 (u3 (cI C) 3 k 0 v) 4 4 m s.1 := by
    funext i j q
    unfold u3
    by_cases h1 : i = 3 ∧ j = k ∧ q = 0
    · rw [if_pos h1, if_neg (fun z => by omega), if_pos h1]
    · rw [if_neg h1]
      by_cases h2 : i = 4 ∧ j = 4 ∧ q = m
      · rw [if_pos h2, if_pos h2]
      · rw [if_neg h2, if_neg h2, if_neg h1]
  exact congrArg (fun z => (cN C, cA C, z, cL C, fun i j => if i = 3 * m + 1 then s.2 j else cX C i j)) e
theorem wT_b (C : Cs) (T : Ts) (x y : Int32) : wI (wI (wT C T) 3 3 0 x) 3 4 0 y = wT C ((x, y), T.2) := by
  unfold wT
  rw [wI_wM, wI_wM, wI_wM, wI_wM, wB_b]
theorem wT_33 (C : Cs) (T : Ts) : cI (wT C T) 3 3 0 = T.1.1 := rfl
theorem wT_32 (C : Cs) (T : Ts) : cI (wT C T) 3 2 0 = cI C 3 2 0 := rfl
theorem wT_fx {C : Cs} (h : FX C) (T : Ts) : FX (wT C T) := h
theorem wTx_0 (C : Cs) (T : Ts) : cX (wM (wB C T.1) 1 T.2.2) (3 * 0) = cX C 0 := rfl
theorem wTx_1 (C : Cs) (T : Ts) : cX (wM (wB C T.1) 0 T.2.1) (3 * 1) = cX C 3 := rfl
theorem wTg_0 (C : Cs) (T : Ts) : cI (wM (wB C T.1) 1 T.2.2) 4 3 0 = cI C 4 3 0 := rfl
theorem wTg_1 (C : Cs) (T : Ts) : cI (wM (wB C T.1) 0 T.2.1) 4 3 1 = cI C 4 3 1 := rfl
def sp_tW (fu f : Nat) : Sp := fun as w K => ∃ C T i tk st, as = [.ref (cA C 3 0), .int (nI i), .int tk, .int st] ∧ RX (wT C T) w ∧ FX C ∧ (i + f = 11 ∧ i ≤ 10) ∧ ∀ w', RX (wT C (tW fu (cX C 0) (cX C 3) (cI C 4 3 0) (cI C 4 3 1) (cI C 3 2 0) f i tk st T)) w' → K none w'
theorem c_tW (l : Launch) (fu : Nat) (hfu : fu = 11) : ∀ f, Ct l 53 (f + 14) 0 0 (sp_tW fu f) := by
  intro f
  induction f with
  | zero =>
    refine ct_jd (by decide) rfl (fun as w Po h => ?_)
    obtain ⟨C, T, i, tk, st, rfl, hX, hF, ⟨hi, hi2⟩, h⟩ := h
    omega
  | succ f ihf =>
    have hev : ∀ (k : Nat) (r : Nat × Nat × Nat × Sp), evL [(53, f + 14, 0, 0, sp_tW fu f), (54, 13, 0, 0, sp_seat fu), (56, 1, 0, 0, sp_unseat)] k = some r → Ct l k r.1 r.2.1 r.2.2.1 r.2.2.2 := evL_ok (by simpa using ⟨ihf, c_seat l fu hfu, c_unseat l⟩)
    refine ct_jd (by decide) rfl (fun as w Po h => ?_)
    obtain ⟨C, T, i, tk, st, rfl, hX, hF, ⟨hi, hi2⟩, h⟩ := h
    have h3 : 0 < cN C 3 := by rw [hF.1.2.2.1]; decide
    have h4 : 0 < cN C 4 := by rw [hF.1.2.2.2.1]; decide
    have h41 : 1 < cN C 4 := by rw [hF.1.2.2.2.1]; decide
    have l0 : cL C 3 0 0 = 0 + 1 := hF.2.2.1.1
    have l1 : cL C 3 1 0 = 1 + 1 := hF.2.2.1.2
    refine ⟨Nat.le_of_ble_eq_true rfl, ?_⟩
    rw [tW] at h
    have fin : ¬ 10 ≤ i → ∀ T' w2, RX (wT C T') w2 → (∀ w', RX (wT C (tW fu (cX C 0) (cX C 3) (cI C 4 3 0) (cI C 4 3 1) (cI C 3 2 0) f (i + 1) tk st T')) w' → Po none w') → Jd l 53 (f + 1 + 14) 0 0 none Po 94 [(0, .ref (cA C 3 0)), (1, .int (nI i)), (2, .int tk), (3, .int st)] [] w2 0 0 := by
      intro hi3 T' w2 hX hk
      exact jd_s cdo_53 hev [] 30 z00 ⟨⟨show f + 14 < f + 1 + 14 by omega, Nat.le_refl _, Nat.le_refl _⟩, rfl, hX.k 3 0 h3, C, T', i + 1, tk, st, by rw [nI_1]; rfl, hX, hF, ⟨by omega, by omega⟩, fun w' hX' => hk w' hX'⟩
    have un0 : ¬ 10 ≤ i → ∀ T' w2, RX (wT C T') w2 → (∀ w', RX (wT C (tW fu (cX C 0) (cX C 3) (cI C 4 3 0) (cI C 4 3 1) (cI C 3 2 0) f (i + 1) tk st (tU0 i T'))) w' → Po none w') → Jd l 53 (f + 1 + 14) 0 0 none Po 86 [(0, .ref (cA C 3 0)), (1, .int (nI i)), (2, .int tk), (3, .int st)] [] w2 0 0 := by
      intro hi3 T' w2 hX hk
      refine jd_s cdo_53 hev [94] 30 z00 ⟨hX.k 3 0 h3, _, hX.g1 3 0 0 (by decide) h3 rfl l0, ?_⟩
      have hX0 := hX
      rw [wT_0] at hX0
      refine ⟨⟨show 1 < f + 1 + 14 by omega, Nat.le_refl _, Nat.le_refl _⟩, rfl, hX.k 4 0 h4, wM (wB C T'.1) 1 T'.2.2, 0, T'.2.1, nI i, rfl, hX0, hF, by decide, fun w3 hX3 => ?_⟩
      have e : wM (wM (wB C T'.1) 1 T'.2.2) 0 (T'.2.1.1, uP T'.2.1.2 (nI i) 10) = wT C (tU0 i T') := (wT_0 C (tU0 i T')).symm
      rw [e] at hX3
      exact fin hi3 _ _ hX3 hk
    refine jd_s cdo_53 hev [86, 94] 60 z00 ⟨hX.k 3 0 h3, _, (hX.gi 3 2 0 (by decide) h3 rfl).trans (wT_32 C T), hX.k 3 0 h3, _, (hX.gi 3 3 0 (by decide) h3 rfl).trans (wT_33 C T), fun c => ?_, fun c => ?_⟩
    · rw [if_neg (lt_nle c)] at h
      have setb : (cI C 3 2 0 ≤ nI i ∨ 10 ≤ i) → gK w (cA C 3 0) = some 3 ∧ (gK (sI w 3 3 (cA C 3 0) tk) (cA C 3 0) = some 3 ∧ Po none (sI (sI w 3 3 (cA C 3 0) tk) 3 4 (cA C 3 0) st)) := by
        intro c2
        rw [if_pos c2] at h
        have hX1 := hX.wi 3 3 0 h3 tk
        have hX2 := hX1.wi 3 4 0 h3 st
        rw [wT_b] at hX2
        exact ⟨hX.k 3 0 h3, hX1.k 3 0 h3, h _ hX2⟩
      refine ⟨hX.k 3 0 h3, _, (hX.gi 3 2 0 (by decide) h3 rfl).trans (wT_32 C T), fun c2 => setb (Or.inl c2), fun c2 => ⟨fun c3 => ?_, fun c3 => setb (Or.inr ?_)⟩⟩
      · have hi3 : ¬ 10 ≤ i := by have := (nI_ltI (a := i) (b := 10) (by omega) (by omega)).mp c3; omega
        rw [if_neg (fun q => q.elim c2 hi3)] at h
        have hX0 := hX
        rw [wT_0] at hX0
        refine ⟨hX.k 3 0 h3, _, hX.g1 3 0 0 (by decide) h3 rfl l0, ?_⟩
        refine ⟨⟨show 13 < f + 1 + 14 by omega, Nat.le_refl _, Nat.le_refl _⟩, rfl, hX.k 4 0 h4, wM (wB C T.1) 1 T.2.2, 0, T.2.1, nI i, rfl, hX0, hF, by decide, fun w3 hX3 => ?_⟩
        rw [wTx_0, wTg_0] at hX3 ⊢
        revert h hX3
        cases er : sOM (cX C 0) (cI C 4 3 0) fu (nI i) (0, T.2.1.2) with
        | mk b r =>
          intro h hX3
          have hY3 : RX (wT C (T.1, r, T.2.2)) w3 := by rw [wT_0]; exact hX3
          cases b with
          | false => exact br0 (fin hi3 _ _ hY3 h)
          | true =>
            refine br1 ⟨hY3.k 3 0 h3, _, hY3.g1 3 1 0 (by decide) h3 rfl l1, ?_⟩
            refine ⟨⟨show 13 < f + 1 + 14 by omega, Nat.le_refl _, Nat.le_refl _⟩, rfl, hY3.k 4 1 h41, wM (wB C T.1) 0 r, 1, T.2.2, nI i, rfl, hY3, hF, by decide, fun w4 hX4 => ?_⟩
            rw [show cX (wM (wB C T.1) 0 r) (3 * 1) = cX C 3 from rfl, show cI (wM (wB C T.1) 0 r) 4 3 1 = cI C 4 3 1 from rfl] at hX4 ⊢
            revert h hX4
            cases es : sOM (cX C 3) (cI C 4 3 1) fu (nI i) (0, T.2.2.2) with
            | mk b2 q =>
              intro h hX4
              have hY4 : RX (wT C (T.1, r, q)) w4 := hX4
              cases b2 with
              | false => exact br0 (un0 hi3 _ _ hY4 h)
              | true =>
                refine br1 ⟨⟨show f + 14 < f + 1 + 14 by omega, Nat.le_refl _, Nat.le_refl _⟩, rfl, hY4.k 3 0 h3, C, (T.1, r, q), i + 1, tk + 1, st ||| bt i, by rw [nI_1]; rfl, hY4, hF, ⟨by omega, by omega⟩, fun w5 hX5 => ?_⟩
                have h : ∀ w', RX (wT C (tW fu (cX C 0) (cX C 3) (cI C 4 3 0) (cI C 4 3 1) (cI C 3 2 0) f (i + 1) tk st (tU0 i (tU1 i (tW fu (cX C 0) (cX C 3) (cI C 4 3 0) (cI C 4 3 1) (cI C 3 2 0) f (i + 1) (tk + 1) (st ||| bt i) (T.1, r, q)))))) w' → Po none w' := h
                generalize tW fu (cX C 0) (cX C 3) (cI C 4 3 0) (cI C 4 3 1) (cI C 3 2 0) f (i + 1) (tk + 1) (st ||| bt i) (T.1, r, q) = T2 at h hX5
                refine ⟨hX5.k 3 0 h3, _, hX5.g1 3 1 0 (by decide) h3 rfl l1, ?_⟩
                refine ⟨⟨show 1 < f + 1 + 14 by omega, Nat.le_refl _, Nat.le_refl _⟩, rfl, hX5.k 4 1 h41, wM (wB C T2.1) 0 T2.2.1, 1, T2.2.2, nI i, rfl, hX5, hF, by decide, fun w6 hX6 => ?_⟩
                have hX6 : RX (wT C (tU1 i T2)) w6 := hX6
                exact un0 hi3 _ _ hX6 h
      · have := ge_n (a := i) (b := 10) (by omega) (by omega) (nlt_le c3)
        exact this
    · rw [if_pos (nlt_le c)] at h
      exact h _ hX
def sp_choose (fu f : Nat) : Sp := fun as w K => ∃ C T, as = [.ref (cA C 3 0)] ∧ RX (wT C T) w ∧ FX C ∧ ∀ w', RX (wT C (tW fu (cX C 0) (cX C 3) (cI C 4 3 0) (cI C 4 3 1) (cI C 3 2 0) f 0 0 0 ((-1, T.1.2), T.2))) w' → K (some (.int (tW fu (cX C 0) (cX C 3) (cI C 4 3 0) (cI C 4 3 1) (cI C 3 2 0) f 0 0 0 ((-1, T.1.2), T.2)).1.1)) w'
theorem wT_b1 (C : Cs) (T : Ts) (x : Int32) : wI (wT C T) 3 3 0 x = wT C ((x, T.1.2), T.2) := by
  have e : u3 (u3 (u3 (cI C) 3 3 0 T.1.1) 3 4 0 T.1.2) 3 3 0 x = u3 (u3 (cI C) 3 3 0 x) 3 4 0 T.1.2 := by
    funext i j k
    unfold u3
    by_cases h1 : i = 3 ∧ j = 3 ∧ k = 0
    · rw [if_pos h1, if_neg (fun q => by omega), if_pos h1]
    · rw [if_neg h1, if_neg h1, if_neg h1]
  have e2 : wI (wB C T.1) 3 3 0 x = wB C (x, T.1.2) := congrArg (fun z => (cN C, cA C, z, cL C, cX C)) e
  unfold wT
  rw [wI_wM, wI_wM, e2]
theorem c_choose (l : Launch) (fu f : Nat) (hfu : fu = 11) (hf : f = 11) : Ct l 52 26 0 0 (sp_choose fu f) := by
  have hev : ∀ (k : Nat) (r : Nat × Nat × Nat × Sp), evL [(53, f + 14, 0, 0, sp_tW fu f)] k = some r → Ct l k r.1 r.2.1 r.2.2.1 r.2.2.2 := evL_ok (by simpa using c_tW l fu hfu f)
  refine ct_jd (by decide) rfl (fun as w Po h => ?_)
  obtain ⟨C, T, rfl, hX, hF, h⟩ := h
  have h3 : 0 < cN C 3 := by rw [hF.1.2.2.1]; decide
  refine ⟨Nat.le_of_ble_eq_true rfl, jd_run cdo_52 hev 30 z00 ⟨hX.k 3 0 h3, ?_⟩⟩
  have hX := hX.wi 3 3 0 h3 (-1)
  rw [wT_b1] at hX
  refine ⟨⟨show f + 14 < 26 by omega, Nat.le_refl _, Nat.le_refl _⟩, rfl, hX.k 3 0 h3, C, ((-1, T.1.2), T.2), 0, 0, 0, rfl, hX, hF, ⟨by omega, by decide⟩, fun w' hX' => ?_⟩
  exact ⟨hX'.k 3 0 h3, _, (hX'.gi 3 3 0 (by decide) h3 rfl).trans (wT_33 C _), h w' hX'⟩
end
section
/-! THE CLASS: mates settled -/
def flH (h : Nat → Int32) (n : Nat) : Nat → Int32 := fun j => if j < n then -1 else h j
theorem flH_s (h : Nat → Int32) (n : Nat) : hU (flH h n) n (-1) = flH h (n + 1) := by
  funext j
  unfold hU flH
  by_cases h1 : j = n
  · rw [if_pos h1, if_pos (by omega)]
  · rw [if_neg h1]
    by_cases h2 : j < n
    · rw [if_pos h2, if_pos (by omega)]
    · rw [if_neg h2, if_neg (by omega)]
theorem flH_0 (h : Nat → Int32) : flH h 0 = h := by
  funext j
  exact if_neg (by omega)
theorem RX_fl {C : Cs} {m : Nat} {s : St} {w : Hp} (h20 : 3 * m + 1 < cN C 20) (hX : RX (wM C m s) w) : ∀ n, RX (wM C m (s.1, flH s.2 n)) (flA w (cA C 20 (3 * m + 1)) (-1) n)
  | 0 => by rw [flH_0]; exact hX
  | n + 1 => by
    have := (RX_fl h20 hX n).wx (3 * m + 1) n h20 (-1)
    rw [wM_wX, flH_s] at this
    exact this
def cSb (fu : Nat) (ft : Nat → Int32) (gv set : Int32) : Nat → Nat → St → Bool × St
  | 0, _, s => (true, s)
  | d + 1, b, s => if set >>> (nI b &&& 31) &&& 1 = 1 then (match sOM ft gv fu (nI b) (0, s.2) with
    | (true, s2) => cSb fu ft gv set d (b + 1) s2
    | (false, s2) => (false, s2)) else cSb fu ft gv set d (b + 1) s
def sp_csb (fu : Nat) : Sp := fun as w K => ∃ C m s i set d, as = [.ref (cA C 4 m), .int (nI i), .int set] ∧ RX (wM C m s) w ∧ FX C ∧ (m < 2 ∧ i + 1 + d = 10) ∧ ∀ w', RX (wM C m (cSb fu (cX C (3 * m)) (cI C 4 3 m) set d (i + 1) (s.1, flH s.2 10)).2) w' → K (some (.int (b2i (cSb fu (cX C (3 * m)) (cI C 4 3 m) set d (i + 1) (s.1, flH s.2 10)).1))) w'
theorem c_csb (l : Launch) (fu : Nat) (hfu : fu = 11) : Ct l 61 14 0 0 (sp_csb fu) := by
  have hev : ∀ (k : Nat) (r : Nat × Nat × Nat × Sp), evL [(50, 1, 0, 0, sp_fill), (54, 13, 0, 0, sp_seat fu)] k = some r → Ct l k r.1 r.2.1 r.2.2.1 r.2.2.2 := evL_ok (by simpa using ⟨c_fill l, c_seat l fu hfu⟩)
  refine ct_jd (by decide) rfl (fun as w Po h => ?_)
  obtain ⟨C, m, s, i, set, d, rfl, hX, hF, ⟨hm, hi⟩, h⟩ := h
  have hm4 : m < cN C 4 := by rw [hF.1.2.2.2.1]; exact hm
  have h20 : 3 * m + 1 < cN C 20 := by rw [hF.1.2.2.2.2]; omega
  have l1 : cL C 4 1 m = 3 * m + 1 + 1 := hF.2.2.2 1 m (by decide) hm
  refine ⟨Nat.le_of_ble_eq_true rfl, ?_⟩
  have key : ∀ d b s w', b + d = 10 → RX (wM C m s) w' → (∀ w2, RX (wM C m (cSb fu (cX C (3 * m)) (cI C 4 3 m) set d b s).2) w2 → Po (some (.int (b2i (cSb fu (cX C (3 * m)) (cI C 4 3 m) set d b s).1))) w2) → Jd l 61 14 0 0 (some .boolean) Po 12 [(3, .int (nI b)), (0, .ref (cA C 4 m)), (1, .int (nI i)), (2, .int set)] [] w' 0 0 := by
    intro d
    induction d with
    | zero =>
      intro b s w' hb hX hk
      obtain rfl : b = 10 := by omega
      exact jd_s cdo_61 hev [] 20 z00 ⟨fun _ => ⟨Or.inr rfl, hk _ hX⟩, fun c => absurd (by decide) c⟩
    | succ d ih =>
      intro b s w' hb hX hk
      rw [cSb] at hk
      have next : ∀ s2 w2, RX (wM C m s2) w2 → (∀ w3, RX (wM C m (cSb fu (cX C (3 * m)) (cI C 4 3 m) set d (b + 1) s2).2) w3 → Po (some (.int (b2i (cSb fu (cX C (3 * m)) (cI C 4 3 m) set d (b + 1) s2).1))) w3) → Jd l 61 14 0 0 (some .boolean) Po 37 [(3, .int (nI b)), (0, .ref (cA C 4 m)), (1, .int (nI i)), (2, .int set)] [] w2 0 0 := by
        intro s2 w2 hX hk
        have := ih (b + 1) s2 w2 (by omega) hX hk
        rw [← nI_1] at this
        exact jd_s cdo_61 hev [12] 20 z00 this
      refine jd_s cdo_61 hev [37] 30 z00 ⟨fun c => ?_, fun _ => ⟨fun c => ?_, fun c => ?_⟩⟩
      · have := ge_n (a := b) (b := 10) (by omega) (by omega) c
        omega
      · rw [if_neg c] at hk
        exact next s w' hX hk
      · rw [if_pos c] at hk
        refine ⟨⟨show 13 < 14 by decide, Nat.le_refl _, Nat.le_refl _⟩, rfl, hX.k 4 m hm4, C, m, s, nI b, rfl, hX, hF, hm, ?_⟩
        revert hk
        cases er : sOM (cX C (3 * m)) (cI C 4 3 m) fu (nI b) (0, s.2) with
        | mk r s2 =>
          intro hk w4 hX4
          cases r with
          | true => exact br1n (next s2 w4 hX4 hk)
          | false => exact br0n ⟨Or.inl rfl, hk _ hX4⟩
  refine jd_s cdo_61 hev [12] 30 z00 ⟨hX.k 4 m hm4, _, hX.g1 4 1 m (by decide) hm4 rfl l1, ?_⟩
  refine ⟨⟨by decide, by decide, by decide⟩, rfl, Nat.le_of_ble_eq_true rfl, cA C 20 (3 * m + 1), -1, 10, rfl, hX.k 20 (3 * m + 1) h20, hX.xn (3 * m + 1) h20, by decide, ?_⟩
  have := key d (i + 1) (s.1, flH s.2 10) _ hi (RX_fl h20 hX 10) h
  rw [← nI_1] at this
  exact this
abbrev St3 : Type := (Nat → Int32) × Int32 × St
def wZb (C : Cs) (m : Nat) (e : Nat → Int32) (g : Int32) : Cs := (cN C, cA C, u3 (cI C) 4 3 m g, cL C, fun i j => if i = 3 * m + 2 then e j else cX C i j)
def wZ (C : Cs) (m : Nat) (z : St3) : Cs := wM (wZb C m z.1 z.2.1) m z.2.2
def cur (C : Cs) (m : Nat) : St3 := (cX C (3 * m + 2), cI C 4 3 m, (cI C 4 4 m, cX C (3 * m + 1)))
theorem u3_id {α : Type} (f : Nat → Nat → Nat → α) (a b c : Nat) : u3 f a b c (f a b c) = f := by
  funext i j k
  unfold u3
  by_cases h : i = a ∧ j = b ∧ k = c
  · obtain ⟨rfl, rfl, rfl⟩ := h
    rw [if_pos ⟨rfl, rfl, rfl⟩]
  · rw [if_neg h]
theorem wZ_id (C : Cs) (m : Nat) : wZ C m (cur C m) = C := by
  have e : (fun i j => if i = 3 * m + 1 then cX C (3 * m + 1) j else if i = 3 * m + 2 then cX C (3 * m + 2) j else cX C i j) = cX C := by
    funext i j
    by_cases h : i = 3 * m + 1
    · rw [if_pos h, h]
    · rw [if_neg h]
      by_cases h2 : i = 3 * m + 2
      · rw [if_pos h2, h2]
      · rw [if_neg h2]
  show (cN C, cA C, u3 (u3 (cI C) 4 3 m (cI C 4 3 m)) 4 4 m (cI C 4 4 m), cL C, fun i j => if i = 3 * m + 1 then cX C (3 * m + 1) j else if i = 3 * m + 2 then cX C (3 * m + 2) j else cX C i j) = C
  rw [u3_id, u3_id, e]
  rfl
theorem wZ_g (C : Cs) (m : Nat) (z : St3) (v : Int32) : wI (wZ C m z) 4 3 m v = wZ C m (z.1, v, z.2.2) := by
  have e : u3 (u3 (u3 (cI C) 4 3 m z.2.1) 4 4 m z.2.2.1) 4 3 m v = u3 (u3 (cI C) 4 3 m v) 4 4 m z.2.2.1 := by
    funext i j k
    unfold u3
    by_cases h1 : i = 4 ∧ j = 3 ∧ k = m
    · rw [if_pos h1, if_neg (fun q => by omega), if_pos h1]
    · rw [if_neg h1, if_neg h1, if_neg h1]
  exact congrArg (fun y => (cN C, cA C, y, cL C, fun i j => if i = 3 * m + 1 then z.2.2.2 j else if i = 3 * m + 2 then z.1 j else cX C i j)) e
theorem wZ_e (C : Cs) (m : Nat) (z : St3) (p : Nat) (v : Int32) : wX (wZ C m z) (3 * m + 2) p v = wZ C m (hU z.1 p v, z.2) := by
  have e : u2 (fun i j => if i = 3 * m + 1 then z.2.2.2 j else if i = 3 * m + 2 then z.1 j else cX C i j) (3 * m + 2) p v = fun i j => if i = 3 * m + 1 then z.2.2.2 j else if i = 3 * m + 2 then hU z.1 p v j else cX C i j := by
    funext i j
    unfold u2 hU
    by_cases h : i = 3 * m + 2
    · by_cases h2 : j = p
      · rw [if_pos ⟨h, h2⟩, if_neg (by omega), if_pos h, if_pos h2]
      · rw [if_neg (fun q => h2 q.2)]
        dsimp only
        have n1 : ¬ i = 3 * m + 1 := by omega
        rw [if_neg n1, if_neg n1, if_pos h, if_pos h, if_neg h2]
    · rw [if_neg (fun q => h q.1)]
      dsimp only
      rw [if_neg h, if_neg h]
  exact congrArg (fun y => (cN C, cA C, u3 (u3 (cI C) 4 3 m z.2.1) 4 4 m z.2.2.1, cL C, y)) e
theorem wZb_fx {C : Cs} (h : FX C) (m : Nat) (e : Nat → Int32) (g : Int32) : FX (wZb C m e g) := h
theorem wZb_X (C : Cs) (m : Nat) (e : Nat → Int32) (g : Int32) : cX (wZb C m e g) (3 * m) = cX C (3 * m) := by
  funext j
  exact if_neg (by omega)
theorem wZb_g (C : Cs) (m : Nat) (e : Nat → Int32) (g : Int32) : cI (wZb C m e g) 4 3 m = g := u3_e
theorem wZ_X (C : Cs) (m : Nat) (z : St3) (j : Nat) : cX (wZ C m z) (3 * m) j = cX C (3 * m) j := (if_neg (by omega)).trans (if_neg (by omega))
theorem wZ_X2 (C : Cs) (m : Nat) (z : St3) (j : Nat) : cX (wZ C m z) (3 * m + 2) j = z.1 j := (if_neg (by omega)).trans (if_pos rfl)
theorem wZ_43 (C : Cs) (m : Nat) (z : St3) : cI (wZ C m z) 4 3 m = z.2.1 := (wM_43 _ _ _).trans (wZb_g _ _ _ _)
def fPl (fu : Nat) (ft : Nat → Int32) (set : Int32) (i k : Nat) : Nat → Nat → Int32 × St → Int32 × Int32 × St
  | 0, _, q => (-1, q)
  | d + 1, p, q => if ft i &&& (q.1 ^^^ -1) &&& bt p = 0 then fPl fu ft set i k d (p + 1) q else match cSb fu ft (q.1 ||| bt p) set k (i + 1) (q.2.1, flH q.2.2 10) with
    | (true, s2) => (nI p, q.1 ||| bt p, s2)
    | (false, s2) => fPl fu ft set i k d (p + 1) ((q.1 ||| bt p) &&& (bt p ^^^ -1), s2)
def sp_fPl (fu : Nat) : Sp := fun as w K => ∃ C m z i set k n, as = [.ref (cA C 4 m), .int (nI i), .int set] ∧ RX (wZ C m z) w ∧ FX C ∧ (m < 2 ∧ i + 1 + k = 10 ∧ n = 10) ∧ ∀ w', RX (wZ C m (z.1, (fPl fu (cX C (3 * m)) set i k n 0 z.2).2)) w' → K (some (.int (fPl fu (cX C (3 * m)) set i k n 0 z.2).1)) w'
theorem c_fPl (l : Launch) (fu : Nat) (hfu : fu = 11) : Ct l 60 15 0 0 (sp_fPl fu) := by
  have hev : ∀ (k : Nat) (r : Nat × Nat × Nat × Sp), evL [(61, 14, 0, 0, sp_csb fu)] k = some r → Ct l k r.1 r.2.1 r.2.2.1 r.2.2.2 := evL_ok (by simpa using c_csb l fu hfu)
  refine ct_jd (by decide) rfl (fun as w Po h => ?_)
  obtain ⟨C, m, z, i, set, k, n, rfl, hX, hF, ⟨hm, hi, hn⟩, h⟩ := h
  have hm4 : m < cN C 4 := by rw [hF.1.2.2.2.1]; exact hm
  have h20 : 3 * m < cN C 20 := by rw [hF.1.2.2.2.2]; omega
  have l0 : cL C 4 0 m = 3 * m + 1 := hF.2.2.2 0 m (by decide) hm
  refine ⟨Nat.le_of_ble_eq_true rfl, ?_⟩
  have key : ∀ d p q w', p + d = 10 → RX (wZ C m (z.1, q)) w' → (∀ w2, RX (wZ C m (z.1, (fPl fu (cX C (3 * m)) set i k d p q).2)) w2 → Po (some (.int (fPl fu (cX C (3 * m)) set i k d p q).1)) w2) → Jd l 60 15 0 0 (some .int) Po 14 [(3, .int (nI p)), (0, .ref (cA C 4 m)), (1, .int (nI i)), (2, .int set)] [] w' 0 0 := by
    intro d
    induction d with
    | zero =>
      intro p q w' hp hX hk
      obtain rfl : p = 10 := by omega
      exact jd_s cdo_60 hev [] 20 z00 ⟨fun _ => hk _ hX, fun c => absurd (by decide) c⟩
    | succ d ih =>
      intro p q w' hp hX hk
      rw [fPl] at hk
      have next : ∀ q2 w2, RX (wZ C m (z.1, q2)) w2 → (∀ w3, RX (wZ C m (z.1, (fPl fu (cX C (3 * m)) set i k d (p + 1) q2).2)) w3 → Po (some (.int (fPl fu (cX C (3 * m)) set i k d (p + 1) q2).1)) w3) → Jd l 60 15 0 0 (some .int) Po 82 [(4, .int (bt p)), (3, .int (nI p)), (0, .ref (cA C 4 m)), (1, .int (nI i)), (2, .int set)] [] w2 0 0 := by
        intro q2 w2 hX hk
        have := ih (p + 1) q2 w2 (by omega) hX hk
        rw [← nI_1] at this
        exact jd_s cdo_60 hev [14] 20 z00 (jd_pk [0, 2, 3, 4] this)
      refine jd_s cdo_60 hev [47, 82] 40 z00 ⟨fun c => ?_, fun _ => ?_⟩
      · have := ge_n (a := p) (b := 10) (by omega) (by omega) c
        omega
      refine ⟨hX.k 4 m hm4, _, hX.g1 4 0 m (by decide) hm4 rfl l0, hX.k 20 (3 * m) h20, i, _, hX.ixa (3 * m) h20 rfl (by omega), (hX.xa (3 * m) i h20).trans (wZ_X C m _ i), ?_⟩
      refine ⟨hX.k 4 m hm4, _, (hX.gi 4 3 m (by decide) hm4 rfl).trans (wZ_43 C m _), fun c => ?_, fun c => ?_⟩
      · have c : ¬ cX C (3 * m) i &&& (q.1 ^^^ -1) &&& bt p = 0 := c
        rw [if_neg c] at hk
        have go : ∀ w3, RX (wZ C m (z.1, q.1 ||| bt p, q.2)) w3 → Jd l 60 15 0 0 (some .int) Po 58 [(4, .int (bt p)), (3, .int (nI p)), (0, .ref (cA C 4 m)), (1, .int (nI i)), (2, .int set)] [] w3 0 0 := by
          intro w3 hX
          refine jd_s cdo_60 hev [69, 82] 40 z00 ⟨⟨show 14 < 15 by decide, Nat.le_refl _, Nat.le_refl _⟩, rfl, hX.k 4 m hm4, wZb C m z.1 (q.1 ||| bt p), m, q.2, i, set, k, rfl, hX, wZb_fx hF _ _ _, ⟨hm, hi⟩, ?_⟩
          rw [wZb_X, wZb_g]
          revert hk
          cases er : cSb fu (cX C (3 * m)) (q.1 ||| bt p) set k (i + 1) (q.2.1, flH q.2.2 10) with
          | mk r s2 =>
            intro hk w4 hX4
            have hY : RX (wZ C m (z.1, q.1 ||| bt p, s2)) w4 := hX4
            cases r with
            | true => exact br1 (hk _ hY)
            | false =>
              refine br0 (jd_s cdo_60 hev [82] 40 z00 ⟨hY.k 4 m hm4, _, (hY.gi 4 3 m (by decide) hm4 rfl).trans (wZ_43 C m _), hY.k 4 m hm4, ?_⟩)
              have hY2 := hY.wi 4 3 m hm4 ((q.1 ||| bt p) &&& (bt p ^^^ -1))
              rw [wZ_g] at hY2
              exact next _ _ hY2 hk
        refine jd_s cdo_60 hev [58] 40 z00 ⟨hX.k 4 m hm4, _, (hX.gi 4 3 m (by decide) hm4 rfl).trans (wZ_43 C m _), hX.k 4 m hm4, ?_⟩
        have hX := hX.wi 4 3 m hm4 (q.1 ||| bt p)
        rw [wZ_g] at hX
        exact go _ hX
      · have c : cX C (3 * m) i &&& (q.1 ^^^ -1) &&& bt p = 0 := c
        rw [if_pos c] at hk
        exact next q w' hX hk
  refine jd_s cdo_60 hev [14] 20 z00 ⟨fun c => absurd c (nI_pos (by omega)), fun _ => ⟨fun _ => ?_, fun c => absurd ((nI_ltI (a := i) (b := 10) (by omega) (by omega)).mpr (by omega)) c⟩⟩
  exact key n 0 z.2 w (by omega) hX h
def stl (fu n : Nat) (ft : Nat → Int32) (set : Int32) : Nat → Nat → St3 → St3
  | 0, _, z => z
  | d + 1, i, z => if set >>> (nI i &&& 31) &&& 1 = 1 then stl fu n ft set d (i + 1) (hU z.1 i (fPl fu ft set i d n 0 z.2).1, (fPl fu ft set i d n 0 z.2).2) else stl fu n ft set d (i + 1) z
def cStl (fu n : Nat) (C : Cs) (m : Nat) (set : Int32) : Cs := wZ C m (stl fu n (cX C (3 * m)) set n 0 (cur C m))
def sp_settle (fu n : Nat) : Sp := fun as w K => ∃ C m set, as = [.ref (cA C 4 m), .int set] ∧ RX C w ∧ FX C ∧ m < 2 ∧ ∀ w', RX (cStl fu n C m set) w' → K none w'
theorem c_settle (l : Launch) (fu n : Nat) (hfu : fu = 11) (hn : n = 10) : Ct l 59 16 0 0 (sp_settle fu n) := by
  have hev : ∀ (k : Nat) (r : Nat × Nat × Nat × Sp), evL [(60, 15, 0, 0, sp_fPl fu)] k = some r → Ct l k r.1 r.2.1 r.2.2.1 r.2.2.2 := evL_ok (by simpa using c_fPl l fu hfu)
  refine ct_jd (by decide) rfl (fun as w Po h => ?_)
  obtain ⟨C, m, set, rfl, hX, hF, hm, h⟩ := h
  have hm4 : m < cN C 4 := by rw [hF.1.2.2.2.1]; exact hm
  have h20 : 3 * m + 2 < cN C 20 := by rw [hF.1.2.2.2.2]; omega
  have l2 : cL C 4 2 m = 3 * m + 2 + 1 := hF.2.2.2 2 m (by decide) hm
  refine ⟨Nat.le_of_ble_eq_true rfl, ?_⟩
  have key : ∀ d i z w', i + d = 10 → RX (wZ C m z) w' → (∀ w2, RX (wZ C m (stl fu n (cX C (3 * m)) set d i z)) w2 → Po none w2) → Jd l 59 16 0 0 none Po 2 [(2, .int (nI i)), (0, .ref (cA C 4 m)), (1, .int set)] [] w' 0 0 := by
    intro d
    induction d with
    | zero =>
      intro i z w' hi hX hk
      obtain rfl : i = 10 := by omega
      exact jd_s cdo_59 hev [] 20 z00 ⟨fun _ => hk _ hX, fun c => absurd (by decide) c⟩
    | succ d ih =>
      intro i z w' hi hX hk
      rw [stl] at hk
      refine jd_s cdo_59 hev [2] 30 z00 ⟨fun c => ?_, fun _ => ⟨fun c => ?_, fun c => ?_⟩⟩
      · have := ge_n (a := i) (b := 10) (by omega) (by omega) c
        omega
      · rw [if_neg c] at hk
        have := ih (i + 1) z w' (by omega) hX hk
        rw [← nI_1] at this
        exact this
      · rw [if_pos c] at hk
        refine ⟨hX.k 4 m hm4, _, hX.g1 4 2 m (by decide) hm4 rfl l2, ?_⟩
        refine ⟨⟨show 15 < 16 by decide, Nat.le_refl _, Nat.le_refl _⟩, rfl, hX.k 4 m hm4, C, m, z, i, set, d, n, rfl, hX, hF, ⟨hm, by omega, hn⟩, fun w4 hX4 => ?_⟩
        refine ⟨hX4.k 20 (3 * m + 2) h20, i, hX4.ixa (3 * m + 2) h20 rfl (by omega), ?_⟩
        have hX4 := hX4.wx (3 * m + 2) i h20 (fPl fu (cX C (3 * m)) set i d n 0 z.2).1
        rw [wZ_e] at hX4
        have := ih (i + 1) _ _ (by omega) hX4 hk
        rw [← nI_1] at this
        exact this
  refine jd_s cdo_59 hev [2] 10 z00 ?_
  exact key n 0 (cur C m) w (by omega) (by rw [wZ_id]; exact hX) h
end
section
/-! THE CLASS: lots read for making; the most -/
theorem wM_ot (C : Cs) (m : Nat) (s : St) (t k i : Nat) (h : t ≠ 4) : cI (wM C m s) t k i = cI C t k i := by
  show u3 (cI C) 4 4 m s.1 t k i = _
  exact u3_t h
theorem wZ_ot (C : Cs) (m : Nat) (z : St3) (t k i : Nat) (h : t ≠ 4) : cI (wZ C m z) t k i = cI C t k i := by
  show u3 (u3 (cI C) 4 3 m z.2.1) 4 4 m z.2.2.1 t k i = _
  rw [u3_t h, u3_t h]
theorem cR0_q (C : Cs) (m n t k i : Nat) (h : t ≠ 4) : cI (wI (wM C m (cI C 4 4 m, flH (cX C (3 * m + 1)) n)) 4 3 m 0) t k i = cI C t k i := by
  rw [cI_wI, if_neg (fun q => h q.1)]
  exact wM_ot _ _ _ _ _ _ h
def cCM (fu n : Nat) (C : Cs) : Cs := cStl fu n (cStl fu n C 0 (cI C 3 4 0)) 1 (cI C 3 4 0)
theorem cStl_fx {C : Cs} (h : FX C) (fu n m : Nat) (set : Int32) : FX (cStl fu n C m set) := h
theorem cStl_34 (fu n : Nat) (C : Cs) (m : Nat) (set : Int32) : cI (cStl fu n C m set) 3 4 0 = cI C 3 4 0 := by
  exact wZ_ot C m _ 3 4 0 (by decide)
def sp_chooseM (fu n : Nat) : Sp := fun as w K => ∃ C, as = [.ref (cA C 3 0)] ∧ RX C w ∧ FX C ∧ ∀ w', RX (cCM fu n C) w' → K none w'
theorem c_chooseM (l : Launch) (fu n : Nat) (hfu : fu = 11) (hn : n = 10) : Ct l 58 17 0 0 (sp_chooseM fu n) := by
  have hev : ∀ (k : Nat) (r : Nat × Nat × Nat × Sp), evL [(59, 16, 0, 0, sp_settle fu n)] k = some r → Ct l k r.1 r.2.1 r.2.2.1 r.2.2.2 := evL_ok (by simpa using c_settle l fu n hfu hn)
  refine ct_jd (by decide) rfl (fun as w Po h => ?_)
  obtain ⟨C, rfl, hX, hF, h⟩ := h
  have h3 : 0 < cN C 3 := by rw [hF.1.2.2.1]; decide
  have h4 : 0 < cN C 4 := by rw [hF.1.2.2.2.1]; decide
  have h41 : 1 < cN C 4 := by rw [hF.1.2.2.2.1]; decide
  refine ⟨Nat.le_of_ble_eq_true rfl, jd_run cdo_58 hev 30 z00 ?_⟩
  refine ⟨hX.k 3 0 h3, _, hX.g1 3 0 0 (by decide) h3 rfl hF.2.2.1.1, hX.k 3 0 h3, _, hX.gi 3 4 0 (by decide) h3 rfl, ?_⟩
  refine ⟨⟨show 16 < 17 by decide, Nat.le_refl _, Nat.le_refl _⟩, rfl, hX.k 4 0 h4, C, 0, cI C 3 4 0, rfl, hX, hF, by decide, fun w2 hX2 => ?_⟩
  have hF2 := cStl_fx hF fu n 0 (cI C 3 4 0)
  have e34 := cStl_34 fu n C 0 (cI C 3 4 0)
  have eA : cA (cStl fu n C 0 (cI C 3 4 0)) = cA C := rfl
  have eN : cN (cStl fu n C 0 (cI C 3 4 0)) = cN C := rfl
  rw [cCM] at h
  generalize cStl fu n C 0 (cI C 3 4 0) = D at *
  rw [← eN] at h3 h4 h41
  rw [← eA]
  refine ⟨hX2.k 3 0 h3, _, hX2.g1 3 1 0 (by decide) h3 rfl hF2.2.2.1.2, hX2.k 3 0 h3, _, (hX2.gi 3 4 0 (by decide) h3 rfl).trans e34, ?_⟩
  exact ⟨⟨show 16 < 17 by decide, Nat.le_refl _, Nat.le_refl _⟩, rfl, hX2.k 4 1 h41, D, 1, cI C 3 4 0, rfl, hX2, hF2, by decide, h⟩
def sp_takes : Sp := fun as w K => ∃ C x, as = [.ref (cA C 3 0), .int x] ∧ RX C w ∧ FX C ∧ (cI C 3 4 0 >>> (x &&& 31) &&& 1 = 1 → K (some (.int 1)) w) ∧ (¬ cI C 3 4 0 >>> (x &&& 31) &&& 1 = 1 → K (some (.int 0)) w)
theorem c_takes (l : Launch) : Ct l 62 1 0 0 sp_takes := by
  refine ct_jd (by decide) rfl (fun as w Po h => ?_)
  obtain ⟨C, x, rfl, hX, hF, h1, h2⟩ := h
  have h3 : 0 < cN C 3 := by rw [hF.1.2.2.1]; decide
  exact ⟨Nat.le_of_ble_eq_true rfl, jd_run cdo_62 ev0 30 z00 ⟨hX.k 3 0 h3, _, hX.gi 3 4 0 (by decide) h3 rfl, fun c => ⟨Or.inl rfl, h2 c⟩, fun c => ⟨Or.inr rfl, h1 c⟩⟩⟩
def sp_settled : Sp := fun as w K => ∃ C m i, as = [.ref (cA C 4 m), .int (nI i)] ∧ RX C w ∧ FX C ∧ (m < 2 ∧ i < 10) ∧ K (some (.int (cX C (3 * m + 2) i))) w
theorem c_settled (l : Launch) : Ct l 64 1 0 0 sp_settled := by
  refine ct_jd (by decide) rfl (fun as w Po h => ?_)
  obtain ⟨C, m, i, rfl, hX, hF, ⟨hm, hi⟩, h⟩ := h
  have hm4 : m < cN C 4 := by rw [hF.1.2.2.2.1]; exact hm
  have h20 : 3 * m + 2 < cN C 20 := by rw [hF.1.2.2.2.2]; omega
  have l2 : cL C 4 2 m = 3 * m + 2 + 1 := hF.2.2.2 2 m (by decide) hm
  refine ⟨Nat.le_of_ble_eq_true rfl, jd_run cdo_64 ev0 30 z00 ⟨fun c => absurd c (nI_pos (by omega)), fun _ => ⟨fun c => ?_, fun _ => ?_⟩⟩⟩
  · have := ge_n (a := i) (b := 10) (by omega) (by omega) c
    omega
  · exact ⟨hX.k 4 m hm4, _, hX.g1 4 2 m (by decide) hm4 rfl l2, hX.k 20 (3 * m + 2) h20, i, _, hX.ixa (3 * m + 2) h20 rfl hi, hX.xa (3 * m + 2) i h20, h⟩
def sp_for (m : Nat) : Sp := fun as w K => ∃ C i, as = [.ref (cA C 3 0), .int (nI i)] ∧ RX C w ∧ FX C ∧ i < 10 ∧ K (some (.int (cX C (3 * m + 2) i))) w
theorem c_plateFor (l : Launch) : Ct l 63 2 0 0 (sp_for 0) := by
  refine ct_jd (by decide) rfl (fun as w Po h => ?_)
  obtain ⟨C, i, rfl, hX, hF, hi, h⟩ := h
  have h3 : 0 < cN C 3 := by rw [hF.1.2.2.1]; decide
  have h4 : 0 < cN C 4 := by rw [hF.1.2.2.2.1]; decide
  exact ⟨Nat.le_of_ble_eq_true rfl, jd_run cdo_63 (evL_ok (L := [(64, 1, 0, 0, sp_settled)]) (by simpa using c_settled l)) 30 z00 ⟨hX.k 3 0 h3, _, hX.g1 3 0 0 (by decide) h3 rfl hF.2.2.1.1, ⟨by decide, by decide, by decide⟩, rfl, hX.k 4 0 h4, C, 0, i, rfl, hX, hF, ⟨by decide, hi⟩, h⟩⟩
theorem c_stoneFor (l : Launch) : Ct l 65 2 0 0 (sp_for 1) := by
  refine ct_jd (by decide) rfl (fun as w Po h => ?_)
  obtain ⟨C, i, rfl, hX, hF, hi, h⟩ := h
  have h3 : 0 < cN C 3 := by rw [hF.1.2.2.1]; decide
  have h41 : 1 < cN C 4 := by rw [hF.1.2.2.2.1]; decide
  exact ⟨Nat.le_of_ble_eq_true rfl, jd_run cdo_65 (evL_ok (L := [(64, 1, 0, 0, sp_settled)]) (by simpa using c_settled l)) 30 z00 ⟨hX.k 3 0 h3, _, hX.g1 3 1 0 (by decide) h3 rfl hF.2.2.1.2, ⟨by decide, by decide, by decide⟩, rfl, hX.k 4 1 h41, C, 1, i, rfl, hX, hF, ⟨by decide, hi⟩, h⟩⟩
def pF (C : Cs) (f wh : Nat) : List Nat → Int32 → Int32 → Int32
  | [], b, _ => b
  | mt :: t, b, bit => pF C f wh t (if cI C 0 0 f ≤ mor C wh mt ∧ mor C wh mt ≤ cI C 0 1 f then b ||| bit else b) (bit <<< (1 &&& 31))
def sp_placesFor : Sp := fun as w K => ∃ C f wh lo, ∃ L : List Nat, as = [.ref (cA C 5 wh), .ref (cA C 2 lo), .ref (cA C 0 f)] ∧ RX C w ∧ (f < cN C 0 ∧ wh < cN C 5 ∧ lo < cN C 2 ∧ chL (cL C 5 7) (cL C 2 2 lo) L) ∧ K (some (.int (pF C f wh L 0 1))) w
theorem c_placesFor (l : Launch) : Ct l 51 2 0 0 sp_placesFor := by
  have hev : ∀ (k : Nat) (r : Nat × Nat × Nat × Sp), evL [(44, 1, 0, 0, sp_allows)] k = some r → Ct l k r.1 r.2.1 r.2.2.1 r.2.2.2 := evL_ok (by simpa using c_allows l)
  refine ct_jd (by decide) rfl (fun as w Po h => ?_)
  obtain ⟨C, f, wh, lo, L, rfl, hX, ⟨hf, hw, hl, hL⟩, h⟩ := h
  refine ⟨Nat.le_of_ble_eq_true rfl, ?_⟩
  have key : ∀ (T : List Nat) (c : Nat) (b bit : Int32) (vc : Value), vc = va_rf (adO C 5 c) → c ≤ cN C 5 → chL (cL C 5 7) c T → pF C f wh T b bit = pF C f wh L 0 1 → Jd l 51 2 0 0 (some .int) Po 11 [(5, vc), (4, .int bit), (3, .int b), (0, .ref (cA C 5 wh)), (1, .ref (cA C 2 lo)), (2, .ref (cA C 0 f))] [] w 0 0 := by
    intro T
    induction T with
    | nil =>
      intro c b bit vc evc hc hT hw
      obtain rfl : c = 0 := hT
      subst evc
      rw [← hw] at h
      exact jd_s cdo_51 hev [] 30 z00 h
    | cons mt t ih =>
      intro c b bit vc evc hc hT hq
      obtain ⟨rfl, hT⟩ := hT
      subst evc
      have hm : mt < cN C 5 := hc
      have hlb : cL C 5 7 mt ≤ cN C 5 := hX.lb 5 7 mt (by decide) hm rfl
      have nxt : ∀ b', pF C f wh t b' (bit <<< (1 &&& 31)) = pF C f wh L 0 1 → Jd l 51 2 0 0 (some .int) Po 31 [(5, .ref (cA C 5 mt)), (4, .int bit), (3, .int b'), (0, .ref (cA C 5 wh)), (1, .ref (cA C 2 lo)), (2, .ref (cA C 0 f))] [] w 0 0 := by
        intro b' hw'
        have hgr := hX.gr 5 7 mt (by decide) hm rfl
        have := ih (cL C 5 7 mt) b' (bit <<< (1 &&& 31)) (va_rf (adO C 5 (cL C 5 7 mt))) rfl hlb hT hw'
        revert this hgr
        generalize cL C 5 7 mt = c'
        intro hgr this
        cases c' with
        | zero => exact jd_s cdo_51 hev [11] 30 z00 ⟨hX.k 5 mt hm, _, hgr, jd_pk [0, 1, 2, 3, 4, 5] this⟩
        | succ q => exact jd_s cdo_51 hev [11] 30 z00 ⟨hX.k 5 mt hm, _, hgr, jd_pk [0, 1, 2, 3, 4, 5] this⟩
      rw [pF] at hq
      refine jd_s cdo_51 hev [31] 40 z00 ⟨⟨by decide, by decide, by decide⟩, rfl, hX.k 0 f hf, C, f, wh, mt, rfl, hX, ⟨hf, hw, hm⟩, fun c => br1 ?_, fun c => br0 ?_⟩
      · have c : cI C 0 0 f ≤ mor C wh mt ∧ mor C wh mt ≤ cI C 0 1 f := c
        rw [if_pos c] at hq
        exact jd_pk [1, 2, 0, 3, 4, 5] (nxt _ hq)
      · have c : ¬ (cI C 0 0 f ≤ mor C wh mt ∧ mor C wh mt ≤ cI C 0 1 f) := c
        rw [if_neg c] at hq
        exact nxt _ hq
  have hlb : cL C 2 2 lo ≤ cN C 5 := hX.lb 2 2 lo (by decide) hl rfl
  have hgr := hX.gr 2 2 lo (by decide) hl rfl
  have := key L (cL C 2 2 lo) 0 1 _ rfl hlb hL rfl
  revert this hgr
  generalize cL C 2 2 lo = c'
  intro hgr this
  cases c' with
  | zero => exact jd_s cdo_51 hev [11] 30 z00 ⟨hX.k 2 lo hl, _, hgr, this⟩
  | succ q => exact jd_s cdo_51 hev [11] 30 z00 ⟨hX.k 2 lo hl, _, hgr, this⟩
theorem pF_cong {C D : Cs} (h5 : ∀ k i, cI D 5 k i = cI C 5 k i) (h0 : ∀ k i, cI D 0 k i = cI C 0 k i) (f wh : Nat) : ∀ (L : List Nat) (b bit : Int32), pF D f wh L b bit = pF C f wh L b bit
  | [], _, _ => rfl
  | mt :: t, b, bit => by
    have e : mor D wh mt = mor C wh mt := by unfold mor; rw [h5, h5, h5]
    rw [pF, pF, pF_cong h5 h0 f wh t, e, h0, h0]
def wF (C : Cs) (m : Nat) (e : Nat → Int32) : Cs := (cN C, cA C, cI C, cL C, fun i j => if i = 3 * m then e j else cX C i j)
theorem wF_id (C : Cs) (m : Nat) : wF C m (cX C (3 * m)) = C := by
  have e : (fun i j => if i = 3 * m then cX C (3 * m) j else cX C i j) = cX C := by
    funext i j
    by_cases h : i = 3 * m
    · rw [if_pos h, h]
    · rw [if_neg h]
  show (cN C, cA C, cI C, cL C, fun i j => if i = 3 * m then cX C (3 * m) j else cX C i j) = C
  rw [e]
  rfl
theorem wF_wX (C : Cs) (m : Nat) (e : Nat → Int32) (p : Nat) (v : Int32) : wX (wF C m e) (3 * m) p v = wF C m (hU e p v) := by
  have e2 : u2 (fun i j => if i = 3 * m then e j else cX C i j) (3 * m) p v = fun i j => if i = 3 * m then hU e p v j else cX C i j := by
    funext i j
    unfold u2 hU
    by_cases h : i = 3 * m
    · by_cases h2 : j = p
      · rw [if_pos ⟨h, h2⟩, if_pos h, if_pos h2]
      · rw [if_neg (fun q => h2 q.2)]
        dsimp only
        rw [if_pos h, if_pos h, if_neg h2]
    · rw [if_neg (fun q => h q.1)]
      dsimp only
      rw [if_neg h, if_neg h]
  exact congrArg (fun y => (cN C, cA C, cI C, cL C, y)) e2
theorem wM_id (C : Cs) (m : Nat) : wM C m (cI C 4 4 m, cX C (3 * m + 1)) = C := by
  have e : (fun i j => if i = 3 * m + 1 then cX C (3 * m + 1) j else cX C i j) = cX C := by
    funext i j
    by_cases h : i = 3 * m + 1
    · rw [if_pos h, h]
    · rw [if_neg h]
  show (cN C, cA C, u3 (cI C) 4 4 m (cI C 4 4 m), cL C, fun i j => if i = 3 * m + 1 then cX C (3 * m + 1) j else cX C i j) = C
  rw [u3_id, e]
  rfl
def rF (C : Cs) (f : Nat) (M : List Nat) : List Nat → Nat → (Nat → Int32) → Nat → Int32
  | [], _, e => e
  | wh :: t, i, e => rF C f M t (i + 1) (hU e i (pF C f wh M 0 1))
def cR0 (C : Cs) (m n : Nat) : Cs := wI (wM C m (cI C 4 4 m, flH (cX C (3 * m + 1)) n)) 4 3 m 0
def cRL (n : Nat) (C : Cs) (m f : Nat) (W M : List Nat) : Cs := wF (cR0 C m n) m (rF C f M W 0 (cX C (3 * m)))
theorem cR0_fx {C : Cs} (h : FX C) (m n : Nat) : FX (cR0 C m n) := h
def sp_readM (n : Nat) : Sp := fun as w K => ∃ C m f wl ml, ∃ (W M : List Nat), as = [.ref (cA C 4 m), .ref (cA C 2 wl), .ref (cA C 2 ml), .ref (cA C 0 f)] ∧ RX C w ∧ FX C ∧ (m < 2 ∧ f < 2 ∧ wl < cN C 2 ∧ ml < cN C 2 ∧ n = 10) ∧ (chL (cL C 5 7) (cL C 2 2 wl) W ∧ W.length ≤ 10 ∧ chL (cL C 5 7) (cL C 2 2 ml) M) ∧ ∀ w', RX (cRL n C m f W M) w' → K none w'
theorem c_readM (l : Launch) (n : Nat) : Ct l 49 3 0 0 (sp_readM n) := by
  have hev : ∀ (k : Nat) (r : Nat × Nat × Nat × Sp), evL [(50, 1, 0, 0, sp_fill), (51, 2, 0, 0, sp_placesFor)] k = some r → Ct l k r.1 r.2.1 r.2.2.1 r.2.2.2 := evL_ok (by simpa using ⟨c_fill l, c_placesFor l⟩)
  refine ct_jd (by decide) rfl (fun as w Po h => ?_)
  obtain ⟨C, m, f, wl, ml, W, M, rfl, hX, hF, ⟨hm, hf, hwl, hml, hn⟩, ⟨hW, hW10, hM⟩, h⟩ := h
  have hm4 : m < cN C 4 := by rw [hF.1.2.2.2.1]; exact hm
  have hf0 : f < cN C 0 := by rw [hF.1.2.1]; exact hf
  have h20 : 3 * m + 1 < cN C 20 := by rw [hF.1.2.2.2.2]; omega
  have h20' : 3 * m < cN C 20 := by rw [hF.1.2.2.2.2]; omega
  have l1 : cL C 4 1 m = 3 * m + 1 + 1 := hF.2.2.2 1 m (by decide) hm
  have l0 : cL C 4 0 m = 3 * m + 1 := hF.2.2.2 0 m (by decide) hm
  have q5 : ∀ k i, cI (cR0 C m n) 5 k i = cI C 5 k i := fun k i => cR0_q C m n 5 k i (by decide)
  have q0 : ∀ k i, cI (cR0 C m n) 0 k i = cI C 0 k i := fun k i => cR0_q C m n 0 k i (by decide)
  have eA : cA (cR0 C m n) = cA C := rfl
  have eN : cN (cR0 C m n) = cN C := rfl
  have eL : cL (cR0 C m n) = cL C := rfl
  have eX : cX (cR0 C m n) (3 * m) = cX C (3 * m) := by funext j; exact if_neg (by omega)
  refine ⟨Nat.le_of_ble_eq_true rfl, ?_⟩
  have start : ∀ w2, RX (cR0 C m n) w2 → Jd l 49 3 0 0 none Po 13 [(0, .ref (cA C 4 m)), (1, .ref (cA C 2 wl)), (2, .ref (cA C 2 ml)), (3, .ref (cA C 0 f))] [] w2 0 0 := by
    intro w2 hX2
    rw [cRL] at h
    generalize cR0 C m n = D at *
    have key : ∀ (T : List Nat) (c i : Nat) (e : Nat → Int32) (vc : Value) (w' : Hp), vc = va_rf (adO C 5 c) → c ≤ cN C 5 → chL (cL C 5 7) c T → i + T.length ≤ 10 → RX (wF D m e) w' → (∀ w2, RX (wF D m (rF C f M T i e)) w2 → Po none w2) → Jd l 49 3 0 0 none Po 22 [(5, .int (nI i)), (4, vc), (0, .ref (cA C 4 m)), (1, .ref (cA C 2 wl)), (2, .ref (cA C 2 ml)), (3, .ref (cA C 0 f))] [] w' 0 0 := by
      intro T
      induction T with
      | nil =>
        intro c i e vc w' evc hc hT hi hX hk
        obtain rfl : c = 0 := hT
        subst evc
        exact jd_s cdo_49 hev [] 30 z00 ⟨fun _ => hk _ hX, fun _ => hk _ hX⟩
      | cons wh t ih =>
        intro c i e vc w' evc hc hT hi hX hk
        obtain ⟨rfl, hT⟩ := hT
        subst evc
        rw [List.length_cons] at hi
        have hw : wh < cN C 5 := hc
        have hX0 := hX
        have kA : cA (wF D m e) = cA C := eA
        have kN : cN (wF D m e) = cN C := eN
        have kL : cL (wF D m e) = cL C := eL
        have kp : ∀ b bit, pF (wF D m e) f wh M b bit = pF C f wh M b bit := fun b bit => pF_cong (C := C) (D := wF D m e) q5 q0 f wh M b bit
        generalize eB : wF D m e = B at hX kA kN kL kp
        have hm4' : m < cN B 4 := by rw [kN]; exact hm4
        have hw' : wh < cN B 5 := by rw [kN]; exact hw
        have h20b : 3 * m < cN B 20 := by rw [kN]; exact h20'
        refine jd_s cdo_49 hev [22] 40 z00 ⟨fun c => ?_, fun _ => ?_⟩
        · have := ge_n (a := i) (b := 10) (by omega) (by omega) c
          omega
        rw [← kA]
        refine ⟨hX.k 4 m hm4', _, hX.g1 4 0 m (by decide) hm4' rfl (by rw [kL]; exact l0), ?_⟩
        refine ⟨⟨by decide, by decide, by decide⟩, rfl, Nat.le_of_ble_eq_true rfl, B, f, wh, ml, M, by rw [kA]; rfl, hX, ⟨by rw [kN]; exact hf0, hw', by rw [kN]; exact hml, by rw [kL]; exact hM⟩, ?_⟩
        rw [kp]
        refine ⟨hX.k 20 (3 * m) h20b, i, hX.ixa (3 * m) h20b rfl (by omega), ?_⟩
        have hY := hX.wx (3 * m) i h20b (pF C f wh M 0 1)
        have e2 : wX B (3 * m) i (pF C f wh M 0 1) = wF D m (hU e i (pF C f wh M 0 1)) := by rw [← eB, wF_wX]
        have hlb : cL C 5 7 wh ≤ cN C 5 := by have := hX.lb 5 7 wh (by decide) hw' rfl; rw [kL, kN] at this; exact this
        have hgr := hY.gr 5 7 wh (by decide) hw' rfl
        have hY2 := hY
        rw [e2] at hY2
        have := ih (cL C 5 7 wh) (i + 1) _ (va_rf (adO C 5 (cL C 5 7 wh))) _ rfl hlb hT (by omega) hY2 hk
        rw [← nI_1, ← kA] at this
        have hgr2 : gR _ 5 7 (cA B 5 wh) = adO C 5 (cL C 5 7 wh) := hgr.trans (by
          show adO (wX B (3 * m) i (pF C f wh M 0 1)) 5 (cL B 5 7 wh) = _
          rw [kL]
          cases cL C 5 7 wh with
          | zero => rfl
          | succ q => show some (cA B 5 q) = _; rw [kA]; rfl)
        rw [kA] at hgr2
        have hk5 : gK (sA w' (cA B 20 (3 * m)) i (pF C f wh M 0 1)) (cA C 5 wh) = some 5 := hY.k' 5 wh (by show cA B 5 wh = _; rw [kA]) hw'
        revert this hgr2
        generalize cL C 5 7 wh = c'
        intro this hgr2
        cases c' with
        | zero => exact ⟨hk5, _, hgr2, jd_pk [0, 1, 2, 3, 4, 5] this⟩
        | succ q => exact ⟨hk5, _, hgr2, jd_pk [0, 1, 2, 3, 4, 5] this⟩
    have hwl' : wl < cN D 2 := by rw [eN]; exact hwl
    have hlb : cL C 2 2 wl ≤ cN C 5 := by have := hX2.lb 2 2 wl (by decide) hwl' rfl; rw [eL, eN] at this; exact this
    have hgr := hX2.gr 2 2 wl (by decide) hwl' rfl
    have := key W (cL C 2 2 wl) 0 (cX C (3 * m)) (va_rf (adO C 5 (cL C 2 2 wl))) w2 rfl hlb hW (by omega) (by rw [← eX, wF_id]; exact hX2) h
    have hgr2 : gR w2 2 2 (cA C 2 wl) = adO C 5 (cL C 2 2 wl) := by
      rw [← eA, hgr, eL]
      show adO D 5 (cL C 2 2 wl) = _
      cases cL C 2 2 wl with
      | zero => rfl
      | succ q => show some (cA D 5 q) = _; rw [eA]; rfl
    have hk2 : gK w2 (cA C 2 wl) = some 2 := hX2.k' 2 wl (by rw [eA]) hwl'
    revert this hgr2
    generalize cL C 2 2 wl = c'
    intro this hgr2
    cases c' with
    | zero => exact jd_s cdo_49 hev [22] 30 z00 ⟨hk2, _, hgr2, this⟩
    | succ q => exact jd_s cdo_49 hev [22] 30 z00 ⟨hk2, _, hgr2, this⟩
  have hX1 := hX
  rw [← wM_id C m] at hX1
  refine jd_s cdo_49 hev [13] 30 z00 ⟨hX.k 4 m hm4, _, hX.g1 4 1 m (by decide) hm4 rfl l1, ?_⟩
  refine ⟨⟨by decide, by decide, by decide⟩, rfl, Nat.le_of_ble_eq_true rfl, cA C 20 (3 * m + 1), -1, n, rfl, hX.k 20 (3 * m + 1) h20, (hX.xn (3 * m + 1) h20).trans hn.symm, by omega, ?_⟩
  have hX2 := RX_fl h20 hX1 n
  refine ⟨hX2.k 4 m hm4, ?_⟩
  exact start _ (hX2.wi 4 3 m hm4 0)
end
section
/-! THE CLASS: the most -/
def cMR (n : Nat) (C : Cs) (wl : Nat) (P W S : List Nat) : Cs := cRL n (cRL n (wI C 3 2 0 (if cI C 2 4 wl ≤ 10 then cI C 2 4 wl else 10)) 0 0 W P) 1 1 W S
theorem cRL_fx {C : Cs} (h : FX C) (n m f : Nat) (W M : List Nat) : FX (cRL n C m f W M) := h
theorem cRL_N (C : Cs) (n m f : Nat) (W M : List Nat) : cN (cRL n C m f W M) = cN C := rfl
theorem cRL_A (C : Cs) (n m f : Nat) (W M : List Nat) : cA (cRL n C m f W M) = cA C := rfl
theorem cRL_L (C : Cs) (n m f : Nat) (W M : List Nat) : cL (cRL n C m f W M) = cL C := rfl
def sp_readAll (n : Nat) : Sp := fun as w K => ∃ C pl wl sl, ∃ (P W S : List Nat), as = [.ref (cA C 3 0), .ref (cA C 2 pl), .ref (cA C 2 wl), .ref (cA C 2 sl), .ref (cA C 0 0), .ref (cA C 0 1)] ∧ RX C w ∧ FX C ∧ (pl < cN C 2 ∧ wl < cN C 2 ∧ sl < cN C 2 ∧ n = 10) ∧ (chL (cL C 5 7) (cL C 2 2 pl) P ∧ chL (cL C 5 7) (cL C 2 2 wl) W ∧ chL (cL C 5 7) (cL C 2 2 sl) S ∧ W.length ≤ 10) ∧ ∀ w', RX (cMR n C wl P W S) w' → K none w'
theorem c_readAll (l : Launch) (n : Nat) : Ct l 47 4 0 0 (sp_readAll n) := by
  have hev : ∀ (k : Nat) (r : Nat × Nat × Nat × Sp), evL [(48, 1, 0, 0, sp_min), (49, 3, 0, 0, sp_readM n)] k = some r → Ct l k r.1 r.2.1 r.2.2.1 r.2.2.2 := evL_ok (by simpa using ⟨c_min l, c_readM l n⟩)
  refine ct_jd (by decide) rfl (fun as w Po h => ?_)
  obtain ⟨C, pl, wl, sl, P, W, S, rfl, hX, hF, ⟨hp, hw, hs, hn⟩, ⟨hP, hW, hS, hW10⟩, h⟩ := h
  have h3 : 0 < cN C 3 := by rw [hF.1.2.2.1]; decide
  have h4 : 0 < cN C 4 := by rw [hF.1.2.2.2.1]; decide
  have h41 : 1 < cN C 4 := by rw [hF.1.2.2.2.1]; decide
  have m2 : ∀ D w2, RX D w2 → FX D → cN D = cN C → cA D = cA C → cL D = cL C → (∀ w', RX (cRL n D 1 1 W S) w' → Po none w') → Jd l 47 4 0 0 none Po 24 [(0, .ref (cA C 3 0)), (1, .ref (cA C 2 pl)), (2, .ref (cA C 2 wl)), (3, .ref (cA C 2 sl)), (4, .ref (cA C 0 0)), (5, .ref (cA C 0 1))] [] w2 0 0 := by
    intro D w2 hX hF eN eA eL hk
    rw [← eN] at h3 h41 hw hs
    rw [← eL] at hW hS
    rw [← eA]
    refine jd_s cdo_47 hev [] 30 z00 ⟨hX.k 3 0 h3, _, hX.g1 3 1 0 (by decide) h3 rfl hF.2.2.1.2, ?_⟩
    exact ⟨⟨show 3 < 4 by decide, Nat.le_refl _, Nat.le_refl _⟩, rfl, hX.k 4 1 h41, D, 1, 1, wl, sl, W, S, rfl, hX, hF, ⟨by decide, by decide, hw, hs, hn⟩, ⟨hW, hW10, hS⟩, hk⟩
  have m1 : ∀ D w2, RX D w2 → FX D → cN D = cN C → cA D = cA C → cL D = cL C → (∀ w', RX (cRL n (cRL n D 0 0 W P) 1 1 W S) w' → Po none w') → Jd l 47 4 0 0 none Po 13 [(0, .ref (cA C 3 0)), (1, .ref (cA C 2 pl)), (2, .ref (cA C 2 wl)), (3, .ref (cA C 2 sl)), (4, .ref (cA C 0 0)), (5, .ref (cA C 0 1))] [] w2 0 0 := by
    intro D w2 hX hF eN eA eL hk
    have h3' : 0 < cN D 3 := by rw [eN]; exact h3
    have h4' : 0 < cN D 4 := by rw [eN]; exact h4
    have hp' : pl < cN D 2 := by rw [eN]; exact hp
    have hw' : wl < cN D 2 := by rw [eN]; exact hw
    have hW' : chL (cL D 5 7) (cL D 2 2 wl) W := by rw [eL]; exact hW
    have hP' : chL (cL D 5 7) (cL D 2 2 pl) P := by rw [eL]; exact hP
    refine jd_s cdo_47 hev [24] 30 z00 ⟨hX.k' 3 0 (by rw [eA]) h3', some (cA D 4 0), (hX.gr' 3 0 0 (by rw [eA]) (by decide) h3' rfl).trans (by rw [hF.2.2.1.1]; rfl), ?_⟩
    refine ⟨⟨show 3 < 4 by decide, Nat.le_refl _, Nat.le_refl _⟩, rfl, hX.k 4 0 h4', D, 0, 0, wl, pl, W, P, by rw [eA]; rfl, hX, hF, ⟨by decide, by decide, hw', hp', hn⟩, ⟨hW', hW10, hP'⟩, fun w3 hX3 => ?_⟩
    exact m2 _ w3 hX3 (cRL_fx hF _ _ _ _ _) eN eA eL hk
  refine ⟨Nat.le_of_ble_eq_true rfl, jd_s cdo_47 hev [13] 30 z00 ⟨hX.k 2 wl hw, _, hX.gi 2 4 wl (by decide) hw rfl, ?_⟩⟩
  refine ⟨⟨show 1 < 4 by decide, Nat.le_refl _, Nat.le_refl _⟩, rfl, Nat.le_of_ble_eq_true rfl, cI C 2 4 wl, 10, rfl, ?_⟩
  refine ⟨hX.k 3 0 h3, ?_⟩
  exact m1 _ _ (hX.wi 3 2 0 h3 (if cI C 2 4 wl ≤ 10 then cI C 2 4 wl else 10)) (FX_wI hF _ _ _ _) rfl rfl rfl h
def tWD (fu f : Nat) (D : Cs) : Ts := tW fu (cX D 0) (cX D 3) (cI D 4 3 0) (cI D 4 3 1) (cI D 3 2 0) f 0 0 0 ((-1, cI D 3 4 0), ((cI D 4 4 0, cX D 1), (cI D 4 4 1, cX D 4)))
def cCh (fu f : Nat) (D : Cs) : Cs := wT D (tWD fu f D)
theorem wT_id (D : Cs) : wT D ((cI D 3 3 0, cI D 3 4 0), ((cI D 4 4 0, cX D 1), (cI D 4 4 1, cX D 4))) = D := by
  have e : wB D (cI D 3 3 0, cI D 3 4 0) = D := by
    show (cN D, cA D, u3 (u3 (cI D) 3 3 0 (cI D 3 3 0)) 3 4 0 (cI D 3 4 0), cL D, cX D) = D
    rw [u3_id, u3_id]
    rfl
  show wM (wM (wB D (cI D 3 3 0, cI D 3 4 0)) 0 (cI D 4 4 0, cX D 1)) 1 (cI D 4 4 1, cX D 4) = D
  rw [e, show wM D 0 (cI D 4 4 0, cX D 1) = D from wM_id D 0, show wM D 1 (cI D 4 4 1, cX D 4) = D from wM_id D 1]
def okL (C : Cs) (nl : Nat) (x k : Int32) (j : Nat) : Prop := j < nl ∧ x = nI j ∧ cI C 2 5 j = 0 ∧ cI C 2 1 j = k ∧ cI C 2 4 j ≤ 10
def LR (C : Cs) (nl : Nat) (R : Nat → List Nat) : Prop := ∀ j, j < nl → chL (cL C 5 7) (cL C 2 2 j) (R j) ∧ cI C 2 4 j = nI (R j).length ∧ (R j).length ≤ 300
theorem LR.s {C : Cs} {nl j : Nat} {R : Nat → List Nat} {x k : Int32} (h : LR C nl R) (o : okL C nl x k j) : (R j).length ≤ 10 := by
  obtain ⟨h1, h2, h3⟩ := h j o.1
  have := o.2.2.2.2
  rw [h2] at this
  exact ge_n (a := 10) (by decide) (by omega) this
def sp_cmost (n fu f : Nat) : Sp := fun as w K => ∃ C x y z nl, ∃ R : Nat → List Nat, as = [.ref (cA C 9 0), .int x, .int y, .int z] ∧ RX C w ∧ FX C ∧ NB C 24 2 8 60 nl ∧ LR C nl R ∧ n = 10 ∧ (∀ a b c, okL C nl x 0 a → okL C nl y 1 b → okL C nl z 2 c → ∀ w', RX (cCh fu f (cMR n C b (R a) (R b) (R c))) w' → K (some (.int (tWD fu f (cMR n C b (R a) (R b) (R c))).1.1)) w') ∧ ((¬ ∃ a b c, okL C nl x 0 a ∧ okL C nl y 1 b ∧ okL C nl z 2 c) → K (some (.int (-1))) w)
theorem cMR_fx {C : Cs} (h : FX C) (n wl : Nat) (P W S : List Nat) : FX (cMR n C wl P W S) := h
theorem c_cmost (l : Launch) (n fu f : Nat) (hfu : fu = 11) (hf : f = 11) : Ct l 45 27 0 0 (sp_cmost n fu f) := by
  have hev : ∀ (k : Nat) (r : Nat × Nat × Nat × Sp), evL [(46, 3, 0, 0, sp_lotForMaking), (47, 4, 0, 0, sp_readAll n), (52, 26, 0, 0, sp_choose fu f)] k = some r → Ct l k r.1 r.2.1 r.2.2.1 r.2.2.2 := evL_ok (by simpa using ⟨c_lotForMaking l, c_readAll l n, c_choose l fu f hfu hf⟩)
  refine ct_jd (by decide) rfl (fun as w Po h => ?_)
  obtain ⟨C, x, y, z, nl, R, rfl, hX, hF, hN, hR, hn, h1, h2⟩ := h
  have h3 : 0 < cN C 3 := by rw [hF.1.2.2.1]; decide
  have h0 : 0 < cN C 0 := by rw [hF.1.2.1]; decide
  have e2 := hN.2.2.1
  refine ⟨Nat.le_of_ble_eq_true rfl, jd_run cdo_45 hev 60 z00 ?_⟩
  refine ⟨⟨show 3 < 27 by decide, Nat.le_refl _, Nat.le_refl _⟩, rfl, hX.k 9 0 hF.x, C, x, 0, nl, rfl, hX, hF, hN, fun a ha xa a5 a1 a4 => ?_, fun q => ?_⟩
  · refine ⟨⟨show 3 < 27 by decide, Nat.le_refl _, Nat.le_refl _⟩, rfl, hX.k 9 0 hF.x, C, y, 1, nl, rfl, hX, hF, hN, fun b hb yb b5 b1 b4 => ?_, fun q => ?_⟩
    · refine ⟨⟨show 3 < 27 by decide, Nat.le_refl _, Nat.le_refl _⟩, rfl, hX.k 9 0 hF.x, C, z, 2, nl, rfl, hX, hF, hN, fun c hc zc c5 c1 c4 => ?_, fun q => ?_⟩
      · have oa : okL C nl x 0 a := ⟨ha, xa, a5, a1, a4⟩
        have ob : okL C nl y 1 b := ⟨hb, yb, b5, b1, b4⟩
        have oc : okL C nl z 2 c := ⟨hc, zc, c5, c1, c4⟩
        have h1 := h1 a b c oa ob oc
        refine ⟨hX.k 9 0 hF.x, _, hX.g1 9 6 0 (by decide) hF.x rfl hF.l6, hX.k 9 0 hF.x, _, hX.g1 9 4 0 (by decide) hF.x rfl hF.l4, hX.k 9 0 hF.x, _, hX.g1 9 5 0 (by decide) hF.x rfl hF.l5, ?_⟩
        refine ⟨⟨show 4 < 27 by decide, Nat.le_refl _, Nat.le_refl _⟩, rfl, hX.k 3 0 h3, C, a, b, c, R a, R b, R c, rfl, hX, hF, ⟨by rw [e2]; exact ha, by rw [e2]; exact hb, by rw [e2]; exact hc, hn⟩, ⟨(hR a ha).1, (hR b hb).1, (hR c hc).1, hR.s ob⟩, fun w2 hX2 => ?_⟩
        have hF2 := cMR_fx hF n b (R a) (R b) (R c)
        have eA : cA (cMR n C b (R a) (R b) (R c)) = cA C := rfl
        have eN : cN (cMR n C b (R a) (R b) (R c)) = cN C := rfl
        generalize cMR n C b (R a) (R b) (R c) = D at *
        rw [← eA]
        rw [← eN] at h3
        refine ⟨hX2.k 9 0 hF2.x, _, hX2.g1 9 6 0 (by decide) hF2.x rfl hF2.l6, ?_⟩
        have hX3 := hX2
        rw [← wT_id D] at hX3
        exact ⟨⟨show 26 < 27 by decide, Nat.le_refl _, Nat.le_refl _⟩, rfl, hX2.k 3 0 h3, D, _, rfl, hX3, hF2, h1⟩
      · exact h2 (fun ⟨_, _, c, _, _, oc⟩ => q ⟨c, oc⟩)
    · have no := h2 (fun ⟨_, b, _, _, ob, _⟩ => q ⟨b, ob⟩)
      exact ⟨⟨show 3 < 27 by decide, Nat.le_refl _, Nat.le_refl _⟩, rfl, hX.k 9 0 hF.x, C, z, 2, nl, rfl, hX, hF, hN, fun c hc zc c5 c1 c4 => no, fun q => no⟩
  · have no := h2 (fun ⟨a, _, _, oa, _, _⟩ => q ⟨a, oa⟩)
    refine ⟨⟨show 3 < 27 by decide, Nat.le_refl _, Nat.le_refl _⟩, rfl, hX.k 9 0 hF.x, C, y, 1, nl, rfl, hX, hF, hN, fun b hb yb b5 b1 b4 => ?_, fun q => ?_⟩
    · exact ⟨⟨show 3 < 27 by decide, Nat.le_refl _, Nat.le_refl _⟩, rfl, hX.k 9 0 hF.x, C, z, 2, nl, rfl, hX, hF, hN, fun c hc zc c5 c1 c4 => no, fun q => no⟩
    · exact ⟨⟨show 3 < 27 by decide, Nat.le_refl _, Nat.le_refl _⟩, rfl, hX.k 9 0 hF.x, C, z, 2, nl, rfl, hX, hF, hN, fun c hc zc c5 c1 c4 => no, fun q => no⟩
def cDT (lo : Nat) : List Nat → Nat → Cs → Cs
  | [], _, D => D
  | p :: t, b, D => if cI D 5 5 p = 0 then cDT lo t (p + 1) D else cDT lo t b (cUnl D lo b p)
theorem cUnl_57 (D : Cs) (lo b p x : Nat) (h : b ≠ x + 1) : cL (cUnl D lo b p) 5 7 x = cL D 5 7 x := by
  have e1 : cL (cUn1 D lo b p) 5 7 x = cL D 5 7 x := by
    cases b with
    | zero => exact (cL_wL D 2 2 lo _ 5 7 x).trans (if_neg (fun q => absurd q.1 (by decide)))
    | succ q => exact (cL_wL D 5 7 q _ 5 7 x).trans (if_neg (fun z => h (by rw [z.2.2])))
  unfold cUnl
  rw [cL_wI]
  split
  · rw [cL_wL, if_neg (fun q => absurd q.1 (by decide)), e1]
  · exact e1
theorem chL_cong {f g : Nat → Nat} : ∀ {c : Nat} {T : List Nat}, (∀ x, x ∈ T → f x = g x) → chL f c T → chL g c T
  | _, [], _, h => h
  | _, p :: t, hc, h => ⟨h.1, by rw [← hc p (List.mem_cons_self ..)]; exact chL_cong (fun x hx => hc x (List.mem_cons_of_mem _ hx)) h.2⟩
theorem cDT_Kp (lo : Nat) : ∀ T b D, Kp D (cDT lo T b D)
  | [], _, D => Kp.rf D
  | p :: t, b, D => by
    unfold cDT
    split
    · exact cDT_Kp lo t _ _
    · exact (cUnl_Kp _ _ _ _).tr (cDT_Kp lo t _ _)
def sp_dropTaken : Sp := fun as w K => ∃ C lo, ∃ T : List Nat, as = [.ref (cA C 2 lo)] ∧ RX C w ∧ lo < cN C 2 ∧ (chL (cL C 5 7) (cL C 2 2 lo) T ∧ T.Nodup) ∧ ∀ w', RX (cDT lo T 0 C) w' → K none w'
theorem c_dropTaken (l : Launch) : Ct l 68 2 0 0 sp_dropTaken := by
  have hev : ∀ (k : Nat) (r : Nat × Nat × Nat × Sp), evL [(16, 1, 0, 0, sp_unlink)] k = some r → Ct l k r.1 r.2.1 r.2.2.1 r.2.2.2 := evL_ok (by simpa using c_unlink l)
  refine ct_jd (by decide) rfl (fun as w Po h => ?_)
  obtain ⟨C, lo, T, rfl, hX, hl, ⟨hT, hnd⟩, h⟩ := h
  refine ⟨Nat.le_of_ble_eq_true rfl, ?_⟩
  have key : ∀ (T : List Nat) (c b : Nat) (D : Cs) (vc vb : Value) (w' : Hp), vc = va_rf (adO C 5 c) → vb = va_rf (adO C 5 b) → c ≤ cN C 5 → b ≤ cN C 5 → Kp C D → RX D w' → chL (cL D 5 7) c T → T.Nodup → (∀ x, x ∈ T → b ≠ x + 1) → (∀ w2, RX (cDT lo T b D) w2 → Po none w2) → Jd l 68 2 0 0 none Po 7 [(2, vc), (1, vb), (0, .ref (cA C 2 lo))] [] w' 0 0 := by
    intro T
    induction T with
    | nil =>
      intro c b D vc vb w' evc evb hc hb hK hX hT hnd hbt hk
      obtain rfl : c = 0 := hT
      subst evc
      exact jd_s cdo_68 hev [] 20 z00 (hk _ hX)
    | cons p t ih =>
      intro c b D vc vb w' evc evb hc hb hK hX hT hnd hbt hk
      obtain ⟨rfl, hT⟩ := hT
      subst evc
      have hp : p < cN C 5 := hc
      have hpD : p < cN D 5 := by rw [hK.1.2.1]; exact hp
      have hlD : lo < cN D 2 := by rw [hK.1.2.1]; exact hl
      have aO : ∀ E, cA E = cA C → ∀ c', adO E 5 c' = adO C 5 c' := fun E e c' => by
        cases c' with
        | zero => rfl
        | succ q => show some (cA E 5 q) = some (cA C 5 q); rw [e]
      have hndt := (List.nodup_cons.mp hnd)
      rw [cDT] at hk
      have next : ∀ (b' : Nat) (vb' : Value) (E : Cs) (w2 : Hp), vb' = va_rf (adO C 5 b') → b' ≤ cN C 5 → Kp C E → RX E w2 → cL E 5 7 p = cL D 5 7 p → chL (cL E 5 7) (cL D 5 7 p) t → (∀ x, x ∈ t → b' ≠ x + 1) → (∀ w3, RX (cDT lo t b' E) w3 → Po none w3) → Jd l 68 2 0 0 none Po 29 [(2, .ref (cA C 5 p)), (1, vb'), (0, .ref (cA C 2 lo))] [] w2 0 0 := by
        intro b' vb' E w2 evb' hb' hKE hXE eE hTE hbt' hkE
        have hpE : p < cN E 5 := by rw [hKE.1.2.1]; exact hp
        have hlb : cL D 5 7 p ≤ cN C 5 := by have := hXE.lb 5 7 p (by decide) hpE rfl; rw [eE] at this; rw [← hKE.1.2.1]; exact this
        have hgr : gR w2 5 7 (cA C 5 p) = adO C 5 (cL D 5 7 p) := by
          rw [← hKE.1.1, hXE.gr 5 7 p (by decide) hpE rfl, eE]
          exact aO E hKE.1.1 _
        have hkk : gK w2 (cA C 5 p) = some 5 := hXE.k' 5 p (by rw [hKE.1.1]) hpE
        have := ih (cL D 5 7 p) b' E (va_rf (adO C 5 (cL D 5 7 p))) vb' w2 rfl evb' hlb hb' hKE hXE hTE hndt.2 hbt' hkE
        revert this hgr
        generalize cL D 5 7 p = c'
        intro hgr this
        subst evb'
        cases c' with
        | zero =>
          cases b' with
          | zero => exact jd_s cdo_68 hev [7] 20 z00 ⟨hkk, _, hgr, this⟩
          | succ q => exact jd_s cdo_68 hev [7] 20 z00 ⟨hkk, _, hgr, this⟩
        | succ q' =>
          cases b' with
          | zero => exact jd_s cdo_68 hev [7] 20 z00 ⟨hkk, _, hgr, this⟩
          | succ q => exact jd_s cdo_68 hev [7] 20 z00 ⟨hkk, _, hgr, this⟩
      have g5 : gI w' 5 5 (cA C 5 p) = cI D 5 5 p := hX.gi' 5 5 p (by rw [hK.1.1]) (by decide) hpD rfl
      have k5 : gK w' (cA C 5 p) = some 5 := hX.k' 5 p (by rw [hK.1.1]) hpD
      have k2 : gK w' (cA C 2 lo) = some 2 := hX.k' 2 lo (by rw [hK.1.1]) hlD
      by_cases e0 : cI D 5 5 p = 0
      · rw [if_pos e0] at hk
        have nx := next (p + 1) (.ref (cA C 5 p)) D w' rfl hp hK hX rfl hT (fun x hx e => hndt.1 (by rw [show p = x by omega]; exact hx)) hk
        subst evb
        cases b with
        | zero => exact jd_s cdo_68 hev [29] 20 z00 ⟨k5, _, g5, fun c => absurd e0 c, fun _ => jd_pk [1, 0, 2] nx⟩
        | succ q => exact jd_s cdo_68 hev [29] 20 z00 ⟨k5, _, g5, fun c => absurd e0 c, fun _ => jd_pk [1, 0, 2] nx⟩
      · rw [if_neg e0] at hk
        have nx : ∀ w2, RX (cUnl D lo b p) w2 → Jd l 68 2 0 0 none Po 29 [(2, .ref (cA C 5 p)), (1, vb), (0, .ref (cA C 2 lo))] [] w2 0 0 := fun w2 hX2 => next b vb (cUnl D lo b p) w2 evb hb (hK.tr (cUnl_Kp _ _ _ _)) hX2 (cUnl_57 _ _ _ _ _ (hbt p (List.mem_cons_self ..))) (chL_cong (fun x hx => (cUnl_57 D lo b p x (hbt x (List.mem_cons_of_mem _ hx))).symm) hT) (fun x hx => hbt x (List.mem_cons_of_mem _ hx)) hk
        have hbD : b ≤ cN D 5 := by rw [hK.1.2.1]; exact hb
        have ab := aO D hK.1.1 b
        subst evb
        cases b with
        | zero => exact jd_s cdo_68 hev [29] 20 z00 ⟨k5, _, g5, fun _ => ⟨⟨by decide, by decide, by decide⟩, rfl, k2, D, lo, 0, p, by rw [hK.1.1]; rfl, hX, ⟨hlD, hbD, hpD⟩, nx⟩, fun c => absurd c e0⟩
        | succ q => exact jd_s cdo_68 hev [29] 20 z00 ⟨k5, _, g5, fun _ => ⟨⟨by decide, by decide, by decide⟩, rfl, k2, D, lo, q + 1, p, by rw [ab, hK.1.1]; rfl, hX, ⟨hlD, hbD, hpD⟩, nx⟩, fun c => absurd c e0⟩
  have hlb : cL C 2 2 lo ≤ cN C 5 := hX.lb 2 2 lo (by decide) hl rfl
  have hgr := hX.gr 2 2 lo (by decide) hl rfl
  have := key T (cL C 2 2 lo) 0 C (va_rf (adO C 5 (cL C 2 2 lo))) .null w rfl rfl hlb (Nat.zero_le _) (Kp.rf C) hX hT hnd (fun x hx e => absurd e (by omega)) h
  revert this hgr
  generalize cL C 2 2 lo = c'
  intro hgr this
  cases c' with
  | zero => exact jd_s cdo_68 hev [7] 20 z00 ⟨hX.k 2 lo hl, _, hgr, this⟩
  | succ q => exact jd_s cdo_68 hev [7] 20 z00 ⟨hX.k 2 lo hl, _, hgr, this⟩
end
section
/-! THE CLASS: a watch is made -/
def cWI (C : Cs) (i p q r : Nat) : Cs := wL (wL (wL C 8 0 i (p + 1)) 8 1 i (q + 1)) 8 2 i (r + 1)
def sp_WatchInit : Sp := fun as w K => ∃ C i a p q r, as = [.ref a, .ref (cA C 5 p), .ref (cA C 5 q), .ref (cA C 5 r)] ∧ RX C w ∧ (i < cN C 8 ∧ cA C 8 i = a ∧ p < cN C 5 ∧ q < cN C 5 ∧ r < cN C 5) ∧ ∀ w', RX (cWI C i p q r) w' → K none w'
theorem c_WatchInit (l : Launch) : Ct l 67 1 0 0 sp_WatchInit := by
  refine ct_jd (by decide) rfl (fun as w Po h => ?_)
  obtain ⟨C, i, a, p, q, r, rfl, hX, ⟨hi, rfl, hp, hq, hr⟩, h⟩ := h
  refine ⟨Nat.le_of_ble_eq_true rfl, jd_run cdo_67 ev0 40 z00 ?_⟩
  refine ⟨rfl, by decide, hX.k 8 i hi, some (cA C 5 p), rfl, ?_⟩
  have hX := hX.wl 8 0 i (p + 1) hi hp (by decide)
  refine ⟨hX.k 8 i hi, some (cA C 5 q), rfl, ?_⟩
  have hX := hX.wl 8 1 i (q + 1) hi hq (by decide)
  refine ⟨hX.k 8 i hi, some (cA C 5 r), rfl, ?_⟩
  exact h _ (hX.wl 8 2 i (r + 1) hi hr (by decide))
def cAs3 (C : Cs) (p q r nw : Nat) : Cs := cLR (cLR (cLR C p 2 (nI nw)) q 2 (nI nw)) r 2 (nI nw)
def cAs (C : Cs) (a p q r nw : Nat) : Cs := wI (wL (cWI (wN (cAs3 C p q r nw) 8 a) nw p q r) 26 nw 0 (nw + 1)) 9 10 0 (nI (nw + 1))
theorem cAs3_Kp (C : Cs) (p q r nw : Nat) : Kp C (cAs3 C p q r nw) := ((cLR_Kp _ _ _ _).tr (cLR_Kp _ _ _ _)).tr (cLR_Kp _ _ _ _)
theorem cWI_fx {C : Cs} (h : FX C) (i p q r : Nat) : FX (cWI C i p q r) := FX_wL (FX_wL (FX_wL h _ _ _ _ (by decide)) _ _ _ _ (by decide)) _ _ _ _ (by decide)
def cAsm (a nw cp cq cr : Nat) (C : Cs) : Cs × Nat := match cp, cq, cr with
  | p + 1, q + 1, r + 1 => if nw < 100 then (cAs C a p q r nw, nw + 1) else (C, nw)
  | _, _, _ => (C, nw)
theorem c_asmT (l : Launch) (Po : Option Value → Hp → Prop) (a0 a1 a2 a3 nw : Nat) : ∀ E w2 z, RX E w2 → cA E 9 0 = a0 → cA E 8 nw = z → nw < cN E 8 → FX E → cI E 9 10 0 = nI nw → nw < 100 → (∀ w', RX (wI (wL E 26 nw 0 (nw + 1)) 9 10 0 (nI (nw + 1))) w' → Po none w') → Jd l 66 2 1 4 none Po 67 [(0, .ref a0), (1, .ref a1), (2, .ref a2), (3, .ref a3)] [.ref z, .int (nI nw), .ref (cA E 26 0)] w2 1 4 := by
  intro E w2 z hX eA ez hi hF e10 hn h1
  refine jd_s cdo_66 ev0 [] 40 ⟨by decide, by decide⟩ ?_
  refine ⟨26, ⟨hX.k 26 0 (by rw [hX.qc 26 (by decide) (by decide)]; decide), by decide, by decide, hX.k' 8 nw ez hi⟩, nw, hX.ix 26 (by decide) (by decide) rfl hn, ?_⟩
  have hX := hX.wq' 26 nw nw rfl ez (by decide) (by decide) hi
  refine ⟨hX.k' 9 0 eA hF.x, _, (hX.gi' 9 10 0 eA (by decide) hF.x rfl).trans e10, hX.k' 9 0 eA hF.x, ?_⟩
  have hX := hX.wi' 9 10 0 eA hF.x (nI nw + 1)
  refine h1 _ ?_
  rw [← nI_1]
  exact hX
theorem c_asmN (l : Launch) (Po : Option Value → Hp → Prop) (D : Cs) (w : Hp) (p q r nw : Nat) (hX : RX D w) (hF : FX D) (h10 : cI D 9 10 0 = nI nw) (hc : cN D 8 = nw) (hn : nw < 100) (hp : p < cN D 5) (hq : q < cN D 5) (hr : r < cN D 5) (h1 : ∀ a w', RX (wI (wL (cWI (wN D 8 a) nw p q r) 26 nw 0 (nw + 1)) 9 10 0 (nI (nw + 1))) w' → Po none w') : Jd l 66 2 1 4 none Po 49 [(0, .ref (cA D 9 0)), (1, .ref (cA D 5 p)), (2, .ref (cA D 5 q)), (3, .ref (cA D 5 r))] [] w 0 0 := by
  have hev : ∀ (k : Nat) (r : Nat × Nat × Nat × Sp), evL [(67, 1, 0, 0, sp_WatchInit)] k = some r → Ct l k r.1 r.2.1 r.2.2.1 r.2.2.2 := evL_ok (by simpa using c_WatchInit l)
  have h1 := h1 (gZ w)
  have hX1 := hX.new 8 (by decide)
  have ez : cA (wN D 8 (gZ w)) 8 nw = gZ w := by rw [← hc]; exact cA_new D 8 _
  have hi : nw < cN (wN D 8 (gZ w)) 8 := by have := cN_new D 8 (gZ w); rw [hc] at this; exact this
  have hF1 : FX (wN D 8 (gZ w)) := FX_wN hF 8 _ (by decide)
  have eA : cA (wN D 8 (gZ w)) 9 0 = cA D 9 0 := cA_wNt (by decide)
  have e26 : cA (wN D 8 (gZ w)) 26 0 = cA D 26 0 := cA_wNt (by decide)
  have e5 : ∀ i, cA (wN D 8 (gZ w)) 5 i = cA D 5 i := fun i => cA_wNt (by decide)
  have n5 : cN (wN D 8 (gZ w)) 5 = cN D 5 := cN_wNt (by decide)
  have e10 : cI (wN D 8 (gZ w)) 9 10 0 = nI nw := (cI_wNt (by decide)).trans h10
  refine jd_s cdo_66 hev [67] 40 ⟨by decide, by decide⟩ ?_
  refine ⟨hX.k 9 0 hF.x, _, hX.g1 9 3 0 (by decide) hF.x rfl hF.l3, hX.k 9 0 hF.x, _, (hX.gi 9 10 0 (by decide) hF.x rfl).trans h10, ⟨by decide, by decide⟩, ?_⟩
  refine ⟨⟨by decide, by decide, by decide⟩, rfl, wN D 8 (gZ w), nw, gZ w, p, q, r, by rw [e5, e5, e5]; rfl, hX1, ⟨hi, ez, by rw [n5]; exact hp, by rw [n5]; exact hq, by rw [n5]; exact hr⟩, fun w2 hX2 => ?_⟩
  have f10 : cI (cWI (wN D 8 (gZ w)) nw p q r) 9 10 0 = nI nw := e10
  have fA : cA (cWI (wN D 8 (gZ w)) nw p q r) 9 0 = cA D 9 0 := eA
  have f26 : cA (cWI (wN D 8 (gZ w)) nw p q r) 26 0 = cA D 26 0 := e26
  have fz : cA (cWI (wN D 8 (gZ w)) nw p q r) 8 nw = gZ w := ez
  have fi : nw < cN (cWI (wN D 8 (gZ w)) nw p q r) 8 := hi
  have fF : FX (cWI (wN D 8 (gZ w)) nw p q r) := cWI_fx hF1 _ _ _ _
  have := c_asmT l Po (cA D 9 0) (cA D 5 p) (cA D 5 q) (cA D 5 r) nw _ w2 _ hX2 fA fz fi fF f10 hn h1
  rw [f26] at this
  exact this
def sp_asm : Sp := fun as w K => ∃ C cp cq cr nw, as = [.ref (cA C 9 0), va_rf (adO C 5 cp), va_rf (adO C 5 cq), va_rf (adO C 5 cr)] ∧ RX C w ∧ FX C ∧ (cI C 9 10 0 = nI nw ∧ nw ≤ 100 ∧ cN C 8 = nw) ∧ (cp ≤ cN C 5 ∧ cq ≤ cN C 5 ∧ cr ≤ cN C 5) ∧ ∀ a w', RX (cAsm a nw cp cq cr C).1 w' → K none w'
theorem c_asm (l : Launch) : Ct l 66 2 1 4 sp_asm := by
  have hev : ∀ (k : Nat) (r : Nat × Nat × Nat × Sp), evL [(29, 1, 0, 0, sp_leaveRow)] k = some r → Ct l k r.1 r.2.1 r.2.2.1 r.2.2.2 := evL_ok (by simpa using c_leaveRow l)
  refine ct_jd (by decide) rfl (fun as w Po h => ?_)
  obtain ⟨C, cp, cq, cr, nw, rfl, hX, hF, ⟨h10, hnw, hc⟩, ⟨hp, hq, hr⟩, h⟩ := h
  cases cp with
  | zero =>
    refine ⟨by cases cq <;> cases cr <;> exact Nat.le_of_ble_eq_true rfl, ?_⟩
    cases cq <;> cases cr <;> exact jd_s cdo_66 hev [] 20 ⟨by decide, by decide⟩ (h 0 w hX)
  | succ p =>
    cases cq with
    | zero =>
      refine ⟨by cases cr <;> exact Nat.le_of_ble_eq_true rfl, ?_⟩
      cases cr <;> exact jd_s cdo_66 hev [] 20 ⟨by decide, by decide⟩ (h 0 w hX)
    | succ q =>
      cases cr with
      | zero => exact ⟨Nat.le_of_ble_eq_true rfl, jd_s cdo_66 hev [] 20 ⟨by decide, by decide⟩ (h 0 w hX)⟩
      | succ r =>
        have hp : p < cN C 5 := hp
        have hq : q < cN C 5 := hq
        have hr : r < cN C 5 := hr
        refine ⟨Nat.le_of_ble_eq_true rfl, jd_s cdo_66 hev [49] 40 ⟨by decide, by decide⟩ ?_⟩
        refine ⟨hX.k 9 0 hF.x, _, (hX.gi 9 10 0 (by decide) hF.x rfl).trans h10, fun c => ?_, fun c => ?_⟩
        · have hn : nw < 100 := (nI_ltI (a := nw) (b := 100) (by omega) (by omega)).mp c
          have h : ∀ a w', RX (cAs C a p q r nw) w' → Po none w' := fun a w' hX' => h a w' (by
            show RX (if nw < 100 then (cAs C a p q r nw, nw + 1) else (C, nw)).1 w'
            rw [if_pos hn]
            exact hX')
          refine ⟨hX.k 9 0 hF.x, _, (hX.gi 9 10 0 (by decide) hF.x rfl).trans h10, ?_⟩
          refine ⟨⟨by decide, by decide, by decide⟩, rfl, hX.k 5 p hp, C, p, 2, nI nw, rfl, hX, hp, fun w2 hX2 => ?_⟩
          have hK1 := cLR_Kp C p 2 (nI nw)
          have g1 : cI (cLR C p 2 (nI nw)) 9 10 0 = nI nw := (hK1.2.1 9 10 0 (by decide) (by decide) (by decide)).trans h10
          refine ⟨hX2.k 9 0 (hK1.fx hF).x, _, (hX2.gi 9 10 0 (by decide) (hK1.fx hF).x rfl).trans g1, ?_⟩
          refine ⟨⟨by decide, by decide, by decide⟩, rfl, hX2.k 5 q hq, cLR C p 2 (nI nw), q, 2, nI nw, rfl, hX2, hq, fun w3 hX3 => ?_⟩
          have hK2 := hK1.tr (cLR_Kp (cLR C p 2 (nI nw)) q 2 (nI nw))
          have g2 : cI (cLR (cLR C p 2 (nI nw)) q 2 (nI nw)) 9 10 0 = nI nw := (hK2.2.1 9 10 0 (by decide) (by decide) (by decide)).trans h10
          refine ⟨hX3.k 9 0 (hK2.fx hF).x, _, (hX3.gi 9 10 0 (by decide) (hK2.fx hF).x rfl).trans g2, ?_⟩
          refine ⟨⟨by decide, by decide, by decide⟩, rfl, hX3.k 5 r hr, cLR (cLR C p 2 (nI nw)) q 2 (nI nw), r, 2, nI nw, rfl, hX3, hr, fun w4 hX4 => ?_⟩
          have hK3 := cAs3_Kp C p q r nw
          have g3 : cI (cAs3 C p q r nw) 9 10 0 = nI nw := (hK3.2.1 9 10 0 (by decide) (by decide) (by decide)).trans h10
          exact c_asmN l Po (cAs3 C p q r nw) w4 p q r nw hX4 (hK3.fx hF) g3 hc hn hp hq hr h
        · have hn : ¬ nw < 100 := fun z => c ((nI_ltI (a := nw) (b := 100) (by omega) (by omega)).mpr z)
          refine h 0 w ?_
          show RX (if nw < 100 then (cAs C 0 p q r nw, nw + 1) else (C, nw)).1 w
          rw [if_neg hn]
          exact hX
end
section
/-! THE CLASS: make -/
theorem Ct.mono {l : Launch} {k lv mc ms : Nat} {sp sp' : Sp} (h : Ct l k lv mc ms sp) (i : ∀ as w K, sp' as w K → sp as w K) : Ct l k lv mc ms sp' := fun G A as w Po q => h G A as w Po (i as w Po q)
def pAt (C : Cs) (lo n : Nat) (x : Int32) : Nat := if 0 ≤ x ∧ x < nI n then cNth C (pN x) (cL C 2 2 lo) else 0
def sp_pA : Sp := fun as w K => ∃ C l x n, as = [.ref (cA C 2 l), .int x] ∧ RX C w ∧ (l < cN C 2 ∧ cI C 2 4 l = nI n ∧ n ≤ 300) ∧ (pAt C l n x ≤ cN C 5 → K (some (va_rf (adO C 5 (pAt C l n x)))) w)
theorem c_pA (l : Launch) : Ct l 37 1 0 0 sp_pA := by
  refine (c_pieceAt l).mono (fun as w K h => ?_)
  obtain ⟨C, lo, x, n, e, hX, hl, h⟩ := h
  have hn := hl.2.2
  refine ⟨C, lo, x, n, e, hX, hl, fun i hi ex hb => ?_, fun q => ?_⟩
  · have e2 : pAt C lo n x = cNth C i (cL C 2 2 lo) := by
      unfold pAt
      rw [if_pos ⟨by rw [ex]; exact nI_le (a := 0) (Nat.zero_le _) (by omega), by rw [ex]; exact (nI_ltI (by omega) (by omega)).mpr hi⟩, ex, pN_n (by omega)]
    rw [e2] at h
    exact h hb
  · have e2 : pAt C lo n x = 0 := by
      unfold pAt
      refine if_neg (fun z => q ?_)
      obtain ⟨i, hi, rfl⟩ := nlt0 (le_nlt z.1)
      exact ⟨i, (nI_ltI hi (by omega)).mp z.2, rfl⟩
    rw [e2] at h
    exact h (Nat.zero_le _)
/-- only what making keeps has changed -/
def Km (C D : Cs) : Prop := (cA D = cA C ∧ cN D = cN C ∧ cL D = cL C) ∧ ∀ t k i, t ≠ 3 → t ≠ 4 → cI D t k i = cI C t k i
theorem Km.tr {C D E : Cs} (h : Km C D) (g : Km D E) : Km C E := ⟨⟨g.1.1.trans h.1.1, g.1.2.1.trans h.1.2.1, g.1.2.2.trans h.1.2.2⟩, fun t k i a b => (g.2 t k i a b).trans (h.2 t k i a b)⟩
theorem Km.wi (C : Cs) (t k i : Nat) (v : Int32) (ht : t = 3 ∨ t = 4) : Km C (wI C t k i v) := ⟨⟨rfl, rfl, rfl⟩, fun t' k' i' a b => (cI_wI C t k i v t' k' i').trans (if_neg (fun q => by omega))⟩
theorem Km.wm (C : Cs) (m : Nat) (s : St) : Km C (wM C m s) := ⟨⟨rfl, rfl, rfl⟩, fun t k i _ b => wM_ot C m s t k i b⟩
theorem Km.wz (C : Cs) (m : Nat) (z : St3) : Km C (wZ C m z) := ⟨⟨rfl, rfl, rfl⟩, fun t k i _ b => wZ_ot C m z t k i b⟩
theorem Km.wf (C : Cs) (m : Nat) (e : Nat → Int32) : Km C (wF C m e) := ⟨⟨rfl, rfl, rfl⟩, fun _ _ _ _ _ => rfl⟩
theorem cMR_Km (n : Nat) (C : Cs) (wl : Nat) (P W S : List Nat) : Km C (cMR n C wl P W S) := by
  have r : ∀ D m f W M, Km D (cRL n D m f W M) := fun D m f W M => ((Km.wm D m _).tr (Km.wi _ 4 3 m 0 (by decide))).tr (Km.wf _ _ _)
  exact ((Km.wi C 3 2 0 _ (by decide)).tr (r _ _ _ _ _)).tr (r _ _ _ _ _)
theorem cCh_Km (fu f : Nat) (D : Cs) : Km D (cCh fu f D) := by
  unfold cCh wT wB
  exact (((Km.wi D 3 3 0 _ (by decide)).tr (Km.wi _ 3 4 0 _ (by decide))).tr (Km.wm _ _ _)).tr (Km.wm _ _ _)
theorem cCM_Km (fu n : Nat) (D : Cs) : Km D (cCM fu n D) := (Km.wz D 0 _).tr (Km.wz _ 1 _)
theorem Km.fx {C D : Cs} (h : Km C D) (f : FX C) : FX D := by
  obtain ⟨h1, h2, h3, h4⟩ := f
  refine ⟨by rw [h.1.2.1]; exact h1, by rw [h.1.2.2]; exact h2, by rw [h.1.2.2]; exact h3, by rw [h.1.2.2]; exact h4⟩
/-- only pieces' numbers, watches and their count have changed -/
def Kw (B D : Cs) (nw : Nat) : Prop := FX D ∧ (∀ t i, t ≠ 8 → cA D t i = cA B t i) ∧ (∀ t, t ≠ 8 → cN D t = cN B t) ∧ (∀ t k i, t ≠ 5 → t ≠ 8 → t ≠ 9 → cI D t k i = cI B t k i) ∧ (∀ t k i, t ≠ 8 → t ≠ 26 → cL D t k i = cL B t k i) ∧ cX D = cX B ∧ cI D 9 10 0 = nI nw ∧ nw ≤ 100 ∧ cN D 8 = nw
theorem cLR_I (C : Cs) (p : Nat) (s v : Int32) (t k i : Nat) (h : t ≠ 5) : cI (cLR C p s v) t k i = cI C t k i := by
  rw [cLR, cI_wI, if_neg (fun q => h q.1), cI_wI, if_neg (fun q => h q.1)]
theorem cWI_I (C : Cs) (i p q r t k j : Nat) : cI (cWI C i p q r) t k j = cI C t k j := by rw [cWI, cI_wL, cI_wL, cI_wL]
theorem cWI_L (C : Cs) (i p q r t k j : Nat) (h : t ≠ 8) : cL (cWI C i p q r) t k j = cL C t k j := by
  rw [cWI, cL_wL, if_neg (fun z => h z.1), cL_wL, if_neg (fun z => h z.1), cL_wL, if_neg (fun z => h z.1)]
theorem cAs3_I (C : Cs) (p q r nw t k i : Nat) (h : t ≠ 5) : cI (cAs3 C p q r nw) t k i = cI C t k i := by
  rw [cAs3, cLR_I _ _ _ _ _ _ _ h, cLR_I _ _ _ _ _ _ _ h, cLR_I _ _ _ _ _ _ _ h]
theorem cAs_Kw {B D : Cs} {nw a p q r : Nat} (hn : nw < 100) (h : Kw B D nw) : Kw B (cAs D a p q r nw) (nw + 1) := by
  obtain ⟨hF, hA, hN, hI, hL, hXx, h10, hnw, h8⟩ := h
  have hK := cAs3_Kp D p q r nw
  have h38 : cN (cAs3 D p q r nw) 8 = nw := by rw [hK.1.2.1]; exact h8
  refine ⟨FX_wI (FX_wL (cWI_fx (FX_wN (hK.fx hF) 8 a (by decide)) _ _ _ _) _ _ _ _ (by decide)) _ _ _ _, fun t i ht => ?_, fun t ht => ?_, fun t k i h5 h8 h9 => ?_, fun t k i h8 h26 => ?_, ?_, ?_, by omega, ?_⟩
  · exact (cA_wNt (C := cAs3 D p q r nw) (a := a) ht).trans (by rw [hK.1.1]; exact hA t i ht)
  · exact (cN_wNt (C := cAs3 D p q r nw) (a := a) ht).trans (by rw [hK.1.2.1]; exact hN t ht)
  · rw [cAs, cI_wI, if_neg (fun z => h9 z.1), cI_wL, cWI_I, cI_wNt h8, cAs3_I _ _ _ _ _ _ _ _ h5]
    exact hI t k i h5 h8 h9
  · rw [cAs, cL_wI, cL_wL, if_neg (fun z => h26 z.1), cWI_L _ _ _ _ _ _ _ _ h8, cL_wNt h8]
    exact hL t k i h8 h26
  · exact hXx
  · rw [cAs, cI_wI, if_pos ⟨rfl, rfl, rfl⟩]
  · exact (cN_wN (cAs3 D p q r nw) 8 a 8).trans (by rw [if_pos rfl, h38])
theorem cAsm_Kw {B D : Cs} {nw a cp cq cr : Nat} (h : Kw B D nw) : Kw B (cAsm a nw cp cq cr D).1 (cAsm a nw cp cq cr D).2 := by
  unfold cAsm
  split
  · split
    · rename_i hn
      exact cAs_Kw hn h
    · exact h
  · exact h
def mkL (pl wl sl n0 n1 n2 : Nat) : List Nat → Nat → Nat → Cs → Cs × Nat
  | [], _, nw, D => (D, nw)
  | a :: t, i, nw, D => if cI D 3 4 0 >>> (nI i &&& 31) &&& 1 = 1 then mkL pl wl sl n0 n1 n2 t (i + 1) (cAsm a nw (pAt D pl n0 (cX D 2 i)) (pAt D wl n1 (nI i)) (pAt D sl n2 (cX D 5 i)) D).2 (cAsm a nw (pAt D pl n0 (cX D 2 i)) (pAt D wl n1 (nI i)) (pAt D sl n2 (cX D 5 i)) D).1 else mkL pl wl sl n0 n1 n2 t (i + 1) nw D
def Lz (B : Cs) (lo n : Nat) : Prop := lo < cN B 2 ∧ cI B 2 4 lo = nI n ∧ n ≤ 300
theorem cUnl_22 (D : Cs) (lo b p j : Nat) (h : j ≠ lo) : cL (cUnl D lo b p) 2 2 j = cL D 2 2 j := by
  have e1 : cL (cUn1 D lo b p) 2 2 j = cL D 2 2 j := by
    cases b with
    | zero => exact (cL_wL D 2 2 lo _ 2 2 j).trans (if_neg (fun q => h q.2.2))
    | succ q => exact (cL_wL D 5 7 q _ 2 2 j).trans (if_neg (fun z => absurd z.1 (by decide)))
  unfold cUnl
  rw [cL_wI]
  split
  · rw [cL_wL, if_neg (fun q => absurd q.2.1 (by decide)), e1]
  · exact e1
theorem cDT_57 (lo x : Nat) : ∀ T b D, (∀ y, y ∈ T → y ≠ x) → b ≠ x + 1 → cL (cDT lo T b D) 5 7 x = cL D 5 7 x
  | [], _, _, _, _ => rfl
  | p :: t, b, D, hT, hb => by
    unfold cDT
    split
    · exact cDT_57 lo x t _ _ (fun y hy => hT y (List.mem_cons_of_mem _ hy)) (fun e => hT p (List.mem_cons_self ..) (by omega))
    · rw [cDT_57 lo x t _ _ (fun y hy => hT y (List.mem_cons_of_mem _ hy)) hb, cUnl_57 _ _ _ _ _ hb]
theorem cDT_22 (lo j : Nat) (h : j ≠ lo) : ∀ T b D, cL (cDT lo T b D) 2 2 j = cL D 2 2 j
  | [], _, _ => rfl
  | p :: t, b, D => by
    unfold cDT
    split
    · exact cDT_22 lo j h t _ _
    · rw [cDT_22 lo j h t, cUnl_22 _ _ _ _ _ h]
theorem chL_DT {lo j : Nat} (h : j ≠ lo) {T U : List Nat} {D : Cs} (hd : ∀ y, y ∈ T → y ∉ U) (hU : chL (cL D 5 7) (cL D 2 2 j) U) : chL (cL (cDT lo T 0 D) 5 7) (cL (cDT lo T 0 D) 2 2 j) U := by
  rw [cDT_22 lo j h]
  exact chL_cong (fun x hx => (cDT_57 lo x T 0 D (fun y hy e => hd y hy (by rw [e]; exact hx)) (by omega)).symm) hU
end
section
/-! THE CLASS: make, its loop -/
theorem mkE (l : Launch) : ∀ (k : Nat) (r : Nat × Nat × Nat × Sp), evL [(62, 1, 0, 0, sp_takes), (63, 2, 0, 0, sp_for 0), (65, 2, 0, 0, sp_for 1), (37, 1, 0, 0, sp_pA), (66, 2, 1, 4, sp_asm)] k = some r → Ct l k r.1 r.2.1 r.2.2.1 r.2.2.2 := evL_ok (by simpa using ⟨c_takes l, c_plateFor l, c_stoneFor l, c_pA l, c_asm l⟩)
theorem c_mkK (l : Launch) (Po : Option Value → Hp → Prop) (B : Cs) (a9 aP aW aS : Nat) (x y z made : Int32) (pl wl sl n0 n1 n2 : Nat) (hB9 : cA B 9 0 = a9) (hBP : cA B 2 pl = aP) (hBW : cA B 2 wl = aW) (hBS : cA B 2 sl = aS) (z0 : Lz B pl n0) (z1 : Lz B wl n1) (z2 : Lz B sl n2) : ∀ d i nw D w' nc ns, i + d = 10 → nc ≤ i → ns ≤ 4 * i → RX D w' → Kw B D nw → (∀ ads nc' ns' w2, ads.length = d → nc' ≤ 10 → ns' ≤ 40 → RX (mkL pl wl sl n0 n1 n2 ads i nw D).1 w2 → Kw B (mkL pl wl sl n0 n1 n2 ads i nw D).1 (mkL pl wl sl n0 n1 n2 ads i nw D).2 → Jd l 57 28 10 40 (some .int) Po 145 [(8, .int (nI 10)), (7, .int made), (6, .ref aS), (5, .ref aW), (4, .ref aP), (0, .ref a9), (1, .int x), (2, .int y), (3, .int z)] [] w2 nc' ns') → Jd l 57 28 10 40 (some .int) Po 81 [(8, .int (nI i)), (7, .int made), (6, .ref aS), (5, .ref aW), (4, .ref aP), (0, .ref a9), (1, .int x), (2, .int y), (3, .int z)] [] w' nc ns := by
  intro d
  induction d with
  | zero =>
    intro i nw D w' nc ns hi hnc hns hX hK hk
    obtain rfl : i = 10 := by omega
    exact jd_s cdo_57 (mkE l) [145] 10 ⟨by omega, by omega⟩ ⟨fun _ => hk [] nc ns w' rfl (by omega) (by omega) hX hK, fun c => absurd (by decide) c⟩
  | succ d ih =>
    intro i nw D w' nc ns hi hnc hns hX hK hk
    have hK0 := hK
    obtain ⟨hF, hA, hN, hI, hL, hXx, h10, hnw, h8⟩ := hK
    have e9 : cA D 9 0 = a9 := (hA 9 0 (by decide)).trans hB9
    have eP : cA D 2 pl = aP := (hA 2 pl (by decide)).trans hBP
    have eW : cA D 2 wl = aW := (hA 2 wl (by decide)).trans hBW
    have eS : cA D 2 sl = aS := (hA 2 sl (by decide)).trans hBS
    have y0 : Lz D pl n0 := ⟨by rw [hN 2 (by decide)]; exact z0.1, (hI 2 4 pl (by decide) (by decide) (by decide)).trans z0.2.1, z0.2.2⟩
    have y1 : Lz D wl n1 := ⟨by rw [hN 2 (by decide)]; exact z1.1, (hI 2 4 wl (by decide) (by decide) (by decide)).trans z1.2.1, z1.2.2⟩
    have y2 : Lz D sl n2 := ⟨by rw [hN 2 (by decide)]; exact z2.1, (hI 2 4 sl (by decide) (by decide) (by decide)).trans z2.2.1, z2.2.2⟩
    have h3 : 0 < cN D 3 := by rw [hF.1.2.2.1]; decide
    have g6 : gR w' 9 6 a9 = some (cA D 3 0) := (hX.gr' 9 6 0 e9 (by decide) hF.x rfl).trans (by rw [hF.l6]; rfl)
    have k9 : gK w' a9 = some 9 := hX.k' 9 0 e9 hF.x
    have kP : gK w' aP = some 2 := hX.k' 2 pl eP y0.1
    have kW : gK w' aW = some 2 := hX.k' 2 wl eW y1.1
    have kS : gK w' aS = some 2 := hX.k' 2 sl eS y2.1
    have s139 : ∀ nw' D' w2 nc' ns', nc' ≤ i + 1 → ns' ≤ 4 * (i + 1) → RX D' w2 → Kw B D' nw' → (∀ ads nc' ns' w2, ads.length = d → nc' ≤ 10 → ns' ≤ 40 → RX (mkL pl wl sl n0 n1 n2 ads (i + 1) nw' D').1 w2 → Kw B (mkL pl wl sl n0 n1 n2 ads (i + 1) nw' D').1 (mkL pl wl sl n0 n1 n2 ads (i + 1) nw' D').2 → Jd l 57 28 10 40 (some .int) Po 145 [(8, .int (nI 10)), (7, .int made), (6, .ref aS), (5, .ref aW), (4, .ref aP), (0, .ref a9), (1, .int x), (2, .int y), (3, .int z)] [] w2 nc' ns') → Jd l 57 28 10 40 (some .int) Po 139 [(8, .int (nI i)), (7, .int made), (6, .ref aS), (5, .ref aW), (4, .ref aP), (0, .ref a9), (1, .int x), (2, .int y), (3, .int z)] [] w2 nc' ns' := by
      intro nw' D' w2 nc' ns' hnc' hns' hX' hK' hk'
      have := ih (i + 1) nw' D' w2 nc' ns' (by omega) hnc' hns' hX' hK' hk'
      rw [← nI_1] at this
      exact jd_s cdo_57 (mkE l) [81] 10 ⟨by omega, by omega⟩ this
    by_cases ct : cI D 3 4 0 >>> (nI i &&& 31) &&& 1 = 1
    · have hk : ∀ a ads nc' ns' w2, ads.length = d → nc' ≤ 10 → ns' ≤ 40 → RX (mkL pl wl sl n0 n1 n2 ads (i + 1) (cAsm a nw (pAt D pl n0 (cX D 2 i)) (pAt D wl n1 (nI i)) (pAt D sl n2 (cX D 5 i)) D).2 (cAsm a nw (pAt D pl n0 (cX D 2 i)) (pAt D wl n1 (nI i)) (pAt D sl n2 (cX D 5 i)) D).1).1 w2 → Kw B (mkL pl wl sl n0 n1 n2 ads (i + 1) (cAsm a nw (pAt D pl n0 (cX D 2 i)) (pAt D wl n1 (nI i)) (pAt D sl n2 (cX D 5 i)) D).2 (cAsm a nw (pAt D pl n0 (cX D 2 i)) (pAt D wl n1 (nI i)) (pAt D sl n2 (cX D 5 i)) D).1).1 (mkL pl wl sl n0 n1 n2 ads (i + 1) (cAsm a nw (pAt D pl n0 (cX D 2 i)) (pAt D wl n1 (nI i)) (pAt D sl n2 (cX D 5 i)) D).2 (cAsm a nw (pAt D pl n0 (cX D 2 i)) (pAt D wl n1 (nI i)) (pAt D sl n2 (cX D 5 i)) D).1).2 → Jd l 57 28 10 40 (some .int) Po 145 [(8, .int (nI 10)), (7, .int made), (6, .ref aS), (5, .ref aW), (4, .ref aP), (0, .ref a9), (1, .int x), (2, .int y), (3, .int z)] [] w2 nc' ns' := by
        intro a ads nc' ns' w2 ha hnc' hns' hX' hK'
        have := hk (a :: ads) nc' ns' w2 (by rw [List.length_cons, ha]) hnc' hns'
        rw [mkL, if_pos ct] at this
        exact this hX' hK'
      have s122 : ∀ c1 c2 v1 v2, v1 = va_rf (adO D 5 c1) → v2 = va_rf (adO D 5 c2) → c1 = pAt D pl n0 (cX D 2 i) → c2 = pAt D wl n1 (nI i) → c1 ≤ cN D 5 → c2 ≤ cN D 5 → Jd l 57 28 10 40 (some .int) Po 122 [(8, .int (nI i)), (7, .int made), (6, .ref aS), (5, .ref aW), (4, .ref aP), (0, .ref a9), (1, .int x), (2, .int y), (3, .int z)] [v2, v1, .ref a9] w' nc ns := by
        intro c1 c2 v1 v2 e1 e2 q1 q2 b1 b2
        have cont : ∀ w2 nc' ns', nc' = nc + 1 → ns' = ns + 4 → ∀ a, RX (cAsm a nw c1 c2 (pAt D sl n2 (cX D 5 i)) D).1 w2 → Jd l 57 28 10 40 (some .int) Po 139 [(8, .int (nI i)), (7, .int made), (6, .ref aS), (5, .ref aW), (4, .ref aP), (0, .ref a9), (1, .int x), (2, .int y), (3, .int z)] [] w2 nc' ns' := by
          intro w2 nc' ns' hnc' hns' a hX2
          rw [q1, q2] at hX2
          exact s139 _ _ w2 nc' ns' (by omega) (by omega) hX2 (cAsm_Kw hK0) (hk a)
        subst e1 e2
        cases c1 <;> cases c2 <;>
        · refine jd_s cdo_57 (mkE l) [139] 30 ⟨by omega, by omega⟩ ⟨k9, _, g6, ?_⟩
          refine ⟨⟨show 2 < 28 by decide, show nc + 0 ≤ 10 by omega, show ns + 0 ≤ 40 by omega⟩, rfl, hX.k 3 0 h3, D, i, rfl, hX, hF, by omega, ?_⟩
          refine ⟨⟨show 1 < 28 by decide, show nc + 0 + 0 ≤ 10 by omega, show ns + 0 + 0 ≤ 40 by omega⟩, rfl, kS, D, sl, cX D 5 i, n2, by rw [eS]; rfl, hX, y2, fun b3 => ?_⟩
          refine ⟨⟨show 2 < 28 by decide, show nc + 0 + 0 + 1 ≤ 10 by omega, show ns + 0 + 0 + 4 ≤ 40 by omega⟩, rfl, k9, D, _, _, _, nw, by rw [e9]; rfl, hX, hF, ⟨h10, hnw, h8⟩, ⟨b1, b2, b3⟩, fun a w2 hX2 => ?_⟩
          exact cont w2 _ _ rfl rfl a hX2
      have s115 : ∀ c1 v1, v1 = va_rf (adO D 5 c1) → c1 = pAt D pl n0 (cX D 2 i) → c1 ≤ cN D 5 → Jd l 57 28 10 40 (some .int) Po 115 [(8, .int (nI i)), (7, .int made), (6, .ref aS), (5, .ref aW), (4, .ref aP), (0, .ref a9), (1, .int x), (2, .int y), (3, .int z)] [v1, .ref a9] w' nc ns := by
        intro c1 v1 e1 q1 b1
        subst e1
        cases c1 <;>
        · refine jd_s cdo_57 (mkE l) [122] 30 ⟨by omega, by omega⟩ ⟨⟨show 1 < 28 by decide, show nc + 0 ≤ 10 by omega, show ns + 0 ≤ 40 by omega⟩, rfl, kW, D, wl, nI i, n1, by rw [eW]; rfl, hX, y1, fun b2 => ?_⟩
          exact s122 _ _ _ _ rfl rfl q1 rfl b1 b2
      refine jd_s cdo_57 (mkE l) [115] 40 ⟨by omega, by omega⟩ ⟨fun c => ?_, fun _ => ?_⟩
      · have := ge_n (a := i) (b := 10) (by omega) (by omega) c
        omega
      refine ⟨k9, _, g6, ⟨show 1 < 28 by decide, show nc + 0 ≤ 10 by omega, show ns + 0 ≤ 40 by omega⟩, rfl, hX.k 3 0 h3, D, nI i, rfl, hX, hF, fun _ => br1 ?_, fun c => absurd ct c⟩
      refine ⟨k9, _, g6, ⟨show 2 < 28 by decide, show nc + 0 + 0 ≤ 10 by omega, show ns + 0 + 0 ≤ 40 by omega⟩, rfl, hX.k 3 0 h3, D, i, rfl, hX, hF, by omega, ?_⟩
      refine ⟨⟨show 1 < 28 by decide, show nc + 0 + 0 + 0 ≤ 10 by omega, show ns + 0 + 0 + 0 ≤ 40 by omega⟩, rfl, kP, D, pl, cX D 2 i, n0, by rw [eP]; rfl, hX, y0, fun b1 => ?_⟩
      exact s115 _ _ rfl rfl b1
    · refine jd_s cdo_57 (mkE l) [139] 40 ⟨by omega, by omega⟩ ⟨fun c => ?_, fun _ => ?_⟩
      · have := ge_n (a := i) (b := 10) (by omega) (by omega) c
        omega
      refine ⟨k9, _, g6, ⟨show 1 < 28 by decide, show nc + 0 ≤ 10 by omega, show ns + 0 ≤ 40 by omega⟩, rfl, hX.k 3 0 h3, D, nI i, rfl, hX, hF, fun c => absurd c ct, fun _ => br0 ?_⟩
      refine s139 nw D w' _ _ (show nc + 0 ≤ i + 1 by omega) (show ns + 0 ≤ 4 * (i + 1) by omega) hX hK0 (fun ads nc' ns' w2 ha hnc' hns' hX' hK' => ?_)
      have := hk (0 :: ads) nc' ns' w2 (by rw [List.length_cons, ha]) hnc' hns'
      rw [mkL, if_neg ct] at this
      exact this hX' hK'
def cMkE (pl wl sl : Nat) (P W S : List Nat) (D : Cs) : Cs := cDT sl S 0 (cDT wl W 0 (cDT pl P 0 D))
theorem c_mkE (l : Launch) (Po : Option Value → Hp → Prop) (D : Cs) (a9 aP aW aS : Nat) (x y z made : Int32) (pl wl sl : Nat) (P W S : List Nat) (w : Hp) (nc ns : Nat) (hnc : nc ≤ 10) (hns : ns ≤ 40) (hX : RX D w) (eP : cA D 2 pl = aP) (eW : cA D 2 wl = aW) (eS : cA D 2 sl = aS) (hl : pl < cN D 2 ∧ wl < cN D 2 ∧ sl < cN D 2) (hne : wl ≠ pl ∧ sl ≠ pl ∧ sl ≠ wl) (hc : chL (cL D 5 7) (cL D 2 2 pl) P ∧ chL (cL D 5 7) (cL D 2 2 wl) W ∧ chL (cL D 5 7) (cL D 2 2 sl) S) (hnd : P.Nodup ∧ W.Nodup ∧ S.Nodup) (hd : (∀ y, y ∈ P → y ∉ W) ∧ (∀ y, y ∈ P → y ∉ S) ∧ (∀ y, y ∈ W → y ∉ S)) (hk : ∀ w', RX (cMkE pl wl sl P W S D) w' → Po (some (.int made)) w') : Jd l 57 28 10 40 (some .int) Po 145 [(8, .int (nI 10)), (7, .int made), (6, .ref aS), (5, .ref aW), (4, .ref aP), (0, .ref a9), (1, .int x), (2, .int y), (3, .int z)] [] w nc ns := by
  have hev : ∀ (k : Nat) (r : Nat × Nat × Nat × Sp), evL [(68, 2, 0, 0, sp_dropTaken)] k = some r → Ct l k r.1 r.2.1 r.2.2.1 r.2.2.2 := evL_ok (by simpa using c_dropTaken l)
  have K1 := cDT_Kp pl P 0 D
  have K2 := K1.tr (cDT_Kp wl W 0 (cDT pl P 0 D))
  have W1 := chL_DT hne.1 hd.1 hc.2.1
  have S1 := chL_DT hne.2.1 hd.2.1 hc.2.2
  have S2 := chL_DT hne.2.2 hd.2.2 S1
  refine jd_s cdo_57 hev [] 40 ⟨hnc, hns⟩ ?_
  refine ⟨⟨show 2 < 28 by decide, show nc + 0 ≤ 10 by omega, show ns + 0 ≤ 40 by omega⟩, rfl, hX.k' 2 pl eP hl.1, D, pl, P, by rw [eP]; rfl, hX, hl.1, ⟨hc.1, hnd.1⟩, fun w1 hX1 => ?_⟩
  have l1 : wl < cN (cDT pl P 0 D) 2 := by rw [K1.1.2.1]; exact hl.2.1
  have a1 : cA (cDT pl P 0 D) 2 wl = aW := by rw [K1.1.1]; exact eW
  refine ⟨⟨show 2 < 28 by decide, show nc + 0 + 0 ≤ 10 by omega, show ns + 0 + 0 ≤ 40 by omega⟩, rfl, hX1.k' 2 wl a1 l1, cDT pl P 0 D, wl, W, by rw [a1]; rfl, hX1, l1, ⟨W1, hnd.2.1⟩, fun w2 hX2 => ?_⟩
  have l2 : sl < cN (cDT wl W 0 (cDT pl P 0 D)) 2 := by rw [K2.1.2.1]; exact hl.2.2
  have a2 : cA (cDT wl W 0 (cDT pl P 0 D)) 2 sl = aS := by rw [K2.1.1]; exact eS
  exact ⟨⟨show 2 < 28 by decide, show nc + 0 + 0 + 0 ≤ 10 by omega, show ns + 0 + 0 + 0 ≤ 40 by omega⟩, rfl, hX2.k' 2 sl a2 l2, cDT wl W 0 (cDT pl P 0 D), sl, S, by rw [a2]; rfl, hX2, l2, ⟨S2, hnd.2.2⟩, fun w3 hX3 => hk w3 hX3⟩
def cMB (n fu f : Nat) (C : Cs) (b : Nat) (P W S : List Nat) : Cs := cCM fu n (cCh fu f (cMR n C b P W S))
def sp_cmake (n fu f : Nat) : Sp := fun as w K => ∃ C x y z nl nw, ∃ R : Nat → List Nat, as = [.ref (cA C 9 0), .int x, .int y, .int z] ∧ RX C w ∧ FX C ∧ NB C 24 2 8 60 nl ∧ (cI C 9 10 0 = nI nw ∧ nw ≤ 100 ∧ cN C 8 = nw) ∧ LR C nl R ∧ (n = 10 ∧ (∀ j, j < nl → (R j).Nodup) ∧ ∀ i j, i < nl → j < nl → i ≠ j → ∀ y, y ∈ R i → y ∉ R j) ∧ (∀ a b c, okL C nl x 0 a → okL C nl y 1 b → okL C nl z 2 c → ∀ (ads : List Nat) w', ads.length = 10 → RX (cMkE a b c (R a) (R b) (R c) (mkL a b c (R a).length (R b).length (R c).length ads 0 nw (cMB n fu f C b (R a) (R b) (R c))).1) w' → K (some (.int (tWD fu f (cMR n C b (R a) (R b) (R c))).1.1)) w') ∧ ((¬ ∃ a b c, okL C nl x 0 a ∧ okL C nl y 1 b ∧ okL C nl z 2 c) → K (some (.int (-1))) w)
theorem c_cmake (l : Launch) (n fu f : Nat) (hfu : fu = 11) (hf : f = 11) (hn0 : n = 10) : Ct l 57 28 10 40 (sp_cmake n fu f) := by
  have hev : ∀ (k : Nat) (r : Nat × Nat × Nat × Sp), evL [(46, 3, 0, 0, sp_lotForMaking), (47, 4, 0, 0, sp_readAll n), (52, 26, 0, 0, sp_choose fu f), (58, 17, 0, 0, sp_chooseM fu n)] k = some r → Ct l k r.1 r.2.1 r.2.2.1 r.2.2.2 := evL_ok (by simpa using ⟨c_lotForMaking l, c_readAll l n, c_choose l fu f hfu hf, c_chooseM l fu n hfu hn0⟩)
  refine ct_jd (by decide) rfl (fun as w Po h => ?_)
  obtain ⟨C, x, y, z, nl, nw, R, rfl, hX, hF, hN, ⟨h10, hnw, h8⟩, hR, ⟨hn, hnd, hdj⟩, h1, h2⟩ := h
  have h3 : 0 < cN C 3 := by rw [hF.1.2.2.1]; decide
  have e2 := hN.2.2.1
  refine ⟨Nat.le_of_ble_eq_true rfl, jd_s cdo_57 hev [81] 60 ⟨by decide, by decide⟩ ?_⟩
  refine ⟨⟨show 3 < 28 by decide, by decide, by decide⟩, rfl, hX.k 9 0 hF.x, C, x, 0, nl, rfl, hX, hF, hN, fun a ha xa a5 a1 a4 => ?_, fun q => ?_⟩
  · refine ⟨⟨show 3 < 28 by decide, by decide, by decide⟩, rfl, hX.k 9 0 hF.x, C, y, 1, nl, rfl, hX, hF, hN, fun b hb yb b5 b1 b4 => ?_, fun q => ?_⟩
    · refine ⟨⟨show 3 < 28 by decide, by decide, by decide⟩, rfl, hX.k 9 0 hF.x, C, z, 2, nl, rfl, hX, hF, hN, fun c hc zc c5 c1 c4 => ?_, fun q => ?_⟩
      · have oa : okL C nl x 0 a := ⟨ha, xa, a5, a1, a4⟩
        have ob : okL C nl y 1 b := ⟨hb, yb, b5, b1, b4⟩
        have oc : okL C nl z 2 c := ⟨hc, zc, c5, c1, c4⟩
        have h1 := h1 a b c oa ob oc
        have nab : b ≠ a := fun e => by rw [e, a1] at b1; exact absurd b1 (by decide)
        have nac : c ≠ a := fun e => by rw [e, a1] at c1; exact absurd c1 (by decide)
        have nbc : c ≠ b := fun e => by rw [e, b1] at c1; exact absurd c1 (by decide)
        have ha2 : a < cN C 2 := by rw [e2]; exact ha
        have hb2 : b < cN C 2 := by rw [e2]; exact hb
        have hc2 : c < cN C 2 := by rw [e2]; exact hc
        refine ⟨hX.k 9 0 hF.x, _, hX.g1 9 6 0 (by decide) hF.x rfl hF.l6, hX.k 9 0 hF.x, _, hX.g1 9 4 0 (by decide) hF.x rfl hF.l4, hX.k 9 0 hF.x, _, hX.g1 9 5 0 (by decide) hF.x rfl hF.l5, ?_⟩
        refine ⟨⟨show 4 < 28 by decide, Nat.zero_le _, Nat.zero_le _⟩, rfl, hX.k 3 0 h3, C, a, b, c, R a, R b, R c, rfl, hX, hF, ⟨ha2, hb2, hc2, hn⟩, ⟨(hR a ha).1, (hR b hb).1, (hR c hc).1, hR.s ob⟩, fun w2 hX2 => ?_⟩
        have kM := cMR_Km n C b (R a) (R b) (R c)
        rw [cMB] at h1
        generalize cMR n C b (R a) (R b) (R c) = D at *
        have hF2 := kM.fx hF
        have h3D : 0 < cN D 3 := by rw [kM.1.2.1]; exact h3
        have e9 : cA D 9 0 = cA C 9 0 := by rw [kM.1.1]
        refine ⟨hX2.k' 9 0 e9 hF2.x, some (cA D 3 0), (hX2.gr' 9 6 0 e9 (by decide) hF2.x rfl).trans (by rw [hF2.l6]; rfl), ?_⟩
        have hX3 := hX2
        rw [← wT_id D] at hX3
        refine ⟨⟨show 26 < 28 by decide, Nat.zero_le _, Nat.zero_le _⟩, rfl, hX2.k 3 0 h3D, D, _, rfl, hX3, hF2, fun w4 hX4 => ?_⟩
        have hX4 : RX (cCh fu f D) w4 := hX4
        show wp _ _ _ _ _ _ _ _ _ _ _ _ [.int (tWD fu f D).1.1] _ _ _
        have kM2 := kM.tr (cCh_Km fu f D)
        generalize (tWD fu f D).1.1 = made at *
        generalize cCh fu f D = E at *
        have hF3 := kM2.fx hF
        have h3E : 0 < cN E 3 := by rw [kM2.1.2.1]; exact h3
        have e9E : cA E 9 0 = cA C 9 0 := by rw [kM2.1.1]
        refine ⟨hX4.k' 9 0 e9E hF3.x, some (cA E 3 0), (hX4.gr' 9 6 0 e9E (by decide) hF3.x rfl).trans (by rw [hF3.l6]; rfl), ?_⟩
        refine ⟨⟨show 17 < 28 by decide, Nat.zero_le _, Nat.zero_le _⟩, rfl, hX4.k 3 0 h3E, E, rfl, hX4, hF3, fun w5 hX5 => ?_⟩
        have kM3 := kM2.tr (cCM_Km fu n E)
        generalize cCM fu n E = B at *
        have hFB := kM3.fx hF
        have I2 : ∀ k i, cI B 2 k i = cI C 2 k i := fun k i => kM3.2 2 k i (by decide) (by decide)
        have hLz : ∀ j, j < nl → Lz B j (R j).length := fun j hj => ⟨by rw [kM3.1.2.1, e2]; exact hj, (I2 4 j).trans (hR j hj).2.1, (hR j hj).2.2⟩
        have hKw : Kw B B nw := ⟨hFB, fun _ _ _ => rfl, fun _ _ => rfl, fun _ _ _ _ _ _ => rfl, fun _ _ _ _ _ => rfl, rfl, (kM3.2 9 10 0 (by decide) (by decide)).trans h10, hnw, by rw [kM3.1.2.1]; exact h8⟩
        have e9B : cA B 9 0 = cA C 9 0 := by rw [kM3.1.1]
        have eP : cA B 2 a = cA C 2 a := by rw [kM3.1.1]
        have eW : cA B 2 b = cA C 2 b := by rw [kM3.1.1]
        have eS : cA B 2 c = cA C 2 c := by rw [kM3.1.1]
        refine c_mkK l Po B (cA C 9 0) (cA C 2 a) (cA C 2 b) (cA C 2 c) x y z made a b c _ _ _ e9B eP eW eS (hLz a ha) (hLz b hb) (hLz c hc) 10 0 nw B w5 0 0 (by decide) (by decide) (by decide) hX5 hKw (fun ads nc' ns' w6 hads hnc hns hX6 hK6 => ?_)
        have h1 := h1 ads
        generalize (mkL a b c (R a).length (R b).length (R c).length ads 0 nw B).1 = G at *
        obtain ⟨kF, kA, kN, kI, kL, _⟩ := hK6
        have lN : cN G 2 = nl := (kN 2 (by decide)).trans (by rw [kM3.1.2.1]; exact e2)
        have ch : ∀ j, j < nl → chL (cL G 5 7) (cL G 2 2 j) (R j) := fun j hj => by
          rw [kL 2 2 j (by decide) (by decide), kM3.1.2.2]
          exact chL_cong (fun x _ => by rw [kL 5 7 x (by decide) (by decide), kM3.1.2.2]) (hR j hj).1
        exact c_mkE l Po G _ _ _ _ x y z made a b c (R a) (R b) (R c) w6 nc' ns' hnc hns hX6 ((kA 2 a (by decide)).trans eP) ((kA 2 b (by decide)).trans eW) ((kA 2 c (by decide)).trans eS) ⟨by rw [lN]; exact ha, by rw [lN]; exact hb, by rw [lN]; exact hc⟩ ⟨nab, nac, nbc⟩ ⟨ch a ha, ch b hb, ch c hc⟩ ⟨hnd a ha, hnd b hb, hnd c hc⟩ ⟨hdj a b ha hb (Ne.symm nab), hdj a c ha hc (Ne.symm nac), hdj b c hb hc (Ne.symm nbc)⟩ (fun w7 hX7 => h1 w7 hads hX7)
      · exact h2 (fun ⟨_, _, c, _, _, oc⟩ => q ⟨c, oc⟩)
    · have no := h2 (fun ⟨_, b, _, _, ob, _⟩ => q ⟨b, ob⟩)
      exact ⟨⟨show 3 < 28 by decide, Nat.zero_le _, Nat.zero_le _⟩, rfl, hX.k 9 0 hF.x, C, z, 2, nl, rfl, hX, hF, hN, fun c hc zc c5 c1 c4 => no, fun q => no⟩
  · have no := h2 (fun ⟨a, _, _, oa, _, _⟩ => q ⟨a, oa⟩)
    refine ⟨⟨show 3 < 28 by decide, Nat.zero_le _, Nat.zero_le _⟩, rfl, hX.k 9 0 hF.x, C, y, 1, nl, rfl, hX, hF, hN, fun b hb yb b5 b1 b4 => ?_, fun q => ?_⟩
    · exact ⟨⟨show 3 < 28 by decide, Nat.zero_le _, Nat.zero_le _⟩, rfl, hX.k 9 0 hF.x, C, z, 2, nl, rfl, hX, hF, hN, fun c hc zc c5 c1 c4 => no, fun q => no⟩
    · exact ⟨⟨show 3 < 28 by decide, Nat.zero_le _, Nat.zero_le _⟩, rfl, hX.k 9 0 hF.x, C, z, 2, nl, rfl, hX, hF, hN, fun c hc zc c5 c1 c4 => no, fun q => no⟩
end
section
/-! THE CLASS: a new one -/
def kT (c : Nat) : Nat := [9, 23, 24, 25, 26, 0, 0, 3, 4, 20, 20, 20, 4, 20, 20, 20].getD c 99
def lT (c : Nat) : Nat := [0, 300, 60, 9, 100, 0, 0, 0, 0, 10, 10, 10, 0, 10, 10, 10].getD c 0
def lkS : List (Nat × Nat × Nat) → Nat → Nat → Option Nat
  | [], _, _ => none
  | q :: t, c, k => if c = q.1 ∧ k = q.2.1 then some q.2.2 else lkS t c k
/-- the cells that stand so far, and the links set -/
def XI (x0 n : Nat) (L : List (Nat × Nat × Nat)) (S : Hp) : Prop := gZ S = x0 + 1 + n ∧ ∀ c, c ≤ n → (gK S (x0 + c) = some (kT c) ∧ (20 ≤ kT c → gN S (x0 + c) = lT c)) ∧ (kT c < 20 → ∀ k, gI S (kT c) k (x0 + c) = 0) ∧ (kT c < 20 → ∀ k, gR S (kT c) k (x0 + c) = (lkS L c k).map (fun d => x0 + d)) ∧ (20 ≤ kT c → ∀ j, gA S (x0 + c) j = 0 ∧ gQ S (x0 + c) j = none)
theorem XI.k {x0 n : Nat} {L : List (Nat × Nat × Nat)} {S : Hp} (h : XI x0 n L S) (c : Nat) (hc : c ≤ n) : gK S (x0 + c) = some (kT c) := (h.2 c hc).1.1
theorem XI.new {x0 n : Nat} {L : List (Nat × Nat × Nat)} {S : Hp} (h : XI x0 n L S) (t : Nat) (ht : kT (n + 1) = t) (ht2 : t < 20) (hL : ∀ k, lkS L (n + 1) k = none) : XI x0 (n + 1) L (sNew S t) := by
  obtain ⟨hz, h⟩ := h
  refine ⟨show gZ S + 1 = _ by omega, fun c hc => ?_⟩
  by_cases e : c = n + 1
  · subst e
    have ez : x0 + (n + 1) = gZ S := by omega
    refine ⟨⟨?_, fun q => by omega⟩, fun q k => ?_, fun q k => ?_, fun q => by omega⟩
    · show (if x0 + (n + 1) = gZ S then some t else _) = _
      rw [if_pos ez, ht]
    · show (if x0 + (n + 1) = gZ S then 0 else _) = _
      rw [if_pos ez]
    · rw [hL k]
      show (if x0 + (n + 1) = gZ S then none else _) = _
      rw [if_pos ez]
      rfl
  · have ez : x0 + c ≠ gZ S := by omega
    obtain ⟨⟨a1, a2⟩, a3, a4, a5⟩ := h c (by omega)
    refine ⟨⟨?_, a2⟩, fun q k => ?_, fun q k => ?_, a5⟩
    · show (if x0 + c = gZ S then some t else gK S (x0 + c)) = _
      rw [if_neg ez]; exact a1
    · show (if x0 + c = gZ S then 0 else gI S (kT c) k (x0 + c)) = _
      rw [if_neg ez]; exact a3 q k
    · show (if x0 + c = gZ S then none else gR S (kT c) k (x0 + c)) = _
      rw [if_neg ez]; exact a4 q k
theorem XI.put {x0 n : Nat} {L : List (Nat × Nat × Nat)} {S : Hp} (h : XI x0 n L S) (c k d : Nat) {t a v : Nat} (hc : c ≤ n) (ht : kT c = t) (ha : a = x0 + c) (hv : v = x0 + d) : XI x0 n ((c, k, d) :: L) (sR S t k a (some v)) := by
  obtain ⟨hz, h⟩ := h
  subst ht ha hv
  refine ⟨hz, fun c' hc' => ?_⟩
  obtain ⟨a1, a3, a4, a5⟩ := h c' hc'
  refine ⟨a1, a3, fun q0 k' => ?_, a5⟩
  show u3 (gR S) (kT c) k (x0 + c) (some (x0 + d)) (kT c') k' (x0 + c') = ((if c' = c ∧ k' = k then some d else lkS L c' k')).map (fun d => x0 + d)
  unfold u3
  by_cases e : c' = c ∧ k' = k
  · rw [if_pos ⟨by rw [e.1], e.2, by rw [e.1]⟩, if_pos e]
    rfl
  · rw [if_neg (fun q => e ⟨by omega, q.2.1⟩), if_neg e]
    exact a4 q0 k'
theorem XI.arr {x0 n : Nat} {L : List (Nat × Nat × Nat)} {S : Hp} (h : XI x0 n L S) (t z : Nat) (ht : kT (n + 1) = t) (hz2 : lT (n + 1) = z) (ht2 : 20 ≤ t) : XI x0 (n + 1) L (sArr S t z) := by
  obtain ⟨hz, h⟩ := h
  refine ⟨show gZ S + 1 = _ by omega, fun c hc => ?_⟩
  by_cases e : c = n + 1
  · subst e
    have ez : x0 + (n + 1) = gZ S := by omega
    refine ⟨⟨?_, fun q => ?_⟩, fun q k => by omega, fun q k => by omega, fun q j => ⟨?_, ?_⟩⟩
    · show (if x0 + (n + 1) = gZ S then some t else _) = _
      rw [if_pos ez, ht]
    · show (if x0 + (n + 1) = gZ S then z else _) = _
      rw [if_pos ez, hz2]
    · show (if x0 + (n + 1) = gZ S then 0 else _) = _
      rw [if_pos ez]
    · show (if x0 + (n + 1) = gZ S then none else _) = _
      rw [if_pos ez]
  · have ez : x0 + c ≠ gZ S := by omega
    obtain ⟨⟨a1, a2⟩, a3, a4, a5⟩ := h c (by omega)
    refine ⟨⟨?_, fun q => ?_⟩, a3, a4, fun q j => ⟨?_, ?_⟩⟩
    · show (if x0 + c = gZ S then some t else gK S (x0 + c)) = _
      rw [if_neg ez]; exact a1
    · show (if x0 + c = gZ S then z else gN S (x0 + c)) = _
      rw [if_neg ez]; exact a2 q
    · show (if x0 + c = gZ S then 0 else gA S (x0 + c) j) = _
      rw [if_neg ez]; exact (a5 q j).1
    · show (if x0 + c = gZ S then none else gQ S (x0 + c) j) = _
      rw [if_neg ez]; exact (a5 q j).2
def sp_FitInit : Sp := fun as w K => ∃ a, as = [.ref a] ∧ K none w
theorem c_FitInit (l : Launch) : Ct l 1 1 0 0 sp_FitInit := by
  refine ct_jd (by decide) rfl (fun as w Po h => ?_)
  obtain ⟨a, rfl, h⟩ := h
  exact ⟨Nat.le_of_ble_eq_true rfl, jd_run cdo_1 ev0 10 z00 ⟨rfl, by decide, h⟩⟩
def sp_MatesInit : Sp := fun as w K => ∃ x0 n L c a, as = [.ref a] ∧ XI x0 n L w ∧ (c ≤ n ∧ kT c = 4 ∧ a = x0 + c) ∧ (kT (n + 1) = 20 ∧ kT (n + 1 + 1) = 20 ∧ kT (n + 1 + 1 + 1) = 20) ∧ (lT (n + 1) = 10 ∧ lT (n + 1 + 1) = 10 ∧ lT (n + 1 + 1 + 1) = 10) ∧ ∀ w', XI x0 (n + 1 + 1 + 1) ((c, 2, n + 1 + 1 + 1) :: (c, 1, n + 1 + 1) :: (c, 0, n + 1) :: L) w' → K none w'
theorem c_MatesInit (l : Launch) : Ct l 3 1 3 30 sp_MatesInit := by
  refine ct_jd (by decide) rfl (fun as w Po h => ?_)
  obtain ⟨x0, n, L, c, a, rfl, hX, ⟨hc, hk, rfl⟩, ⟨k1, k2, k3⟩, ⟨l1, l2, l3⟩, h⟩ := h
  refine ⟨Nat.le_of_ble_eq_true rfl, jd_run cdo_3 ev0 40 ⟨by decide, by decide⟩ ?_⟩
  refine ⟨rfl, by decide, 10, ⟨rfl, by decide⟩, ⟨by decide, by decide⟩, ?_⟩
  have ez := hX.1
  have hX := hX.arr 20 10 k1 l1 (by decide)
  refine ⟨(hX.k c (by omega)).trans (by rw [hk]), some (gZ w), rfl, ?_⟩
  have hX := hX.put c 0 (n + 1) (by omega) hk rfl (show gZ w = x0 + (n + 1) by omega)
  refine ⟨10, ⟨rfl, by decide⟩, ⟨by decide, by decide⟩, ?_⟩
  have ez := hX.1
  have hX := hX.arr 20 10 k2 l2 (by decide)
  refine ⟨(hX.k c (by omega)).trans (by rw [hk]), some _, rfl, ?_⟩
  have hX := hX.put c 1 (n + 1 + 1) (by omega) hk rfl (ez.trans (by omega))
  refine ⟨10, ⟨rfl, by decide⟩, ⟨by decide, by decide⟩, ?_⟩
  have ez := hX.1
  have hX := hX.arr 20 10 k3 l3 (by decide)
  refine ⟨(hX.k c (by omega)).trans (by rw [hk]), some _, rfl, ?_⟩
  exact h _ (hX.put c 2 (n + 1 + 1 + 1) (by omega) hk rfl (ez.trans (by omega)))
/-- the links of Making and its two Mates -/
def LM : List (Nat × Nat × Nat) → List (Nat × Nat × Nat) := fun L => (7, 1, 12) :: (12, 2, 15) :: (12, 1, 14) :: (12, 0, 13) :: (7, 0, 8) :: (8, 2, 11) :: (8, 1, 10) :: (8, 0, 9) :: L
def sp_MakingInit : Sp := fun as w K => ∃ x0 L a, as = [.ref a] ∧ XI x0 7 L w ∧ a = x0 + 7 ∧ (∀ c k, 7 < c → lkS L c k = none) ∧ ∀ w', XI x0 15 (LM L) w' → K none w'
theorem c_MakingInit (l : Launch) : Ct l 2 2 8 70 sp_MakingInit := by
  have hev : ∀ (k : Nat) (r : Nat × Nat × Nat × Sp), evL [(3, 1, 3, 30, sp_MatesInit)] k = some r → Ct l k r.1 r.2.1 r.2.2.1 r.2.2.2 := evL_ok (by simpa using c_MatesInit l)
  refine ct_jd (by decide) rfl (fun as w Po h => ?_)
  obtain ⟨x0, L, a, rfl, hX, rfl, hL, h⟩ := h
  have second : ∀ w2, XI x0 11 ((7, 0, 8) :: (8, 2, 11) :: (8, 1, 10) :: (8, 0, 9) :: L) w2 → Jd l 2 2 8 70 none Po 15 [(0, .ref (x0 + 7))] [] w2 4 35 := by
    intro w2 hX
    refine jd_s cdo_2 hev [] 30 ⟨by decide, by decide⟩ ⟨⟨by decide, by decide⟩, ?_⟩
    have ez := hX.1
    have hX := hX.new 4 (by decide) (by decide) (fun k => by
      show (if 12 = 7 ∧ k = 0 then some 8 else if 12 = 8 ∧ k = 2 then some 11 else if 12 = 8 ∧ k = 1 then some 10 else if 12 = 8 ∧ k = 0 then some 9 else lkS L 12 k) = none
      rw [if_neg (fun q => by omega), if_neg (fun q => by omega), if_neg (fun q => by omega), if_neg (fun q => by omega)]
      exact hL 12 k (by decide))
    refine ⟨⟨by decide, by decide, by decide⟩, rfl, x0, 12, _, 12, gZ w2, rfl, hX, ⟨by decide, by decide, by omega⟩, ⟨by decide, by decide, by decide⟩, ⟨by decide, by decide, by decide⟩, fun w3 hX3 => ?_⟩
    refine ⟨(hX3.k 7 (by decide)).trans rfl, some (gZ w2), rfl, ?_⟩
    exact h _ (hX3.put 7 1 12 (by decide) rfl rfl (show gZ w2 = x0 + 12 by omega))
  refine ⟨Nat.le_of_ble_eq_true rfl, jd_s cdo_2 hev [15] 30 ⟨by decide, by decide⟩ ⟨rfl, by decide, ⟨by decide, by decide⟩, ?_⟩⟩
  have ez := hX.1
  have hX := hX.new 4 (by decide) (by decide) (fun k => hL 8 k (by decide))
  refine ⟨⟨by decide, by decide, by decide⟩, rfl, x0, 8, L, 8, gZ w, rfl, hX, ⟨by decide, by decide, by omega⟩, ⟨by decide, by decide, by decide⟩, ⟨by decide, by decide, by decide⟩, fun w3 hX3 => ?_⟩
  refine ⟨(hX3.k 7 (by decide)).trans rfl, some (gZ w), rfl, ?_⟩
  exact second _ (hX3.put 7 0 8 (by decide) rfl rfl (show gZ w = x0 + 8 by omega))
def LX : List (Nat × Nat × Nat) := (0, 6, 7) :: LM [(0, 5, 6), (0, 4, 5), (0, 3, 4), (0, 2, 3), (0, 1, 2), (0, 0, 1)]
def sp_xinit : Sp := fun as w K => ∃ x0, as = [.ref x0] ∧ XI x0 0 [] w ∧ ∀ w', XI x0 15 LX w' → K none w'
theorem c_xinit (l : Launch) : Ct l 0 3 15 548 sp_xinit := by
  have hev : ∀ (k : Nat) (r : Nat × Nat × Nat × Sp), evL [(1, 1, 0, 0, sp_FitInit), (2, 2, 8, 70, sp_MakingInit)] k = some r → Ct l k r.1 r.2.1 r.2.2.1 r.2.2.2 := evL_ok (by simpa using ⟨c_FitInit l, c_MakingInit l⟩)
  refine ct_jd (by decide) rfl (fun as w Po h => ?_)
  obtain ⟨x0, rfl, hX, h⟩ := h
  have last : ∀ w2, XI x0 6 [(0, 5, 6), (0, 4, 5), (0, 3, 4), (0, 2, 3), (0, 1, 2), (0, 0, 1)] w2 → Jd l 0 3 15 548 none Po 63 [(0, .ref x0)] [] w2 6 473 := by
    intro w2 hX
    refine jd_s cdo_0 hev [] 30 ⟨by decide, by decide⟩ ⟨⟨by decide, by decide⟩, ?_⟩
    have ez := hX.1
    have hX := hX.new 3 (by decide) (by decide) (fun k => by
      show (if 7 = 0 ∧ k = 5 then some 6 else if 7 = 0 ∧ k = 4 then some 5 else if 7 = 0 ∧ k = 3 then some 4 else if 7 = 0 ∧ k = 2 then some 3 else if 7 = 0 ∧ k = 1 then some 2 else if 7 = 0 ∧ k = 0 then some 1 else none) = none
      rw [if_neg (fun q => by omega), if_neg (fun q => by omega), if_neg (fun q => by omega), if_neg (fun q => by omega), if_neg (fun q => by omega), if_neg (fun q => by omega)])
    refine ⟨⟨by decide, by decide, by decide⟩, rfl, x0, _, gZ w2, rfl, hX, by omega, fun c k hc => ?_, fun w3 hX3 => ?_⟩
    · show (if c = 0 ∧ k = 5 then some 6 else if c = 0 ∧ k = 4 then some 5 else if c = 0 ∧ k = 3 then some 4 else if c = 0 ∧ k = 2 then some 3 else if c = 0 ∧ k = 1 then some 2 else if c = 0 ∧ k = 0 then some 1 else none) = none
      rw [if_neg (fun q => by omega), if_neg (fun q => by omega), if_neg (fun q => by omega), if_neg (fun q => by omega), if_neg (fun q => by omega), if_neg (fun q => by omega)]
    · refine ⟨(hX3.k 0 (by decide)).trans rfl, some (gZ w2), rfl, ?_⟩
      exact h _ (hX3.put 0 6 7 (by decide) rfl rfl (show gZ w2 = x0 + 7 by omega))
  have fits : ∀ w2, XI x0 4 [(0, 3, 4), (0, 2, 3), (0, 1, 2), (0, 0, 1)] w2 → Jd l 0 3 15 548 none Po 41 [(0, .ref x0)] [] w2 4 469 := by
    intro w2 hX
    refine jd_s cdo_0 hev [63] 30 ⟨by decide, by decide⟩ ⟨⟨by decide, by decide⟩, ?_⟩
    have ez := hX.1
    have hX := hX.new 0 (by decide) (by decide) (fun k => by
      show (if 5 = 0 ∧ k = 3 then some 4 else if 5 = 0 ∧ k = 2 then some 3 else if 5 = 0 ∧ k = 1 then some 2 else if 5 = 0 ∧ k = 0 then some 1 else none) = none
      rw [if_neg (fun q => by omega), if_neg (fun q => by omega), if_neg (fun q => by omega), if_neg (fun q => by omega)])
    refine ⟨⟨by decide, by decide, by decide⟩, rfl, gZ w2, rfl, (hX.k 0 (by decide)).trans rfl, some (gZ w2), rfl, ?_⟩
    have hX := hX.put 0 4 5 (by decide) rfl rfl (show gZ w2 = x0 + 5 by omega)
    refine ⟨⟨by decide, by decide⟩, ?_⟩
    have ez2 := hX.1
    have hX := hX.new 0 (by decide) (by decide) (fun k => by
      show (if 6 = 0 ∧ k = 4 then some 5 else if 6 = 0 ∧ k = 3 then some 4 else if 6 = 0 ∧ k = 2 then some 3 else if 6 = 0 ∧ k = 1 then some 2 else if 6 = 0 ∧ k = 0 then some 1 else none) = none
      rw [if_neg (fun q => by omega), if_neg (fun q => by omega), if_neg (fun q => by omega), if_neg (fun q => by omega), if_neg (fun q => by omega)])
    refine ⟨⟨by decide, by decide, by decide⟩, rfl, _, rfl, (hX.k 0 (by decide)).trans rfl, some _, rfl, ?_⟩
    exact last _ (hX.put 0 5 6 (by decide) rfl rfl (ez2.trans (by omega)))
  refine ⟨Nat.le_of_ble_eq_true rfl, jd_s cdo_0 hev [41] 40 ⟨by decide, by decide⟩ ⟨rfl, by decide, 300, ⟨rfl, by decide⟩, ⟨by decide, by decide⟩, ?_⟩⟩
  have ez := hX.1
  have hX := hX.arr 23 300 (by decide) (by decide) (by decide)
  refine ⟨(hX.k 0 (by decide)).trans rfl, some _, rfl, ?_⟩
  have hX := hX.put 0 0 1 (by decide) rfl rfl (ez.trans (by omega))
  refine ⟨60, ⟨rfl, by decide⟩, ⟨by decide, by decide⟩, ?_⟩
  have ez := hX.1
  have hX := hX.arr 24 60 (by decide) (by decide) (by decide)
  refine ⟨(hX.k 0 (by decide)).trans rfl, some _, rfl, ?_⟩
  have hX := hX.put 0 1 2 (by decide) rfl rfl (ez.trans (by omega))
  refine ⟨9, ⟨rfl, by decide⟩, ⟨by decide, by decide⟩, ?_⟩
  have ez := hX.1
  have hX := hX.arr 25 9 (by decide) (by decide) (by decide)
  refine ⟨(hX.k 0 (by decide)).trans rfl, some _, rfl, ?_⟩
  have hX := hX.put 0 2 3 (by decide) rfl rfl (ez.trans (by omega))
  refine ⟨100, ⟨rfl, by decide⟩, ⟨by decide, by decide⟩, ?_⟩
  have ez := hX.1
  have hX := hX.arr 26 100 (by decide) (by decide) (by decide)
  refine ⟨(hX.k 0 (by decide)).trans rfl, some _, rfl, ?_⟩
  exact fits _ (hX.put 0 3 4 (by decide) rfl rfl (ez.trans (by omega)))
end
section
/-! THE CLASS: a new one, by numbers -/
def cN0 (t : Nat) : Nat := [2, 0, 0, 1, 2, 0, 0, 0, 0, 1, 0, 0, 0, 0, 0, 0, 0, 0, 0, 0, 6, 0, 0, 1, 1, 1, 1].getD t 0
def aT0 (t i : Nat) : Nat := (([[5, 6], [], [], [7], [8, 12], [], [], [], [], [0], [], [], [], [], [], [], [], [], [], [], [9, 10, 11, 13, 14, 15], [], [], [1], [2], [3], [4]] : List (List Nat)).getD t []).getD i 99
def cL0 (t k i : Nat) : Nat := if t = 9 ∧ i = 0 then ([1, 1, 1, 1, 1, 2, 1] : List Nat).getD k 0 else if t = 3 ∧ i = 0 then ([1, 2] : List Nat).getD k 0 else if t = 4 ∧ k < 3 ∧ i < 2 then 3 * i + k + 1 else 0
def C0 (x0 : Nat) : Cs := (cN0, fun t i => x0 + aT0 t i, fun _ _ _ => 0, cL0, fun _ _ => 0)
theorem cN0_t {t i : Nat} (h : i < cN0 t) : t < 27 := by
  rcases Nat.lt_or_ge t 27 with q | q
  · exact q
  · obtain ⟨u, rfl⟩ : ∃ u, t = u + 27 := ⟨t - 27, by omega⟩
    have : cN0 (u + 27) = 0 := rfl
    omega
theorem cN0_6 : ∀ t, t < 27 → cN0 t ≤ 6 := by decide +kernel
theorem x0_k : ∀ t, t < 27 → ∀ i, i < 6 → i < cN0 t → kT (aT0 t i) = t ∧ aT0 t i ≤ 15 := by decide +kernel
theorem all_lt {n : Nat} {p : Nat → Bool} (h : (List.range n).all p = true) (i : Nat) (hi : i < n) : p i = true := List.all_eq_true.mp h i (List.mem_range.mpr hi)
theorem x0_jB : (List.range 27).all (fun t => (List.range 6).all (fun i => (List.range 6).all (fun j => !(decide (i < cN0 t) && decide (j < cN0 t) && decide (aT0 t i = aT0 t j)) || decide (i = j)))) = true := by decide +kernel
theorem x0_j (t : Nat) (ht : t < 27) (i : Nat) (hi : i < 6) (j : Nat) (hj : j < 6) (h1 : i < cN0 t) (h2 : j < cN0 t) (h3 : aT0 t i = aT0 t j) : i = j := by
  have := all_lt (all_lt (all_lt x0_jB t ht) i hi) j hj
  simpa [h1, h2, h3] using this
def cLo (t : Nat) : Nat → Option Nat
  | 0 => none
  | j + 1 => some (aT0 t j)
theorem x0_lB : (List.range 10).all (fun t => (List.range 15).all (fun k => (List.range 6).all (fun i => !(decide (i < cN0 t) && isRf t k) || (decide (lkS LX (aT0 t i) k = cLo (tgt t k) (cL0 t k i)) && decide (cL0 t k i ≤ cN0 (tgt t k)))))) = true := by decide +kernel
theorem x0_l (t : Nat) (ht : t < 10) (k : Nat) (hk : k < 15) (i : Nat) (hi : i < 6) (h1 : i < cN0 t) (h2 : isRf t k = true) : lkS LX (aT0 t i) k = cLo (tgt t k) (cL0 t k i) ∧ cL0 t k i ≤ cN0 (tgt t k) := by
  have := all_lt (all_lt (all_lt x0_lB t ht) k hk) i hi
  simpa [h1, h2] using this
theorem rf_15 : ∀ t, t < 10 → ∀ k, isRf t k = true → k < 15 := by
  intro t ht k hk
  rcases Nat.lt_or_ge k 15 with q | q
  · exact q
  · obtain ⟨u, rfl⟩ : ∃ u, k = u + 15 := ⟨k - 15, by omega⟩
    rcases (show t = 0 ∨ t = 1 ∨ t = 2 ∨ t = 3 ∨ t = 4 ∨ t = 5 ∨ t = 6 ∨ t = 7 ∨ t = 8 ∨ t = 9 by omega) with rfl | rfl | rfl | rfl | rfl | rfl | rfl | rfl | rfl | rfl
    · exact absurd ((show isRf 0 (u + 15) = false from rfl).symm.trans hk) (by decide)
    · exact absurd ((show isRf 1 (u + 15) = false from rfl).symm.trans hk) (by decide)
    · exact absurd ((show isRf 2 (u + 15) = false from rfl).symm.trans hk) (by decide)
    · exact absurd ((show isRf 3 (u + 15) = false from rfl).symm.trans hk) (by decide)
    · exact absurd ((show isRf 4 (u + 15) = false from rfl).symm.trans hk) (by decide)
    · exact absurd ((show isRf 5 (u + 15) = false from rfl).symm.trans hk) (by decide)
    · exact absurd ((show isRf 6 (u + 15) = false from rfl).symm.trans hk) (by decide)
    · exact absurd ((show isRf 7 (u + 15) = false from rfl).symm.trans hk) (by decide)
    · exact absurd ((show isRf 8 (u + 15) = false from rfl).symm.trans hk) (by decide)
    · exact absurd ((show isRf 9 (u + 15) = false from rfl).symm.trans hk) (by decide)
theorem x0_n : ∀ i, i < 6 → lT (aT0 20 i) = 10 := by decide +kernel
theorem x0_q : ∀ t, t < 27 → 23 ≤ t → cN0 t = 1 ∧ lT (aT0 t 0) = rwL t := by decide +kernel
theorem RX_0 {x0 : Nat} {S : Hp} (h : XI x0 15 LX S) : RX (C0 x0) S := by
  obtain ⟨hz, h⟩ := h
  have f : ∀ t i, i < cN0 t → kT (aT0 t i) = t ∧ aT0 t i ≤ 15 := fun t i hi => x0_k t (cN0_t hi) i (by have := cN0_6 t (cN0_t hi); omega) hi
  refine ⟨⟨fun t i hi => ?_, fun t i j hi hj e => ?_⟩, ⟨fun t k i ht hi hr => ?_, fun t k i ht hi hr => ?_⟩, ⟨fun i j hi => ?_, fun i hi => ?_⟩, fun t h1 h2 => ⟨(x0_q t h2 h1).1, ?_, fun j => ⟨?_, ?_⟩⟩⟩
  · obtain ⟨a, b⟩ := f t i hi
    have := h (aT0 t i) b
    refine ⟨?_, show x0 + aT0 t i < gZ S by omega⟩
    show gK S (x0 + aT0 t i) = some t
    rw [this.1.1, a]
  · have e : x0 + aT0 t i = x0 + aT0 t j := e
    have b := cN0_6 t (cN0_t (show i < cN0 t from hi))
    have hi : i < cN0 t := hi
    have hj : j < cN0 t := hj
    exact x0_j t (cN0_t hi) i (by omega) j (by omega) hi hj (by omega)
  · obtain ⟨a, b⟩ := f t i hi
    have := (h (aT0 t i) b).2.1 (by rw [a]; omega) k
    rw [a] at this
    exact this
  · obtain ⟨a, b⟩ := f t i hi
    have := (h (aT0 t i) b).2.2.1 (by rw [a]; omega) k
    rw [a] at this
    have b6 := cN0_6 t (cN0_t (show i < cN0 t from hi))
    have hi : i < cN0 t := hi
    obtain ⟨q1, q2⟩ := x0_l t ht k (rf_15 t ht k hr) i (by omega) hi hr
    refine ⟨?_, q2⟩
    show gR S t k (x0 + aT0 t i) = adO (C0 x0) (tgt t k) (cL0 t k i)
    rw [this, q1]
    cases cL0 t k i with
    | zero => rfl
    | succ j => rfl
  · obtain ⟨a, b⟩ := f 20 i hi
    exact ((h (aT0 20 i) b).2.2.2 (by rw [a]; omega) j).1
  · obtain ⟨a, b⟩ := f 20 i hi
    have hi : i < 6 := hi
    have := (h (aT0 20 i) b).1.2 (by rw [a]; omega)
    exact this.trans (x0_n i hi)
  · have c := x0_q t h2 h1
    obtain ⟨a, b⟩ := f t 0 (by rw [c.1]; decide)
    exact ((h (aT0 t 0) b).1.2 (by rw [a]; omega)).trans c.2
  · have c := x0_q t h2 h1
    obtain ⟨a, b⟩ := f t 0 (by rw [c.1]; decide)
    have e : cL0 t j 0 = 0 := by
      unfold cL0
      rw [if_neg (fun q => by omega), if_neg (fun q => by omega), if_neg (fun q => by omega)]
    show gQ S (x0 + aT0 t 0) j = adO (C0 x0) (rwT t) (cL0 t j 0)
    rw [e]
    exact ((h (aT0 t 0) b).2.2.2 (by rw [a]; omega) j).2
  · have e : cL0 t j 0 = 0 := by
      unfold cL0
      rw [if_neg (fun q => by omega), if_neg (fun q => by omega), if_neg (fun q => by omega)]
    show cL0 t j 0 ≤ _
    rw [e]
    exact Nat.zero_le _
theorem FX_0 (x0 : Nat) : FX (C0 x0) := by
  refine ⟨⟨rfl, rfl, rfl, rfl, rfl⟩, ⟨rfl, rfl, rfl, rfl, rfl, rfl, rfl⟩, ⟨rfl, rfl⟩, fun k i hk hi => ?_⟩
  show cL0 4 k i = _
  unfold cL0
  rw [if_neg (fun q => by omega), if_neg (fun q => by omega), if_pos ⟨rfl, hk, hi⟩]
end
section
/-! THE TWO: what the class keeps and what the reference keeps are the same -/
/-- the code of the last of a row -/
def lsC : List Nat → Nat
  | [] => 0
  | [p] => p + 1
  | _ :: q :: t => lsC (q :: t)
def RlN (C : Cs) (M : Ms) (np nl nh nw : Nat) : Prop := FX C ∧ (NB C 23 5 7 300 np ∧ M 6 0 = nI np) ∧ (NB C 24 2 8 60 nl ∧ M 16 0 = nI nl) ∧ (NB C 25 1 9 9 nh ∧ M 24 0 = nI nh) ∧ NB C 26 8 10 100 nw ∧ M 40 0 = nI nw
def RlP (C : Cs) (M : Ms) (np : Nat) : Prop := ∀ p, p < np → cI C 5 0 p = nI p ∧ (cI C 5 1 p = M 0 p ∧ cI C 5 2 p = M 2 p ∧ cI C 5 3 p = M 1 p ∧ cI C 5 4 p = M 3 p ∧ cI C 5 5 p = M 4 p ∧ cI C 5 6 p = M 5 p) ∧ ∃ k, k < 3 ∧ M 0 p = nI k
def RlH (C : Cs) (M : Ms) (nh : Nat) : Prop := (∀ h, h < nh → cI C 1 0 h = nI h ∧ (cI C 1 1 h = M 18 h ∧ cI C 1 2 h = M 19 h ∧ cI C 1 3 h = M 20 h ∧ cI C 1 4 h = M 21 h ∧ cI C 1 5 h = M 22 h ∧ cI C 1 6 h = M 23 h) ∧ (1 ≤ M 18 h ∧ M 18 h ≤ 20) ∧ (0 ≤ M 20 h ∧ M 20 h ≤ 30) ∧ (0 ≤ M 21 h ∧ M 21 h ≤ 9)) ∧ M 26 0 = cBr C nh ∧ ∀ h, nh ≤ h → M 22 h = 0 ∧ M 23 h = 0
/-- a lot stands where it should -/
def RlL1 (C : Cs) (M : Ms) (nh l : Nat) : Prop := cI C 2 0 l = nI l ∧ (cI C 2 1 l = M 7 l ∧ cI C 2 4 l = M 9 l ∧ cI C 2 5 l = M 10 l) ∧ (∃ k, k < 4 ∧ M 10 l = nI k) ∧ (M 10 l = 0 → cL C 2 6 l = 0) ∧ (¬ M 10 l = 0 → ∃ h, h < nh ∧ M 11 l = nI h ∧ cL C 2 6 l = h + 1) ∧ ((M 10 l = 1 ∨ M 10 l = 3) → cI C 2 7 l = M 12 l ∧ 0 ≤ M 12 l) ∧ (¬ (M 10 l = 1 ∨ M 10 l = 3) → cI C 2 7 l = 0) ∧ (M 10 l = 2 → cI C 2 9 l = M 13 l) ∧ (¬ M 10 l = 2 → cI C 2 9 l = 0 ∧ cL C 2 8 l = 0 ∧ cL C 2 10 l = 0)
def RlL (C : Cs) (M : Ms) (nl nh : Nat) : Prop := ∀ l, l < nl → RlL1 C M nh l
/-- the row of a lot -/
def RlR1 (C : Cs) (M : Ms) (np l : Nat) (L : List Nat) : Prop := (chL (cL C 5 7) (cL C 2 2 l) L ∧ cL C 2 3 l = lsC L) ∧ (M 9 l = nI L.length ∧ ∀ i p, L[i]? = some p → M 8 (300 * l + i) = nI p) ∧ L.Nodup ∧ ∀ p, p ∈ L → p < np ∧ M 5 p = nI l ∧ M 4 p = 0 ∧ M 0 p = M 7 l
def RlR (C : Cs) (M : Ms) (np nl : Nat) (R : Nat → List Nat) : Prop := ∀ l, l < nl → RlR1 C M np l (R l)
/-- how far a lot that waits is worked -/
def RlK (C : Cs) (M : Ms) (nl : Nat) (R : Nat → List Nat) : Prop := ∀ l, l < nl → M 10 l = 2 → ∃ x, x ≤ (R l).length ∧ M 14 l = nI x ∧ cL C 2 8 l = lsC ((R l).take x)
/-- the lots that wait at a home -/
def RlQ1 (C : Cs) (M : Ms) (nl h : Nat) (L : List Nat) : Prop := (chL (cL C 2 10) (cL C 1 8 h) L ∧ cL C 1 9 h = lsC L ∧ cI C 1 7 h = nI L.length) ∧ L.Nodup ∧ (∀ l, l ∈ L ↔ l < nl ∧ M 10 l = 2 ∧ M 11 l = nI h) ∧ L.Pairwise (fun a b => M 15 a < M 15 b)
def RlQ (C : Cs) (M : Ms) (nl nh : Nat) (Q : Nat → List Nat) : Prop := ∀ h, h < nh → RlQ1 C M nl h (Q h)
/-- the turns at which lots came: fewer than were sent -/
def RlT (M : Ms) (nl ns tt : Nat) : Prop := M 17 0 = nI tt ∧ tt + cn (fun l => decide (M 10 l = 1)) nl ≤ ns ∧ ∀ l, l < nl → M 10 l = 2 → ∃ t, t < tt ∧ M 15 l = nI t
/-- those of the first n for which p holds, the last first -/
def dsc (p : Nat → Bool) : Nat → List Nat
  | 0 => []
  | n + 1 => if p n = true then n :: dsc p n else dsc p n
def RlS (C : Cs) (M : Ms) (nh ns : Nat) : Prop := (cI C 9 11 0 = nI ns ∧ ns ≤ 500 ∧ cN C 6 = ns ∧ M 30 0 = nI ns) ∧ (∀ e, e < ns → cI C 6 0 e = M 28 e ∧ cI C 6 1 e = M 29 e ∧ ∃ h, h < nh ∧ M 27 e = nI h) ∧ ∀ h, h < nh → chL (cL C 6 2) (cL C 1 10 h) (dsc (fun e => decide (M 27 e = nI h)) ns)
def RlG (C : Cs) (M : Ms) (nh ng : Nat) : Prop := (cI C 9 12 0 = nI ng ∧ ng ≤ 100 ∧ cN C 7 = ng ∧ M 35 0 = nI ng) ∧ (∀ g, g < ng → cI C 7 0 g = M 34 g ∧ cI C 7 1 g = M 32 g ∧ cI C 7 2 g = M 33 g ∧ ∃ h, h < nh ∧ M 31 g = nI h) ∧ ∀ h, h < nh → chL (cL C 7 3) (cL C 1 11 h) (dsc (fun g => decide (M 31 g = nI h)) ng)
def RlW (C : Cs) (M : Ms) (np nw : Nat) : Prop := ∀ k, k < nw → (cI C 8 3 k = M 39 k ∧ (M 39 k = 0 ∨ M 39 k = 1)) ∧ ∀ i, i < 3 → ∃ p, p < np ∧ cL C 8 i k = p + 1 ∧ M 38 (3 * k + i) = nI p ∧ M 4 p = 2 ∧ M 5 p = nI k ∧ M 0 p = nI i
def RlF (C : Cs) (M : Ms) : Prop := ∀ i, i < 2 → cI C 0 0 i = M 36 i ∧ cI C 0 1 i = M 37 i
def RlD (C : Cs) (M : Ms) (dy : Nat) : Prop := cI C 9 13 0 = nI dy ∧ dy ≤ 400 ∧ M 25 0 = nI dy
def Rel (C : Cs) (M : Ms) (np nl nh nw ns ng dy tt : Nat) (R Q : Nat → List Nat) : Prop := RlN C M np nl nh nw ∧ RlP C M np ∧ RlH C M nh ∧ RlL C M nl nh ∧ RlR C M np nl R ∧ RlK C M nl R ∧ RlQ C M nl nh Q ∧ RlT M nl ns tt ∧ RlS C M nh ns ∧ RlG C M nh ng ∧ RlW C M np nw ∧ RlF C M ∧ RlD C M dy ∧ G42 M
theorem dsc_cong {p q : Nat → Bool} : ∀ {n : Nat}, (∀ i, i < n → p i = q i) → dsc p n = dsc q n
  | 0, _ => rfl
  | n + 1, h => by rw [dsc, dsc, h n (Nat.lt_succ_self n), dsc_cong (fun i hi => h i (Nat.lt_succ_of_lt hi))]
theorem dsc_mem {p : Nat → Bool} : ∀ {n x : Nat}, x ∈ dsc p n → x < n ∧ p x = true
  | 0, _, h => by simp [dsc] at h
  | n + 1, x, h => by
    unfold dsc at h
    split at h
    · rename_i hp
      rcases List.mem_cons.mp h with rfl | h
      · exact ⟨Nat.lt_succ_self _, hp⟩
      · have := dsc_mem h
        exact ⟨by omega, this.2⟩
    · have := dsc_mem h
      exact ⟨by omega, this.2⟩
theorem Rel_41 {C : Cs} {M : Ms} {np nl nh nw ns ng dy tt : Nat} {R Q : Nat → List Nat} (v : Int32) (h : Rel C M np nl nh nw ns ng dy tt R Q) : Rel C (u2 M 41 0 v) np nl nh nw ns ng dy tt R Q := h
/-- a new one: nothing is told -/
theorem Rel_0 (x0 : Nat) : Rel (C0 x0) (fun _ _ => 0) 0 0 0 0 0 0 0 0 (fun _ => []) (fun _ => []) := by
  refine ⟨⟨FX_0 x0, ⟨⟨rfl, by decide, rfl, fun j hj => by omega⟩, rfl⟩, ⟨⟨rfl, by decide, rfl, fun j hj => by omega⟩, rfl⟩, ⟨⟨rfl, by decide, rfl, fun j hj => by omega⟩, rfl⟩, ⟨rfl, by decide, rfl, fun j hj => by omega⟩, rfl⟩, fun p hp => by omega, ⟨fun h hh => by omega, rfl, fun h hh => ⟨rfl, rfl⟩⟩, fun l hl => by omega, fun l hl => by omega, fun l hl => by omega, fun h hh => by omega, ⟨rfl, by decide, fun l hl => by omega⟩, ⟨⟨rfl, by decide, rfl, rfl⟩, fun e he => by omega, fun h hh => by omega⟩, ⟨⟨rfl, by decide, rfl, rfl⟩, fun e he => by omega, fun h hh => by omega⟩, fun k hk => by omega, fun i hi => ⟨rfl, rfl⟩, ⟨rfl, by decide, rfl⟩, fun i hi => ⟨show (0 : Int32) = nI (pN 0) by decide, show pN 0 < 1024 by decide⟩⟩
end
section
/-! THE TWO: what a change leaves; fit, back -/
section RlC
variable {C D : Cs} {M N : Ms} {np nl nh nw ns ng dy tt : Nat} {R Q : Nat → List Nat}
theorem RlP.c (h : RlP C M np) (hI : ∀ k p, p < np → cI D 5 k p = cI C 5 k p) (hM : ∀ f p, f ≤ 5 → p < np → N f p = M f p) : RlP D N np := by
  intro p hp
  obtain ⟨a, ⟨b1, b2, b3, b4, b5, b6⟩, k, hk, e⟩ := h p hp
  rw [hI 0 p hp, hI 1 p hp, hI 2 p hp, hI 3 p hp, hI 4 p hp, hI 5 p hp, hI 6 p hp, hM 0 p (by decide) hp, hM 1 p (by decide) hp, hM 2 p (by decide) hp, hM 3 p (by decide) hp, hM 4 p (by decide) hp, hM 5 p (by decide) hp]
  exact ⟨a, ⟨b1, b2, b3, b4, b5, b6⟩, k, hk, e⟩
theorem cBr_c (hI : ∀ h, h < nh → cI D 1 6 h = cI C 1 6 h) : ∀ n, n ≤ nh → cBr D n = cBr C n
  | 0, _ => rfl
  | n + 1, hn => by rw [cBr, cBr, cBr_c hI n (by omega), hI n (by omega)]
theorem RlH.c (h : RlH C M nh) (hI : ∀ k h, k ≤ 6 → h < nh → cI D 1 k h = cI C 1 k h) (hM : ∀ f h, 18 ≤ f → f ≤ 23 → N f h = M f h) (h26 : N 26 0 = M 26 0) : RlH D N nh := by
  obtain ⟨h1, h2, h3⟩ := h
  refine ⟨fun x hx => ?_, ?_, fun x hx => ?_⟩
  · have := h1 x hx
    rw [hI 0 x (by decide) hx, hI 1 x (by decide) hx, hI 2 x (by decide) hx, hI 3 x (by decide) hx, hI 4 x (by decide) hx, hI 5 x (by decide) hx, hI 6 x (by decide) hx, hM 18 x (by decide) (by decide), hM 19 x (by decide) (by decide), hM 20 x (by decide) (by decide), hM 21 x (by decide) (by decide), hM 22 x (by decide) (by decide), hM 23 x (by decide) (by decide)]
    exact this
  · rw [h26, h2, cBr_c (fun h hh => hI 6 h (by decide) hh) nh (Nat.le_refl _)]
  · rw [hM 22 x (by decide) (by decide), hM 23 x (by decide) (by decide)]
    exact h3 x hx
theorem RlL1.c {l nh' : Nat} (h : RlL1 C M nh l) (hI : ∀ k, cI D 2 k l = cI C 2 k l) (hL : ∀ k, k = 6 ∨ k = 8 ∨ k = 10 → cL D 2 k l = cL C 2 k l) (hM : ∀ f, f = 7 ∨ f = 9 ∨ f = 10 ∨ f = 11 ∨ f = 12 ∨ f = 13 → N f l = M f l) (hn : nh ≤ nh') : RlL1 D N nh' l := by
  unfold RlL1
  rw [hI, hI, hI, hI, hI, hI, hL 6 (by decide), hL 8 (by decide), hL 10 (by decide), hM 7 (by decide), hM 9 (by decide), hM 10 (by decide), hM 11 (by decide), hM 12 (by decide), hM 13 (by decide)]
  obtain ⟨a, b, c, d, e, f⟩ := h
  exact ⟨a, b, c, d, fun q => by
    obtain ⟨x, hx, y⟩ := e q
    exact ⟨x, by omega, y⟩, f⟩
theorem RlR1.c {l np' : Nat} {L : List Nat} (h : RlR1 C M np l L) (h57 : ∀ p, p ∈ L → cL D 5 7 p = cL C 5 7 p) (h22 : cL D 2 2 l = cL C 2 2 l) (h23 : cL D 2 3 l = cL C 2 3 l) (h9 : N 9 l = M 9 l) (h7 : N 7 l = M 7 l) (h8 : ∀ i, i < L.length → N 8 (300 * l + i) = M 8 (300 * l + i)) (hM : ∀ f p, p ∈ L → f = 0 ∨ f = 4 ∨ f = 5 → N f p = M f p) (hn : np ≤ np') : RlR1 D N np' l L := by
  obtain ⟨⟨a, b⟩, ⟨c, d⟩, e, f⟩ := h
  refine ⟨⟨?_, by rw [h23]; exact b⟩, ⟨by rw [h9]; exact c, fun i p hp => ?_⟩, e, fun p hp => ?_⟩
  · rw [h22]
    exact chL_cong (fun x hx => (h57 x hx).symm) a
  · have hi : i < L.length := by
      rcases Nat.lt_or_ge i L.length with q | q
      · exact q
      · rw [List.getElem?_eq_none q] at hp
        cases hp
    rw [h8 i hi]
    exact d i p hp
  · obtain ⟨x, y, z, u⟩ := f p hp
    rw [hM 5 p hp (by decide), hM 4 p hp (by decide), hM 0 p hp (by decide), h7]
    exact ⟨by omega, y, z, u⟩
theorem RlK.c (h : RlK C M nl R) (h10 : ∀ l, l < nl → N 10 l = M 10 l) (h14 : ∀ l, l < nl → N 14 l = M 14 l) (hL : ∀ l, l < nl → cL D 2 8 l = cL C 2 8 l) : RlK D N nl R := by
  intro l hl
  rw [h10 l hl, h14 l hl, hL l hl]
  exact h l hl
theorem RlQ1.c {h : Nat} {L : List Nat} (q : RlQ1 C M nl h L) (hL : ∀ l, l < nl → cL D 2 10 l = cL C 2 10 l) (h8 : cL D 1 8 h = cL C 1 8 h) (h9 : cL D 1 9 h = cL C 1 9 h) (h7 : cI D 1 7 h = cI C 1 7 h) (hm : ∀ l, (l < nl ∧ N 10 l = 2 ∧ N 11 l = nI h) ↔ (l < nl ∧ M 10 l = 2 ∧ M 11 l = nI h)) (h15 : ∀ l, l < nl → N 15 l = M 15 l) : RlQ1 D N nl h L := by
  obtain ⟨⟨a, b, c⟩, d, e, f⟩ := q
  have mem : ∀ l, l ∈ L → l < nl := fun l hl => ((e l).mp hl).1
  refine ⟨⟨?_, by rw [h9]; exact b, by rw [h7]; exact c⟩, d, fun l => (e l).trans (hm l).symm, ?_⟩
  · rw [h8]
    exact chL_cong (fun x hx => (hL x (mem x hx)).symm) a
  · refine f.imp_of_mem (fun {x y} hx hy z => ?_)
    rw [h15 x (mem x hx), h15 y (mem y hy)]
    exact z
theorem RlS.c (h : RlS C M nh ns) (h11 : cI D 9 11 0 = cI C 9 11 0) (h6 : cN D 6 = cN C 6) (hI : ∀ k e, e < ns → cI D 6 k e = cI C 6 k e) (hL : ∀ e, e < ns → cL D 6 2 e = cL C 6 2 e) (h10 : ∀ h, h < nh → cL D 1 10 h = cL C 1 10 h) (h30 : N 30 0 = M 30 0) (hM : ∀ f e, f = 27 ∨ f = 28 ∨ f = 29 → e < ns → N f e = M f e) : RlS D N nh ns := by
  obtain ⟨⟨a, b, c, d⟩, e, f⟩ := h
  refine ⟨⟨h11.trans a, b, h6.trans c, h30.trans d⟩, fun x hx => ?_, fun x hx => ?_⟩
  · rw [hI 0 x hx, hI 1 x hx, hM 28 x (by decide) hx, hM 29 x (by decide) hx, hM 27 x (by decide) hx]
    exact e x hx
  · rw [h10 x hx, dsc_cong (q := fun e => decide (M 27 e = nI x)) (fun i hi => by rw [hM 27 i (by decide) hi])]
    exact chL_cong (fun y hy => (hL y (dsc_mem hy).1).symm) (f x hx)
theorem RlG.c (h : RlG C M nh ng) (h11 : cI D 9 12 0 = cI C 9 12 0) (h6 : cN D 7 = cN C 7) (hI : ∀ k e, e < ng → cI D 7 k e = cI C 7 k e) (hL : ∀ e, e < ng → cL D 7 3 e = cL C 7 3 e) (h10 : ∀ h, h < nh → cL D 1 11 h = cL C 1 11 h) (h30 : N 35 0 = M 35 0) (hM : ∀ f e, f = 31 ∨ f = 32 ∨ f = 33 ∨ f = 34 → e < ng → N f e = M f e) : RlG D N nh ng := by
  obtain ⟨⟨a, b, c, d⟩, e, f⟩ := h
  refine ⟨⟨h11.trans a, b, h6.trans c, h30.trans d⟩, fun x hx => ?_, fun x hx => ?_⟩
  · rw [hI 0 x hx, hI 1 x hx, hI 2 x hx, hM 34 x (by decide) hx, hM 32 x (by decide) hx, hM 33 x (by decide) hx, hM 31 x (by decide) hx]
    exact e x hx
  · rw [h10 x hx, dsc_cong (q := fun e => decide (M 31 e = nI x)) (fun i hi => by rw [hM 31 i (by decide) hi])]
    exact chL_cong (fun y hy => (hL y (dsc_mem hy).1).symm) (f x hx)
theorem RlW.c {np' : Nat} (h : RlW C M np nw) (h3 : ∀ k, k < nw → cI D 8 3 k = cI C 8 3 k) (hL : ∀ i k, k < nw → cL D 8 i k = cL C 8 i k) (h39 : ∀ k, k < nw → N 39 k = M 39 k) (h38 : ∀ i, i < 3 * nw → N 38 i = M 38 i) (hM : ∀ p, p < np → M 4 p = 2 → N 4 p = M 4 p ∧ N 5 p = M 5 p ∧ N 0 p = M 0 p) (hn : np ≤ np') : RlW D N np' nw := by
  intro k hk
  obtain ⟨a, b⟩ := h k hk
  refine ⟨by rw [h3 k hk, h39 k hk]; exact a, fun i hi => ?_⟩
  obtain ⟨p, hp, q1, q2, q3, q4, q5⟩ := b i hi
  obtain ⟨m4, m5, m0⟩ := hM p hp q3
  exact ⟨p, by omega, by rw [hL i k hk]; exact q1, by rw [h38 (3 * k + i) (by omega)]; exact q2, m4.trans q3, m5.trans q4, m0.trans q5⟩
end RlC
theorem m41_ot {M : Ms} {f i : Nat} (h : f ≠ 41) : m41 M f i = M f i := u2_ne h
theorem Rel_fit {C : Cs} {M : Ms} {np nl nh nw ns ng dy tt : Nat} {R Q : Nat → List Nat} (j : Nat) (a b : Int32) (h : Rel C M np nl nh nw ns ng dy tt R Q) : Rel (cFit C j a b) (mFit M j a b) np nl nh nw ns ng dy tt R Q := by
  obtain ⟨hN, hP, hH, hL, hR, hK, hQ, hT, hS, hG, hW, hF, hD, h42⟩ := h
  have eI : ∀ t k i, t ≠ 0 → cI (cFit C j a b) t k i = cI C t k i := fun t k i ht => by
    rw [cFit, cI_wI, if_neg (fun q => ht q.1), cI_wI, if_neg (fun q => ht q.1)]
  have eH : cBr (cFit C j a b) nh = cBr C nh := cBr_c (fun h _ => eI 1 6 h (by decide)) nh (Nat.le_refl _)
  refine ⟨hN, hP, hH.c (fun k h _ _ => eI 1 k h (by decide)) (fun f x h1 h2 => by
    show u2 (u2 (m41 M) 36 j a) 37 j b f x = _
    rw [u2_ne (by omega), u2_ne (by omega), m41_ot (by omega)]) rfl, hL, hR, hK, hQ, hT, hS, hG, hW, fun i hi => ?_, hD, h42⟩
  obtain ⟨f1, f2⟩ := hF i hi
  refine ⟨?_, ?_⟩
  · rw [cFit, cI_wI, if_neg (fun q => absurd q.2.1 (by decide)), cI_wI]
    show _ = u2 (u2 (m41 M) 36 j a) 37 j b 36 i
    by_cases e : i = j
    · subst e
      simp [u2]
    · rw [if_neg (fun q => e q.2.2), f1]
      simp [u2, e]
      rfl
  · rw [cFit, cI_wI]
    show _ = u2 (u2 (m41 M) 36 j a) 37 j b 37 i
    by_cases e : i = j
    · subst e
      simp [u2]
    · rw [if_neg (fun q => e q.2.2), cI_wI, if_neg (fun q => absurd q.2.1 (by decide)), f2]
      simp [u2, e]
      rfl
end
section
/-! THE TWO: back, home, wage -/
theorem NB.c {C D : Cs} {a t f lim n : Nat} (h : NB C a t f lim n) (hf : cI D 9 f 0 = cI C 9 f 0) (hn : cN D t = cN C t) (hl : ∀ j, cL D a j 0 = cL C a j 0) : NB D a t f lim n := ⟨hf.trans h.1, h.2.1, hn.trans h.2.2.1, fun j hj => (hl j).trans (h.2.2.2 j hj)⟩
theorem Rel_back {C : Cs} {M : Ms} {np nl nh nw ns ng dy tt : Nat} {R Q : Nat → List Nat} (k : Nat) (b : Int32) (hb : b = 0 ∨ b = 1) (h : Rel C M np nl nh nw ns ng dy tt R Q) : Rel (wI C 8 3 k b) (u2 (m41 M) 39 k b) np nl nh nw ns ng dy tt R Q := by
  obtain ⟨hN, hP, hH, hL, hR, hK, hQ, hT, hS, hG, hW, hF, hD, h42⟩ := h
  have eI : ∀ t k' i, t ≠ 8 → cI (wI C 8 3 k b) t k' i = cI C t k' i := fun t k' i ht => by rw [cI_wI, if_neg (fun q => ht q.1)]
  refine ⟨hN, hP, hH.c (fun k h _ _ => eI 1 k h (by decide)) (fun f x h1 h2 => by rw [u2_ne (by omega), m41_ot (by omega)]) rfl, hL, hR, hK, hQ, hT, hS, hG, fun j hj => ?_, hF, hD, h42⟩
  obtain ⟨⟨a1, a2⟩, a3⟩ := hW j hj
  refine ⟨?_, a3⟩
  rw [cI_wI]
  by_cases e : j = k
  · subst e
    rw [if_pos ⟨rfl, rfl, rfl⟩]
    simp only [u2]
    simp
    exact hb
  · rw [if_neg (fun q => e q.2.2)]
    have : u2 (m41 M) 39 k b 39 j = M 39 j := by simp [u2, e]; rfl
    rw [this]
    exact ⟨a1, a2⟩
theorem dsc_none {p : Nat → Bool} : ∀ {n : Nat}, (∀ i, i < n → p i = false) → dsc p n = []
  | 0, _ => rfl
  | n + 1, h => by
    unfold dsc
    rw [if_neg (by rw [h n (Nat.lt_succ_self n)]; decide)]
    exact dsc_none (fun i hi => h i (Nat.lt_succ_of_lt hi))
section HM
variable {C : Cs} {a n : Nat} {r o b y : Int32}
theorem cHI_I (D : Cs) (i : Nat) (n r o b v : Int32) (t k j : Nat) (h : t ≠ 1 ∨ j ≠ i) : cI (cHI D i n r o b v) t k j = cI D t k j := by
  have q : ∀ k', ¬ (t = 1 ∧ k = k' ∧ j = i) := fun k' z => by omega
  rw [cHI, cI_wI, if_neg (q 4), cI_wI, if_neg (q 3), cI_wI, if_neg (q 2), cI_wI, if_neg (q 1), cI_wI, if_neg (q 0)]
theorem cHome_I (hc : cN C 1 = n) (t k i : Nat) (h : t ≠ 1 ∨ i ≠ n) (h9 : ¬ (t = 9 ∧ k = 9)) : cI (cHome C a n r o b y) t k i = cI C t k i := by
  rw [cHome, cI_wI, if_neg (fun q => h9 ⟨q.1, q.2.1⟩), cI_wL, cHI_I _ _ _ _ _ _ _ _ _ _ h, cI_wN, if_neg (fun q => by omega)]
theorem cHome_L (hc : cN C 1 = n) (t k i : Nat) (h : t ≠ 1 ∨ i ≠ n) (h25 : t ≠ 25) : cL (cHome C a n r o b y) t k i = cL C t k i := by
  rw [cHome, cL_wI, cL_wL, if_neg (fun q => h25 q.1)]
  show cL (wN C 1 a) t k i = _
  rw [cL_wN, if_neg (fun q => by omega)]
theorem cHome_Ln (hc : cN C 1 = n) (k : Nat) : cL (cHome C a n r o b y) 1 k n = 0 := by
  rw [cHome, cL_wI, cL_wL, if_neg (fun q => absurd q.1 (by decide))]
  show cL (wN C 1 a) 1 k n = _
  rw [cL_wN, if_pos ⟨rfl, hc.symm⟩]
theorem cHome_N (t : Nat) : cN (cHome C a n r o b y) t = if t = 1 then cN C 1 + 1 else cN C t := (cN_wN C 1 a t)
theorem cHome_In (hc : cN C 1 = n) : (cI (cHome C a n r o b y) 1 0 n = nI n ∧ cI (cHome C a n r o b y) 1 1 n = r ∧ cI (cHome C a n r o b y) 1 2 n = o ∧ cI (cHome C a n r o b y) 1 3 n = b ∧ cI (cHome C a n r o b y) 1 4 n = y) ∧ cI (cHome C a n r o b y) 1 5 n = 0 ∧ cI (cHome C a n r o b y) 1 6 n = 0 ∧ cI (cHome C a n r o b y) 1 7 n = 0 := by
  simp [cHome, cHI, cI_wI, cI_wL, cI_wN, hc]
end HM
theorem mHome_ot {M : Ms} {n : Nat} {r o b y : Int32} {f i : Nat} (h : f ≠ 18 ∧ f ≠ 19 ∧ f ≠ 20 ∧ f ≠ 21 ∧ f ≠ 24 ∧ f ≠ 41) : mHome M n r o b y f i = M f i := by
  obtain ⟨h18, h19, h20, h21, h24, h41⟩ := h
  unfold mHome
  rw [u2_ne h24, u2_ne h21, u2_ne h20, u2_ne h19, u2_ne h18, m41_ot h41]
theorem u2_j {α : Type} {f : Nat → Nat → α} {a j a' j' : Nat} {v : α} (h : j' ≠ j) : u2 f a j v a' j' = f a' j' := by simp [u2, h]
theorem mHome_j {M : Ms} {n : Nat} {r o b y : Int32} {f i : Nat} (hi : i ≠ n) (h : f ≠ 24 ∧ f ≠ 41) : mHome M n r o b y f i = M f i := by
  unfold mHome
  rw [u2_ne h.1, u2_j hi, u2_j hi, u2_j hi, u2_j hi, m41_ot h.2]
theorem Rel_home {C : Cs} {M : Ms} {np nl nh nw ns ng dy tt : Nat} {R Q : Nat → List Nat} (a : Nat) {r o b y : Int32} (ok : okHome r o b y nh) (h : Rel C M np nl nh nw ns ng dy tt R Q) : Rel (cHome C a nh r o b y) (mHome M nh r o b y) np nl (nh + 1) nw ns ng dy tt R (fun h => if h = nh then [] else Q h) := by
  obtain ⟨⟨hX, ⟨n1, m1⟩, ⟨n2, m2⟩, ⟨n3, m3⟩, n4, m4⟩, hP, hH, hL, hR, hK, hQ, hT, hS, hG, hW, hF, hD, h42⟩ := h
  have hc := n3.2.2.1
  have nh9 : nh < 9 := ok.2.2.2.2
  have I9 : ∀ k, k ≠ 9 → cI (cHome C a nh r o b y) 9 k 0 = cI C 9 k 0 := fun k hk => cHome_I hc 9 k 0 (Or.inl (by decide)) (fun q => hk q.2)
  have It : ∀ t k i, t ≠ 1 → t ≠ 9 → cI (cHome C a nh r o b y) t k i = cI C t k i := fun t k i h1 h9 => cHome_I hc t k i (Or.inl h1) (fun q => h9 q.1)
  have I1 : ∀ k i, i ≠ nh → cI (cHome C a nh r o b y) 1 k i = cI C 1 k i := fun k i hi => cHome_I hc 1 k i (Or.inr hi) (fun q => absurd q.1 (by decide))
  have Lt : ∀ t k i, t ≠ 1 → t ≠ 25 → cL (cHome C a nh r o b y) t k i = cL C t k i := fun t k i h1 h2 => cHome_L hc t k i (Or.inl h1) h2
  have L1 : ∀ k i, i ≠ nh → cL (cHome C a nh r o b y) 1 k i = cL C 1 k i := fun k i hi => cHome_L hc 1 k i (Or.inr hi) (by decide)
  have Nt : ∀ t, t ≠ 1 → cN (cHome C a nh r o b y) t = cN C t := fun t ht => (cHome_N t).trans (if_neg ht)
  have in1 := cHome_In (a := a) (r := r) (o := o) (b := b) (y := y) hc
  have hin : ∀ h, h < nh → ¬ nI h = nI nh := fun h hh e => by have := (nI_eq (by omega) (by omega)).mp e; omega
  refine ⟨⟨?_, ⟨n1.c (I9 7 (by decide)) (Nt 5 (by decide)) (fun j => Lt 23 j 0 (by decide) (by decide)), m1⟩, ⟨n2.c (I9 8 (by decide)) (Nt 2 (by decide)) (fun j => Lt 24 j 0 (by decide) (by decide)), m2⟩, ⟨⟨?_, by omega, ?_, fun j hj => ?_⟩, ?_⟩, n4.c (I9 10 (by decide)) (Nt 8 (by decide)) (fun j => Lt 26 j 0 (by decide) (by decide)), m4⟩, hP.c (fun k p _ => It 5 k p (by decide) (by decide)) (fun f p hf _ => mHome_ot (by omega)), ⟨fun h hh => ?_, ?_, fun h hh => ?_⟩, fun l hl => (hL l hl).c (fun k => It 2 k l (by decide) (by decide)) (fun k _ => Lt 2 k l (by decide) (by decide)) (fun f hf => mHome_ot (by omega)) (by omega), fun l hl => (hR l hl).c (fun p _ => Lt 5 7 p (by decide) (by decide)) (Lt 2 2 l (by decide) (by decide)) (Lt 2 3 l (by decide) (by decide)) rfl rfl (fun i _ => rfl) (fun f p _ hf => mHome_ot (by omega)) (Nat.le_refl _), hK.c (fun _ _ => rfl) (fun _ _ => rfl) (fun l _ => Lt 2 8 l (by decide) (by decide)), fun h hh => ?_, hT, ?_, ?_, hW.c (fun k _ => It 8 3 k (by decide) (by decide)) (fun i k _ => Lt 8 i k (by decide) (by decide)) (fun _ _ => rfl) (fun _ _ => rfl) (fun p _ _ => ⟨rfl, rfl, rfl⟩) (Nat.le_refl _), fun i hi => ?_, ⟨(I9 13 (by decide)).trans hD.1, hD.2⟩, h42⟩
  · exact FX_wI (FX_wL (cHI_fx (FX_wN hX 1 a (by decide)) _ _ _ _ _ _) _ _ _ _ (by decide)) _ _ _ _
  · rw [cHome, cI_wI, if_pos ⟨rfl, rfl, rfl⟩]
  · rw [cHome_N, if_pos rfl, hc]
  · rw [cHome, cL_wI, cL_wL]
    by_cases e : j = nh
    · rw [if_pos ⟨rfl, e, rfl⟩, e]
    · rw [if_neg (fun q => e q.2.1)]
      show cL (wN C 1 a) 25 j 0 = _
      rw [cL_wNt (by decide)]
      exact n3.2.2.2 j (by omega)
  · simp [mHome, u2]
  · by_cases e : h = nh
    · subst e
      obtain ⟨⟨q0, q1, q2, q3, q4⟩, q5, q6, q7⟩ := in1
      have z := hH.2.2 h (Nat.le_refl _)
      have e18 : mHome M h r o b y 18 h = r := by simp [mHome, u2]
      have e19 : mHome M h r o b y 19 h = o := by simp [mHome, u2]
      have e20 : mHome M h r o b y 20 h = b := by simp [mHome, u2]
      have e21 : mHome M h r o b y 21 h = y := by simp [mHome, u2]
      have e22 : mHome M h r o b y 22 h = 0 := (mHome_ot (by decide)).trans z.1
      have e23 : mHome M h r o b y 23 h = 0 := (mHome_ot (by decide)).trans z.2
      rw [q0, q1, q2, q3, q4, q5, q6, e18, e19, e20, e21, e22, e23]
      exact ⟨rfl, ⟨rfl, rfl, rfl, rfl, rfl, rfl⟩, ok.1, ok.2.2.1, ok.2.2.2.1⟩
    · have := hH.1 h (by omega)
      rw [I1 0 h e, I1 1 h e, I1 2 h e, I1 3 h e, I1 4 h e, I1 5 h e, I1 6 h e, mHome_j (f := 18) e (by decide), mHome_j (f := 19) e (by decide), mHome_j (f := 20) e (by decide), mHome_j (f := 21) e (by decide), mHome_j (f := 22) e (by decide), mHome_j (f := 23) e (by decide)]
      exact this
  · rw [cBr, in1.2.2.1, cBr_c (C := C) (nh := nh) (fun h hh => I1 6 h (by omega)) nh (Nat.le_refl _), mHome_ot (by decide), hH.2.1]
    simp
  · rw [mHome_ot (by decide), mHome_ot (by decide)]
    exact hH.2.2 h (by omega)
  · dsimp only
    by_cases e : h = nh
    · subst e
      rw [if_pos rfl]
      refine ⟨⟨cHome_Ln hc 8, cHome_Ln hc 9, in1.2.2.2⟩, List.nodup_nil, fun l => ⟨fun q => by simp at q, fun q => ?_⟩, List.Pairwise.nil⟩
      obtain ⟨q1, q2, q3⟩ := q
      rw [mHome_ot (by decide)] at q2 q3
      obtain ⟨h', hh', e2, _⟩ := (hL l q1).2.2.2.2.1 (by rw [q2]; decide)
      exact absurd (e2.symm.trans q3) (hin h' hh')
    · rw [if_neg e]
      exact (hQ h (by omega)).c (fun l _ => Lt 2 10 l (by decide) (by decide)) (L1 8 h e) (L1 9 h e) (I1 7 h e) (fun l => Iff.rfl) (fun _ _ => rfl)
  · obtain ⟨⟨s1, s2, s3, s4⟩, s5, s6⟩ := hS
    refine ⟨⟨(I9 11 (by decide)).trans s1, s2, (Nt 6 (by decide)).trans s3, s4⟩, fun e he => ?_, fun h hh => ?_⟩
    · rw [It 6 0 e (by decide) (by decide), It 6 1 e (by decide) (by decide)]
      obtain ⟨u1, u2, x, hx, u3⟩ := s5 e he
      exact ⟨u1, u2, x, by omega, u3⟩
    · by_cases e : h = nh
      · subst e
        rw [cHome_Ln hc 10, dsc_none (fun i hi => ?_)]
        · rfl
        · obtain ⟨_, _, x, hx, e2⟩ := s5 i hi
          exact decide_eq_false (fun q => hin x hx (e2.symm.trans q))
      · rw [L1 10 h e]
        exact chL_cong (fun x _ => (Lt 6 2 x (by decide) (by decide)).symm) (s6 h (by omega))
  · obtain ⟨⟨s1, s2, s3, s4⟩, s5, s6⟩ := hG
    refine ⟨⟨(I9 12 (by decide)).trans s1, s2, (Nt 7 (by decide)).trans s3, s4⟩, fun e he => ?_, fun h hh => ?_⟩
    · rw [It 7 0 e (by decide) (by decide), It 7 1 e (by decide) (by decide), It 7 2 e (by decide) (by decide)]
      obtain ⟨u1, u2, u4, x, hx, u3⟩ := s5 e he
      exact ⟨u1, u2, u4, x, by omega, u3⟩
    · by_cases e : h = nh
      · subst e
        rw [cHome_Ln hc 11, dsc_none (fun i hi => ?_)]
        · rfl
        · obtain ⟨_, _, _, x, hx, e2⟩ := s5 i hi
          exact decide_eq_false (fun q => hin x hx (e2.symm.trans q))
      · rw [L1 11 h e]
        exact chL_cong (fun x _ => (Lt 7 3 x (by decide) (by decide)).symm) (s6 h (by omega))
  · rw [It 0 0 i (by decide) (by decide), It 0 1 i (by decide) (by decide)]
    exact hF i hi
end
section
/-! THE TWO: wage, send -/
section WG
variable {C : Cs} {a h ng : Nat} {f v : Int32}
theorem cWage_I (hc : cN C 7 = ng) (t k i : Nat) (h7 : t ≠ 7 ∨ i ≠ ng) (h9 : ¬ (t = 9 ∧ k = 12)) : cI (cWage C a h ng f v) t k i = cI C t k i := by
  have q : ∀ k', ¬ (t = 7 ∧ k = k' ∧ i = ng) := fun k' z => by omega
  rw [cWage, cI_wL, cGI, cI_wL, cI_wI, if_neg (q 2), cI_wI, if_neg (q 1), cI_wI, if_neg (q 0), cI_wN]
  rw [if_neg (fun z => by have : i = cN C 7 := z.2; omega), cI_wI, if_neg (fun z => h9 ⟨z.1, z.2.1⟩)]
theorem cWage_L (hc : cN C 7 = ng) (t k i : Nat) (h7 : t ≠ 7 ∨ i ≠ ng) (h1 : ¬ (t = 1 ∧ k = 11 ∧ i = h)) : cL (cWage C a h ng f v) t k i = cL C t k i := by
  rw [cWage, cL_wL, if_neg h1, cGI, cL_wL, if_neg (fun z => by omega), cL_wI, cL_wI, cL_wI, cL_wN]
  rw [if_neg (fun z => by have : i = cN C 7 := z.2; omega), cL_wI]
theorem cWage_N (t : Nat) : cN (cWage C a h ng f v) t = if t = 7 then cN C 7 + 1 else cN C t := cN_wN (wI C 9 12 0 (nI (ng + 1))) 7 a t
theorem cWage_n : (cI (cWage C a h ng f v) 7 0 ng = cI C 9 13 0 ∧ cI (cWage C a h ng f v) 7 1 ng = f ∧ cI (cWage C a h ng f v) 7 2 ng = v) ∧ cL (cWage C a h ng f v) 7 3 ng = cL C 1 11 h ∧ cL (cWage C a h ng f v) 1 11 h = ng + 1 := by
  simp [cWage, cGI, cI_wI, cI_wL, cL_wL, cL_wI]
theorem cWage_c (hc : cN C 7 = ng) : cI (cWage C a h ng f v) 9 12 0 = nI (ng + 1) := by
  simp [cWage, cGI, cI_wI, cI_wL, cI_wN]
end WG
theorem mWage_ot {M : Ms} {h ng : Nat} {f v : Int32} {g i : Nat} (hg : g ≠ 31 ∧ g ≠ 32 ∧ g ≠ 33 ∧ g ≠ 34 ∧ g ≠ 35 ∧ g ≠ 41) : mWage M h ng f v g i = M g i := by
  obtain ⟨a, b, c, d, e, k⟩ := hg
  unfold mWage
  rw [u2_ne e, u2_ne d, u2_ne c, u2_ne b, u2_ne a, m41_ot k]
theorem mWage_j {M : Ms} {h ng : Nat} {f v : Int32} {g i : Nat} (hi : i ≠ ng) (hg : g ≠ 35 ∧ g ≠ 41) : mWage M h ng f v g i = M g i := by
  unfold mWage
  rw [u2_ne hg.1, u2_j hi, u2_j hi, u2_j hi, u2_j hi, m41_ot hg.2]
theorem Rel_wage {C : Cs} {M : Ms} {np nl nh nw ns ng dy tt : Nat} {R Q : Nat → List Nat} (a : Nat) {h : Nat} {f v : Int32} (hh : h < nh) (hng : ng < 100) (H : Rel C M np nl nh nw ns ng dy tt R Q) : Rel (cWage C a h ng f v) (mWage M h ng f v) np nl nh nw ns (ng + 1) dy tt R Q := by
  obtain ⟨⟨hX, ⟨n1, m1⟩, ⟨n2, m2⟩, ⟨n3, m3⟩, n4, m4⟩, hP, hH, hL, hR, hK, hQ, hT, hS, hG, hW, hF, hD, h42⟩ := H
  obtain ⟨⟨s1, s2, s3, s4⟩, s5, s6⟩ := hG
  have nh9 := n3.2.1
  have I9 : ∀ k, k ≠ 12 → cI (cWage C a h ng f v) 9 k 0 = cI C 9 k 0 := fun k hk => cWage_I s3 9 k 0 (Or.inl (by decide)) (fun q => hk q.2)
  have It : ∀ t k i, t ≠ 7 → t ≠ 9 → cI (cWage C a h ng f v) t k i = cI C t k i := fun t k i h1 h9 => cWage_I s3 t k i (Or.inl h1) (fun q => h9 q.1)
  have I7 : ∀ k i, i ≠ ng → cI (cWage C a h ng f v) 7 k i = cI C 7 k i := fun k i hi => cWage_I s3 7 k i (Or.inr hi) (fun q => absurd q.1 (by decide))
  have Lt : ∀ t k i, t ≠ 7 → t ≠ 1 → cL (cWage C a h ng f v) t k i = cL C t k i := fun t k i h1 h2 => cWage_L s3 t k i (Or.inl h1) (fun q => h2 q.1)
  have L1 : ∀ k i, k ≠ 11 → cL (cWage C a h ng f v) 1 k i = cL C 1 k i := fun k i hi => cWage_L s3 1 k i (Or.inl (by decide)) (fun q => hi q.2.1)
  have Nt : ∀ t, t ≠ 7 → cN (cWage C a h ng f v) t = cN C t := fun t ht => (cWage_N t).trans (if_neg ht)
  obtain ⟨⟨q0, q1, q2⟩, q3, q4⟩ := cWage_n (C := C) (a := a) (h := h) (ng := ng) (f := f) (v := v)
  have hM31 : ∀ g, mWage M h ng f v 31 g = if g = ng then nI h else M 31 g := fun g => by
    by_cases e : g = ng
    · subst e; simp [mWage, u2]
    · rw [if_neg e, mWage_j e (by decide)]
  refine ⟨⟨?_, ⟨n1.c (I9 7 (by decide)) (Nt 5 (by decide)) (fun j => Lt 23 j 0 (by decide) (by decide)), m1⟩, ⟨n2.c (I9 8 (by decide)) (Nt 2 (by decide)) (fun j => Lt 24 j 0 (by decide) (by decide)), m2⟩, ⟨n3.c (I9 9 (by decide)) (Nt 1 (by decide)) (fun j => Lt 25 j 0 (by decide) (by decide)), m3⟩, n4.c (I9 10 (by decide)) (Nt 8 (by decide)) (fun j => Lt 26 j 0 (by decide) (by decide)), m4⟩, hP.c (fun k p _ => It 5 k p (by decide) (by decide)) (fun g p hf _ => mWage_ot (by omega)), hH.c (fun k x _ _ => It 1 k x (by decide) (by decide)) (fun g x h1 h2 => mWage_ot (by omega)) (mWage_ot (by decide)), fun l hl => (hL l hl).c (fun k => It 2 k l (by decide) (by decide)) (fun k _ => Lt 2 k l (by decide) (by decide)) (fun g hf => mWage_ot (by omega)) (Nat.le_refl _), fun l hl => (hR l hl).c (fun p _ => Lt 5 7 p (by decide) (by decide)) (Lt 2 2 l (by decide) (by decide)) (Lt 2 3 l (by decide) (by decide)) rfl rfl (fun i _ => rfl) (fun g p _ hf => mWage_ot (by omega)) (Nat.le_refl _), hK.c (fun _ _ => rfl) (fun _ _ => rfl) (fun l _ => Lt 2 8 l (by decide) (by decide)), fun x hx => (hQ x hx).c (fun l _ => Lt 2 10 l (by decide) (by decide)) (L1 8 x (by decide)) (L1 9 x (by decide)) (It 1 7 x (by decide) (by decide)) (fun l => Iff.rfl) (fun _ _ => rfl), hT, hS.c (I9 11 (by decide)) (Nt 6 (by decide)) (fun k e _ => It 6 k e (by decide) (by decide)) (fun e _ => Lt 6 2 e (by decide) (by decide)) (fun x _ => L1 10 x (by decide)) (mWage_ot (by decide)) (fun g e hg _ => mWage_ot (by omega)), ⟨⟨cWage_c s3, by omega, ?_, ?_⟩, fun g hg => ?_, fun x hx => ?_⟩, hW.c (fun k _ => It 8 3 k (by decide) (by decide)) (fun i k _ => Lt 8 i k (by decide) (by decide)) (fun _ _ => rfl) (fun _ _ => rfl) (fun p _ _ => ⟨rfl, rfl, rfl⟩) (Nat.le_refl _), fun i hi => ?_, ⟨(I9 13 (by decide)).trans hD.1, hD.2⟩, h42⟩
  · exact FX_wL (FX_wL (FX_wI (FX_wI (FX_wI (FX_wN (FX_wI hX _ _ _ _) 7 a (by decide)) _ _ _ _) _ _ _ _) _ _ _ _) _ _ _ _ (by decide)) _ _ _ _ (by decide)
  · rw [cWage_N, if_pos rfl, s3]
  · simp [mWage, u2]
  · by_cases e : g = ng
    · subst e
      have e34 : mWage M h g f v 34 g = M 25 0 := by simp [mWage, u2]
      have e32 : mWage M h g f v 32 g = f := by simp [mWage, u2]
      have e33 : mWage M h g f v 33 g = v := by simp [mWage, u2]
      rw [q0, q1, q2, e34, e32, e33, hM31, if_pos rfl, hD.1, hD.2.2]
      exact ⟨rfl, rfl, rfl, h, hh, rfl⟩
    · rw [I7 0 g e, I7 1 g e, I7 2 g e, mWage_j (g := 34) e (by decide), mWage_j (g := 32) e (by decide), mWage_j (g := 33) e (by decide), mWage_j (g := 31) e (by decide)]
      exact s5 g (by omega)
  · have tl : dsc (fun g => decide (mWage M h ng f v 31 g = nI x)) ng = dsc (fun g => decide (M 31 g = nI x)) ng := dsc_cong (fun i hi => by rw [hM31, if_neg (by omega)])
    have ol : chL (cL (cWage C a h ng f v) 7 3) (cL C 1 11 x) (dsc (fun g => decide (M 31 g = nI x)) ng) := chL_cong (fun y hy => (cWage_L s3 7 3 y (Or.inr (by have := (dsc_mem hy).1; omega)) (fun q => absurd q.1 (by decide))).symm) (s6 x hx)
    by_cases e : x = h
    · subst e
      rw [dsc, if_pos (by rw [hM31, if_pos rfl]; exact decide_eq_true rfl), tl, q4]
      exact ⟨rfl, by rw [q3]; exact ol⟩
    · rw [dsc, if_neg (by rw [hM31, if_pos rfl]; intro z; have := (nI_eq (by omega) (by omega)).mp (of_decide_eq_true z); omega), tl, cWage_L s3 1 11 x (Or.inl (by decide)) (fun q => e q.2.2)]
      exact ol
  · rw [It 0 0 i (by decide) (by decide), It 0 1 i (by decide) (by decide)]
    exact hF i hi
section SD
variable {C : Cs} {a j h ns : Nat}
theorem cSend_I (hc : cN C 6 = ns) (t k i : Nat) (h6 : t ≠ 6 ∨ i ≠ ns) (h9 : ¬ (t = 9 ∧ k = 11)) (h2 : t ≠ 2 ∨ i ≠ j ∨ (k ≠ 5 ∧ k ≠ 7)) : cI (cSend C a j h ns) t k i = cI C t k i := by
  rw [cSend, cI_wI, if_neg (fun z => by omega), cI_wI, if_neg (fun z => by omega), cI_wL, cI_wL, cSI, cI_wL, cI_wI, if_neg (fun z => by omega), cI_wI, if_neg (fun z => by omega), cI_wN]
  rw [if_neg (fun z => by have : i = cN C 6 := z.2; omega), cI_wI, if_neg (fun z => h9 ⟨z.1, z.2.1⟩)]
theorem cSend_L (hc : cN C 6 = ns) (t k i : Nat) (h6 : t ≠ 6 ∨ i ≠ ns) (h1 : ¬ (t = 1 ∧ k = 10 ∧ i = h)) (h2 : ¬ (t = 2 ∧ k = 6 ∧ i = j)) : cL (cSend C a j h ns) t k i = cL C t k i := by
  rw [cSend, cL_wI, cL_wI, cL_wL, if_neg h2, cL_wL, if_neg h1, cSI, cL_wL, if_neg (fun z => by omega), cL_wI, cL_wI, cL_wN]
  rw [if_neg (fun z => by have : i = cN C 6 := z.2; omega), cL_wI]
theorem cSend_N (t : Nat) : cN (cSend C a j h ns) t = if t = 6 then cN C 6 + 1 else cN C t := cN_wN (wI C 9 11 0 (nI (ns + 1))) 6 a t
theorem cSend_n : (cI (cSend C a j h ns) 6 0 ns = cI C 9 13 0 ∧ cI (cSend C a j h ns) 6 1 ns = cI C 2 4 j) ∧ cL (cSend C a j h ns) 6 2 ns = cL C 1 10 h ∧ cL (cSend C a j h ns) 1 10 h = ns + 1 ∧ cL (cSend C a j h ns) 2 6 j = h + 1 ∧ cI (cSend C a j h ns) 2 5 j = 1 ∧ cI (cSend C a j h ns) 2 7 j = cI C 1 4 h := by
  simp [cSend, cSI, cI_wI, cI_wL, cL_wL, cL_wI]
theorem cSend_c : cI (cSend C a j h ns) 9 11 0 = nI (ns + 1) := by
  simp [cSend, cSI, cI_wI, cI_wL, cI_wN]
end SD
theorem mSend_ot {M : Ms} {l h ns f i : Nat} (hf : f ≠ 10 ∧ f ≠ 11 ∧ f ≠ 12 ∧ f ≠ 27 ∧ f ≠ 28 ∧ f ≠ 29 ∧ f ≠ 30 ∧ f ≠ 41) : mSend M l h ns f i = M f i := by
  obtain ⟨a, b, c, d, e, k, m, n⟩ := hf
  unfold mSend
  rw [u2_ne m, u2_ne k, u2_ne e, u2_ne d, u2_ne c, u2_ne b, u2_ne a, m41_ot n]
theorem mSend_j {M : Ms} {l h ns f i : Nat} (hi : i ≠ l) (hf : f ≠ 27 ∧ f ≠ 28 ∧ f ≠ 29 ∧ f ≠ 30 ∧ f ≠ 41) : mSend M l h ns f i = M f i := by
  obtain ⟨d, e, k, m, n⟩ := hf
  unfold mSend
  rw [u2_ne m, u2_ne k, u2_ne e, u2_ne d, u2_j hi, u2_j hi, u2_j hi, m41_ot n]
theorem mSend_s {M : Ms} {l h ns f i : Nat} (hi : i ≠ ns) (hf : f ≠ 10 ∧ f ≠ 11 ∧ f ≠ 12 ∧ f ≠ 30 ∧ f ≠ 41) : mSend M l h ns f i = M f i := by
  obtain ⟨a, b, c, m, n⟩ := hf
  unfold mSend
  rw [u2_ne m, u2_j hi, u2_j hi, u2_j hi, u2_ne c, u2_ne b, u2_ne a, m41_ot n]
theorem Rel_send {C : Cs} {M : Ms} {np nl nh nw ns ng dy tt : Nat} {R Q : Nat → List Nat} (a : Nat) {j h : Nat} (hj : j < nl) (hh : h < nh) (j0 : M 10 j = 0) (hns : ns < 500) (H : Rel C M np nl nh nw ns ng dy tt R Q) : Rel (cSend C a j h ns) (mSend M j h ns) np nl nh nw (ns + 1) ng dy tt R Q := by
  obtain ⟨⟨hX, ⟨n1, m1⟩, ⟨n2, m2⟩, ⟨n3, m3⟩, n4, m4⟩, hP, hH, hL, hR, hK, hQ, hT, hS, hG, hW, hF, hD, h42⟩ := H
  obtain ⟨⟨s1, s2, s3, s4⟩, s5, s6⟩ := hS
  have nh9 := n3.2.1
  have I9 : ∀ k, k ≠ 11 → cI (cSend C a j h ns) 9 k 0 = cI C 9 k 0 := fun k hk => cSend_I s3 9 k 0 (Or.inl (by decide)) (fun q => hk q.2) (Or.inl (by decide))
  have It : ∀ t k i, t ≠ 6 → t ≠ 9 → t ≠ 2 → cI (cSend C a j h ns) t k i = cI C t k i := fun t k i h1 h9 h2 => cSend_I s3 t k i (Or.inl h1) (fun q => h9 q.1) (Or.inl h2)
  have I2 : ∀ k i, i ≠ j ∨ (k ≠ 5 ∧ k ≠ 7) → cI (cSend C a j h ns) 2 k i = cI C 2 k i := fun k i hi => cSend_I s3 2 k i (Or.inl (by decide)) (fun q => absurd q.1 (by decide)) (Or.inr hi)
  have I6 : ∀ k i, i ≠ ns → cI (cSend C a j h ns) 6 k i = cI C 6 k i := fun k i hi => cSend_I s3 6 k i (Or.inr hi) (fun q => absurd q.1 (by decide)) (Or.inl (by decide))
  have Lt : ∀ t k i, t ≠ 6 → t ≠ 1 → t ≠ 2 → cL (cSend C a j h ns) t k i = cL C t k i := fun t k i h1 h2 h3 => cSend_L s3 t k i (Or.inl h1) (fun q => h2 q.1) (fun q => h3 q.1)
  have L1 : ∀ k i, k ≠ 10 → cL (cSend C a j h ns) 1 k i = cL C 1 k i := fun k i hi => cSend_L s3 1 k i (Or.inl (by decide)) (fun q => hi q.2.1) (fun q => absurd q.1 (by decide))
  have L2 : ∀ k i, k ≠ 6 ∨ i ≠ j → cL (cSend C a j h ns) 2 k i = cL C 2 k i := fun k i hi => cSend_L s3 2 k i (Or.inl (by decide)) (fun q => absurd q.1 (by decide)) (fun q => by omega)
  have Nt : ∀ t, t ≠ 6 → cN (cSend C a j h ns) t = cN C t := fun t ht => (cSend_N t).trans (if_neg ht)
  obtain ⟨⟨q0, q1⟩, q3, q4, q5, q6, q7⟩ := cSend_n (C := C) (a := a) (j := j) (h := h) (ns := ns)
  have M10 : mSend M j h ns 10 j = 1 := by simp [mSend, u2]
  have M11 : mSend M j h ns 11 j = nI h := by simp [mSend, u2]
  have M12 : mSend M j h ns 12 j = M 21 h := by simp [mSend, u2]
  have Mo : ∀ f l, l ≠ j → f = 7 ∨ f = 9 ∨ f = 10 ∨ f = 11 ∨ f = 12 ∨ f = 13 ∨ f = 14 ∨ f = 15 → mSend M j h ns f l = M f l := fun f l hl hf => mSend_j hl (by omega)
  have hM27 : ∀ g, mSend M j h ns 27 g = if g = ns then nI h else M 27 g := fun g => by
    by_cases e : g = ns
    · subst e; simp [mSend, u2]
    · rw [if_neg e, mSend_s e (by decide)]
  have hHh := hH.1 h hh
  refine ⟨⟨?_, ⟨n1.c (I9 7 (by decide)) (Nt 5 (by decide)) (fun j => Lt 23 j 0 (by decide) (by decide) (by decide)), m1⟩, ⟨n2.c (I9 8 (by decide)) (Nt 2 (by decide)) (fun j => Lt 24 j 0 (by decide) (by decide) (by decide)), m2⟩, ⟨n3.c (I9 9 (by decide)) (Nt 1 (by decide)) (fun j => Lt 25 j 0 (by decide) (by decide) (by decide)), m3⟩, n4.c (I9 10 (by decide)) (Nt 8 (by decide)) (fun j => Lt 26 j 0 (by decide) (by decide) (by decide)), m4⟩, hP.c (fun k p _ => It 5 k p (by decide) (by decide) (by decide)) (fun g p hf _ => mSend_ot (by omega)), hH.c (fun k x _ _ => It 1 k x (by decide) (by decide) (by decide)) (fun g x h1 h2 => mSend_ot (by omega)) (mSend_ot (by decide)), fun l hl => ?_, fun l hl => (hR l hl).c (fun p _ => Lt 5 7 p (by decide) (by decide) (by decide)) (L2 2 l (Or.inl (by decide))) (L2 3 l (Or.inl (by decide))) rfl rfl (fun i _ => rfl) (fun g p _ hf => mSend_ot (by omega)) (Nat.le_refl _), fun l hl q => ?_, fun x hx => ?_, ⟨hT.1, ?_, fun l hl q => ?_⟩, ⟨⟨cSend_c, by omega, ?_, ?_⟩, fun g hg => ?_, fun x hx => ?_⟩, hG.c (I9 12 (by decide)) (Nt 7 (by decide)) (fun k e _ => It 7 k e (by decide) (by decide) (by decide)) (fun e _ => Lt 7 3 e (by decide) (by decide) (by decide)) (fun x _ => L1 11 x (by decide)) (mSend_ot (by decide)) (fun g e hg _ => mSend_ot (by omega)), hW.c (fun k _ => It 8 3 k (by decide) (by decide) (by decide)) (fun i k _ => Lt 8 i k (by decide) (by decide) (by decide)) (fun _ _ => rfl) (fun _ _ => rfl) (fun p _ _ => ⟨rfl, rfl, rfl⟩) (Nat.le_refl _), fun i hi => ?_, ⟨(I9 13 (by decide)).trans hD.1, hD.2⟩, h42⟩
  · exact FX_wI (FX_wI (FX_wL (FX_wL (cSI_fx (FX_wN (FX_wI hX _ _ _ _) 6 a (by decide)) _ _ _ _) _ _ _ _ (by decide)) _ _ _ _ (by decide)) _ _ _ _) _ _ _ _
  · by_cases e : l = j
    · subst e
      obtain ⟨a1, ⟨a2, a3, a4⟩, a5, a6, a7, a8, a9, b1, b2⟩ := hL l hl
      have nz := b2 (by rw [j0]; decide)
      unfold RlL1
      rw [I2 0 l (Or.inr (by decide)), I2 1 l (Or.inr (by decide)), I2 4 l (Or.inr (by decide)), q6, q5, q7, I2 9 l (Or.inr (by decide)), L2 8 l (Or.inl (by decide)), L2 10 l (Or.inl (by decide)), M10, M11, M12, mSend_ot (f := 7) (by decide), mSend_ot (f := 9) (by decide)]
      refine ⟨a1, ⟨a2, a3, rfl⟩, ⟨1, by decide, rfl⟩, fun z => absurd z (by decide), fun _ => ⟨h, hh, rfl, rfl⟩, fun _ => ⟨hHh.2.1.2.2.2.1, hHh.2.2.2.2.1⟩, fun z => absurd (Or.inl rfl) z, fun z => absurd z (by decide), fun _ => nz⟩
    · exact (hL l hl).c (fun k => I2 k l (Or.inl e)) (fun k _ => L2 k l (Or.inr e)) (fun f hf => Mo f l e (by omega)) (Nat.le_refl _)
  · have e : l ≠ j := fun z => by rw [z, M10] at q; exact absurd q (by decide)
    rw [Mo 10 l e (by decide)] at q
    rw [Mo 14 l e (by decide), L2 8 l (Or.inr e)]
    exact hK l hl q
  · refine (hQ x hx).c (fun l _ => L2 10 l (Or.inl (by decide))) (L1 8 x (by decide)) (L1 9 x (by decide)) (It 1 7 x (by decide) (by decide) (by decide)) (fun l => ?_) (fun _ _ => rfl)
    by_cases e : l = j
    · rw [e, M10, j0]
      exact ⟨fun z => absurd z.2.1 (by decide), fun z => absurd z.2.1 (by decide)⟩
    · rw [Mo 10 l e (by decide), Mo 11 l e (by decide)]
  · have := cn_flip (p := fun l => decide (mSend M j h ns 10 l = 1)) (q := fun l => decide (M 10 l = 1)) (i := j) (decide_eq_true M10) (decide_eq_false (by rw [j0]; decide)) (fun l hl => by rw [Mo 10 l hl (by decide)]) hj
    have t2 := hT.2.1
    show tt + cn (fun l => decide (mSend M j h ns 10 l = 1)) nl ≤ ns + 1
    omega
  · have e : l ≠ j := fun z => by rw [z, M10] at q; exact absurd q (by decide)
    rw [Mo 10 l e (by decide)] at q
    exact hT.2.2 l hl q
  · rw [cSend_N, if_pos rfl, s3]
  · simp [mSend, u2]
  · by_cases e : g = ns
    · subst e
      have e28 : mSend M j h g 28 g = M 25 0 := by simp [mSend, u2]
      have e29 : mSend M j h g 29 g = M 9 j := by simp [mSend, u2]
      rw [q0, q1, e28, e29, hM27, if_pos rfl, hD.1, hD.2.2]
      exact ⟨rfl, (hL j hj).2.1.2.1, h, hh, rfl⟩
    · rw [I6 0 g e, I6 1 g e, mSend_s (f := 28) e (by decide), mSend_s (f := 29) e (by decide), mSend_s (f := 27) e (by decide)]
      exact s5 g (by omega)
  · have tl : dsc (fun g => decide (mSend M j h ns 27 g = nI x)) ns = dsc (fun g => decide (M 27 g = nI x)) ns := dsc_cong (fun i hi => by rw [hM27, if_neg (by omega)])
    have ol : chL (cL (cSend C a j h ns) 6 2) (cL C 1 10 x) (dsc (fun g => decide (M 27 g = nI x)) ns) := chL_cong (fun y hy => (cSend_L s3 6 2 y (Or.inr (by have := (dsc_mem hy).1; omega)) (fun q => absurd q.1 (by decide)) (fun q => absurd q.1 (by decide))).symm) (s6 x hx)
    by_cases e : x = h
    · subst e
      rw [dsc, if_pos (by rw [hM27, if_pos rfl]; exact decide_eq_true rfl), tl, q4]
      exact ⟨rfl, by rw [q3]; exact ol⟩
    · rw [dsc, if_neg (by rw [hM27, if_pos rfl]; intro z; have := (nI_eq (by omega) (by omega)).mp (of_decide_eq_true z); omega), tl, cSend_L s3 1 10 x (Or.inl (by decide)) (fun q => e q.2.2) (fun q => absurd q.1 (by decide))]
      exact ol
  · rw [It 0 0 i (by decide) (by decide) (by decide), It 0 1 i (by decide) (by decide) (by decide)]
    exact hF i hi
end
section
/-! THE TWO: rows as chains -/
def nU (nx : Nat → Nat) (q v : Nat) : Nat → Nat := fun x => if x = q then v else nx x
theorem lsC_0 : ∀ {L : List Nat}, lsC L = 0 → L = []
  | [], _ => rfl
  | [p], h => by simp [lsC] at h
  | p :: q :: t, h => by
    rw [lsC] at h
    have := lsC_0 h
    cases this
theorem lsC_m : ∀ {L : List Nat} {q : Nat}, lsC L = q + 1 → q ∈ L
  | [], _, h => by simp [lsC] at h
  | [p], q, h => by
    have : p = q := by simp [lsC] at h; exact h
    rw [this]
    exact List.mem_cons_self ..
  | p :: r :: t, q, h => by
    rw [lsC] at h
    exact List.mem_cons_of_mem _ (lsC_m h)
theorem lsC_app (X : List Nat) : ∀ {t : List Nat}, t ≠ [] → lsC (X ++ t) = lsC t := by
  induction X with
  | nil => intro t _; rfl
  | cons p X ih =>
    intro t ht
    have e := ih ht
    cases hX : X ++ t with
    | nil =>
      have := List.append_eq_nil_iff.mp hX
      exact absurd this.2 ht
    | cons s u =>
      show lsC (p :: (X ++ t)) = _
      rw [hX, lsC, ← hX, e]
theorem lsC_snoc (X : List Nat) (p : Nat) : lsC (X ++ [p]) = p + 1 := lsC_app X (by simp)
theorem chL_app {nx : Nat → Nat} {p q : Nat} : ∀ {L : List Nat} {c : Nat}, lsC L = q + 1 → L.Nodup → p ∉ L → chL nx c L → chL (nU (nU nx p 0) q (p + 1)) c (L ++ [p])
  | [], _, h, _, _, _ => by simp [lsC] at h
  | [r], c, h, _, hp, hc => by
    have e : r = q := by simp [lsC] at h; exact h
    subst e
    have hne : p ≠ r := fun z => hp (by rw [z]; exact List.mem_cons_self ..)
    refine ⟨hc.1, ?_, ?_⟩
    · show nU (nU nx p 0) r (p + 1) r = p + 1
      unfold nU
      rw [if_pos rfl]
    · show nU (nU nx p 0) r (p + 1) p = 0
      unfold nU
      rw [if_neg hne, if_pos rfl]
  | r :: s :: t, c, h, hn, hp, hc => by
    rw [lsC] at h
    have hn2 := List.nodup_cons.mp hn
    have ih := chL_app (p := p) (q := q) h hn2.2 (fun z => hp (List.mem_cons_of_mem _ z)) hc.2
    refine ⟨hc.1, ?_⟩
    have e : nU (nU nx p 0) q (p + 1) r = nx r := by
      unfold nU
      rw [if_neg (fun z => hn2.1 (by rw [z]; exact lsC_m h)), if_neg (fun z => hp (by rw [← z]; exact List.mem_cons_self ..))]
    rw [e]
    exact ih
theorem chL_cut {nx : Nat → Nat} {p q : Nat} {t : List Nat} : ∀ {X : List Nat} {c : Nat}, lsC X = q + 1 → (X ++ p :: t).Nodup → chL nx c (X ++ p :: t) → chL (nU nx q (nx p)) c (X ++ t)
  | [], _, h, _, _ => by simp [lsC] at h
  | [r], c, h, hn, hc => by
    have e : r = q := by simp [lsC] at h; exact h
    subst e
    obtain ⟨h1, h2, h3⟩ := hc
    have hn2 := List.nodup_cons.mp hn
    refine ⟨h1, ?_⟩
    have e : nU nx r (nx p) r = nx p := if_pos rfl
    rw [e]
    exact chL_cong (fun x hx => (if_neg (fun z => hn2.1 (by rw [← z]; exact List.mem_cons_of_mem _ hx))).symm) h3
  | r :: s :: X, c, h, hn, hc => by
    rw [lsC] at h
    have hn2 := List.nodup_cons.mp hn
    have ih := chL_cut (p := p) (q := q) (t := t) h hn2.2 hc.2
    refine ⟨hc.1, ?_⟩
    have e : nU nx q (nx p) r = nx r := if_neg (fun z => hn2.1 (by rw [z]; exact List.mem_append_left _ (lsC_m h)))
    show chL (nU nx q (nx p)) (nU nx q (nx p) r) _
    rw [e]
    exact ih
theorem chL_nx {nx : Nat → Nat} {p : Nat} {t : List Nat} : ∀ {X : List Nat} {c : Nat}, chL nx c (X ++ p :: t) → chL nx (nx p) t
  | [], _, h => h.2
  | _ :: X, _, h => chL_nx (X := X) h.2
theorem chL_0 {nx : Nat → Nat} {c : Nat} : ∀ {L : List Nat}, chL nx c L → (c = 0 ↔ L = [])
  | [], h => ⟨fun _ => rfl, fun _ => h⟩
  | p :: t, h => ⟨fun z => by rw [h.1] at z; omega, fun z => by cases z⟩
def RowC (C : Cs) (l : Nat) (L : List Nat) : Prop := chL (cL C 5 7) (cL C 2 2 l) L ∧ cL C 2 3 l = lsC L
theorem RowC_app {C : Cs} {l p : Nat} {L : List Nat} (h : RowC C l L) (hn : L.Nodup) (hp : p ∉ L) : RowC (cApp C l p) l (L ++ [p]) := by
  obtain ⟨h1, h2⟩ := h
  unfold cApp
  cases e : cL C 2 3 l with
  | zero =>
    have hL : L = [] := lsC_0 (by rw [← h2, e])
    subst hL
    refine ⟨⟨?_, ?_⟩, ?_⟩
    · simp [cL_wI, cL_wL]
    · simp [cL_wI, cL_wL]
      rfl
    · simp [cL_wI, cL_wL, lsC]
  | succ q =>
    have hq : lsC L = q + 1 := by rw [← h2, e]
    refine ⟨?_, ?_⟩
    · have hc := chL_app (p := p) hq hn hp h1
      have e2 : cL (wI (wL (wL (wL (wL (wI C 5 6 p (cI C 2 0 l)) 5 7 p 0) 5 7 q (p + 1)) 2 3 l (p + 1)) 2 4 l 0) 2 4 l 0) 2 2 l = cL C 2 2 l := by simp [cL_wI, cL_wL]
      have e3 : cL (wI (wL (wL (wL (wI C 5 6 p (cI C 2 0 l)) 5 7 p 0) 5 7 q (p + 1)) 2 3 l (p + 1)) 2 4 l (cI C 2 4 l + 1)) 2 2 l = cL C 2 2 l := by simp [cL_wI, cL_wL]
      rw [e3]
      refine chL_cong (fun x _ => ?_) hc
      simp only [cL_wI, cL_wL, nU]
      simp
    · simp [cL_wI, cL_wL, lsC_snoc]
theorem cApp_57 {C : Cs} {l p x : Nat} (hx : x ≠ p) (hq : cL C 2 3 l ≠ x + 1) : cL (cApp C l p) 5 7 x = cL C 5 7 x := by
  unfold cApp
  cases e : cL C 2 3 l with
  | zero => simp [cL_wI, cL_wL, hx]
  | succ q =>
    have : x ≠ q := fun z => hq (by rw [e, z])
    simp [cL_wI, cL_wL, hx, this]
theorem cApp_2 {C : Cs} {l p k j : Nat} (h : j ≠ l ∨ (k ≠ 2 ∧ k ≠ 3)) : cL (cApp C l p) 2 k j = cL C 2 k j := by
  unfold cApp
  have h2 : ¬ (k = 2 ∧ j = l) := fun z => by omega
  have h3 : ¬ (k = 3 ∧ j = l) := fun z => by omega
  cases cL C 2 3 l with
  | zero => simp [cL_wI, cL_wL, h2, h3]
  | succ q => simp [cL_wI, cL_wL, h3]
theorem RowC_appo {C : Cs} {l p j : Nat} {L T : List Nat} (h : RowC C l L) (g : RowC C j T) (hj : j ≠ l) (hp : p ∉ T) (hd : ∀ x, x ∈ L → x ∉ T) : RowC (cApp C l p) j T := by
  refine ⟨?_, by rw [cApp_2 (Or.inl hj)]; exact g.2⟩
  rw [cApp_2 (Or.inl hj)]
  refine chL_cong (fun x hx => (cApp_57 (fun z => hp (by rw [← z]; exact hx)) (fun z => ?_)).symm) g.1
  rw [h.2] at z
  exact hd x (lsC_m z) hx
theorem cUnl_2 {C : Cs} {a b p k j : Nat} (h : j ≠ a ∨ (k ≠ 2 ∧ k ≠ 3)) : cL (cUnl C a b p) 2 k j = cL C 2 k j := by
  have h2 : ¬ (k = 2 ∧ j = a) := fun z => by omega
  have h3 : ¬ (k = 3 ∧ j = a) := fun z => by omega
  have e1 : cL (cUn1 C a b p) 2 k j = cL C 2 k j := by
    unfold cUn1
    cases b with
    | zero => simp [cL_wL, h2]
    | succ q => simp [cL_wL]
  unfold cUnl
  rw [cL_wI]
  split
  · rw [cL_wL, if_neg (fun z => h3 ⟨z.2.1, z.2.2⟩), e1]
  · exact e1
theorem RowC_unl {C : Cs} {a p : Nat} {X t : List Nat} (h : RowC C a (X ++ p :: t)) (hn : (X ++ p :: t).Nodup) : RowC (cUnl C a (lsC X) p) a (X ++ t) := by
  obtain ⟨h1, h2⟩ := h
  have ht := chL_nx h1
  have hpX : p ∉ X := fun z => by
    have := (List.nodup_append.mp hn).2.2 p z p (List.mem_cons_self ..)
    exact this rfl
  have e57 : cL (cUn1 C a (lsC X) p) 5 7 p = cL C 5 7 p := by
    unfold cUn1
    cases e : lsC X with
    | zero => simp [cL_wL]
    | succ q =>
      have : p ≠ q := fun z => hpX (by rw [z]; exact lsC_m e)
      simp [cL_wL, this]
  have e23 : cL (cUn1 C a (lsC X) p) 2 3 a = cL C 2 3 a := by
    unfold cUn1
    cases lsC X with
    | zero => simp [cL_wL]
    | succ q => simp [cL_wL]
  have ech : chL (cL (cUn1 C a (lsC X) p) 5 7) (cL (cUn1 C a (lsC X) p) 2 2 a) (X ++ t) := by
    unfold cUn1
    cases e : lsC X with
    | zero =>
      have hX := lsC_0 e
      subst hX
      have e2 : cL (wL C 2 2 a (cL C 5 7 p)) 2 2 a = cL C 5 7 p := by simp [cL_wL]
      show chL (cL (wL C 2 2 a (cL C 5 7 p)) 5 7) (cL (wL C 2 2 a (cL C 5 7 p)) 2 2 a) _
      rw [e2]
      exact chL_cong (fun x _ => by simp [cL_wL]) ht
    | succ q =>
      have e2 : cL (wL C 5 7 q (cL C 5 7 p)) 2 2 a = cL C 2 2 a := by simp [cL_wL]
      show chL (cL (wL C 5 7 q (cL C 5 7 p)) 5 7) (cL (wL C 5 7 q (cL C 5 7 p)) 2 2 a) _
      rw [e2]
      refine chL_cong (fun x _ => ?_) (chL_cut (q := q) e hn h1)
      simp [cL_wL, nU]
  unfold cUnl
  refine ⟨?_, ?_⟩
  · rw [cL_wI]
    split
    · rw [cL_wL, if_neg (fun z => absurd z.2.1 (by decide))]
      exact chL_cong (fun x _ => by rw [cL_wI, cL_wL, if_neg (fun z => absurd z.1 (by decide))]) ech
    · exact chL_cong (fun x _ => by rw [cL_wI]) ech
  · rw [cL_wI]
    have hz := chL_0 ht
    rw [e57]
    by_cases e0 : cL C 5 7 p = 0
    · rw [if_pos e0, cL_wL, if_pos ⟨rfl, rfl, rfl⟩, hz.mp e0, List.append_nil]
    · rw [if_neg e0, e23, h2]
      have htn : t ≠ [] := fun z => e0 (hz.mpr z)
      rw [lsC_app X htn, lsC_app X (by simp)]
      cases t with
      | nil => exact absurd rfl htn
      | cons s u => rw [lsC]
theorem RowC_unlo {C : Cs} {a p j : Nat} {X t T : List Nat} (g : RowC C j T) (hj : j ≠ a) (hd : ∀ x, x ∈ X → x ∉ T) : RowC (cUnl C a (lsC X) p) j T := by
  refine ⟨?_, by rw [cUnl_2 (Or.inl hj)]; exact g.2⟩
  rw [cUnl_2 (Or.inl hj)]
  exact chL_cong (fun x hx => (cUnl_57 C a (lsC X) p x (fun z => hd x (lsC_m z) hx)).symm) g.1
end
section
/-! THE TWO: a new lot -/
theorem nd_len : ∀ (n : Nat) (L : List Nat), L.Nodup → (∀ x, x ∈ L → x < n) → L.length ≤ n
  | 0, L, _, h => by
    cases L with
    | nil => exact Nat.le_refl _
    | cons p t => exact absurd (h p (List.mem_cons_self ..)) (by omega)
  | n + 1, L, hn, h => by
    by_cases hm : n ∈ L
    · have e := List.length_erase_of_mem hm
      have h2 := nd_len n (L.erase n) (hn.erase n) (fun x hx => by
        have := (hn.mem_erase_iff).mp hx
        have := h x this.2
        omega)
      omega
    · have := nd_len n L hn (fun x hx => by
        have := h x hx
        have : x ≠ n := fun z => hm (by rw [← z]; exact hx)
        omega)
      omega
theorem nI_s (n : Nat) : nI (n + 1) - 1 = nI n := by
  rw [← nI_1]
  rw [Int32.add_sub_cancel]
section NL
variable {C : Cs} {a n : Nat} {k : Int32}
theorem cNL_I (hc : cN C 2 = n) (t f i : Nat) (h : t ≠ 2 ∨ i ≠ n) (h9 : ¬ (t = 9 ∧ f = 8)) : cI (cNL C a n k) t f i = cI C t f i := by
  have q : ∀ f', ¬ (t = 2 ∧ f = f' ∧ i = n) := fun f' z => by omega
  rw [cNL, cI_wI, if_neg (fun z => h9 ⟨z.1, z.2.1⟩), cI_wL, cLI, cI_wI, if_neg (q 1), cI_wI, if_neg (q 0), cI_wI, if_neg (q 5), cI_wN, if_neg (fun z => by omega)]
theorem cNL_L (hc : cN C 2 = n) (t f i : Nat) (h : t ≠ 2 ∨ i ≠ n) (h24 : t ≠ 24) : cL (cNL C a n k) t f i = cL C t f i := by
  rw [cNL, cL_wI, cL_wL, if_neg (fun z => h24 z.1), cLI, cL_wI, cL_wI, cL_wI, cL_wN, if_neg (fun z => by omega)]
theorem cNL_Ln (hc : cN C 2 = n) (f : Nat) : cL (cNL C a n k) 2 f n = 0 := by
  rw [cNL, cL_wI, cL_wL, if_neg (fun z => absurd z.1 (by decide)), cLI, cL_wI, cL_wI, cL_wI, cL_wN, if_pos ⟨rfl, hc.symm⟩]
theorem cNL_In (hc : cN C 2 = n) : (cI (cNL C a n k) 2 0 n = nI n ∧ cI (cNL C a n k) 2 1 n = k ∧ cI (cNL C a n k) 2 4 n = 0 ∧ cI (cNL C a n k) 2 5 n = 0) ∧ cI (cNL C a n k) 2 7 n = 0 ∧ cI (cNL C a n k) 2 9 n = 0 := by
  simp [cNL, cLI, cI_wI, cI_wL, cI_wN, hc]
end NL
theorem mNL_ot {M : Ms} {n : Nat} {k : Int32} {f i : Nat} (h : f ≠ 7 ∧ f ≠ 9 ∧ f ≠ 10 ∧ f ≠ 16) : mNewLot M n k f i = M f i := by
  obtain ⟨a, b, c, d⟩ := h
  unfold mNewLot
  rw [u2_ne d, u2_ne c, u2_ne b, u2_ne a]
theorem mNL_j {M : Ms} {n : Nat} {k : Int32} {f i : Nat} (hi : i ≠ n) (h : f ≠ 16) : mNewLot M n k f i = M f i := by
  unfold mNewLot
  rw [u2_ne h, u2_j hi, u2_j hi, u2_j hi]
theorem Rel_nl {C : Cs} {M : Ms} {np nl nh nw ns ng dy tt : Nat} {R Q : Nat → List Nat} (a : Nat) (k : Int32) (hnl : nl < 60) (H : Rel C M np nl nh nw ns ng dy tt R Q) : Rel (cNL C a nl k) (mNewLot M nl k) np (nl + 1) nh nw ns ng dy tt (fun l => if l = nl then [] else R l) Q := by
  obtain ⟨⟨hX, ⟨n1, m1⟩, ⟨n2, m2⟩, ⟨n3, m3⟩, n4, m4⟩, hP, hH, hL, hR, hK, hQ, hT, hS, hG, hW, hF, hD, h42⟩ := H
  have hc := n2.2.2.1
  have I9 : ∀ f, f ≠ 8 → cI (cNL C a nl k) 9 f 0 = cI C 9 f 0 := fun f hf => cNL_I hc 9 f 0 (Or.inl (by decide)) (fun q => hf q.2)
  have It : ∀ t f i, t ≠ 2 → t ≠ 9 → cI (cNL C a nl k) t f i = cI C t f i := fun t f i h1 h9 => cNL_I hc t f i (Or.inl h1) (fun q => h9 q.1)
  have I2 : ∀ f i, i ≠ nl → cI (cNL C a nl k) 2 f i = cI C 2 f i := fun f i hi => cNL_I hc 2 f i (Or.inr hi) (fun q => absurd q.1 (by decide))
  have Lt : ∀ t f i, t ≠ 2 → t ≠ 24 → cL (cNL C a nl k) t f i = cL C t f i := fun t f i h1 h2 => cNL_L hc t f i (Or.inl h1) h2
  have L2 : ∀ f i, i ≠ nl → cL (cNL C a nl k) 2 f i = cL C 2 f i := fun f i hi => cNL_L hc 2 f i (Or.inr hi) (by decide)
  have Nt : ∀ t, t ≠ 2 → cN (cNL C a nl k) t = cN C t := fun t ht => cNL_N C a nl k t ht
  have in1 := cNL_In (a := a) (k := k) hc
  have M10 : mNewLot M nl k 10 nl = 0 := by simp [mNewLot, u2]
  have M9 : mNewLot M nl k 9 nl = 0 := by simp [mNewLot, u2]
  have M7 : mNewLot M nl k 7 nl = k := by simp [mNewLot, u2]
  refine ⟨⟨cNL_F C a nl k hX, ⟨n1.c (I9 7 (by decide)) (Nt 5 (by decide)) (fun j => Lt 23 j 0 (by decide) (by decide)), m1⟩, ⟨⟨?_, by omega, ?_, fun j hj => ?_⟩, ?_⟩, ⟨n3.c (I9 9 (by decide)) (Nt 1 (by decide)) (fun j => Lt 25 j 0 (by decide) (by decide)), m3⟩, n4.c (I9 10 (by decide)) (Nt 8 (by decide)) (fun j => Lt 26 j 0 (by decide) (by decide)), m4⟩, hP.c (fun f p _ => It 5 f p (by decide) (by decide)) (fun f p hf _ => mNL_ot (by omega)), hH.c (fun f x _ _ => It 1 f x (by decide) (by decide)) (fun f x h1 h2 => mNL_ot (by omega)) (mNL_ot (by decide)), fun l hl => ?_, fun l hl => ?_, fun l hl q => ?_, fun x hx => ?_, ⟨hT.1, ?_, fun l hl q => ?_⟩, hS.c (I9 11 (by decide)) (Nt 6 (by decide)) (fun f e _ => It 6 f e (by decide) (by decide)) (fun e _ => Lt 6 2 e (by decide) (by decide)) (fun x _ => Lt 1 10 x (by decide) (by decide)) (mNL_ot (by decide)) (fun f e hf _ => mNL_ot (by omega)), hG.c (I9 12 (by decide)) (Nt 7 (by decide)) (fun f e _ => It 7 f e (by decide) (by decide)) (fun e _ => Lt 7 3 e (by decide) (by decide)) (fun x _ => Lt 1 11 x (by decide) (by decide)) (mNL_ot (by decide)) (fun f e hf _ => mNL_ot (by omega)), hW.c (fun x _ => It 8 3 x (by decide) (by decide)) (fun i x _ => Lt 8 i x (by decide) (by decide)) (fun _ _ => rfl) (fun _ _ => rfl) (fun p _ _ => ⟨rfl, rfl, rfl⟩) (Nat.le_refl _), fun i hi => ?_, ⟨(I9 13 (by decide)).trans hD.1, hD.2⟩, h42⟩
  · rw [cNL, cI_wI, if_pos ⟨rfl, rfl, rfl⟩]
  · rw [cNL_N2, hc]
  · rw [cNL, cL_wI, cL_wL]
    by_cases e : j = nl
    · rw [if_pos ⟨rfl, e, rfl⟩, e]
    · rw [if_neg (fun q => e q.2.1), cLI, cL_wI, cL_wI, cL_wI, cL_wNt (by decide)]
      exact n2.2.2.2 j (by omega)
  · simp [mNewLot, u2]
  · by_cases e : l = nl
    · subst e
      obtain ⟨⟨q0, q1, q4, q5⟩, q7, q9⟩ := in1
      unfold RlL1
      rw [q0, q1, q4, q5, q7, q9, cNL_Ln hc 6, cNL_Ln hc 8, cNL_Ln hc 10, M10, M9, M7]
      exact ⟨rfl, ⟨rfl, rfl, rfl⟩, ⟨0, by decide, rfl⟩, fun _ => rfl, fun z => absurd rfl z, fun z => absurd z (by decide), fun _ => rfl, fun z => absurd z (by decide), fun _ => ⟨rfl, rfl, rfl⟩⟩
    · exact (hL l (by omega)).c (fun f => I2 f l e) (fun f _ => L2 f l e) (fun f hf => mNL_j e (by omega)) (Nat.le_refl _)
  · dsimp only
    by_cases e : l = nl
    · rw [if_pos e, e]
      refine ⟨⟨cNL_Ln hc 2, cNL_Ln hc 3⟩, ⟨M9, fun i p hp => ?_⟩, List.nodup_nil, fun p hp => ?_⟩
      · simp at hp
      · simp at hp
    · rw [if_neg e]
      exact (hR l (by omega)).c (fun p _ => Lt 5 7 p (by decide) (by decide)) (L2 2 l e) (L2 3 l e) (mNL_j e (by decide)) (mNL_j e (by decide)) (fun i _ => rfl) (fun f p _ hf => mNL_ot (by omega)) (Nat.le_refl _)
  · dsimp only
    have e : l ≠ nl := fun z => by rw [z, M10] at q; exact absurd q (by decide)
    rw [mNL_j e (by decide)] at q
    rw [if_neg e, L2 8 l e]
    exact hK l (by omega) q
  · obtain ⟨⟨q1, q2, q3⟩, q4, q5, q6⟩ := hQ x hx
    have mem : ∀ l, l ∈ Q x → l < nl := fun l hl => ((q5 l).mp hl).1
    refine ⟨⟨?_, (Lt 1 9 x (by decide) (by decide)).trans q2, (It 1 7 x (by decide) (by decide)).trans q3⟩, q4, fun l => ?_, q6⟩
    · rw [Lt 1 8 x (by decide) (by decide)]
      exact chL_cong (fun l hl => (L2 10 l (by have := mem l hl; omega)).symm) q1
    · refine (q5 l).trans ⟨fun z => ?_, fun z => ?_⟩
      · have e : l ≠ nl := by have := z.1; omega
        rw [mNL_j e (by decide), mNL_ot (by decide)]
        exact ⟨by omega, z.2⟩
      · have e : l ≠ nl := fun w => by rw [w, M10] at z; exact absurd z.2.1 (by decide)
        rw [mNL_j e (by decide), mNL_ot (by decide)] at z
        exact ⟨by omega, z.2⟩
  · have e : cn (fun l => decide (mNewLot M nl k 10 l = 1)) (nl + 1) = cn (fun l => decide (M 10 l = 1)) nl := by
      rw [cn_n (by rw [M10]; decide)]
      exact cn_cong (fun l hl => by rw [mNL_j (by omega) (by decide)])
    rw [e]
    exact hT.2.1
  · have e : l ≠ nl := fun z => by rw [z, M10] at q; exact absurd q (by decide)
    rw [mNL_j e (by decide)] at q
    exact hT.2.2 l (by omega) q
  · rw [It 0 0 i (by decide) (by decide), It 0 1 i (by decide) (by decide)]
    exact hF i hi
end
section
/-! THE TWO: a piece goes from row to row -/
theorem cUnl_I (C : Cs) (a b p t k i : Nat) (h : ¬ (t = 2 ∧ k = 4 ∧ i = a)) : cI (cUnl C a b p) t k i = cI C t k i := by
  have e1 : cI (cUn1 C a b p) t k i = cI C t k i := by
    unfold cUn1
    cases b <;> rfl
  unfold cUnl
  rw [cI_wI, if_neg h]
  split
  · rw [cI_wL]; exact e1
  · exact e1
theorem cUnl_24 (C : Cs) (a b p : Nat) : cI (cUnl C a b p) 2 4 a = cI C 2 4 a - 1 := by
  unfold cUnl
  rw [cI_wI, if_pos ⟨rfl, rfl, rfl⟩]
theorem cUnl_Lt (C : Cs) (a b p t k i : Nat) (h2 : t ≠ 2) (h5 : t ≠ 5) : cL (cUnl C a b p) t k i = cL C t k i := by
  have e1 : cL (cUn1 C a b p) t k i = cL C t k i := by
    unfold cUn1
    cases b with
    | zero => rw [cL_wL, if_neg (fun z => h2 z.1)]
    | succ q => rw [cL_wL, if_neg (fun z => h5 z.1)]
  unfold cUnl
  rw [cL_wI]
  split
  · rw [cL_wL, if_neg (fun z => h2 z.1)]; exact e1
  · exact e1
theorem cApp_I (C : Cs) (l p t k i : Nat) (h5 : ¬ (t = 5 ∧ k = 6 ∧ i = p)) (h2 : ¬ (t = 2 ∧ k = 4 ∧ i = l)) : cI (cApp C l p) t k i = cI C t k i := by
  unfold cApp
  rw [cI_wI, if_neg h2, cI_wL]
  split
  · rw [cI_wL, cI_wL, cI_wI, if_neg h5]
  · rw [cI_wL, cI_wL, cI_wI, if_neg h5]
theorem cApp_24 (C : Cs) (l p : Nat) : cI (cApp C l p) 2 4 l = cI C 2 4 l + 1 := by
  unfold cApp
  rw [cI_wI, if_pos ⟨rfl, rfl, rfl⟩]
theorem cApp_56 (C : Cs) (l p : Nat) : cI (cApp C l p) 5 6 p = cI C 2 0 l := by
  unfold cApp
  rw [cI_wI, if_neg (fun z => absurd z.1 (by decide)), cI_wL]
  split
  · rw [cI_wL, cI_wL, cI_wI, if_pos ⟨rfl, rfl, rfl⟩]
  · rw [cI_wL, cI_wL, cI_wI, if_pos ⟨rfl, rfl, rfl⟩]
theorem cApp_Lt (C : Cs) (l p t k i : Nat) (h2 : t ≠ 2) (h5 : t ≠ 5) : cL (cApp C l p) t k i = cL C t k i := by
  unfold cApp
  rw [cL_wI, cL_wL, if_neg (fun z => h2 z.1)]
  split
  · rw [cL_wL, if_neg (fun z => h2 z.1), cL_wL, if_neg (fun z => h5 z.1), cL_wI]
  · rw [cL_wL, if_neg (fun z => h5 z.1), cL_wL, if_neg (fun z => h5 z.1), cL_wI]
section MV
variable {M : Ms} {a b p na nb : Nat}
def mMv (M : Ms) (a b p na nb : Nat) : Ms := mTake (mAdd M b nb p) a 0 na
theorem mMv_ot {f j : Nat} (h : f ≠ 5 ∧ f ≠ 8 ∧ f ≠ 9) : mMv M a b p na nb f j = M f j := by
  unfold mMv mTake mTakeK mAdd
  rw [if_neg (fun z => h.2.2 z.1), if_neg (fun z => h.2.1 z.1), u2_ne h.1, u2_ne h.2.2, u2_ne h.2.1]
theorem mMv_5 (x : Nat) : mMv M a b p na nb 5 x = if x = p then nI b else M 5 x := by
  unfold mMv mTake mTakeK mAdd
  rw [if_neg (fun z => absurd z.1 (by decide)), if_neg (fun z => absurd z.1 (by decide))]
  by_cases e : x = p
  · simp [u2, e]
  · simp [u2, e]
theorem mMv_9 (hab : a ≠ b) (l : Nat) : mMv M a b p na nb 9 l = if l = a then nI na else if l = b then nI (nb + 1) else M 9 l := by
  unfold mMv mTake mTakeK mAdd
  by_cases e : l = a
  · rw [if_pos ⟨rfl, e⟩, if_pos e]
  · rw [if_neg (fun z => e z.2), if_neg (fun z => absurd z.1 (by decide)), if_neg e]
    by_cases e2 : l = b
    · simp [u2, e2]
    · simp [u2, e2]
theorem mMv_8a (hab : a ≠ b) (hna : na ≤ 299) (hnb : nb < 300) {i : Nat} (hi : i < na) : mMv M a b p na nb 8 (300 * a + i) = M 8 (300 * a + (i + 1)) := by
  unfold mMv mTake mTakeK mAdd
  rw [if_neg (fun z => absurd z.1 (by decide)), if_pos ⟨rfl, by omega, by omega⟩, u2_ne (by decide), u2_ne (by decide)]
  have : 300 * a + i + 1 ≠ 300 * b + nb := by omega
  rw [u2_j this]
  rfl
theorem mMv_8o (hna : na ≤ 299) {l i : Nat} (hl : l ≠ a) (hi : i < 300) : mMv M a b p na nb 8 (300 * l + i) = if 300 * l + i = 300 * b + nb then nI p else M 8 (300 * l + i) := by
  unfold mMv mTake mTakeK mAdd
  rw [if_neg (fun z => absurd z.1 (by decide)), if_neg (fun z => by omega), u2_ne (by decide), u2_ne (by decide)]
  by_cases e : 300 * l + i = 300 * b + nb
  · simp [u2, e]
  · simp [u2, e]
end MV
theorem Rel.dj {C : Cs} {M : Ms} {np nl : Nat} {R : Nat → List Nat} (hR : RlR C M np nl R) (h60 : nl ≤ 60) {l l' x : Nat} (hl : l < nl) (hl' : l' < nl) (hne : l ≠ l') (hx : x ∈ R l) : x ∉ R l' := fun z => by
  have e1 := ((hR l hl).2.2.2 x hx).2.1
  have e2 := ((hR l' hl').2.2.2 x z).2.1
  exact hne ((nI_eq (by omega) (by omega)).mp (e1.symm.trans e2))
theorem Rel_mv1 {C : Cs} {M : Ms} {np nl nh nw ns ng dy tt : Nat} {R Q : Nat → List Nat} (H : Rel C M np nl nh nw ns ng dy tt R Q) {a b p : Nat} {La : List Nat} (ha : a < nl) (hb : b < nl) (hab : a ≠ b) (hRa : R a = p :: La) (a0 : M 10 a = 0) (b0 : M 10 b = 0) (h7 : M 7 a = M 7 b) : Rel (cApp (cUnl C a 0 p) b p) (mMv M a b p La.length (R b).length) np nl nh nw ns ng dy tt (fun l => if l = a then La else if l = b then R b ++ [p] else R l) Q := by
  obtain ⟨⟨hX, ⟨n1, m1⟩, ⟨n2, m2⟩, ⟨n3, m3⟩, n4, m4⟩, hP, hH, hL, hR, hK, hQ, hT, hS, hG, hW, hF, hD, h42⟩ := H
  have h60 := n2.2.1
  have h300 := n1.2.1
  have hpa : p ∈ R a := by rw [hRa]; exact List.mem_cons_self ..
  have nda : (p :: La).Nodup := by have := (hR a ha).2.2.1; rw [hRa] at this; exact this
  have ndb := (hR b hb).2.2.1
  have hpLa : p ∉ La := (List.nodup_cons.mp nda).1
  have hpb : p ∉ R b := Rel.dj hR h60 ha hb hab hpa
  have hpn : p < np := ((hR a ha).2.2.2 p hpa).1
  have p4 : M 4 p = 0 := ((hR a ha).2.2.2 p hpa).2.2.1
  have p0 : M 0 p = M 7 a := ((hR a ha).2.2.2 p hpa).2.2.2
  have lena : La.length + 1 ≤ 300 := by
    have := nd_len np (p :: La) nda (fun x hx => by rw [← hRa] at hx; exact ((hR a ha).2.2.2 x hx).1)
    rw [List.length_cons] at this
    omega
  have ndb2 : (R b ++ [p]).Nodup := List.nodup_append.mpr ⟨ndb, by simp, fun x hx y hy e => by simp at hy; rw [e, hy] at hx; exact hpb hx⟩
  have lenb : (R b).length + 1 ≤ 300 := by
    have := nd_len np (R b ++ [p]) ndb2 (fun x hx => by
      rcases List.mem_append.mp hx with q | q
      · exact ((hR b hb).2.2.2 x q).1
      · simp at q; rw [q]; exact hpn)
    rw [List.length_append] at this
    simp at this
    omega
  have row : ∀ l, l < nl → RowC C l (R l) := fun l hl => (hR l hl).1
  have ra : RowC C a ([] ++ p :: La) := by have := row a ha; rw [hRa] at this; exact this
  have ua : RowC (cUnl C a 0 p) a La := RowC_unl (X := []) (t := La) ra nda
  have uo : ∀ l, l < nl → l ≠ a → RowC (cUnl C a 0 p) l (R l) := fun l hl e => RowC_unlo (X := []) (t := La) (row l hl) e (fun x hx => by simp at hx)
  have ub := uo b hb (Ne.symm hab)
  have I : ∀ t k i, ¬ (t = 5 ∧ k = 6 ∧ i = p) → ¬ (t = 2 ∧ k = 4 ∧ i = b) → ¬ (t = 2 ∧ k = 4 ∧ i = a) → cI (cApp (cUnl C a 0 p) b p) t k i = cI C t k i := fun t k i h1 h2 h3 => (cApp_I _ b p t k i h1 h2).trans (cUnl_I _ a 0 p t k i h3)
  have It : ∀ t k i, t ≠ 5 → t ≠ 2 → cI (cApp (cUnl C a 0 p) b p) t k i = cI C t k i := fun t k i h5 h2 => I t k i (fun z => h5 z.1) (fun z => h2 z.1) (fun z => h2 z.1)
  have Lt : ∀ t k i, t ≠ 2 → t ≠ 5 → cL (cApp (cUnl C a 0 p) b p) t k i = cL C t k i := fun t k i h2 h5 => (cApp_Lt _ b p t k i h2 h5).trans (cUnl_Lt _ a 0 p t k i h2 h5)
  have L2 : ∀ k i, k ≠ 2 → k ≠ 3 → cL (cApp (cUnl C a 0 p) b p) 2 k i = cL C 2 k i := fun k i h2 h3 => (cApp_2 (Or.inr ⟨h2, h3⟩)).trans (cUnl_2 (Or.inr ⟨h2, h3⟩))
  have hKp := (cUnl_Kp C a 0 p).tr (cApp_Kp (cUnl C a 0 p) b p)
  have Ne2 : ∀ t, cN (cApp (cUnl C a 0 p) b p) t = cN C t := fun t => by rw [hKp.1.2.1]
  have hLa := hL a ha
  have hLb := hL b hb
  have c4a : cI C 2 4 a = nI (La.length + 1) := by rw [hLa.2.1.2.1, (hR a ha).2.1.1, hRa, List.length_cons]
  have c4b : cI C 2 4 b = nI (R b).length := by rw [hLb.2.1.2.1, (hR b hb).2.1.1]
  refine ⟨⟨hKp.fx hX, ⟨hKp.nb (by decide) n1, m1⟩, ⟨hKp.nb (by decide) n2, m2⟩, ⟨hKp.nb (by decide) n3, m3⟩, hKp.nb (by decide) n4, m4⟩, fun x hx => ?_, hH.c (fun f x _ _ => It 1 f x (by decide) (by decide)) (fun f x h1 h2 => mMv_ot (by omega)) (mMv_ot (by decide)), fun l hl => ?_, fun l hl => ?_, fun l hl q => ?_, fun x hx => (hQ x hx).c (fun l _ => L2 10 l (by decide) (by decide)) (Lt 1 8 x (by decide) (by decide)) (Lt 1 9 x (by decide) (by decide)) (It 1 7 x (by decide) (by decide)) (fun l => by rw [mMv_ot (by decide), mMv_ot (by decide)]) (fun _ _ => mMv_ot (by decide)), ?_, hS.c (It 9 11 0 (by decide) (by decide)) (Ne2 6) (fun f e _ => It 6 f e (by decide) (by decide)) (fun e _ => Lt 6 2 e (by decide) (by decide)) (fun x _ => Lt 1 10 x (by decide) (by decide)) (mMv_ot (by decide)) (fun f e hf _ => mMv_ot (by omega)), hG.c (It 9 12 0 (by decide) (by decide)) (Ne2 7) (fun f e _ => It 7 f e (by decide) (by decide)) (fun e _ => Lt 7 3 e (by decide) (by decide)) (fun x _ => Lt 1 11 x (by decide) (by decide)) (mMv_ot (by decide)) (fun f e hf _ => mMv_ot (by omega)), hW.c (fun x _ => It 8 3 x (by decide) (by decide)) (fun i x _ => Lt 8 i x (by decide) (by decide)) (fun _ _ => mMv_ot (by decide)) (fun _ _ => mMv_ot (by decide)) (fun x _ h4 => ⟨mMv_ot (by decide), by rw [mMv_5, if_neg (fun z => by rw [z, p4] at h4; exact absurd h4 (by decide))], mMv_ot (by decide)⟩) (Nat.le_refl _), fun i hi => ?_, ⟨(It 9 13 0 (by decide) (by decide)).trans hD.1, hD.2.1, (mMv_ot (by decide)).trans hD.2.2⟩, ?_⟩
  · obtain ⟨b0', ⟨b1, b2, b3, b4, b5, b6⟩, k, hk, e⟩ := hP x hx
    have J : ∀ k, k ≠ 6 → cI (cApp (cUnl C a 0 p) b p) 5 k x = cI C 5 k x := fun k hk => I 5 k x (fun z => hk z.2.1) (fun z => absurd z.1 (by decide)) (fun z => absurd z.1 (by decide))
    rw [J 0 (by decide), J 1 (by decide), J 2 (by decide), J 3 (by decide), J 4 (by decide), J 5 (by decide), mMv_ot (f := 0) (by decide), mMv_ot (f := 1) (by decide), mMv_ot (f := 2) (by decide), mMv_ot (f := 3) (by decide), mMv_ot (f := 4) (by decide), mMv_5]
    refine ⟨b0', ⟨b1, b2, b3, b4, b5, ?_⟩, k, hk, e⟩
    by_cases ex : x = p
    · rw [if_pos ex, ex, cApp_56, cUnl_I _ _ _ _ _ _ _ (fun z => absurd z.2.1 (by decide))]
      exact hLb.1
    · rw [if_neg ex, I 5 6 x (fun z => ex z.2.2) (fun z => absurd z.1 (by decide)) (fun z => absurd z.1 (by decide))]
      exact b6
  · have J : ∀ k, k ≠ 4 → cI (cApp (cUnl C a 0 p) b p) 2 k l = cI C 2 k l := fun k hk => I 2 k l (fun z => absurd z.1 (by decide)) (fun z => hk z.2.1) (fun z => hk z.2.1)
    have e4 : cI (cApp (cUnl C a 0 p) b p) 2 4 l = mMv M a b p La.length (R b).length 9 l := by
      rw [mMv_9 hab]
      by_cases e1 : l = a
      · rw [if_pos e1, e1, cApp_I _ _ _ _ _ _ (fun z => absurd z.1 (by decide)) (fun z => hab z.2.2), cUnl_24, c4a, nI_s]
      · rw [if_neg e1]
        by_cases e2 : l = b
        · rw [if_pos e2, e2, cApp_24, cUnl_I _ _ _ _ _ _ _ (fun z => hab z.2.2.symm), c4b, nI_1]
        · rw [if_neg e2, I 2 4 l (fun z => absurd z.1 (by decide)) (fun z => e2 z.2.2) (fun z => e1 z.2.2)]
          exact (hL l hl).2.1.2.1
    obtain ⟨q1, ⟨q2, q3, q4⟩, q5⟩ := hL l hl
    unfold RlL1
    rw [J 0 (by decide), J 1 (by decide), e4, J 5 (by decide), J 7 (by decide), J 9 (by decide), L2 6 l (by decide) (by decide), L2 8 l (by decide) (by decide), L2 10 l (by decide) (by decide), mMv_ot (f := 7) (by decide), mMv_ot (f := 10) (by decide), mMv_ot (f := 11) (by decide), mMv_ot (f := 12) (by decide), mMv_ot (f := 13) (by decide)]
    exact ⟨q1, ⟨q2, rfl, q4⟩, q5⟩
  · dsimp only
    by_cases e1 : l = a
    · subst e1
      rw [if_pos rfl]
      have r1 : RowC (cApp (cUnl C l 0 p) b p) l La := RowC_appo ub ua hab hpLa (fun x hx z => Rel.dj hR h60 hb ha (Ne.symm hab) hx (by rw [hRa]; exact List.mem_cons_of_mem _ z))
      refine ⟨r1, ⟨by rw [mMv_9 hab, if_pos rfl], fun i q hq => ?_⟩, (List.nodup_cons.mp nda).2, fun q hq => ?_⟩
      · have hi : i < La.length := by
          rcases Nat.lt_or_ge i La.length with z | z
          · exact z
          · rw [List.getElem?_eq_none z] at hq; cases hq
        rw [mMv_8a hab (by omega) (by omega) hi]
        exact (hR l ha).2.1.2 (i + 1) q (by rw [hRa]; exact hq)
      · have hq2 : q ∈ R l := by rw [hRa]; exact List.mem_cons_of_mem _ hq
        rw [mMv_5, if_neg (fun z => hpLa (by rw [← z]; exact hq)), mMv_ot (f := 4) (by decide), mMv_ot (f := 0) (by decide), mMv_ot (f := 7) (by decide)]
        exact (hR l ha).2.2.2 q hq2
    · rw [if_neg e1]
      by_cases e2 : l = b
      · subst e2
        rw [if_pos rfl]
        refine ⟨RowC_app ub ndb hpb, ⟨by rw [mMv_9 hab, if_neg e1, if_pos rfl, List.length_append]; rfl, fun i q hq => ?_⟩, ndb2, fun q hq => ?_⟩
        · have hi : i < (R l ++ [p]).length := by
            rcases Nat.lt_or_ge i (R l ++ [p]).length with z | z
            · exact z
            · rw [List.getElem?_eq_none z] at hq; cases hq
          rw [List.length_append] at hi
          simp at hi
          rw [mMv_8o (by omega) e1 (by omega)]
          by_cases ei : i = (R l).length
          · rw [if_pos (by omega)]
            rw [ei, List.getElem?_append_right (Nat.le_refl _)] at hq
            simp at hq
            rw [hq]
          · rw [if_neg (by omega)]
            rw [List.getElem?_append_left (by omega)] at hq
            exact (hR l hl).2.1.2 i q hq
        · rcases List.mem_append.mp hq with z | z
          · rw [mMv_5, if_neg (fun w => hpb (by rw [← w]; exact z)), mMv_ot (f := 4) (by decide), mMv_ot (f := 0) (by decide), mMv_ot (f := 7) (by decide)]
            exact (hR l hl).2.2.2 q z
          · simp at z
            rw [z, mMv_5, if_pos rfl, mMv_ot (f := 4) (by decide), mMv_ot (f := 0) (by decide), mMv_ot (f := 7) (by decide)]
            exact ⟨hpn, rfl, p4, p0.trans h7⟩
      · rw [if_neg e2]
        obtain ⟨g1, ⟨g2, g3⟩, g4, g5⟩ := hR l hl
        have hpl : p ∉ R l := Rel.dj hR h60 ha hl (Ne.symm e1) hpa
        refine ⟨RowC_appo ub (uo l hl e1) e2 hpl (fun x hx => Rel.dj hR h60 hb hl (Ne.symm e2) hx), ⟨by rw [mMv_9 hab, if_neg e1, if_neg e2]; exact g2, fun i q hq => ?_⟩, g4, fun q hq => ?_⟩
        · have hi : i < (R l).length := by
            rcases Nat.lt_or_ge i (R l).length with z | z
            · exact z
            · rw [List.getElem?_eq_none z] at hq; cases hq
          have := nd_len np (R l) g4 (fun x hx => (g5 x hx).1)
          rw [mMv_8o (by omega) e1 (by omega), if_neg (by omega)]
          exact g3 i q hq
        · rw [mMv_5, if_neg (fun w => hpl (by rw [← w]; exact hq)), mMv_ot (f := 4) (by decide), mMv_ot (f := 0) (by decide), mMv_ot (f := 7) (by decide)]
          exact g5 q hq
  · dsimp only
    rw [mMv_ot (by decide)] at q
    have e1 : l ≠ a := fun z => by rw [z, a0] at q; exact absurd q (by decide)
    have e2 : l ≠ b := fun z => by rw [z, b0] at q; exact absurd q (by decide)
    rw [if_neg e1, if_neg e2, mMv_ot (by decide), L2 8 l (by decide) (by decide)]
    exact hK l hl q
  · obtain ⟨t1, t2, t3⟩ := hT
    refine ⟨(mMv_ot (by decide)).trans t1, ?_, fun l hl q => ?_⟩
    · rw [cn_cong (q := fun l => decide (M 10 l = 1)) (fun i _ => by rw [mMv_ot (by decide)])]
      exact t2
    · rw [mMv_ot (by decide)] at q
      rw [mMv_ot (by decide)]
      exact t3 l hl q
  · rw [It 0 0 i (by decide) (by decide), It 0 1 i (by decide) (by decide), mMv_ot (by decide), mMv_ot (by decide)]
    exact hF i hi
  · intro i hi
    rw [mMv_ot (by decide)]
    exact h42 i hi
end
section
/-! THE TWO: split, join -/
theorem cMv_z {a b : Nat} {C : Cs} (h : cL C 2 2 a = 0) : ∀ k, cMv a b k C = C
  | 0 => rfl
  | k + 1 => by
    unfold cMv
    rw [h]
theorem cMv_s {a b q : Nat} : ∀ (k : Nat) (C : Cs), cL (cMv a b k C) 2 2 a = q + 1 → cMv a b (k + 1) C = cApp (cUnl (cMv a b k C) a 0 q) b q
  | 0, C, h => by
    have h : cL C 2 2 a = q + 1 := h
    unfold cMv
    rw [h]
    rfl
  | k + 1, C, h => by
    cases e : cL C 2 2 a with
    | zero =>
      rw [cMv_z e] at h
      rw [e] at h
      omega
    | succ r =>
      have e1 : ∀ j, cMv a b (j + 1) C = cMv a b j (cApp (cUnl C a 0 r) b r) := fun j => by
        show (match cL C 2 2 a with
          | 0 => C
          | q + 1 => cMv a b j (cApp (cUnl C a 0 q) b q)) = _
        rw [e]
      rw [e1] at h
      rw [e1 (k + 1), e1 k]
      exact cMv_s k _ h
theorem drop_s {L : List Nat} {i : Nat} (h : i < L.length) : L.drop i = L[i] :: L.drop (i + 1) := List.drop_eq_getElem_cons h
/-- the row of which the first i went over -/
theorem Rel_st {C : Cs} {M : Ms} {np nl nh nw ns ng dy tt : Nat} {R R0 Q : Nat → List Nat} {a b i : Nat} (N : Ms) (hab : a ≠ b) (hi : i < (R0 a).length) (ha : a < nl) (hb : b < nl) (a0 : M 10 a = 0) (b0 : M 10 b = 0) (h7 : M 7 a = M 7 b) (hRa : R a = (R0 a).drop i) (hN : ∀ p, (R0 a)[i]? = some p → N = mMv M a b p ((R0 a).length - (i + 1)) (R b).length) (H : Rel C M np nl nh nw ns ng dy tt R Q) : ∃ p, (R0 a)[i]? = some p ∧ cL C 2 2 a = p + 1 ∧ Rel (cApp (cUnl C a 0 p) b p) N np nl nh nw ns ng dy tt (fun l => if l = a then (R0 a).drop (i + 1) else if l = b then R b ++ [p] else R l) Q := by
  have e := drop_s hi
  have hp : (R0 a)[i]? = some (R0 a)[i] := List.getElem?_eq_getElem hi
  refine ⟨(R0 a)[i], hp, ?_, ?_⟩
  · have := (H.2.2.2.2.1 a ha).1.1
    rw [hRa, e] at this
    exact this.1
  · have := Rel_mv1 H ha hb hab (hRa.trans e) a0 b0 h7
    rw [hN _ hp]
    rw [List.length_drop] at this
    exact this
theorem take_s {L : List Nat} {i p : Nat} (h : L[i]? = some p) : L.take i ++ [p] = L.take (i + 1) := by
  rw [List.take_add_one, h]
  rfl
theorem Rel_spl {C : Cs} {M : Ms} {np nl nh nw ns ng dy tt : Nat} {R Q : Nat → List Nat} {a b : Nat} (hab : a ≠ b) (ha : a < nl) (hb : b < nl) (a0 : M 10 a = 0) (b0 : M 10 b = 0) (h7 : M 7 a = M 7 b) (hRb : R b = []) (H : Rel C M np nl nh nw ns ng dy tt R Q) : ∀ i, i ≤ (R a).length → Rel (cMv a b i C) (mSplP M a b (R a).length i) np nl nh nw ns ng dy tt (fun l => if l = a then (R a).drop i else if l = b then (R a).take i else R l) Q
  | 0, _ => by
    have e : (fun l => if l = a then (R a).drop 0 else if l = b then (R a).take 0 else R l) = R := by
      funext l
      by_cases h1 : l = a
      · rw [if_pos h1, h1]; rfl
      · rw [if_neg h1]
        by_cases h2 : l = b
        · rw [if_pos h2, h2, hRb]; rfl
        · rw [if_neg h2]
    rw [e]
    exact H
  | i + 1, hi => by
    have ih := Rel_spl hab ha hb a0 b0 h7 hRb H i (by omega)
    have hot : ∀ f j, f ≠ 8 ∧ f ≠ 9 ∧ f ≠ 5 → mSplP M a b (R a).length i f j = M f j := fun f j hf => mSplP_ot M a b _ f j hf i
    have hlen : ((fun l => if l = a then (R a).drop i else if l = b then (R a).take i else R l) b).length = i := by
      dsimp only
      rw [if_neg (Ne.symm hab), if_pos rfl, List.length_take]
      omega
    obtain ⟨p, hp, hc, hr⟩ := Rel_st (R0 := R) (i := i) (mSplP M a b (R a).length (i + 1)) hab (by omega) ha hb ((hot 10 a (by decide)).trans a0) ((hot 10 b (by decide)).trans b0) ((hot 7 a (by decide)).trans (h7.trans (hot 7 b (by decide)).symm)) (if_pos rfl) (fun p hp => by
      rw [hlen, mSplP]
      have h8 : mSplP M a b (R a).length i 8 (300 * a + 0) = nI p := by
        refine (ih.2.2.2.2.1 a ha).2.1.2 0 p ?_
        dsimp only
        rw [if_pos rfl, List.getElem?_drop]
        exact hp
      have hpn : p < 300 := by
        have := ((H.2.2.2.2.1 a ha).2.2.2 p (List.mem_of_getElem? hp)).1
        have := H.1.2.1.1.2.1
        omega
      rw [show 300 * a = 300 * a + 0 from rfl, h8, pN_n (by omega)]
      rfl) ih
    rw [cMv_s i C hc]
    have e : (fun l => if l = a then (R a).drop (i + 1) else if l = b then (R a).take (i + 1) else R l) = fun l => if l = a then (R a).drop (i + 1) else if l = b then (fun l => if l = a then (R a).drop i else if l = b then (R a).take i else R l) b ++ [p] else (fun l => if l = a then (R a).drop i else if l = b then (R a).take i else R l) l := by
      funext l
      dsimp only
      by_cases h1 : l = a
      · rw [if_pos h1, if_pos h1]
      · rw [if_neg h1, if_neg h1]
        by_cases h2 : l = b
        · rw [if_pos h2, if_pos h2, if_neg (Ne.symm hab), if_pos rfl, take_s hp]
        · rw [if_neg h2, if_neg h2, if_neg h1, if_neg h2]
    rw [e]
    exact hr
theorem Rel_split {C : Cs} {M : Ms} {np nl nh nw ns ng dy tt : Nat} {R Q : Nat → List Nat} (ad : Nat) {j m : Nat} (hj : j < nl) (hm : m ≤ (R j).length) (j0 : M 10 j = 0) (hnl : nl < 60) (H : Rel C M np nl nh nw ns ng dy tt R Q) : Rel (cSpl C ad j nl m) (mSplit M j nl (R j).length m) np (nl + 1) nh nw ns ng dy tt (fun l => if l = j then (R j).drop m else if l = nl then (R j).take m else R l) Q := by
  have hk : cI C 2 1 j = M 7 j := (H.2.2.2.1 j hj).2.1.1
  have h1 := Rel_nl ad (M 7 j) hnl (Rel_41 0 H)
  have hne : j ≠ nl := by omega
  have e1 : mNewLot (m41 M) nl (M 7 j) 10 j = 0 := (mNL_j hne (by decide)).trans j0
  have e2 : mNewLot (m41 M) nl (M 7 j) 10 nl = 0 := by simp [mNewLot, u2]
  have e3 : mNewLot (m41 M) nl (M 7 j) 7 j = mNewLot (m41 M) nl (M 7 j) 7 nl := by
    have : mNewLot (m41 M) nl (M 7 j) 7 nl = M 7 j := by simp [mNewLot, u2]
    rw [this]
    exact mNL_j hne (by decide)
  have rj : (if j = nl then ([] : List Nat) else R j) = R j := if_neg hne
  have h2 := Rel_spl hne (show j < nl + 1 by omega) (show nl < nl + 1 by omega) e1 e2 e3 (if_pos rfl) h1 m (by rw [rj]; exact hm)
  rw [rj] at h2
  have e : (fun l => if l = j then (R j).drop m else if l = nl then (R j).take m else R l) = fun l => if l = j then (R j).drop m else if l = nl then (R j).take m else (fun l => if l = nl then [] else R l) l := by
    funext l
    dsimp only
    by_cases a1 : l = j
    · rw [if_pos a1, if_pos a1]
    · rw [if_neg a1, if_neg a1]
      by_cases a2 : l = nl
      · rw [if_pos a2, if_pos a2]
      · rw [if_neg a2, if_neg a2, if_neg a2]
  rw [e, cSpl, hk]
  exact h2
/-- rows beyond their ends don't matter -/
theorem Rel_c8 {C : Cs} {M N : Ms} {np nl nh nw ns ng dy tt : Nat} {R Q : Nat → List Nat} (H : Rel C M np nl nh nw ns ng dy tt R Q) (h : ∀ f j, f ≠ 8 → N f j = M f j) (h8 : ∀ l i, l < nl → i < (R l).length → N 8 (300 * l + i) = M 8 (300 * l + i)) : Rel C N np nl nh nw ns ng dy tt R Q := by
  obtain ⟨⟨hX, ⟨n1, m1⟩, ⟨n2, m2⟩, ⟨n3, m3⟩, n4, m4⟩, hP, hH, hL, hR, hK, hQ, hT, hS, hG, hW, hF, hD, h42⟩ := H
  refine ⟨⟨hX, ⟨n1, (h 6 0 (by decide)).trans m1⟩, ⟨n2, (h 16 0 (by decide)).trans m2⟩, ⟨n3, (h 24 0 (by decide)).trans m3⟩, n4, (h 40 0 (by decide)).trans m4⟩, hP.c (fun _ _ _ => rfl) (fun f p hf _ => h f p (by omega)), hH.c (fun _ _ _ _ => rfl) (fun f x h1 h2 => h f x (by omega)) (h 26 0 (by decide)), fun l hl => (hL l hl).c (fun _ => rfl) (fun _ _ => rfl) (fun f hf => h f l (by omega)) (Nat.le_refl _), fun l hl => (hR l hl).c (fun _ _ => rfl) rfl rfl (h 9 l (by decide)) (h 7 l (by decide)) (fun i hi => h8 l i hl hi) (fun f p _ hf => h f p (by omega)) (Nat.le_refl _), hK.c (fun l _ => h 10 l (by decide)) (fun l _ => h 14 l (by decide)) (fun _ _ => rfl), fun x hx => (hQ x hx).c (fun _ _ => rfl) rfl rfl rfl (fun l => by rw [h 10 l (by decide), h 11 l (by decide)]) (fun l _ => h 15 l (by decide)), ?_, hS.c rfl rfl (fun _ _ _ => rfl) (fun _ _ => rfl) (fun _ _ => rfl) (h 30 0 (by decide)) (fun f e hf _ => h f e (by omega)), hG.c rfl rfl (fun _ _ _ => rfl) (fun _ _ => rfl) (fun _ _ => rfl) (h 35 0 (by decide)) (fun f e hf _ => h f e (by omega)), hW.c (fun _ _ => rfl) (fun _ _ _ => rfl) (fun k _ => h 39 k (by decide)) (fun i _ => h 38 i (by decide)) (fun p _ _ => ⟨h 4 p (by decide), h 5 p (by decide), h 0 p (by decide)⟩) (Nat.le_refl _), fun i hi => ?_, ⟨hD.1, hD.2.1, (h 25 0 (by decide)).trans hD.2.2⟩, fun i hi => ?_⟩
  · obtain ⟨t1, t2, t3⟩ := hT
    refine ⟨(h 17 0 (by decide)).trans t1, ?_, fun l hl q => ?_⟩
    · rw [cn_cong (q := fun l => decide (M 10 l = 1)) (fun i _ => by rw [h 10 i (by decide)])]
      exact t2
    · rw [h 10 l (by decide)] at q
      rw [h 15 l (by decide)]
      exact t3 l hl q
  · rw [h 36 i (by decide), h 37 i (by decide)]
    exact hF i hi
  · rw [h 42 i (by decide)]
    exact h42 i hi
def mJn (M : Ms) (a b ma mb : Nat) : Nat → Ms
  | 0 => M
  | i + 1 => mMv (mJn M a b ma mb i) b a (pN (M 8 (300 * b + i))) (mb - (i + 1)) (ma + i)
theorem mJn_ot (M : Ms) (a b ma mb f j : Nat) (hf : f ≠ 5 ∧ f ≠ 8 ∧ f ≠ 9) : ∀ i, mJn M a b ma mb i f j = M f j
  | 0 => rfl
  | i + 1 => by rw [mJn, mMv_ot hf, mJn_ot M a b ma mb f j hf i]
/-- the class's way and the reference's, row by row -/
theorem mJn_eq {M : Ms} {a b ma mb : Nat} (hab : a ≠ b) (h9b : M 9 b = nI mb) (hm : ma + mb ≤ 300) : ∀ i, i ≤ mb → (∀ f j, f ≠ 8 → f ≠ 9 → mJn M a b ma mb i f j = mJoinP M a b ma i f j) ∧ (∀ j, j ≠ b → mJn M a b ma mb i 9 j = mJoinP M a b ma i 9 j) ∧ mJn M a b ma mb i 9 b = nI (mb - i) ∧ ∀ l k, l ≠ b → k < 300 → mJn M a b ma mb i 8 (300 * l + k) = mJoinP M a b ma i 8 (300 * l + k)
  | 0, _ => ⟨fun _ _ _ _ => rfl, fun _ _ => rfl, h9b, fun _ _ _ _ => rfl⟩
  | i + 1, hi => by
    obtain ⟨a1, a2, a3, a4⟩ := mJn_eq hab h9b hm i (by omega)
    rw [mJn, mJoinP]
    refine ⟨fun f j h8 h9 => ?_, fun j hj => ?_, ?_, fun l k hl hk => ?_⟩
    · by_cases h5 : f = 5
      · subst h5
        rw [mMv_5]
        unfold mAdd
        by_cases e : j = pN (M 8 (300 * b + i))
        · rw [if_pos e, e]; simp [u2]
        · rw [if_neg e, u2_j e, u2_ne (by decide), u2_ne (by decide)]
          exact a1 5 j (by decide) (by decide)
      · rw [mMv_ot ⟨h5, h8, h9⟩]
        unfold mAdd
        rw [u2_ne h5, u2_ne h9, u2_ne h8]
        exact a1 f j h8 h9
    · rw [mMv_9 (Ne.symm hab), if_neg hj]
      unfold mAdd
      rw [u2_ne (by decide)]
      by_cases e : j = a
      · rw [if_pos e, e]; simp [u2]
      · rw [if_neg e, u2_j e, u2_ne (by decide)]
        exact a2 j hj
    · rw [mMv_9 (Ne.symm hab), if_pos rfl]
    · rw [mMv_8o (by omega) hl hk]
      unfold mAdd
      rw [u2_ne (by decide), u2_ne (by decide)]
      by_cases e : 300 * l + k = 300 * a + (ma + i)
      · rw [if_pos e, e]; simp [u2]
      · rw [if_neg e, u2_j e]
        exact a4 l k hl hk
theorem Rel_jn {C : Cs} {M : Ms} {np nl nh nw ns ng dy tt : Nat} {R Q : Nat → List Nat} {a b : Nat} (hab : a ≠ b) (ha : a < nl) (hb : b < nl) (a0 : M 10 a = 0) (b0 : M 10 b = 0) (h7 : M 7 a = M 7 b) (H : Rel C M np nl nh nw ns ng dy tt R Q) : ∀ i, i ≤ (R b).length → Rel (cMv b a i C) (mJn M a b (R a).length (R b).length i) np nl nh nw ns ng dy tt (fun l => if l = b then (R b).drop i else if l = a then R a ++ (R b).take i else R l) Q
  | 0, _ => by
    have e : (fun l => if l = b then (R b).drop 0 else if l = a then R a ++ (R b).take 0 else R l) = R := by
      funext l
      by_cases h1 : l = b
      · rw [if_pos h1, h1]; rfl
      · rw [if_neg h1]
        by_cases h2 : l = a
        · rw [if_pos h2, h2]; simp
        · rw [if_neg h2]
    rw [e]
    exact H
  | i + 1, hi => by
    have ih := Rel_jn hab ha hb a0 b0 h7 H i (by omega)
    have hot : ∀ f j, f ≠ 5 ∧ f ≠ 8 ∧ f ≠ 9 → mJn M a b (R a).length (R b).length i f j = M f j := fun f j hf => mJn_ot M a b _ _ f j hf i
    have hlen : ((fun l => if l = b then (R b).drop i else if l = a then R a ++ (R b).take i else R l) a).length = (R a).length + i := by
      dsimp only
      rw [if_neg hab, if_pos rfl, List.length_append, List.length_take]
      omega
    obtain ⟨p, hp, hc, hr⟩ := Rel_st (R0 := R) (i := i) (mJn M a b (R a).length (R b).length (i + 1)) (Ne.symm hab) (by omega) hb ha ((hot 10 b (by decide)).trans b0) ((hot 10 a (by decide)).trans a0) ((hot 7 b (by decide)).trans (h7.symm.trans (hot 7 a (by decide)).symm)) (if_pos rfl) (fun p hp => by
      rw [hlen, mJn]
      have h8 : M 8 (300 * b + i) = nI p := (H.2.2.2.2.1 b hb).2.1.2 i p hp
      have hpn : p < 300 := by
        have := ((H.2.2.2.2.1 b hb).2.2.2 p (List.mem_of_getElem? hp)).1
        have := H.1.2.1.1.2.1
        omega
      rw [h8, pN_n (by omega)]) ih
    rw [cMv_s i C hc]
    have e : (fun l => if l = b then (R b).drop (i + 1) else if l = a then R a ++ (R b).take (i + 1) else R l) = fun l => if l = b then (R b).drop (i + 1) else if l = a then (fun l => if l = b then (R b).drop i else if l = a then R a ++ (R b).take i else R l) a ++ [p] else (fun l => if l = b then (R b).drop i else if l = a then R a ++ (R b).take i else R l) l := by
      funext l
      dsimp only
      by_cases h1 : l = b
      · rw [if_pos h1, if_pos h1]
      · rw [if_neg h1, if_neg h1]
        by_cases h2 : l = a
        · rw [if_pos h2, if_pos h2, if_neg hab, if_pos rfl, List.append_assoc, take_s hp]
        · rw [if_neg h2, if_neg h2, if_neg h1, if_neg h2]
    rw [e]
    exact hr
/-- two rows together are not too long -/
theorem Rel.l2 {C : Cs} {M : Ms} {np nl nh nw ns ng dy tt : Nat} {R Q : Nat → List Nat} (H : Rel C M np nl nh nw ns ng dy tt R Q) {a b : Nat} (ha : a < nl) (hb : b < nl) (hab : a ≠ b) : (R a).length + (R b).length ≤ 300 := by
  have hR := H.2.2.2.2.1
  have h60 := H.1.2.2.1.1.2.1
  have := H.1.2.1.1.2.1
  have := nd_len np (R a ++ R b) (List.nodup_append.mpr ⟨(hR a ha).2.2.1, (hR b hb).2.2.1, fun x hx y hy e => Rel.dj hR h60 ha hb hab hx (by rw [e]; exact hy)⟩) (fun x hx => by
    rcases List.mem_append.mp hx with q | q
    · exact ((hR a ha).2.2.2 x q).1
    · exact ((hR b hb).2.2.2 x q).1)
  rw [List.length_append] at this
  omega
theorem Rel_join {C : Cs} {M : Ms} {np nl nh nw ns ng dy tt : Nat} {R Q : Nat → List Nat} {a b : Nat} (hab : a ≠ b) (ha : a < nl) (hb : b < nl) (a0 : M 10 a = 0) (b0 : M 10 b = 0) (h7 : M 7 a = M 7 b) (H : Rel C M np nl nh nw ns ng dy tt R Q) : Rel (cMv b a (R b).length C) (mJoin M a b (R a).length (R b).length) np nl nh nw ns ng dy tt (fun l => if l = b then [] else if l = a then R a ++ R b else R l) Q := by
  have hl2 := H.l2 ha hb hab
  have H41 : Rel C (m41 M) np nl nh nw ns ng dy tt R Q := Rel_41 0 H
  have h1 := Rel_jn (M := m41 M) hab ha hb a0 b0 h7 H41 (R b).length (Nat.le_refl _)
  have e : (fun l => if l = b then [] else if l = a then R a ++ R b else R l) = fun l => if l = b then (R b).drop (R b).length else if l = a then R a ++ (R b).take (R b).length else R l := by
    funext l
    rw [List.drop_length, List.take_length]
  rw [e]
  have h9b : m41 M 9 b = nI (R b).length := (H.2.2.2.2.1 b hb).2.1.1
  obtain ⟨q1, q2, q3, q4⟩ := mJn_eq (M := m41 M) (ma := (R a).length) (mb := (R b).length) hab h9b hl2 (R b).length (Nat.le_refl _)
  refine Rel_c8 h1 (fun f j hf => ?_) (fun l i hl hi => ?_)
  · unfold mJoin
    by_cases h9 : f = 9
    · subst h9
      by_cases hj : j = b
      · rw [hj, q3, Nat.sub_self]; simp [u2]; rfl
      · rw [u2_j hj, q2 j hj]
    · rw [u2_ne h9, q1 f j hf h9]
  · unfold mJoin
    rw [u2_ne (by decide)]
    by_cases h1 : l = b
    · rw [if_pos h1, List.drop_length] at hi
      simp at hi
    · rw [if_neg h1] at hi
      have hi3 : i < 300 := by
        by_cases h2 : l = a
        · rw [if_pos h2, List.take_length, List.length_append] at hi
          omega
        · rw [if_neg h2] at hi
          have := H.l2 hl hb h1
          omega
      exact (q4 l i h1 hi3).symm
end
section
/-! THE TWO: raw -/
def cRwE (a : Nat) (k s : Int32) (lo p : Nat) (D : Cs) : Cs := wI (wL (cPI (wN D 5 a) p (nI p) k s (nI lo)) 23 p 0 (p + 1)) 9 7 0 (nI (p + 1))
section RW
variable {D : Cs} {a lo p : Nat} {k s : Int32}
theorem cRwE_I (hc : cN D 5 = p) (t f i : Nat) (h5 : t ≠ 5 ∨ i ≠ p) (h9 : ¬ (t = 9 ∧ f = 7)) : cI (cRwE a k s lo p D) t f i = cI D t f i := by
  have q : ∀ f', ¬ (t = 5 ∧ f = f' ∧ i = p) := fun f' z => by omega
  rw [cRwE, cI_wI, if_neg (fun z => h9 ⟨z.1, z.2.1⟩), cI_wL, cPI, cI_wI, if_neg (q 2), cI_wI, if_neg (q 3), cI_wI, if_neg (q 1), cI_wI, if_neg (q 0), cI_wI, if_neg (q 5), cI_wN, if_neg (fun z => by omega)]
theorem cRwE_L (hc : cN D 5 = p) (t f i : Nat) (h5 : t ≠ 5 ∨ i ≠ p) (h23 : ¬ (t = 23 ∧ f = p)) : cL (cRwE a k s lo p D) t f i = cL D t f i := by
  rw [cRwE, cL_wI, cL_wL, if_neg (fun z => h23 ⟨z.1, z.2.1⟩), cPI, cL_wI, cL_wI, cL_wI, cL_wI, cL_wI, cL_wN, if_neg (fun z => by omega)]
theorem cRwE_n (hc : cN D 5 = p) : (cI (cRwE a k s lo p D) 5 0 p = nI p ∧ cI (cRwE a k s lo p D) 5 1 p = k ∧ cI (cRwE a k s lo p D) 5 2 p = nI lo ∧ cI (cRwE a k s lo p D) 5 3 p = s ∧ cI (cRwE a k s lo p D) 5 4 p = 0 ∧ cI (cRwE a k s lo p D) 5 5 p = 0) ∧ cI (cRwE a k s lo p D) 9 7 0 = nI (p + 1) ∧ cL (cRwE a k s lo p D) 23 p 0 = p + 1 := by
  simp [cRwE, cPI, cI_wI, cI_wL, cI_wN, cL_wL, cL_wI, hc]
theorem cRwE_N (t : Nat) : cN (cRwE a k s lo p D) t = if t = 5 then cN D 5 + 1 else cN D t := cN_wN D 5 a t
end RW
def mRw1 (M : Ms) (l n p : Nat) (k s : Int32) : Ms := u2 (mAdd (u2 (u2 (u2 (u2 (u2 M 0 p k) 1 p s) 2 p (nI l)) 3 p 0) 4 p 0) l n p) 6 0 (nI (p + 1))
theorem mRw1_ot {M : Ms} {l n p : Nat} {k s : Int32} {f i : Nat} (h : 7 ≤ f ∧ f ≠ 8 ∧ f ≠ 9) : mRw1 M l n p k s f i = M f i := by
  unfold mRw1 mAdd
  rw [u2_ne (by omega), u2_ne (by omega), u2_ne (by omega), u2_ne (by omega), u2_ne (by omega), u2_ne (by omega), u2_ne (by omega), u2_ne (by omega), u2_ne (by omega)]
theorem mRw1_p {M : Ms} {l n p : Nat} {k s : Int32} {f i : Nat} (hi : i ≠ p) (h : f ≤ 5) : mRw1 M l n p k s f i = M f i := by
  unfold mRw1 mAdd
  rw [u2_ne (by omega), u2_j hi, u2_ne (by omega), u2_ne (by omega), u2_j hi, u2_j hi, u2_j hi, u2_j hi, u2_j hi]
theorem mRw1_n {M : Ms} {l n p : Nat} {k s : Int32} : (mRw1 M l n p k s 0 p = k ∧ mRw1 M l n p k s 1 p = s ∧ mRw1 M l n p k s 2 p = nI l ∧ mRw1 M l n p k s 3 p = 0 ∧ mRw1 M l n p k s 4 p = 0 ∧ mRw1 M l n p k s 5 p = nI l) ∧ mRw1 M l n p k s 6 0 = nI (p + 1) := by
  simp [mRw1, mAdd, u2]
theorem mRw1_9 {M : Ms} {l n p : Nat} {k s : Int32} (j : Nat) : mRw1 M l n p k s 9 j = if j = l then nI (n + 1) else M 9 j := by
  unfold mRw1 mAdd
  by_cases e : j = l
  · simp [u2, e]
  · simp [u2, e]
theorem mRw1_8 {M : Ms} {l n p : Nat} {k s : Int32} (j : Nat) : mRw1 M l n p k s 8 j = if j = 300 * l + n then nI p else M 8 j := by
  unfold mRw1 mAdd
  by_cases e : j = 300 * l + n
  · simp [u2, e]
  · simp [u2, e]
theorem Rel_rw1 {C : Cs} {M : Ms} {np nl nh nw ns ng dy tt : Nat} {R Q : Nat → List Nat} (ad : Nat) {lo : Nat} {k s : Int32} (hlo : lo < nl) (l0 : M 10 lo = 0) (h7 : M 7 lo = k) (hk : ∃ kk, kk < 3 ∧ k = nI kk) (hnp : np < 300) (H : Rel C M np nl nh nw ns ng dy tt R Q) : Rel (cRw1 ad k s lo np C) (mRw1 M lo (R lo).length np k s) (np + 1) nl nh nw ns ng dy tt (fun l => if l = lo then R lo ++ [np] else R l) Q := by
  obtain ⟨⟨hX, ⟨n1, m1⟩, ⟨n2, m2⟩, ⟨n3, m3⟩, n4, m4⟩, hP, hH, hL, hR, hK, hQ, hT, hS, hG, hW, hF, hD, h42⟩ := H
  have h60 := n2.2.1
  have hc := n1.2.2.1
  have fresh : ∀ l, l < nl → np ∉ R l := fun l hl z => by have := ((hR l hl).2.2.2 np z).1; omega
  have hE : cRw1 ad k s lo np C = cApp (cRwE ad k s lo np C) lo np := rfl
  rw [hE]
  have en := cRwE_n (a := ad) (lo := lo) (k := k) (s := s) hc
  have IE := fun t f i h5 h9 => cRwE_I (a := ad) (lo := lo) (k := k) (s := s) hc t f i h5 h9
  have LE := fun t f i h5 h23 => cRwE_L (a := ad) (lo := lo) (k := k) (s := s) hc t f i h5 h23
  have NE := fun t => cRwE_N (D := C) (a := ad) (lo := lo) (p := np) (k := k) (s := s) t
  have hXE : FX (cRwE ad k s lo np C) := FX_wI (FX_wL (cPI_fx (FX_wN hX 5 ad (by decide)) _ _ _ _ _) _ _ _ _ (by decide)) _ _ _ _
  generalize cRwE ad k s lo np C = E at *
  have rowE : ∀ l, l < nl → RowC E l (R l) := fun l hl => by
    obtain ⟨r1, r2⟩ := (hR l hl).1
    refine ⟨?_, (LE 2 3 l (Or.inl (by decide)) (fun z => absurd z.1 (by decide))).trans r2⟩
    rw [LE 2 2 l (Or.inl (by decide)) (fun z => absurd z.1 (by decide))]
    exact chL_cong (fun x hx => (LE 5 7 x (Or.inr (fun z => fresh l hl (by rw [← z]; exact hx))) (fun z => absurd z.1 (by decide))).symm) r1
  have hKp := cApp_Kp E lo np
  have It : ∀ t f i, t ≠ 5 → t ≠ 2 → ¬ (t = 9 ∧ f = 7) → cI (cApp E lo np) t f i = cI C t f i := fun t f i h5 h2 h9 => (cApp_I E lo np t f i (fun z => h5 z.1) (fun z => h2 z.1)).trans (IE t f i (Or.inl h5) h9)
  have I9 : ∀ f, f ≠ 7 → cI (cApp E lo np) 9 f 0 = cI C 9 f 0 := fun f hf => It 9 f 0 (by decide) (by decide) (fun z => hf z.2)
  have Iu : ∀ t f i, t ≠ 5 → t ≠ 2 → t ≠ 9 → cI (cApp E lo np) t f i = cI C t f i := fun t f i h5 h2 h9 => It t f i h5 h2 (fun z => h9 z.1)
  have I2 : ∀ f i, ¬ (f = 4 ∧ i = lo) → cI (cApp E lo np) 2 f i = cI C 2 f i := fun f i h => (cApp_I E lo np 2 f i (fun z => absurd z.1 (by decide)) (fun z => h z.2)).trans (IE 2 f i (Or.inl (by decide)) (fun z => absurd z.1 (by decide)))
  have I5 : ∀ f i, i ≠ np → cI (cApp E lo np) 5 f i = cI C 5 f i := fun f i h => (cApp_I E lo np 5 f i (fun z => h z.2.2) (fun z => absurd z.1 (by decide))).trans (IE 5 f i (Or.inr h) (fun z => absurd z.1 (by decide)))
  have I5n : ∀ f, f ≠ 6 → cI (cApp E lo np) 5 f np = cI E 5 f np := fun f h => cApp_I E lo np 5 f np (fun z => h z.2.1) (fun z => absurd z.1 (by decide))
  have Lt : ∀ t f i, t ≠ 2 → t ≠ 5 → ¬ (t = 23 ∧ f = np) → cL (cApp E lo np) t f i = cL C t f i := fun t f i h2 h5 h23 => (cApp_Lt E lo np t f i h2 h5).trans (LE t f i (Or.inl h5) h23)
  have Lu : ∀ t f i, t ≠ 2 → t ≠ 5 → t ≠ 23 → cL (cApp E lo np) t f i = cL C t f i := fun t f i h2 h5 h23 => Lt t f i h2 h5 (fun z => h23 z.1)
  have L2 : ∀ f i, f ≠ 2 → f ≠ 3 → cL (cApp E lo np) 2 f i = cL C 2 f i := fun f i h2 h3 => (cApp_2 (Or.inr ⟨h2, h3⟩)).trans (LE 2 f i (Or.inl (by decide)) (fun z => absurd z.1 (by decide)))
  have Nt : ∀ t, t ≠ 5 → cN (cApp E lo np) t = cN C t := fun t ht => by rw [hKp.1.2.1, NE, if_neg ht]
  obtain ⟨⟨e0, e1, e2, e3, e4, e5⟩, e7, e23⟩ := en
  obtain ⟨⟨k0, k1, k2, k3, k4, k5⟩, k6⟩ := mRw1_n (M := M) (l := lo) (n := (R lo).length) (p := np) (k := k) (s := s)
  have hLo := hL lo hlo
  have c4 : cI C 2 4 lo = nI (R lo).length := by rw [hLo.2.1.2.1, (hR lo hlo).2.1.1]
  have ndl := (hR lo hlo).2.2.1
  have nd2 : (R lo ++ [np]).Nodup := List.nodup_append.mpr ⟨ndl, by simp, fun x hx y hy e => by simp at hy; rw [e, hy] at hx; exact fresh lo hlo hx⟩
  have lens : ∀ l, l < nl → (R l).length ≤ np := fun l hl => nd_len np (R l) (hR l hl).2.2.1 (fun x hx => ((hR l hl).2.2.2 x hx).1)
  refine ⟨⟨hKp.fx hXE, ⟨⟨?_, by omega, ?_, fun j hj => ?_⟩, k6⟩, ⟨n2.c (I9 8 (by decide)) (Nt 2 (by decide)) (fun j => Lu 24 j 0 (by decide) (by decide) (by decide)), (mRw1_ot (by decide)).trans m2⟩, ⟨n3.c (I9 9 (by decide)) (Nt 1 (by decide)) (fun j => Lu 25 j 0 (by decide) (by decide) (by decide)), (mRw1_ot (by decide)).trans m3⟩, n4.c (I9 10 (by decide)) (Nt 8 (by decide)) (fun j => Lu 26 j 0 (by decide) (by decide) (by decide)), (mRw1_ot (by decide)).trans m4⟩, fun x hx => ?_, hH.c (fun f x _ _ => Iu 1 f x (by decide) (by decide) (by decide)) (fun f x h1 h2 => mRw1_ot (by omega)) (mRw1_ot (by decide)), fun l hl => ?_, fun l hl => ?_, fun l hl q => ?_, fun x hx => (hQ x hx).c (fun l _ => L2 10 l (by decide) (by decide)) (Lu 1 8 x (by decide) (by decide) (by decide)) (Lu 1 9 x (by decide) (by decide) (by decide)) (Iu 1 7 x (by decide) (by decide) (by decide)) (fun l => by rw [mRw1_ot (by decide), mRw1_ot (by decide)]) (fun _ _ => mRw1_ot (by decide)), ?_, hS.c (I9 11 (by decide)) (Nt 6 (by decide)) (fun f e _ => Iu 6 f e (by decide) (by decide) (by decide)) (fun e _ => Lu 6 2 e (by decide) (by decide) (by decide)) (fun x _ => Lu 1 10 x (by decide) (by decide) (by decide)) (mRw1_ot (by decide)) (fun f e hf _ => mRw1_ot (by omega)), hG.c (I9 12 (by decide)) (Nt 7 (by decide)) (fun f e _ => Iu 7 f e (by decide) (by decide) (by decide)) (fun e _ => Lu 7 3 e (by decide) (by decide) (by decide)) (fun x _ => Lu 1 11 x (by decide) (by decide) (by decide)) (mRw1_ot (by decide)) (fun f e hf _ => mRw1_ot (by omega)), hW.c (fun x _ => Iu 8 3 x (by decide) (by decide) (by decide)) (fun i x _ => Lu 8 i x (by decide) (by decide) (by decide)) (fun _ _ => mRw1_ot (by decide)) (fun _ _ => mRw1_ot (by decide)) (fun x hx _ => ⟨mRw1_p (by omega) (by decide), mRw1_p (by omega) (by decide), mRw1_p (by omega) (by decide)⟩) (by omega), fun i hi => ?_, ⟨(I9 13 (by decide)).trans hD.1, hD.2.1, (mRw1_ot (by decide)).trans hD.2.2⟩, fun i hi => ?_⟩
  · rw [cApp_I E lo np 9 7 0 (fun z => absurd z.1 (by decide)) (fun z => absurd z.1 (by decide))]
    exact e7
  · rw [hKp.1.2.1, NE, if_pos rfl, hc]
  · rw [cApp_Lt E lo np 23 j 0 (by decide) (by decide)]
    by_cases e : j = np
    · rw [e]; exact e23
    · rw [LE 23 j 0 (Or.inl (by decide)) (fun z => e z.2)]
      exact n1.2.2.2 j (by omega)
  · by_cases e : x = np
    · subst e
      rw [I5n 0 (by decide), I5n 1 (by decide), I5n 2 (by decide), I5n 3 (by decide), I5n 4 (by decide), I5n 5 (by decide), e0, e1, e2, e3, e4, e5, cApp_56, IE 2 0 lo (Or.inl (by decide)) (fun z => absurd z.1 (by decide)), k0, k1, k2, k3, k4, k5, hLo.1]
      exact ⟨rfl, ⟨rfl, rfl, rfl, rfl, rfl, rfl⟩, hk⟩
    · have := hP x (by omega)
      rw [I5 0 x e, I5 1 x e, I5 2 x e, I5 3 x e, I5 4 x e, I5 5 x e, I5 6 x e, mRw1_p (f := 0) e (by decide), mRw1_p (f := 1) e (by decide), mRw1_p (f := 2) e (by decide), mRw1_p (f := 3) e (by decide), mRw1_p (f := 4) e (by decide), mRw1_p (f := 5) e (by decide)]
      exact this
  · have f4 : cI (cApp E lo np) 2 4 l = mRw1 M lo (R lo).length np k s 9 l := by
      rw [mRw1_9]
      by_cases e : l = lo
      · rw [if_pos e, e, cApp_24, IE 2 4 lo (Or.inl (by decide)) (fun z => absurd z.1 (by decide)), c4, nI_1]
      · rw [if_neg e, I2 4 l (fun z => e z.2)]
        exact (hL l hl).2.1.2.1
    have J : ∀ f, f ≠ 4 → cI (cApp E lo np) 2 f l = cI C 2 f l := fun f hf => I2 f l (fun z => hf z.1)
    obtain ⟨q1, ⟨q2, q3, q4⟩, q5⟩ := hL l hl
    unfold RlL1
    rw [J 0 (by decide), J 1 (by decide), f4, J 5 (by decide), J 7 (by decide), J 9 (by decide), L2 6 l (by decide) (by decide), L2 8 l (by decide) (by decide), L2 10 l (by decide) (by decide), mRw1_ot (f := 7) (by decide), mRw1_ot (f := 10) (by decide), mRw1_ot (f := 11) (by decide), mRw1_ot (f := 12) (by decide), mRw1_ot (f := 13) (by decide)]
    exact ⟨q1, ⟨q2, rfl, q4⟩, q5⟩
  · dsimp only
    by_cases e : l = lo
    · subst e
      rw [if_pos rfl]
      refine ⟨RowC_app (rowE l hlo) ndl (fresh l hlo), ⟨by rw [mRw1_9, if_pos rfl, List.length_append]; rfl, fun i q hq => ?_⟩, nd2, fun q hq => ?_⟩
      · have hi : i < (R l ++ [np]).length := by
          rcases Nat.lt_or_ge i (R l ++ [np]).length with z | z
          · exact z
          · rw [List.getElem?_eq_none z] at hq; cases hq
        rw [List.length_append] at hi
        simp at hi
        rw [mRw1_8]
        by_cases ei : i = (R l).length
        · rw [if_pos (by omega)]
          rw [ei, List.getElem?_append_right (Nat.le_refl _)] at hq
          simp at hq
          rw [hq]
        · rw [if_neg (by omega)]
          rw [List.getElem?_append_left (by omega)] at hq
          exact (hR l hl).2.1.2 i q hq
      · rcases List.mem_append.mp hq with z | z
        · have hz := (hR l hl).2.2.2 q z
          have ne : q ≠ np := by omega
          rw [mRw1_p (f := 5) ne (by decide), mRw1_p (f := 4) ne (by decide), mRw1_p (f := 0) ne (by decide), mRw1_ot (f := 7) (by decide)]
          exact ⟨by omega, hz.2⟩
        · simp at z
          rw [z, k5, k4, k0, mRw1_ot (f := 7) (by decide)]
          exact ⟨Nat.lt_succ_self _, rfl, rfl, h7.symm⟩
    · rw [if_neg e]
      obtain ⟨g1, ⟨g2, g3⟩, g4, g5⟩ := hR l hl
      have ll := lens l hl
      have llo := lens lo hlo
      refine ⟨RowC_appo (rowE lo hlo) (rowE l hl) e (fresh l hl) (fun x hx => Rel.dj hR h60 hlo hl (Ne.symm e) hx), ⟨by rw [mRw1_9, if_neg e]; exact g2, fun i q hq => ?_⟩, g4, fun q hq => ?_⟩
      · have hi : i < (R l).length := by
          rcases Nat.lt_or_ge i (R l).length with z | z
          · exact z
          · rw [List.getElem?_eq_none z] at hq; cases hq
        rw [mRw1_8, if_neg (by omega)]
        exact g3 i q hq
      · have hz := g5 q hq
        have ne : q ≠ np := by omega
        rw [mRw1_p (f := 5) ne (by decide), mRw1_p (f := 4) ne (by decide), mRw1_p (f := 0) ne (by decide), mRw1_ot (f := 7) (by decide)]
        exact ⟨by omega, hz.2⟩
  · dsimp only
    rw [mRw1_ot (by decide)] at q
    have e : l ≠ lo := fun z => by rw [z, l0] at q; exact absurd q (by decide)
    rw [if_neg e, mRw1_ot (by decide), L2 8 l (by decide) (by decide)]
    exact hK l hl q
  · obtain ⟨t1, t2, t3⟩ := hT
    refine ⟨(mRw1_ot (by decide)).trans t1, ?_, fun l hl q => ?_⟩
    · rw [cn_cong (q := fun l => decide (M 10 l = 1)) (fun i _ => by rw [mRw1_ot (by decide)])]
      exact t2
    · rw [mRw1_ot (by decide)] at q
      rw [mRw1_ot (by decide)]
      exact t3 l hl q
  · rw [Iu 0 0 i (by decide) (by decide) (by decide), Iu 0 1 i (by decide) (by decide) (by decide), mRw1_ot (by decide), mRw1_ot (by decide)]
    exact hF i hi
  · rw [mRw1_ot (by decide)]
    exact h42 i hi
end
section
/-! THE TWO: raw; lots on their ways -/
theorem mRawP_s (M : Ms) (l np : Nat) (k f st : Int32) (i : Nat) : mRawP M l np k f st (i + 1) = mRw1 (mRawP M l np k f st i) l i (np + i) k (f + nI i * st) := rfl
theorem mRawP_ot (M : Ms) (l np : Nat) (k f st : Int32) (g j : Nat) (h : 7 ≤ g ∧ g ≠ 8 ∧ g ≠ 9) : ∀ i, mRawP M l np k f st i g j = M g j
  | 0 => rfl
  | i + 1 => by rw [mRawP_s, mRw1_ot h, mRawP_ot M l np k f st g j h i]
theorem Rel_rwQ {M : Ms} {np nl nh nw ns ng dy tt : Nat} {Q : Nat → List Nat} {lo : Nat} {k f st : Int32} (hlo : lo < nl) (l0 : M 10 lo = 0) (h7 : M 7 lo = k) (hk : ∃ kk, kk < 3 ∧ k = nI kk) : ∀ (ads : List Nat) (i : Nat) (D : Cs) (R : Nat → List Nat), (R lo).length = i → np + i + ads.length ≤ 300 → Rel D (mRawP M lo np k f st i) (np + i) nl nh nw ns ng dy tt R Q → ∃ R', Rel (cRwQ lo np k f st ads i D) (mRawP M lo np k f st (i + ads.length)) (np + i + ads.length) nl nh nw ns ng dy tt R' Q
  | [], i, D, R, _, _, H => ⟨R, H⟩
  | a :: t, i, D, R, hR, hn, H => by
    rw [List.length_cons] at hn
    have h1 := Rel_rw1 a (s := f + nI i * st) hlo ((mRawP_ot M lo np k f st 10 lo (by decide) i).trans l0) ((mRawP_ot M lo np k f st 7 lo (by decide) i).trans h7) hk (by omega) H
    rw [hR, ← mRawP_s] at h1
    obtain ⟨R', h2⟩ := Rel_rwQ hlo l0 h7 hk t (i + 1) _ _ (by rw [if_pos rfl, List.length_append, hR]; rfl) (by omega) h1
    refine ⟨R', ?_⟩
    rw [cRwQ, List.length_cons, show i + (t.length + 1) = i + 1 + t.length by omega, show np + i + (t.length + 1) = np + (i + 1) + t.length by omega]
    exact h2
theorem Rel_raw {C : Cs} {M : Ms} {np nl nh nw ns ng dy tt : Nat} {R Q : Nat → List Nat} (a : Nat) (ads : List Nat) {k n f st : Int32} {n' : Nat} (hok : okRaw k n f st np nl n') (ha : ads.length = n') (H : Rel C M np nl nh nw ns ng dy tt R Q) : ∃ R', Rel (cRwQ nl np k f st ads 0 (cNL C a nl k)) (mRaw M k f st np nl n') (np + n') (nl + 1) nh nw ns ng dy tt R' Q := by
  obtain ⟨⟨k1, k2⟩, ⟨h1, h2, h3⟩, h4, h5, h6⟩ := hok
  have hk : ∃ kk, kk < 3 ∧ k = nI kk := by
    obtain ⟨kk, hkk, e⟩ := nlt0 (le_nlt k1)
    rw [e] at k2
    have := ge_n (a := 2) (b := kk) (by decide) hkk k2
    exact ⟨kk, by omega, e⟩
  have g1 := Rel_nl a k h4 (Rel_41 0 H)
  have e1 : mNewLot (m41 M) nl k 10 nl = 0 := by simp [mNewLot, u2]
  have e2 : mNewLot (m41 M) nl k 7 nl = k := by simp [mNewLot, u2]
  obtain ⟨R', g2⟩ := Rel_rwQ (np := np) (f := f) (st := st) (show nl < nl + 1 by omega) e1 e2 hk ads 0 (cNL C a nl k) _ (by rw [if_pos rfl]; rfl) (by omega) g1
  refine ⟨R', ?_⟩
  rw [Nat.zero_add, Nat.add_zero, ha] at g2
  exact g2
/-- a lot on its way goes on by a day -/
theorem Rel_dec {C : Cs} {M : Ms} {np nl nh nw ns ng dy tt : Nat} {R Q : Nat → List Nat} {l : Nat} (hl : l < nl) (h13 : M 10 l = 1 ∨ M 10 l = 3) (h0 : 0 < M 12 l) (H : Rel C M np nl nh nw ns ng dy tt R Q) : Rel (wI C 2 7 l (cI C 2 7 l - 1)) (u2 M 12 l (M 12 l - 1)) np nl nh nw ns ng dy tt R Q := by
  obtain ⟨hN, hP, hH, hL, hR, hK, hQ, hT, hS, hG, hW, hF, hD, h42⟩ := H
  have eI : ∀ t k i, ¬ (t = 2 ∧ k = 7 ∧ i = l) → cI (wI C 2 7 l (cI C 2 7 l - 1)) t k i = cI C t k i := fun t k i h => by rw [cI_wI, if_neg h]
  have eM : ∀ f i, f ≠ 12 → u2 M 12 l (M 12 l - 1) f i = M f i := fun f i hf => u2_ne hf
  refine ⟨hN, hP, hH.c (fun k h _ _ => eI 1 k h (fun z => absurd z.1 (by decide))) (fun f x h1 h2 => eM f x (by omega)) rfl, fun j hj => ?_, hR, hK, hQ, hT, hS, hG, hW, hF, hD, h42⟩
  by_cases e : j = l
  · subst e
    obtain ⟨q1, q2, q3, q4, q5, q6, q7, q8, q9⟩ := hL j hj
    have e12 : u2 M 12 j (M 12 j - 1) 12 j = M 12 j - 1 := by simp [u2]
    unfold RlL1
    rw [eI 2 0 j (fun z => absurd z.2.1 (by decide)), eI 2 1 j (fun z => absurd z.2.1 (by decide)), eI 2 4 j (fun z => absurd z.2.1 (by decide)), eI 2 5 j (fun z => absurd z.2.1 (by decide)), eI 2 9 j (fun z => absurd z.2.1 (by decide)), cI_wI, if_pos ⟨rfl, rfl, rfl⟩, cL_wI, cL_wI, cL_wI, eM 7 j (by decide), eM 9 j (by decide), eM 10 j (by decide), eM 11 j (by decide), eM 13 j (by decide), e12]
    refine ⟨q1, q2, q3, q4, q5, fun z => ?_, fun z => absurd h13 z, q8, q9⟩
    rw [(q6 z).1]
    refine ⟨rfl, ?_⟩
    rw [i_le, Int32.toInt_sub]
    rw [i_lt] at h0
    have e0 : (0 : Int32).toInt = 0 := by decide
    have e1 : (1 : Int32).toInt = 1 := by decide
    have rg := i_rng (M 12 j)
    rw [e0] at h0 ⊢
    rw [e1, Int.bmod_eq_of_le (by omega) (by omega)]
    omega
  · exact (hL j hj).c (fun k => eI 2 k j (fun z => e z.2.2)) (fun _ _ => rfl) (fun f hf => u2_j e) (Nat.le_refl _)
/-- a lot is home again -/
theorem Rel_ret {C : Cs} {M : Ms} {np nl nh nw ns ng dy tt : Nat} {R Q : Nat → List Nat} {l : Nat} (hl : l < nl) (h3 : M 10 l = 3) (h0 : ¬ 0 < M 12 l) (H : Rel C M np nl nh nw ns ng dy tt R Q) : Rel (wL (wI C 2 5 l 0) 2 6 l 0) (u2 M 10 l 0) np nl nh nw ns ng dy tt R Q := by
  obtain ⟨hN, hP, hH, hL, hR, hK, hQ, hT, hS, hG, hW, hF, hD, h42⟩ := H
  obtain ⟨hX, ⟨n1, m1⟩, ⟨n2, m2⟩, ⟨n3, m3⟩, n4, m4⟩ := hN
  have eI : ∀ t k i, ¬ (t = 2 ∧ k = 5 ∧ i = l) → cI (wL (wI C 2 5 l 0) 2 6 l 0) t k i = cI C t k i := fun t k i h => by rw [cI_wL, cI_wI, if_neg h]
  have eL : ∀ t k i, ¬ (t = 2 ∧ k = 6 ∧ i = l) → cL (wL (wI C 2 5 l 0) 2 6 l 0) t k i = cL C t k i := fun t k i h => by rw [cL_wL, if_neg h, cL_wI]
  have eM : ∀ f i, f ≠ 10 → u2 M 10 l 0 f i = M f i := fun f i hf => u2_ne hf
  have e10 : u2 M 10 l 0 10 l = 0 := by simp [u2]
  have lt : ∀ t k i, t ≠ 2 → cL (wL (wI C 2 5 l 0) 2 6 l 0) t k i = cL C t k i := fun t k i h => eL t k i (fun z => h z.1)
  have it : ∀ t k i, t ≠ 2 → cI (wL (wI C 2 5 l 0) 2 6 l 0) t k i = cI C t k i := fun t k i h => eI t k i (fun z => h z.1)
  have nw2 : ∀ j, u2 M 10 l 0 10 j = 2 → j ≠ l := fun j q z => by rw [z, e10] at q; exact absurd q (by decide)
  refine ⟨⟨FX_wL (FX_wI hX _ _ _ _) _ _ _ _ (by decide), ⟨n1.c (it 9 7 0 (by decide)) rfl (fun j => lt 23 j 0 (by decide)), m1⟩, ⟨n2.c (it 9 8 0 (by decide)) rfl (fun j => lt 24 j 0 (by decide)), m2⟩, ⟨n3.c (it 9 9 0 (by decide)) rfl (fun j => lt 25 j 0 (by decide)), m3⟩, n4.c (it 9 10 0 (by decide)) rfl (fun j => lt 26 j 0 (by decide)), m4⟩, hP.c (fun k p _ => it 5 k p (by decide)) (fun f p hf _ => eM f p (by omega)), hH.c (fun k h _ _ => it 1 k h (by decide)) (fun f x h1 h2 => eM f x (by omega)) rfl, fun j hj => ?_, fun j hj => (hR j hj).c (fun p _ => lt 5 7 p (by decide)) (eL 2 2 j (fun z => absurd z.2.1 (by decide))) (eL 2 3 j (fun z => absurd z.2.1 (by decide))) rfl rfl (fun _ _ => rfl) (fun f p _ hf => eM f p (by omega)) (Nat.le_refl _), fun j hj q => ?_, fun x hx => (hQ x hx).c (fun j _ => eL 2 10 j (fun z => absurd z.2.1 (by decide))) (lt 1 8 x (by decide)) (lt 1 9 x (by decide)) (it 1 7 x (by decide)) (fun j => ?_) (fun _ _ => rfl), ⟨hT.1, ?_, fun j hj q => ?_⟩, hS.c (it 9 11 0 (by decide)) rfl (fun k e _ => it 6 k e (by decide)) (fun e _ => lt 6 2 e (by decide)) (fun x _ => lt 1 10 x (by decide)) (eM 30 0 (by decide)) (fun f e hf _ => eM f e (by omega)), hG.c (it 9 12 0 (by decide)) rfl (fun k e _ => it 7 k e (by decide)) (fun e _ => lt 7 3 e (by decide)) (fun x _ => lt 1 11 x (by decide)) (eM 35 0 (by decide)) (fun f e hf _ => eM f e (by omega)), hW.c (fun x _ => it 8 3 x (by decide)) (fun i x _ => lt 8 i x (by decide)) (fun _ _ => rfl) (fun _ _ => rfl) (fun _ _ _ => ⟨rfl, rfl, rfl⟩) (Nat.le_refl _), hF, hD, h42⟩
  · by_cases e : j = l
    · subst e
      obtain ⟨q1, ⟨q2, q2b, q2c⟩, q3, q4, q5, q6, q7, q8, q9⟩ := hL j hj
      have z9 := q9 (by rw [h3]; decide)
      have z6 := q6 (Or.inr h3)
      have t0 : cI C 2 7 j = 0 := by
        rw [z6.1]
        have a1 := z6.2
        have a2 := nlt_le h0
        rw [i_le] at a1 a2
        exact (i_eq _ _).mpr (by omega)
      unfold RlL1
      rw [eI 2 0 j (fun z => absurd z.2.1 (by decide)), eI 2 1 j (fun z => absurd z.2.1 (by decide)), eI 2 4 j (fun z => absurd z.2.1 (by decide)), eI 2 7 j (fun z => absurd z.2.1 (by decide)), eI 2 9 j (fun z => absurd z.2.1 (by decide)), eL 2 8 j (fun z => absurd z.2.1 (by decide)), eL 2 10 j (fun z => absurd z.2.1 (by decide)), cI_wL, cI_wI, if_pos ⟨rfl, rfl, rfl⟩, cL_wL, if_pos ⟨rfl, rfl, rfl⟩, e10, eM 7 j (by decide), eM 9 j (by decide)]
      exact ⟨q1, ⟨q2, q2b, rfl⟩, ⟨0, by decide, rfl⟩, fun _ => rfl, fun z => absurd rfl z, fun z => absurd z (by decide), fun _ => t0, fun z => absurd z (by decide), fun _ => z9⟩
    · exact (hL j hj).c (fun k => eI 2 k j (fun z => e z.2.2)) (fun k _ => eL 2 k j (fun z => e z.2.2)) (fun f hf => u2_j e) (Nat.le_refl _)
  · have e := nw2 j q
    rw [u2_j e] at q
    rw [eL 2 8 j (fun z => absurd z.2.1 (by decide))]
    exact hK j hj q
  · constructor
    · intro z
      have e := nw2 j z.2.1
      rw [u2_j e] at z
      exact z
    · intro z
      have e : j ≠ l := fun w => by rw [w, h3] at z; exact absurd z.2.1 (by decide)
      rw [u2_j e]
      exact z
  · rw [cn_cong (q := fun l => decide (M 10 l = 1)) (fun i _ => ?_)]
    · exact hT.2.1
    · by_cases e : i = l
      · rw [e, e10, h3]; decide
      · rw [u2_j e]
  · have e := nw2 j q
    rw [u2_j e] at q
    exact hT.2.2 j hj q
end
section
/-! THE TWO: a lot comes to a home -/
theorem cRec_I (C : Cs) (h l t k i : Nat) (hh : ¬ (t = 1 ∧ k = 7 ∧ i = h)) : cI (cRec C h l) t k i = cI C t k i := by
  unfold cRec
  rw [cI_wI, if_neg hh, cI_wL]
  split <;> rw [cI_wL]
theorem cRec_17 (C : Cs) (h l : Nat) : cI (cRec C h l) 1 7 h = cI C 1 7 h + 1 := by
  unfold cRec
  rw [cI_wI, if_pos ⟨rfl, rfl, rfl⟩]
theorem cRec_L (C : Cs) (h l t k i : Nat) (h1 : ¬ (t = 1 ∧ (k = 8 ∨ k = 9) ∧ i = h)) (h2 : ¬ (t = 2 ∧ k = 10)) : cL (cRec C h l) t k i = cL C t k i := by
  unfold cRec
  rw [cL_wI, cL_wL, if_neg (fun z => h1 ⟨z.1, Or.inr z.2.1, z.2.2⟩)]
  split
  · rw [cL_wL, if_neg (fun z => h1 ⟨z.1, Or.inl z.2.1, z.2.2⟩)]
  · rw [cL_wL, if_neg (fun z => h2 ⟨z.1, z.2.1⟩)]
theorem cRec_210 {C : Cs} {h l x : Nat} (hx : cL C 1 9 h ≠ x + 1) : cL (cRec C h l) 2 10 x = cL C 2 10 x := by
  unfold cRec
  rw [cL_wI, cL_wL, if_neg (fun z => absurd z.1 (by decide))]
  split
  · rw [cL_wL, if_neg (fun z => absurd z.1 (by decide))]
  · rename_i q e
    rw [cL_wL, if_neg (fun z => hx (by rw [e, z.2.2]))]
def QuC (C : Cs) (h : Nat) (L : List Nat) : Prop := chL (cL C 2 10) (cL C 1 8 h) L ∧ cL C 1 9 h = lsC L
theorem QuC_rec {C : Cs} {h l : Nat} {L : List Nat} (g : QuC C h L) (hn : L.Nodup) (hl : l ∉ L) (h0 : cL C 2 10 l = 0) : QuC (cRec C h l) h (L ++ [l]) := by
  obtain ⟨h1, h2⟩ := g
  unfold cRec
  cases e : cL C 1 9 h with
  | zero =>
    have hL : L = [] := lsC_0 (by rw [← h2, e])
    subst hL
    refine ⟨⟨?_, ?_⟩, ?_⟩
    · simp [cL_wI, cL_wL]
    · simp [cL_wI, cL_wL, h0]
      rfl
    · simp [cL_wI, cL_wL, lsC]
  | succ q =>
    have hq : lsC L = q + 1 := by rw [← h2, e]
    refine ⟨?_, ?_⟩
    · have hc := chL_app (p := l) hq hn hl h1
      have e3 : cL (wI (wL (wL C 2 10 q (l + 1)) 1 9 h (l + 1)) 1 7 h (cI C 1 7 h + 1)) 1 8 h = cL C 1 8 h := by simp [cL_wI, cL_wL]
      rw [e3]
      refine chL_cong (fun x _ => ?_) hc
      simp only [cL_wI, cL_wL, nU]
      by_cases ex : x = q
      · simp [ex]
      · by_cases ex2 : x = l
        · simp [ex2, h0]
        · simp [ex, ex2]
    · simp [cL_wI, cL_wL, lsC_snoc]
theorem QuC_reco {C : Cs} {h l x : Nat} {L T : List Nat} (g : QuC C h L) (f : QuC C x T) (hx : x ≠ h) (hd : ∀ y, y ∈ L → y ∉ T) : QuC (cRec C h l) x T := by
  refine ⟨?_, by rw [cRec_L _ _ _ _ _ _ (fun z => hx z.2.2) (fun z => absurd z.1 (by decide))]; exact f.2⟩
  rw [cRec_L _ _ _ _ _ _ (fun z => hx z.2.2) (fun z => absurd z.1 (by decide))]
  refine chL_cong (fun y hy => (cRec_210 (fun z => ?_)).symm) f.1
  rw [g.2] at z
  exact hd y (lsC_m z) hy
def mArr (M : Ms) (l : Nat) : Ms := u2 (u2 (u2 (u2 (u2 M 10 l 2) 13 l 0) 14 l 0) 15 l (M 17 0)) 17 0 (M 17 0 + 1)
theorem mArr_ot {M : Ms} {l f i : Nat} (h : f ≠ 10 ∧ f ≠ 13 ∧ f ≠ 14 ∧ f ≠ 15 ∧ f ≠ 17) : mArr M l f i = M f i := by
  unfold mArr
  rw [u2_ne h.2.2.2.2, u2_ne h.2.2.2.1, u2_ne h.2.2.1, u2_ne h.2.1, u2_ne h.1]
theorem mArr_j {M : Ms} {l f i : Nat} (hi : i ≠ l) (h : f ≠ 17) : mArr M l f i = M f i := by
  unfold mArr
  rw [u2_ne h, u2_j hi, u2_j hi, u2_j hi, u2_j hi]
theorem Rel_arr {C : Cs} {M : Ms} {np nl nh nw ns ng dy tt : Nat} {R Q : Nat → List Nat} {l h : Nat} (hl : l < nl) (h1 : M 10 l = 1) (hh : h < nh) (h11 : M 11 l = nI h) (h0 : ¬ 0 < M 12 l) (H : Rel C M np nl nh nw ns ng dy tt R Q) : Rel (cRec (wI C 2 5 l 2) h l) (mArr M l) np nl nh nw ns ng dy (tt + 1) R (fun x => if x = h then Q h ++ [l] else Q x) := by
  obtain ⟨hN, hP, hH, hL, hR, hK, hQ, hT, hS, hG, hW, hF, hD, h42⟩ := H
  obtain ⟨hX, ⟨n1, m1⟩, ⟨n2, m2⟩, ⟨n3, m3⟩, n4, m4⟩ := hN
  have nh9 := n3.2.1
  have hKp : Kp C (cRec (wI C 2 5 l 2) h l) := ((Kp.rf C).wi 2 5 l 2 (by decide)).tr (cRec_Kp _ _ _)
  have eI : ∀ t k i, ¬ (t = 2 ∧ k = 5 ∧ i = l) → ¬ (t = 1 ∧ k = 7 ∧ i = h) → cI (cRec (wI C 2 5 l 2) h l) t k i = cI C t k i := fun t k i a b => by rw [cRec_I _ _ _ _ _ _ b, cI_wI, if_neg a]
  have it : ∀ t k i, t ≠ 2 → t ≠ 1 → cI (cRec (wI C 2 5 l 2) h l) t k i = cI C t k i := fun t k i a b => eI t k i (fun z => a z.1) (fun z => b z.1)
  have i2 : ∀ k i, ¬ (k = 5 ∧ i = l) → cI (cRec (wI C 2 5 l 2) h l) 2 k i = cI C 2 k i := fun k i a => eI 2 k i (fun z => a z.2) (fun z => absurd z.1 (by decide))
  have i1 : ∀ k i, ¬ (k = 7 ∧ i = h) → cI (cRec (wI C 2 5 l 2) h l) 1 k i = cI C 1 k i := fun k i a => eI 1 k i (fun z => absurd z.1 (by decide)) (fun z => a z.2)
  have eL : ∀ t k i, ¬ (t = 1 ∧ (k = 8 ∨ k = 9) ∧ i = h) → ¬ (t = 2 ∧ k = 10) → cL (cRec (wI C 2 5 l 2) h l) t k i = cL C t k i := fun t k i a b => by rw [cRec_L _ _ _ _ _ _ a b, cL_wI]
  have lt : ∀ t k i, t ≠ 2 → t ≠ 1 → cL (cRec (wI C 2 5 l 2) h l) t k i = cL C t k i := fun t k i a b => eL t k i (fun z => b z.1) (fun z => a z.1)
  have l2 : ∀ k i, k ≠ 10 → cL (cRec (wI C 2 5 l 2) h l) 2 k i = cL C 2 k i := fun k i a => eL 2 k i (fun z => absurd z.1 (by decide)) (fun z => a z.2)
  have l1 : ∀ k i, k ≠ 8 → k ≠ 9 → cL (cRec (wI C 2 5 l 2) h l) 1 k i = cL C 1 k i := fun k i a b => eL 1 k i (fun z => z.2.1.elim a b) (fun z => absurd z.1 (by decide))
  have qu : ∀ x, x < nh → QuC (wI C 2 5 l 2) x (Q x) := fun x hx => ⟨(hQ x hx).1.1, (hQ x hx).1.2.1⟩
  have lnot : ∀ x, x < nh → l ∉ Q x := fun x hx z => by have := ((hQ x hx).2.2.1 l).mp z; rw [h1] at this; exact absurd this.2.1 (by decide)
  obtain ⟨p1, ⟨p2, p2b, p2c⟩, p3, p4, p5, p6, p7, p8, p9⟩ := hL l hl
  have z9 := p9 (by rw [h1]; decide)
  have z6 := p6 (Or.inl h1)
  have t0 : cI C 2 7 l = 0 := by
    rw [z6.1]
    have a1 := z6.2
    have a2 := nlt_le h0
    rw [i_le] at a1 a2
    exact (i_eq _ _).mpr (by omega)
  have a10 : mArr M l 10 l = 2 := by simp [mArr, u2]
  have a13 : mArr M l 13 l = 0 := by simp [mArr, u2]
  have a14 : mArr M l 14 l = 0 := by simp [mArr, u2]
  have a15 : mArr M l 15 l = M 17 0 := by simp [mArr, u2]
  have a17 : mArr M l 17 0 = M 17 0 + 1 := by simp [mArr, u2]
  have dq : ∀ x, x < nh → x ≠ h → ∀ y, y ∈ Q h → y ∉ Q x := fun x hx e y hy z => by
    have b1 := ((hQ h hh).2.2.1 y).mp hy
    have b2 := ((hQ x hx).2.2.1 y).mp z
    exact e ((nI_eq (by omega) (by omega)).mp (b2.2.2.symm.trans b1.2.2))
  have hcn := cn_flip (p := fun j => decide (M 10 j = 1)) (q := fun j => decide (mArr M l 10 j = 1)) (i := l) (decide_eq_true h1) (decide_eq_false (by rw [a10]; decide)) (fun j hj => by rw [mArr_j hj (by decide)]) hl
  have tns : tt + 1 ≤ ns := by have := hT.2.1; omega
  have ns5 := hS.1.2.1
  refine ⟨⟨hKp.fx hX, ⟨hKp.nb (by decide) n1, m1⟩, ⟨hKp.nb (by decide) n2, m2⟩, ⟨hKp.nb (by decide) n3, m3⟩, hKp.nb (by decide) n4, m4⟩, hP.c (fun k p _ => it 5 k p (by decide) (by decide)) (fun f p hf _ => mArr_ot (by omega)), hH.c (fun k x hk _ => i1 k x (by omega)) (fun f x a b => mArr_ot (by omega)) (mArr_ot (by decide)), fun j hj => ?_, fun j hj => (hR j hj).c (fun p _ => lt 5 7 p (by decide) (by decide)) (l2 2 j (by decide)) (l2 3 j (by decide)) (mArr_ot (by decide)) (mArr_ot (by decide)) (fun _ _ => mArr_ot (by decide)) (fun f p _ hf => mArr_ot (by omega)) (Nat.le_refl _), fun j hj q => ?_, fun x hx => ?_, ⟨?_, ?_, fun j hj q => ?_⟩, hS.c (it 9 11 0 (by decide) (by decide)) (by rw [hKp.1.2.1]) (fun k e _ => it 6 k e (by decide) (by decide)) (fun e _ => lt 6 2 e (by decide) (by decide)) (fun x _ => l1 10 x (by decide) (by decide)) (mArr_ot (by decide)) (fun f e hf _ => mArr_ot (by omega)), hG.c (it 9 12 0 (by decide) (by decide)) (by rw [hKp.1.2.1]) (fun k e _ => it 7 k e (by decide) (by decide)) (fun e _ => lt 7 3 e (by decide) (by decide)) (fun x _ => l1 11 x (by decide) (by decide)) (mArr_ot (by decide)) (fun f e hf _ => mArr_ot (by omega)), hW.c (fun x _ => it 8 3 x (by decide) (by decide)) (fun i x _ => lt 8 i x (by decide) (by decide)) (fun _ _ => mArr_ot (by decide)) (fun _ _ => mArr_ot (by decide)) (fun _ _ _ => ⟨mArr_ot (by decide), mArr_ot (by decide), mArr_ot (by decide)⟩) (Nat.le_refl _), fun i hi => ?_, ⟨(it 9 13 0 (by decide) (by decide)).trans hD.1, hD.2.1, (mArr_ot (by decide)).trans hD.2.2⟩, fun i hi => ?_⟩
  · by_cases e : j = l
    · subst e
      obtain ⟨x, hx, x1, x2⟩ := p5 (by rw [h1]; decide)
      have c25 : cI (cRec (wI C 2 5 j 2) h j) 2 5 j = 2 := by rw [cRec_I _ _ _ _ _ _ (fun z => absurd z.1 (by decide)), cI_wI, if_pos ⟨rfl, rfl, rfl⟩]
      unfold RlL1
      rw [i2 0 j (fun z => absurd z.1 (by decide)), i2 1 j (fun z => absurd z.1 (by decide)), i2 4 j (fun z => absurd z.1 (by decide)), c25, i2 7 j (fun z => absurd z.1 (by decide)), i2 9 j (fun z => absurd z.1 (by decide)), l2 6 j (by decide), l2 8 j (by decide), a10, a13, mArr_ot (f := 7) (by decide), mArr_ot (f := 9) (by decide), mArr_ot (f := 11) (by decide)]
      exact ⟨p1, ⟨p2, p2b, rfl⟩, ⟨2, by decide, rfl⟩, fun z => absurd z (by decide), fun _ => ⟨x, hx, x1, x2⟩, fun z => absurd z (by decide), fun _ => t0, fun _ => z9.1, fun z => absurd rfl z⟩
    · have w := hL j hj
      have m10 : mArr M l 10 j = M 10 j := mArr_j e (by decide)
      unfold RlL1
      rw [i2 0 j (fun z => e z.2), i2 1 j (fun z => e z.2), i2 4 j (fun z => e z.2), i2 5 j (fun z => e z.2), i2 7 j (fun z => e z.2), i2 9 j (fun z => e z.2), l2 6 j (by decide), l2 8 j (by decide), m10, mArr_j (f := 7) e (by decide), mArr_j (f := 9) e (by decide), mArr_j (f := 11) e (by decide), mArr_j (f := 12) e (by decide), mArr_j (f := 13) e (by decide)]
      obtain ⟨b1, b2, b3, b4, b5, b6, b7, b8, b9⟩ := w
      refine ⟨b1, b2, b3, b4, b5, b6, b7, b8, fun z => ⟨(b9 z).1, (b9 z).2.1, ?_⟩⟩
      rw [cRec_210 (fun y => ?_), cL_wI]
      · exact (b9 z).2.2
      · have y : cL C 1 9 h = j + 1 := y
        rw [(hQ h hh).1.2.1] at y
        exact z (((hQ h hh).2.2.1 j).mp (lsC_m y)).2.1
  · by_cases e : j = l
    · subst e
      refine ⟨0, Nat.zero_le _, a14, ?_⟩
      rw [l2 8 j (by decide)]
      exact z9.2.1
    · rw [mArr_j e (by decide)] at q
      rw [mArr_j e (by decide), l2 8 j (by decide)]
      exact hK j hj q
  · dsimp only
    have tl : ∀ y, y ∈ Q x → y ≠ l := fun y hy z => lnot x hx (by rw [← z]; exact hy)
    by_cases e : x = h
    · subst e
      rw [if_pos rfl]
      obtain ⟨⟨g1, g2, g3⟩, g4, g5, g6⟩ := hQ x hx
      refine ⟨⟨(QuC_rec (qu x hx) g4 (lnot x hx) z9.2.2).1, (QuC_rec (qu x hx) g4 (lnot x hx) z9.2.2).2, ?_⟩, List.nodup_append.mpr ⟨g4, by simp, fun u hu v hv w => by simp at hv; rw [w, hv] at hu; exact lnot x hx hu⟩, fun j => ?_, List.pairwise_append.mpr ⟨g6.imp_of_mem (fun {u v} hu hv w => ?_), by simp, fun u hu v hv => ?_⟩⟩
      · rw [cRec_17, List.length_append]
        show cI C 1 7 x + 1 = _
        rw [g3, nI_1]
        rfl
      · rw [mArr_ot (f := 11) (by decide)]
        constructor
        · intro w
          rcases List.mem_append.mp w with w | w
          · have ne := tl j w
            rw [mArr_j ne (by decide)]
            exact (g5 j).mp w
          · simp at w
            rw [w, a10]
            exact ⟨hl, rfl, h11⟩
        · intro w
          by_cases ne : j = l
          · rw [ne]; exact List.mem_append_right _ (by simp)
          · rw [mArr_j ne (by decide)] at w
            exact List.mem_append_left _ ((g5 j).mpr w)
      · rw [mArr_j (tl u hu) (by decide), mArr_j (tl v hv) (by decide)]
        exact w
      · simp at hv
        rw [hv, a15, mArr_j (tl u hu) (by decide), hT.1]
        obtain ⟨hu1, hu2, _⟩ := (g5 u).mp hu
        obtain ⟨t, ht, et⟩ := hT.2.2 u hu1 hu2
        rw [et]
        exact (nI_ltI (by omega) (by omega)).mpr ht
    · rw [if_neg e]
      obtain ⟨⟨g1, g2, g3⟩, g4, g5, g6⟩ := hQ x hx
      have qo := QuC_reco (l := l) (qu h hh) (qu x hx) e (dq x hx e)
      refine ⟨⟨qo.1, qo.2, (i1 7 x (fun z => e z.2)).trans g3⟩, g4, fun j => ?_, g6.imp_of_mem (fun {u v} hu hv w => ?_)⟩
      · rw [mArr_ot (f := 11) (by decide)]
        constructor
        · intro w
          rw [mArr_j (tl j w) (by decide)]
          exact (g5 j).mp w
        · intro w
          by_cases ne : j = l
          · rw [ne, h11] at w
            exact absurd ((nI_eq (by omega) (by omega)).mp w.2.2).symm e
          · rw [mArr_j ne (by decide)] at w
            exact (g5 j).mpr w
      · rw [mArr_j (tl u hu) (by decide), mArr_j (tl v hv) (by decide)]
        exact w
  · rw [a17, hT.1, nI_1]
  · have := hT.2.1
    show tt + 1 + cn (fun j => decide (mArr M l 10 j = 1)) nl ≤ ns
    omega
  · by_cases e : j = l
    · exact ⟨tt, Nat.lt_succ_self _, by rw [e, a15, hT.1]⟩
    · rw [mArr_j e (by decide)] at q
      obtain ⟨t, ht, et⟩ := hT.2.2 j hj q
      exact ⟨t, by omega, by rw [mArr_j e (by decide)]; exact et⟩
  · rw [it 0 0 i (by decide) (by decide), it 0 1 i (by decide) (by decide), mArr_ot (by decide), mArr_ot (by decide)]
    exact hF i hi
  · rw [mArr_ot (by decide)]
    exact h42 i hi
theorem Rel_go {C : Cs} {M : Ms} {np nl nh nw ns ng dy tt : Nat} {R Q : Nat → List Nat} (sn : Int32) {l : Nat} (hl : l < nl) (H : Rel C M np nl nh nw ns ng dy tt R Q) : ∃ tt' Q', Rel (cTv C sn l) (mGo M sn l) np nl nh nw ns ng dy tt' R Q' := by
  obtain ⟨p1, ⟨p2, p2b, p2c⟩, ⟨k, hk, ek⟩, p4, p5, p6, p7, p8, p9⟩ := H.2.2.2.1 l hl
  by_cases h13 : M 10 l = 1 ∨ M 10 l = 3
  · have hne : ¬ M 10 l = 0 := fun z => by rw [z] at h13; exact absurd h13 (by decide)
    have hne2 : ¬ (cI C 2 5 l = 0 ∨ cI C 2 5 l = 2) := fun z => by
      rw [p2c] at z
      rcases h13 with w | w <;> rw [w] at z <;> exact absurd z (by decide)
    obtain ⟨h, hh, e11, e6⟩ := p5 hne
    have eT : cTv C sn l = cTv2 (cI C 2 5 l) h l (cTv1 C sn l) := by
      unfold cTv
      rw [e6]
      exact if_neg hne2
    have eG : mGo M sn l = (fun M1 : Ms => if 0 < M1 12 l then M1 else if M 10 l = 3 then u2 M1 10 l 0 else u2 (u2 (u2 (u2 (u2 M1 10 l 2) 13 l 0) 14 l 0) 15 l (M 17 0)) 17 0 (M 17 0 + 1)) (if sn = 0 ∧ 0 < M 12 l then u2 M 12 l (M 12 l - 1) else M) := by
      unfold mGo
      rw [if_pos h13]
    rw [eT, eG]
    have step : ∀ (D : Cs) (N : Ms), Rel D N np nl nh nw ns ng dy tt R Q → N 10 l = M 10 l → N 11 l = M 11 l → N 17 0 = M 17 0 → ∃ tt' Q', Rel (cTv2 (cI C 2 5 l) h l D) (if 0 < N 12 l then N else if M 10 l = 3 then u2 N 10 l 0 else u2 (u2 (u2 (u2 (u2 N 10 l 2) 13 l 0) 14 l 0) 15 l (M 17 0)) 17 0 (M 17 0 + 1)) np nl nh nw ns ng dy tt' R Q' := by
      intro D N HD n10 n11 n17
      have c7 : cI D 2 7 l = N 12 l := ((HD.2.2.2.1 l hl).2.2.2.2.2.1 (by rw [n10]; exact h13)).1
      unfold cTv2
      rw [c7]
      by_cases c : 0 < N 12 l
      · rw [if_pos c, if_pos c]
        exact ⟨tt, Q, HD⟩
      · rw [if_neg c, if_neg c, p2c]
        rcases h13 with w | w
        · rw [w, if_pos rfl, if_neg (by decide), ← n17]
          exact ⟨_, _, Rel_arr hl (n10.trans w) hh (n11.trans e11) c HD⟩
        · rw [w, if_neg (by decide), if_pos rfl]
          exact ⟨_, _, Rel_ret hl (n10.trans w) c HD⟩
    dsimp only
    have c7 : cI C 2 7 l = M 12 l := (p6 h13).1
    unfold cTv1
    rw [c7]
    by_cases c : sn = 0 ∧ 0 < M 12 l
    · rw [if_pos c, if_pos c]
      have := Rel_dec hl h13 c.2 H
      rw [c7] at this
      exact step _ _ this (u2_ne (by decide)) (u2_ne (by decide)) (u2_ne (by decide))
    · rw [if_neg c, if_neg c]
      exact step _ _ H rfl rfl rfl
  · have eG : mGo M sn l = M := by
      unfold mGo
      rw [if_neg h13]
    rw [eG]
    have eT : cTv C sn l = C := by
      unfold cTv
      split
      · rfl
      · rename_i h e
        refine if_pos ?_
        rw [p2c, ek]
        rw [ek] at h13
        rcases (show k = 0 ∨ k = 1 ∨ k = 2 ∨ k = 3 by omega) with rfl | rfl | rfl | rfl
        · exact Or.inl rfl
        · exact absurd (Or.inl rfl) h13
        · exact Or.inr rfl
        · exact absurd (Or.inr rfl) h13
    rw [eT]
    exact ⟨tt, Q, H⟩
theorem Rel_goes {C : Cs} {M : Ms} {np nl nh nw ns ng dy tt : Nat} {R Q : Nat → List Nat} (sn : Int32) (H : Rel C M np nl nh nw ns ng dy tt R Q) : ∀ n, n ≤ nl → ∃ tt' Q', Rel (cTvs C sn n) (mGoes M sn n) np nl nh nw ns ng dy tt' R Q'
  | 0, _ => ⟨tt, Q, H⟩
  | n + 1, hn => by
    obtain ⟨t1, Q1, h1⟩ := Rel_goes sn H n (by omega)
    exact Rel_go sn (by omega) h1
end
section
/-! THE TWO: who is first; a lot goes home -/
theorem lt_as {x y : Int32} (h : x < y) : ¬ y < x := fun z => by
  rw [i_lt] at h z
  omega
theorem fiF_min {M : Ms} {h l : Nat} (h10 : M 10 l = 2) (h11 : M 11 l = nI h) : ∀ n, l < n → (∀ j, j < n → M 10 j = 2 → M 11 j = nI h → j ≠ l → M 15 l < M 15 j) → fiF M h n = some l
  | 0, hl, _ => by omega
  | n + 1, hl, hm => by
    unfold fiF
    by_cases e : l = n
    · subst e
      rw [if_pos ⟨h10, h11⟩]
      cases hb : fiF M h l with
      | none => rfl
      | some f =>
        obtain ⟨f1, f2, f3⟩ := fiF_lt M h l f hb
        exact if_pos (hm f (by omega) f2 f3 (by omega))
    · have ih := fiF_min h10 h11 n (by omega) (fun j hj => hm j (by omega))
      rw [ih]
      by_cases c : M 10 n = 2 ∧ M 11 n = nI h
      · rw [if_pos c]
        exact if_neg (lt_as (hm n (by omega) c.1 c.2 (by omega)))
      · rw [if_neg c]
theorem fiF_none {M : Ms} {h : Nat} : ∀ n, (∀ j, j < n → ¬ (M 10 j = 2 ∧ M 11 j = nI h)) → fiF M h n = none
  | 0, _ => rfl
  | n + 1, hm => by
    unfold fiF
    rw [if_neg (hm n (by omega))]
    exact fiF_none n (fun j hj => hm j (by omega))
theorem RlQ1.first {C : Cs} {M : Ms} {nl h l : Nat} {t : List Nat} (q : RlQ1 C M nl h (l :: t)) : fiF M h nl = some l := by
  obtain ⟨_, q2, q3, q4⟩ := q
  obtain ⟨b1, b2, b3⟩ := (q3 l).mp (List.mem_cons_self ..)
  refine fiF_min b2 b3 nl b1 (fun j hj h2 h3 hne => ?_)
  rcases List.mem_cons.mp ((q3 j).mpr ⟨hj, h2, h3⟩) with z | z
  · exact absurd z hne
  · exact (List.pairwise_cons.mp q4).1 j z
theorem RlQ1.no {C : Cs} {M : Ms} {nl h : Nat} (q : RlQ1 C M nl h []) : fiF M h nl = none := fiF_none nl (fun j hj z => by
  have := (q.2.2.1 j).mpr ⟨hj, z⟩
  simp at this)
section RLS
variable (C : Cs) (h l : Nat)
theorem cRl1_I (t k i : Nat) (hh : ¬ (t = 1 ∧ k = 7 ∧ i = h)) : cI (cRl1 C h l) t k i = cI C t k i := by
  unfold cRl1
  rw [cI_wI, if_neg hh]
  split
  · rw [cI_wL, cI_wL]
  · rw [cI_wL]
theorem cRl1_L (t k i : Nat) (hh : ¬ (t = 1 ∧ (k = 8 ∨ k = 9) ∧ i = h)) : cL (cRl1 C h l) t k i = cL C t k i := by
  unfold cRl1
  rw [cL_wI]
  split
  · rw [cL_wL, if_neg (fun z => hh ⟨z.1, Or.inr z.2.1, z.2.2⟩), cL_wL, if_neg (fun z => hh ⟨z.1, Or.inl z.2.1, z.2.2⟩)]
  · rw [cL_wL, if_neg (fun z => hh ⟨z.1, Or.inl z.2.1, z.2.2⟩)]
theorem cRl1_8 : cL (cRl1 C h l) 1 8 h = cL C 2 10 l := by
  unfold cRl1
  rw [cL_wI]
  split
  · rename_i e
    rw [cL_wL, if_neg (fun z => absurd z.2.1 (by decide)), cL_wL, if_pos ⟨rfl, rfl, rfl⟩, e]
  · rw [cL_wL, if_pos ⟨rfl, rfl, rfl⟩]
theorem cRl1_9 : cL (cRl1 C h l) 1 9 h = if cL C 2 10 l = 0 then 0 else cL C 1 9 h := by
  unfold cRl1
  rw [cL_wI]
  split
  · rw [cL_wL, if_pos ⟨rfl, rfl, rfl⟩]
  · rw [cL_wL, if_neg (fun z => absurd z.2.1 (by decide))]
theorem cRel_I (t k i : Nat) (h2 : ¬ (t = 2 ∧ (k = 5 ∨ k = 7 ∨ k = 9) ∧ i = l)) (h1 : ¬ (t = 1 ∧ k = 7 ∧ i = h)) : cI (cRel C h l) t k i = cI C t k i := by
  rw [cRel, cTH, cI_wL, cI_wI, if_neg (fun z => h2 ⟨z.1, Or.inr (Or.inr z.2.1), z.2.2⟩), cI_wL, cI_wI, if_neg (fun z => h2 ⟨z.1, Or.inr (Or.inl z.2.1), z.2.2⟩), cI_wI, if_neg (fun z => h2 ⟨z.1, Or.inl z.2.1, z.2.2⟩), cRl1_I C h l t k i h1]
theorem cRel_L (t k i : Nat) (h2 : ¬ (t = 2 ∧ (k = 8 ∨ k = 10) ∧ i = l)) (h1 : ¬ (t = 1 ∧ (k = 8 ∨ k = 9) ∧ i = h)) : cL (cRel C h l) t k i = cL C t k i := by
  rw [cRel, cTH, cL_wL, if_neg (fun z => h2 ⟨z.1, Or.inr z.2.1, z.2.2⟩), cL_wI, cL_wL, if_neg (fun z => h2 ⟨z.1, Or.inl z.2.1, z.2.2⟩), cL_wI, cL_wI, cRl1_L C h l t k i h1]
theorem cRel_n : (cI (cRel C h l) 2 5 l = 3 ∧ cI (cRel C h l) 2 7 l = cI C 1 4 h ∧ cI (cRel C h l) 2 9 l = 0) ∧ (cL (cRel C h l) 2 8 l = 0 ∧ cL (cRel C h l) 2 10 l = 0) ∧ cI (cRel C h l) 1 7 h = cI C 1 7 h - 1 := by
  refine ⟨⟨?_, ?_, ?_⟩, ⟨?_, ?_⟩, ?_⟩
  · simp [cRel, cTH, cI_wI, cI_wL]
  · simp [cRel, cTH, cI_wI, cI_wL]
  · simp [cRel, cTH, cI_wI, cI_wL]
  · simp [cRel, cTH, cL_wI, cL_wL]
  · simp [cRel, cTH, cL_wI, cL_wL]
  · have e : cI (cRel C h l) 1 7 h = cI (cRl1 C h l) 1 7 h := by simp [cRel, cTH, cI_wI, cI_wL]
    rw [e, cRl1, cI_wI, if_pos ⟨rfl, rfl, rfl⟩]
theorem cRel_18 (k : Nat) : cL (cRel C h l) 1 k h = cL (cRl1 C h l) 1 k h := by
  rw [cRel, cTH, cL_wL, if_neg (fun z => absurd z.1 (by decide)), cL_wI, cL_wL, if_neg (fun z => absurd z.1 (by decide)), cL_wI, cL_wI]
end RLS
theorem mOut_ot {M : Ms} {l h f i : Nat} (hf : f ≠ 10 ∧ f ≠ 12) : mOutH M l h f i = M f i := by
  unfold mOutH
  rw [u2_ne hf.2, u2_ne hf.1]
theorem mOut_j {M : Ms} {l h f i : Nat} (hi : i ≠ l) : mOutH M l h f i = M f i := by
  unfold mOutH
  rw [u2_j hi, u2_j hi]
theorem Rel_rel {C : Cs} {M : Ms} {np nl nh nw ns ng dy tt : Nat} {R Q : Nat → List Nat} {h l : Nat} {t : List Nat} (hh : h < nh) (hq : Q h = l :: t) (H : Rel C M np nl nh nw ns ng dy tt R Q) : Rel (cRel C h l) (mOutH M l h) np nl nh nw ns ng dy tt R (fun x => if x = h then t else Q x) := by
  obtain ⟨hN, hP, hH, hL, hR, hK, hQ, hT, hS, hG, hW, hF, hD, h42⟩ := H
  obtain ⟨hX, ⟨n1, m1⟩, ⟨n2, m2⟩, ⟨n3, m3⟩, n4, m4⟩ := hN
  have nh9 := n3.2.1
  have hKp := cRel_Kp C h l
  have qh := hQ h hh
  rw [hq] at qh
  obtain ⟨⟨g1, g2, g3⟩, g4, g5, g6⟩ := qh
  obtain ⟨hl, h10, h11⟩ := (g5 l).mp (List.mem_cons_self ..)
  have ndt := List.nodup_cons.mp g4
  have it : ∀ t k i, t ≠ 2 → t ≠ 1 → cI (cRel C h l) t k i = cI C t k i := fun t k i a b => cRel_I C h l t k i (fun z => a z.1) (fun z => b z.1)
  have i2 : ∀ k i, ¬ ((k = 5 ∨ k = 7 ∨ k = 9) ∧ i = l) → cI (cRel C h l) 2 k i = cI C 2 k i := fun k i a => cRel_I C h l 2 k i (fun z => a z.2) (fun z => absurd z.1 (by decide))
  have i1 : ∀ k i, ¬ (k = 7 ∧ i = h) → cI (cRel C h l) 1 k i = cI C 1 k i := fun k i a => cRel_I C h l 1 k i (fun z => absurd z.1 (by decide)) (fun z => a z.2)
  have lt : ∀ t k i, t ≠ 2 → t ≠ 1 → cL (cRel C h l) t k i = cL C t k i := fun t k i a b => cRel_L C h l t k i (fun z => a z.1) (fun z => b z.1)
  have l2 : ∀ k i, ¬ ((k = 8 ∨ k = 10) ∧ i = l) → cL (cRel C h l) 2 k i = cL C 2 k i := fun k i a => cRel_L C h l 2 k i (fun z => a z.2) (fun z => absurd z.1 (by decide))
  have l1 : ∀ k i, ¬ ((k = 8 ∨ k = 9) ∧ i = h) → cL (cRel C h l) 1 k i = cL C 1 k i := fun k i a => cRel_L C h l 1 k i (fun z => absurd z.1 (by decide)) (fun z => a z.2)
  obtain ⟨⟨v5, v7, v9⟩, ⟨w8, w10⟩, v17⟩ := cRel_n C h l
  have a10 : mOutH M l h 10 l = 3 := by simp [mOutH, u2]
  have a12 : mOutH M l h 12 l = M 21 h := by simp [mOutH, u2]
  have hHh := hH.1 h hh
  have ne2 : ∀ j, mOutH M l h 10 j = 2 → j ≠ l := fun j q z => by rw [z, a10] at q; exact absurd q (by decide)
  refine ⟨⟨hKp.fx hX, ⟨hKp.nb (by decide) n1, m1⟩, ⟨hKp.nb (by decide) n2, m2⟩, ⟨hKp.nb (by decide) n3, m3⟩, hKp.nb (by decide) n4, m4⟩, hP.c (fun k p _ => it 5 k p (by decide) (by decide)) (fun f p hf _ => mOut_ot (by omega)), hH.c (fun k x hk _ => i1 k x (by omega)) (fun f x a b => mOut_ot (by omega)) (mOut_ot (by decide)), fun j hj => ?_, fun j hj => (hR j hj).c (fun p _ => lt 5 7 p (by decide) (by decide)) (l2 2 j (fun z => absurd z.1 (by decide))) (l2 3 j (fun z => absurd z.1 (by decide))) (mOut_ot (by decide)) (mOut_ot (by decide)) (fun _ _ => mOut_ot (by decide)) (fun f p _ hf => mOut_ot (by omega)) (Nat.le_refl _), fun j hj q => ?_, fun x hx => ?_, ⟨(mOut_ot (by decide)).trans hT.1, ?_, fun j hj q => ?_⟩, hS.c (it 9 11 0 (by decide) (by decide)) (by rw [hKp.1.2.1]) (fun k e _ => it 6 k e (by decide) (by decide)) (fun e _ => lt 6 2 e (by decide) (by decide)) (fun x _ => l1 10 x (fun z => absurd z.1 (by decide))) (mOut_ot (by decide)) (fun f e hf _ => mOut_ot (by omega)), hG.c (it 9 12 0 (by decide) (by decide)) (by rw [hKp.1.2.1]) (fun k e _ => it 7 k e (by decide) (by decide)) (fun e _ => lt 7 3 e (by decide) (by decide)) (fun x _ => l1 11 x (fun z => absurd z.1 (by decide))) (mOut_ot (by decide)) (fun f e hf _ => mOut_ot (by omega)), hW.c (fun x _ => it 8 3 x (by decide) (by decide)) (fun i x _ => lt 8 i x (by decide) (by decide)) (fun _ _ => mOut_ot (by decide)) (fun _ _ => mOut_ot (by decide)) (fun _ _ _ => ⟨mOut_ot (by decide), mOut_ot (by decide), mOut_ot (by decide)⟩) (Nat.le_refl _), fun i hi => ?_, ⟨(it 9 13 0 (by decide) (by decide)).trans hD.1, hD.2.1, (mOut_ot (by decide)).trans hD.2.2⟩, fun i hi => ?_⟩
  · by_cases e : j = l
    · subst e
      obtain ⟨p1, ⟨p2, p2b, p2c⟩, p3, p4, p5, p6, p7, p8, p9⟩ := hL j hj
      obtain ⟨x, hx, x1, x2⟩ := p5 (by rw [h10]; decide)
      unfold RlL1
      rw [i2 0 j (fun z => absurd z.1 (by decide)), i2 1 j (fun z => absurd z.1 (by decide)), i2 4 j (fun z => absurd z.1 (by decide)), v5, v7, v9, w8, w10, l2 6 j (fun z => absurd z.1 (by decide)), a10, a12, mOut_ot (f := 7) (by decide), mOut_ot (f := 9) (by decide), mOut_ot (f := 11) (by decide)]
      exact ⟨p1, ⟨p2, p2b, rfl⟩, ⟨3, by decide, rfl⟩, fun z => absurd z (by decide), fun _ => ⟨x, hx, x1, x2⟩, fun _ => ⟨hHh.2.1.2.2.2.1, hHh.2.2.2.2.1⟩, fun z => absurd (Or.inr rfl) z, fun z => absurd z (by decide), fun _ => ⟨rfl, rfl, rfl⟩⟩
    · exact (hL j hj).c (fun k => i2 k j (fun z => e z.2)) (fun k _ => l2 k j (fun z => e z.2)) (fun f _ => mOut_j e) (Nat.le_refl _)
  · have e := ne2 j q
    rw [mOut_j e] at q
    rw [mOut_j e, l2 8 j (fun z => e z.2)]
    exact hK j hj q
  · dsimp only
    by_cases e : x = h
    · subst e
      rw [if_pos rfl]
      have ht := g1.2
      have hz := chL_0 ht
      refine ⟨⟨?_, ?_, ?_⟩, ndt.2, fun j => ?_, (List.pairwise_cons.mp g6).2⟩
      · rw [cRel_18, cRl1_8]
        exact chL_cong (fun y hy => (l2 10 y (fun z => ndt.1 (by rw [← z.2]; exact hy))).symm) ht
      · rw [cRel_18, cRl1_9, g2]
        by_cases e0 : cL C 2 10 l = 0
        · rw [if_pos e0, hz.mp e0]; rfl
        · rw [if_neg e0]
          have htn : t ≠ [] := fun z => e0 (hz.mpr z)
          cases t with
          | nil => exact absurd rfl htn
          | cons s u => rw [lsC]
      · rw [v17, g3, List.length_cons, nI_s]
      · rw [mOut_ot (f := 11) (by decide)]
        constructor
        · intro w
          have ne : j ≠ l := fun z => ndt.1 (by rw [← z]; exact w)
          rw [mOut_j ne]
          exact (g5 j).mp (List.mem_cons_of_mem _ w)
        · intro w
          have ne := ne2 j w.2.1
          rw [mOut_j ne] at w
          rcases List.mem_cons.mp ((g5 j).mpr w) with z | z
          · exact absurd z ne
          · exact z
    · rw [if_neg e]
      have lx : l ∉ Q x := fun z => by
        have := ((hQ x hx).2.2.1 l).mp z
        exact e ((nI_eq (by omega) (by omega)).mp (this.2.2.symm.trans h11))
      obtain ⟨⟨f1, f2, f3⟩, f4, f5, f6⟩ := hQ x hx
      refine ⟨⟨?_, (l1 9 x (fun z => e z.2)).trans f2, (i1 7 x (fun z => e z.2)).trans f3⟩, f4, fun j => ?_, f6⟩
      · rw [l1 8 x (fun z => e z.2)]
        exact chL_cong (fun y hy => (l2 10 y (fun z => lx (by rw [← z.2]; exact hy))).symm) f1
      · rw [mOut_ot (f := 11) (by decide)]
        constructor
        · intro w
          have ne : j ≠ l := fun z => lx (by rw [← z]; exact w)
          rw [mOut_j ne]
          exact (f5 j).mp w
        · intro w
          have ne := ne2 j w.2.1
          rw [mOut_j ne] at w
          exact (f5 j).mpr w
  · rw [cn_cong (q := fun l => decide (M 10 l = 1)) (fun i _ => ?_)]
    · exact hT.2.1
    · by_cases e : i = l
      · rw [e, a10, h10]; decide
      · rw [mOut_j e]
  · have e := ne2 j q
    rw [mOut_j e] at q
    rw [mOut_j e]
    exact hT.2.2 j hj q
  · rw [it 0 0 i (by decide) (by decide), it 0 1 i (by decide) (by decide), mOut_ot (by decide), mOut_ot (by decide)]
    exact hF i hi
  · rw [mOut_ot (by decide)]
    exact h42 i hi
end
section
/-! THE TWO: a piece is worked -/
theorem cW4_I (C : Cs) (h l p t k i : Nat) (h5 : ¬ (t = 5 ∧ (k = 3 ∨ k = 4) ∧ i = p)) (h1 : ¬ (t = 1 ∧ k = 5 ∧ i = h)) (h2 : ¬ (t = 2 ∧ k = 9 ∧ i = l)) : cI (cW4 C h l p) t k i = cI C t k i := by
  rw [cW4, cI_wI, if_neg h2, cI_wI, if_neg h1, cI_wI, if_neg (fun z => h5 ⟨z.1, Or.inr z.2.1, z.2.2⟩), cI_wI, if_neg (fun z => h5 ⟨z.1, Or.inl z.2.1, z.2.2⟩)]
theorem cW4_n (C : Cs) (h l p : Nat) : cI (cW4 C h l p) 5 3 p = cI C 5 3 p + cI C 1 2 h ∧ cI (cW4 C h l p) 5 4 p = cI C 5 4 p ||| (1 <<< (cI C 1 0 h &&& 31)) ∧ cI (cW4 C h l p) 1 5 h = cI C 1 5 h + 1 ∧ cI (cW4 C h l p) 2 9 l = cI C 2 9 l + 1 := by
  simp [cW4, cI_wI]
theorem mW4_ot {M : Ms} {h l p f i : Nat} (hf : f ≠ 1 ∧ f ≠ 3 ∧ f ≠ 22 ∧ f ≠ 13) : mWork4 M h l p f i = M f i := by
  unfold mWork4
  rw [u2_ne hf.2.2.2, u2_ne hf.2.2.1, u2_ne hf.2.1, u2_ne hf.1]
theorem mW4_n (M : Ms) (h l p : Nat) : mWork4 M h l p 1 p = M 1 p + M 19 h ∧ mWork4 M h l p 3 p = M 3 p ||| (1 <<< (nI h &&& 31)) ∧ mWork4 M h l p 22 h = M 22 h + 1 ∧ mWork4 M h l p 13 l = M 13 l + 1 := by
  simp [mWork4, u2]
theorem mW4_1 {M : Ms} {h l p i : Nat} (hi : i ≠ p) : mWork4 M h l p 1 i = M 1 i := by simp [mWork4, u2, hi]
theorem mW4_3 {M : Ms} {h l p i : Nat} (hi : i ≠ p) : mWork4 M h l p 3 i = M 3 i := by simp [mWork4, u2, hi]
theorem mW4_22 {M : Ms} {h l p i : Nat} (hi : i ≠ h) : mWork4 M h l p 22 i = M 22 i := by simp [mWork4, u2, hi]
theorem mW4_13 {M : Ms} {h l p i : Nat} (hi : i ≠ l) : mWork4 M h l p 13 i = M 13 i := by simp [mWork4, u2, hi]
theorem Rel_w4 {C : Cs} {M : Ms} {np nl nh nw ns ng dy tt : Nat} {R Q : Nat → List Nat} {h l p : Nat} (hh : h < nh) (hl : l < nl) (hp : p < np) (h10 : M 10 l = 2) (H : Rel C M np nl nh nw ns ng dy tt R Q) : Rel (cW4 C h l p) (mWork4 M h l p) np nl nh nw ns ng dy tt R Q := by
  obtain ⟨hN, hP, hH, hL, hR, hK, hQ, hT, hS, hG, hW, hF, hD, h42⟩ := H
  obtain ⟨hX, ⟨n1, m1⟩, ⟨n2, m2⟩, ⟨n3, m3⟩, n4, m4⟩ := hN
  have hKp := cW4_Kp C h l p
  obtain ⟨v3, v4, v15, v29⟩ := cW4_n C h l p
  obtain ⟨u1, u3, u22, u13⟩ := mW4_n M h l p
  have it : ∀ t k i, t ≠ 5 → t ≠ 1 → t ≠ 2 → cI (cW4 C h l p) t k i = cI C t k i := fun t k i a b c => cW4_I C h l p t k i (fun z => a z.1) (fun z => b z.1) (fun z => c z.1)
  have i5 : ∀ k i, ¬ ((k = 3 ∨ k = 4) ∧ i = p) → cI (cW4 C h l p) 5 k i = cI C 5 k i := fun k i a => cW4_I C h l p 5 k i (fun z => a z.2) (fun z => absurd z.1 (by decide)) (fun z => absurd z.1 (by decide))
  have i1 : ∀ k i, ¬ (k = 5 ∧ i = h) → cI (cW4 C h l p) 1 k i = cI C 1 k i := fun k i a => cW4_I C h l p 1 k i (fun z => absurd z.1 (by decide)) (fun z => a z.2) (fun z => absurd z.1 (by decide))
  have i2 : ∀ k i, ¬ (k = 9 ∧ i = l) → cI (cW4 C h l p) 2 k i = cI C 2 k i := fun k i a => cW4_I C h l p 2 k i (fun z => absurd z.1 (by decide)) (fun z => absurd z.1 (by decide)) (fun z => a z.2)
  have hHh := hH.1 h hh
  refine ⟨⟨hKp.fx hX, ⟨hKp.nb (by decide) n1, m1⟩, ⟨hKp.nb (by decide) n2, m2⟩, ⟨hKp.nb (by decide) n3, m3⟩, hKp.nb (by decide) n4, m4⟩, fun x hx => ?_, ⟨fun x hx => ?_, ?_, fun x hx => ?_⟩, fun j hj => ?_, hR, hK, fun x hx => (hQ x hx).c (fun _ _ => rfl) rfl rfl (i1 7 x (fun z => absurd z.1 (by decide))) (fun _ => Iff.rfl) (fun _ _ => rfl), hT, hS.c (it 9 11 0 (by decide) (by decide) (by decide)) rfl (fun k e _ => it 6 k e (by decide) (by decide) (by decide)) (fun _ _ => rfl) (fun _ _ => rfl) rfl (fun f e hf _ => mW4_ot (by omega)), hG.c (it 9 12 0 (by decide) (by decide) (by decide)) rfl (fun k e _ => it 7 k e (by decide) (by decide) (by decide)) (fun _ _ => rfl) (fun _ _ => rfl) rfl (fun f e hf _ => mW4_ot (by omega)), hW.c (fun x _ => it 8 3 x (by decide) (by decide) (by decide)) (fun _ _ _ => rfl) (fun _ _ => rfl) (fun _ _ => rfl) (fun _ _ _ => ⟨rfl, rfl, rfl⟩) (Nat.le_refl _), fun i hi => ?_, ⟨(it 9 13 0 (by decide) (by decide) (by decide)).trans hD.1, hD.2⟩, h42⟩
  · have w := hP x hx
    by_cases e : x = p
    · subst e
      rw [i5 0 x (fun z => absurd z.1 (by decide)), i5 1 x (fun z => absurd z.1 (by decide)), i5 2 x (fun z => absurd z.1 (by decide)), v3, v4, i5 5 x (fun z => absurd z.1 (by decide)), i5 6 x (fun z => absurd z.1 (by decide)), u1, u3, hHh.1, hHh.2.1.2.1, w.2.1.2.2.1, w.2.1.2.2.2.1]
      exact ⟨w.1, ⟨w.2.1.1, w.2.1.2.1, rfl, rfl, w.2.1.2.2.2.2.1, w.2.1.2.2.2.2.2⟩, w.2.2⟩
    · rw [i5 0 x (fun z => e z.2), i5 1 x (fun z => e z.2), i5 2 x (fun z => e z.2), i5 3 x (fun z => e z.2), i5 4 x (fun z => e z.2), i5 5 x (fun z => e z.2), i5 6 x (fun z => e z.2), mW4_1 e, mW4_3 e]
      exact w
  · have w := hH.1 x hx
    have J : ∀ k, k ≠ 5 → cI (cW4 C h l p) 1 k x = cI C 1 k x := fun k hk => i1 k x (fun z => hk z.1)
    have e5 : cI (cW4 C h l p) 1 5 x = mWork4 M h l p 22 x := by
      by_cases e : x = h
      · rw [e, v15, u22, hHh.2.1.2.2.2.2.1]
      · rw [i1 5 x (fun z => e z.2), mW4_22 e]
        exact w.2.1.2.2.2.2.1
    rw [J 0 (by decide), J 1 (by decide), J 2 (by decide), J 3 (by decide), J 4 (by decide), e5, J 6 (by decide)]
    exact ⟨w.1, ⟨w.2.1.1, w.2.1.2.1, w.2.1.2.2.1, w.2.1.2.2.2.1, rfl, w.2.1.2.2.2.2.2⟩, w.2.2⟩
  · rw [cBr_c (C := C) (nh := nh) (fun x _ => i1 6 x (fun z => absurd z.1 (by decide))) nh (Nat.le_refl _)]
    exact hH.2.1
  · rw [mW4_22 (by omega)]
    exact hH.2.2 x hx
  · by_cases e : j = l
    · subst e
      obtain ⟨p1, p2, p3, p4, p5, p6, p7, p8, p9⟩ := hL j hj
      have J : ∀ k, k ≠ 9 → cI (cW4 C h j p) 2 k j = cI C 2 k j := fun k hk => i2 k j (fun z => hk z.1)
      unfold RlL1
      rw [J 0 (by decide), J 1 (by decide), J 4 (by decide), J 5 (by decide), J 7 (by decide), v29, u13]
      exact ⟨p1, p2, p3, p4, p5, p6, p7, fun z => by rw [p8 h10], fun z => absurd h10 z⟩
    · exact (hL j hj).c (fun k => i2 k j (fun z => e z.2)) (fun _ _ => rfl) (fun f hf => by
        by_cases e13 : f = 13
        · rw [e13]; exact mW4_13 e
        · exact mW4_ot (by omega)) (Nat.le_refl _)
  · rw [it 0 0 i (by decide) (by decide) (by decide), it 0 1 i (by decide) (by decide) (by decide)]
    exact hF i hi
theorem Rel_kp {C : Cs} {M : Ms} {np nl nh nw ns ng dy tt : Nat} {R Q : Nat → List Nat} {l p x : Nat} (hl : l < nl) (h10 : M 10 l = 2) (hx : (R l)[x]? = some p) (H : Rel C M np nl nh nw ns ng dy tt R Q) : Rel (wL C 2 8 l (p + 1)) (u2 M 14 l (nI (x + 1))) np nl nh nw ns ng dy tt R Q := by
  obtain ⟨hN, hP, hH, hL, hR, hK, hQ, hT, hS, hG, hW, hF, hD, h42⟩ := H
  obtain ⟨hX, ⟨n1, m1⟩, ⟨n2, m2⟩, ⟨n3, m3⟩, n4, m4⟩ := hN
  have hKp := (Kp.rf C).wl 2 8 l (p + 1) (by decide)
  have eL : ∀ t k i, ¬ (t = 2 ∧ k = 8 ∧ i = l) → cL (wL C 2 8 l (p + 1)) t k i = cL C t k i := fun t k i a => by rw [cL_wL, if_neg a]
  have lt : ∀ t k i, t ≠ 2 → cL (wL C 2 8 l (p + 1)) t k i = cL C t k i := fun t k i a => eL t k i (fun z => a z.1)
  have l2 : ∀ k i, ¬ (k = 8 ∧ i = l) → cL (wL C 2 8 l (p + 1)) 2 k i = cL C 2 k i := fun k i a => eL 2 k i (fun z => a z.2)
  refine ⟨⟨hKp.fx hX, ⟨hKp.nb (by decide) n1, m1⟩, ⟨hKp.nb (by decide) n2, m2⟩, ⟨hKp.nb (by decide) n3, m3⟩, hKp.nb (by decide) n4, m4⟩, hP, hH.c (fun _ _ _ _ => rfl) (fun f x a b => u2_ne (by omega)) rfl, fun j hj => ?_, fun j hj => (hR j hj).c (fun q _ => lt 5 7 q (by decide)) (l2 2 j (fun z => absurd z.1 (by decide))) (l2 3 j (fun z => absurd z.1 (by decide))) rfl rfl (fun _ _ => rfl) (fun f q _ hf => u2_ne (by omega)) (Nat.le_refl _), fun j hj q => ?_, fun y hy => (hQ y hy).c (fun j _ => l2 10 j (fun z => absurd z.1 (by decide))) (lt 1 8 y (by decide)) (lt 1 9 y (by decide)) rfl (fun _ => Iff.rfl) (fun _ _ => rfl), hT, hS.c rfl rfl (fun _ _ _ => rfl) (fun e _ => lt 6 2 e (by decide)) (fun y _ => lt 1 10 y (by decide)) rfl (fun f e hf _ => u2_ne (by omega)), hG.c rfl rfl (fun _ _ _ => rfl) (fun e _ => lt 7 3 e (by decide)) (fun y _ => lt 1 11 y (by decide)) rfl (fun f e hf _ => u2_ne (by omega)), hW.c (fun _ _ => rfl) (fun i y _ => lt 8 i y (by decide)) (fun _ _ => rfl) (fun _ _ => rfl) (fun _ _ _ => ⟨rfl, rfl, rfl⟩) (Nat.le_refl _), hF, hD, h42⟩
  · by_cases e : j = l
    · subst e
      obtain ⟨p1, p2, p3, p4, p5, p6, p7, p8, p9⟩ := hL j hj
      unfold RlL1
      rw [l2 6 j (fun z => absurd z.1 (by decide)), l2 10 j (fun z => absurd z.1 (by decide))]
      exact ⟨p1, p2, p3, p4, p5, p6, p7, p8, fun z => absurd h10 z⟩
    · exact (hL j hj).c (fun _ => rfl) (fun k _ => l2 k j (fun z => e z.2)) (fun f hf => u2_ne (by omega)) (Nat.le_refl _)
  · by_cases e : j = l
    · subst e
      have hi : x < (R j).length := by
        rcases Nat.lt_or_ge x (R j).length with z | z
        · exact z
        · rw [List.getElem?_eq_none z] at hx; cases hx
      refine ⟨x + 1, hi, by simp [u2], ?_⟩
      rw [cL_wL, if_pos ⟨rfl, rfl, rfl⟩, ← take_s hx, lsC_snoc]
    · have q : M 10 j = 2 := q
      rw [u2_j e, l2 8 j (fun z => e z.2)]
      exact hK j hj q
end
