-- ===== PART A: goes FIRST, ahead of the names: the tables' words, and 'selects' of the private methods out of them =====
/-- a private method of a class that the tables say can be made, by its rows of tables_1 -/
def lw_okq (q : MethodName × Nat) : Prop := (q.1.cls ≠ "java/lang/invoke/MethodHandle" ∧ q.1.cls ≠ "java/lang/invoke/VarHandle") ∧ Cond.instantiable q.1.cls q.2 ∈ tables_1 ∧ Cond.privateMethod q.1 ∈ tables_1 ∧ Cond.instanceMethod q.1 ∈ tables_1
theorem lw_p0 : lw_okq (⟨"WatchValley", "newLot", "(I)LWatchValley$Lot;"⟩, 14) := ⟨⟨by decide +kernel, by decide +kernel⟩, List.mem_of_getElem? (i := 20) (by decide +kernel), List.mem_of_getElem? (i := 204) (by decide +kernel), List.mem_of_getElem? (i := 205) (by decide +kernel)⟩
theorem lw_p1 : lw_okq (⟨"WatchValley", "lotAtHouse", "(I)LWatchValley$Lot;"⟩, 14) := ⟨⟨by decide +kernel, by decide +kernel⟩, List.mem_of_getElem? (i := 20) (by decide +kernel), List.mem_of_getElem? (i := 312) (by decide +kernel), List.mem_of_getElem? (i := 313) (by decide +kernel)⟩
theorem lw_p2 : lw_okq (⟨"WatchValley", "lotNumbered", "(I)LWatchValley$Lot;"⟩, 14) := ⟨⟨by decide +kernel, by decide +kernel⟩, List.mem_of_getElem? (i := 20) (by decide +kernel), List.mem_of_getElem? (i := 316) (by decide +kernel), List.mem_of_getElem? (i := 317) (by decide +kernel)⟩
theorem lw_p3 : lw_okq (⟨"WatchValley", "homeNumbered", "(I)LWatchValley$Home;"⟩, 14) := ⟨⟨by decide +kernel, by decide +kernel⟩, List.mem_of_getElem? (i := 20) (by decide +kernel), List.mem_of_getElem? (i := 337) (by decide +kernel), List.mem_of_getElem? (i := 338) (by decide +kernel)⟩
theorem lw_p4 : lw_okq (⟨"WatchValley$Home", "release", "(LWatchValley$Lot;)V"⟩, 12) := ⟨⟨by decide +kernel, by decide +kernel⟩, List.mem_of_getElem? (i := 142) (by decide +kernel), List.mem_of_getElem? (i := 380) (by decide +kernel), List.mem_of_getElem? (i := 381) (by decide +kernel)⟩
theorem lw_p5 : lw_okq (⟨"WatchValley$Home", "workPiece", "(LWatchValley$Lot;LWatchValley$Piece;)V"⟩, 12) := ⟨⟨by decide +kernel, by decide +kernel⟩, List.mem_of_getElem? (i := 142) (by decide +kernel), List.mem_of_getElem? (i := 388) (by decide +kernel), List.mem_of_getElem? (i := 389) (by decide +kernel)⟩
theorem lw_p6 : lw_okq (⟨"WatchValley", "brokenPieces", "()I"⟩, 14) := ⟨⟨by decide +kernel, by decide +kernel⟩, List.mem_of_getElem? (i := 20) (by decide +kernel), List.mem_of_getElem? (i := 401) (by decide +kernel), List.mem_of_getElem? (i := 402) (by decide +kernel)⟩
theorem lw_p7 : lw_okq (⟨"WatchValley", "watchesBack", "()I"⟩, 14) := ⟨⟨by decide +kernel, by decide +kernel⟩, List.mem_of_getElem? (i := 20) (by decide +kernel), List.mem_of_getElem? (i := 405) (by decide +kernel), List.mem_of_getElem? (i := 406) (by decide +kernel)⟩
theorem lw_p8 : lw_okq (⟨"WatchValley", "watchNumbered", "(I)LWatchValley$Watch;"⟩, 14) := ⟨⟨by decide +kernel, by decide +kernel⟩, List.mem_of_getElem? (i := 20) (by decide +kernel), List.mem_of_getElem? (i := 409) (by decide +kernel), List.mem_of_getElem? (i := 410) (by decide +kernel)⟩
theorem lw_p9 : lw_okq (⟨"WatchValley", "lotsOut", "()I"⟩, 14) := ⟨⟨by decide +kernel, by decide +kernel⟩, List.mem_of_getElem? (i := 20) (by decide +kernel), List.mem_of_getElem? (i := 413) (by decide +kernel), List.mem_of_getElem? (i := 414) (by decide +kernel)⟩
theorem lw_p10 : lw_okq (⟨"WatchValley", "pieceNumbered", "(I)LWatchValley$Piece;"⟩, 14) := ⟨⟨by decide +kernel, by decide +kernel⟩, List.mem_of_getElem? (i := 20) (by decide +kernel), List.mem_of_getElem? (i := 468) (by decide +kernel), List.mem_of_getElem? (i := 469) (by decide +kernel)⟩
theorem lw_p11 : lw_okq (⟨"WatchValley", "lotForMaking", "(II)LWatchValley$Lot;"⟩, 14) := ⟨⟨by decide +kernel, by decide +kernel⟩, List.mem_of_getElem? (i := 20) (by decide +kernel), List.mem_of_getElem? (i := 480) (by decide +kernel), List.mem_of_getElem? (i := 481) (by decide +kernel)⟩
theorem lw_p12 : lw_okq (⟨"WatchValley$Making", "tryWheel", "(III)V"⟩, 5) := ⟨⟨by decide +kernel, by decide +kernel⟩, List.mem_of_getElem? (i := 51) (by decide +kernel), List.mem_of_getElem? (i := 506) (by decide +kernel), List.mem_of_getElem? (i := 507) (by decide +kernel)⟩
theorem lw_p13 : lw_okq (⟨"WatchValley$Mates", "seatOrMove", "(II)Z"⟩, 5) := ⟨⟨by decide +kernel, by decide +kernel⟩, List.mem_of_getElem? (i := 57) (by decide +kernel), List.mem_of_getElem? (i := 514) (by decide +kernel), List.mem_of_getElem? (i := 515) (by decide +kernel)⟩
theorem lw_p14 : lw_okq (⟨"WatchValley$Mates", "firstPlaceFor", "(II)I"⟩, 5) := ⟨⟨by decide +kernel, by decide +kernel⟩, List.mem_of_getElem? (i := 57) (by decide +kernel), List.mem_of_getElem? (i := 534) (by decide +kernel), List.mem_of_getElem? (i := 535) (by decide +kernel)⟩
theorem lw_p15 : lw_okq (⟨"WatchValley$Mates", "canSeatBehind", "(II)Z"⟩, 5) := ⟨⟨by decide +kernel, by decide +kernel⟩, List.mem_of_getElem? (i := 57) (by decide +kernel), List.mem_of_getElem? (i := 538) (by decide +kernel), List.mem_of_getElem? (i := 539) (by decide +kernel)⟩
def lw_privs_1 : List (MethodName × Nat) := [(⟨"WatchValley", "newLot", "(I)LWatchValley$Lot;"⟩, 14), (⟨"WatchValley", "lotAtHouse", "(I)LWatchValley$Lot;"⟩, 14), (⟨"WatchValley", "lotNumbered", "(I)LWatchValley$Lot;"⟩, 14), (⟨"WatchValley", "homeNumbered", "(I)LWatchValley$Home;"⟩, 14), (⟨"WatchValley$Home", "release", "(LWatchValley$Lot;)V"⟩, 12), (⟨"WatchValley$Home", "workPiece", "(LWatchValley$Lot;LWatchValley$Piece;)V"⟩, 12), (⟨"WatchValley", "brokenPieces", "()I"⟩, 14), (⟨"WatchValley", "watchesBack", "()I"⟩, 14), (⟨"WatchValley", "watchNumbered", "(I)LWatchValley$Watch;"⟩, 14), (⟨"WatchValley", "lotsOut", "()I"⟩, 14), (⟨"WatchValley", "pieceNumbered", "(I)LWatchValley$Piece;"⟩, 14), (⟨"WatchValley", "lotForMaking", "(II)LWatchValley$Lot;"⟩, 14), (⟨"WatchValley$Making", "tryWheel", "(III)V"⟩, 5), (⟨"WatchValley$Mates", "seatOrMove", "(II)Z"⟩, 5), (⟨"WatchValley$Mates", "firstPlaceFor", "(II)I"⟩, 5), (⟨"WatchValley$Mates", "canSeatBehind", "(II)Z"⟩, 5)]
theorem lw_r1 : ∀ q ∈ lw_privs_1, lw_okq q := List.forall_mem_cons.mpr ⟨lw_p0, List.forall_mem_cons.mpr ⟨lw_p1, List.forall_mem_cons.mpr ⟨lw_p2, List.forall_mem_cons.mpr ⟨lw_p3, List.forall_mem_cons.mpr ⟨lw_p4, List.forall_mem_cons.mpr ⟨lw_p5, List.forall_mem_cons.mpr ⟨lw_p6, List.forall_mem_cons.mpr ⟨lw_p7, List.forall_mem_cons.mpr ⟨lw_p8, List.forall_mem_cons.mpr ⟨lw_p9, List.forall_mem_cons.mpr ⟨lw_p10, List.forall_mem_cons.mpr ⟨lw_p11, List.forall_mem_cons.mpr ⟨lw_p12, List.forall_mem_cons.mpr ⟨lw_p13, List.forall_mem_cons.mpr ⟨lw_p14, List.forall_mem_cons.mpr ⟨lw_p15, fun _ h => absurd h List.not_mem_nil⟩⟩⟩⟩⟩⟩⟩⟩⟩⟩⟩⟩⟩⟩⟩⟩
theorem lw_p16 : lw_okq (⟨"WatchValley", "assemble", "(LWatchValley$Piece;LWatchValley$Piece;LWatchValley$Piece;)V"⟩, 14) := ⟨⟨by decide +kernel, by decide +kernel⟩, List.mem_of_getElem? (i := 20) (by decide +kernel), List.mem_of_getElem? (i := 559) (by decide +kernel), List.mem_of_getElem? (i := 560) (by decide +kernel)⟩
theorem lw_p17 : lw_okq (⟨"WatchValley", "watchesOf", "(IZ)I"⟩, 14) := ⟨⟨by decide +kernel, by decide +kernel⟩, List.mem_of_getElem? (i := 20) (by decide +kernel), List.mem_of_getElem? (i := 605) (by decide +kernel), List.mem_of_getElem? (i := 606) (by decide +kernel)⟩
theorem lw_p18 : lw_okq (⟨"java/lang/Throwable", "fillInStackTrace", "(I)Ljava/lang/Throwable;"⟩, 6) := ⟨⟨by decide +kernel, by decide +kernel⟩, List.mem_of_getElem? (i := 670) (by decide +kernel), List.mem_of_getElem? (i := 668) (by decide +kernel), List.mem_of_getElem? (i := 669) (by decide +kernel)⟩
theorem lw_p19 : lw_okq (⟨"WatchValley$Home", "wageFor", "(II)I"⟩, 12) := ⟨⟨by decide +kernel, by decide +kernel⟩, List.mem_of_getElem? (i := 142) (by decide +kernel), List.mem_of_getElem? (i := 714) (by decide +kernel), List.mem_of_getElem? (i := 715) (by decide +kernel)⟩
theorem lw_p20 : lw_okq (⟨"WatchValleyModel", "newLot", "(I)I"⟩, 43) := ⟨⟨by decide +kernel, by decide +kernel⟩, List.mem_of_getElem? (i := 718) (by decide +kernel), List.mem_of_getElem? (i := 872) (by decide +kernel), List.mem_of_getElem? (i := 873) (by decide +kernel)⟩
theorem lw_p21 : lw_okq (⟨"WatchValleyModel", "add", "(II)V"⟩, 43) := ⟨⟨by decide +kernel, by decide +kernel⟩, List.mem_of_getElem? (i := 718) (by decide +kernel), List.mem_of_getElem? (i := 876) (by decide +kernel), List.mem_of_getElem? (i := 877) (by decide +kernel)⟩
theorem lw_p22 : lw_okq (⟨"WatchValleyModel", "isHere", "(I)Z"⟩, 43) := ⟨⟨by decide +kernel, by decide +kernel⟩, List.mem_of_getElem? (i := 718) (by decide +kernel), List.mem_of_getElem? (i := 884) (by decide +kernel), List.mem_of_getElem? (i := 885) (by decide +kernel)⟩
theorem lw_p23 : lw_okq (⟨"WatchValleyModel", "isLot", "(I)Z"⟩, 43) := ⟨⟨by decide +kernel, by decide +kernel⟩, List.mem_of_getElem? (i := 718) (by decide +kernel), List.mem_of_getElem? (i := 888) (by decide +kernel), List.mem_of_getElem? (i := 889) (by decide +kernel)⟩
theorem lw_p24 : lw_okq (⟨"WatchValleyModel", "take", "(II)V"⟩, 43) := ⟨⟨by decide +kernel, by decide +kernel⟩, List.mem_of_getElem? (i := 718) (by decide +kernel), List.mem_of_getElem? (i := 892) (by decide +kernel), List.mem_of_getElem? (i := 893) (by decide +kernel)⟩
theorem lw_p25 : lw_okq (⟨"WatchValleyModel", "goes", "(Z)V"⟩, 43) := ⟨⟨by decide +kernel, by decide +kernel⟩, List.mem_of_getElem? (i := 718) (by decide +kernel), List.mem_of_getElem? (i := 908) (by decide +kernel), List.mem_of_getElem? (i := 909) (by decide +kernel)⟩
theorem lw_p26 : lw_okq (⟨"WatchValleyModel", "first", "(I)I"⟩, 43) := ⟨⟨by decide +kernel, by decide +kernel⟩, List.mem_of_getElem? (i := 718) (by decide +kernel), List.mem_of_getElem? (i := 912) (by decide +kernel), List.mem_of_getElem? (i := 913) (by decide +kernel)⟩
theorem lw_p27 : lw_okq (⟨"WatchValleyModel", "work", "(II)V"⟩, 43) := ⟨⟨by decide +kernel, by decide +kernel⟩, List.mem_of_getElem? (i := 718) (by decide +kernel), List.mem_of_getElem? (i := 916) (by decide +kernel), List.mem_of_getElem? (i := 917) (by decide +kernel)⟩
theorem lw_p28 : lw_okq (⟨"WatchValleyModel", "outMany", "()I"⟩, 43) := ⟨⟨by decide +kernel, by decide +kernel⟩, List.mem_of_getElem? (i := 718) (by decide +kernel), List.mem_of_getElem? (i := 924) (by decide +kernel), List.mem_of_getElem? (i := 925) (by decide +kernel)⟩
theorem lw_p29 : lw_okq (⟨"WatchValleyModel", "wageFor", "(III)I"⟩, 43) := ⟨⟨by decide +kernel, by decide +kernel⟩, List.mem_of_getElem? (i := 718) (by decide +kernel), List.mem_of_getElem? (i := 952) (by decide +kernel), List.mem_of_getElem? (i := 953) (by decide +kernel)⟩
theorem lw_p30 : lw_okq (⟨"WatchValleyModel", "doFit", "(II)Z"⟩, 43) := ⟨⟨by decide +kernel, by decide +kernel⟩, List.mem_of_getElem? (i := 718) (by decide +kernel), List.mem_of_getElem? (i := 964) (by decide +kernel), List.mem_of_getElem? (i := 965) (by decide +kernel)⟩
theorem lw_p31 : lw_okq (⟨"WatchValleyModel", "areLots", "(III)Z"⟩, 43) := ⟨⟨by decide +kernel, by decide +kernel⟩, List.mem_of_getElem? (i := 718) (by decide +kernel), List.mem_of_getElem? (i := 972) (by decide +kernel), List.mem_of_getElem? (i := 973) (by decide +kernel)⟩
def lw_privs_2 : List (MethodName × Nat) := [(⟨"WatchValley", "assemble", "(LWatchValley$Piece;LWatchValley$Piece;LWatchValley$Piece;)V"⟩, 14), (⟨"WatchValley", "watchesOf", "(IZ)I"⟩, 14), (⟨"java/lang/Throwable", "fillInStackTrace", "(I)Ljava/lang/Throwable;"⟩, 6), (⟨"WatchValley$Home", "wageFor", "(II)I"⟩, 12), (⟨"WatchValleyModel", "newLot", "(I)I"⟩, 43), (⟨"WatchValleyModel", "add", "(II)V"⟩, 43), (⟨"WatchValleyModel", "isHere", "(I)Z"⟩, 43), (⟨"WatchValleyModel", "isLot", "(I)Z"⟩, 43), (⟨"WatchValleyModel", "take", "(II)V"⟩, 43), (⟨"WatchValleyModel", "goes", "(Z)V"⟩, 43), (⟨"WatchValleyModel", "first", "(I)I"⟩, 43), (⟨"WatchValleyModel", "work", "(II)V"⟩, 43), (⟨"WatchValleyModel", "outMany", "()I"⟩, 43), (⟨"WatchValleyModel", "wageFor", "(III)I"⟩, 43), (⟨"WatchValleyModel", "doFit", "(II)Z"⟩, 43), (⟨"WatchValleyModel", "areLots", "(III)Z"⟩, 43)]
theorem lw_r2 : ∀ q ∈ lw_privs_2, lw_okq q := List.forall_mem_cons.mpr ⟨lw_p16, List.forall_mem_cons.mpr ⟨lw_p17, List.forall_mem_cons.mpr ⟨lw_p18, List.forall_mem_cons.mpr ⟨lw_p19, List.forall_mem_cons.mpr ⟨lw_p20, List.forall_mem_cons.mpr ⟨lw_p21, List.forall_mem_cons.mpr ⟨lw_p22, List.forall_mem_cons.mpr ⟨lw_p23, List.forall_mem_cons.mpr ⟨lw_p24, List.forall_mem_cons.mpr ⟨lw_p25, List.forall_mem_cons.mpr ⟨lw_p26, List.forall_mem_cons.mpr ⟨lw_p27, List.forall_mem_cons.mpr ⟨lw_p28, List.forall_mem_cons.mpr ⟨lw_p29, List.forall_mem_cons.mpr ⟨lw_p30, List.forall_mem_cons.mpr ⟨lw_p31, fun _ h => absurd h List.not_mem_nil⟩⟩⟩⟩⟩⟩⟩⟩⟩⟩⟩⟩⟩⟩⟩⟩
theorem lw_p32 : lw_okq (⟨"WatchValleyModel", "taken", "(III)I"⟩, 43) := ⟨⟨by decide +kernel, by decide +kernel⟩, List.mem_of_getElem? (i := 718) (by decide +kernel), List.mem_of_getElem? (i := 976) (by decide +kernel), List.mem_of_getElem? (i := 977) (by decide +kernel)⟩
theorem lw_p33 : lw_okq (⟨"WatchValleyModel", "can", "(III)Z"⟩, 43) := ⟨⟨by decide +kernel, by decide +kernel⟩, List.mem_of_getElem? (i := 718) (by decide +kernel), List.mem_of_getElem? (i := 989) (by decide +kernel), List.mem_of_getElem? (i := 990) (by decide +kernel)⟩
theorem lw_p34 : lw_okq (⟨"WatchValleyModel", "firstFor", "(IIII)I"⟩, 43) := ⟨⟨by decide +kernel, by decide +kernel⟩, List.mem_of_getElem? (i := 718) (by decide +kernel), List.mem_of_getElem? (i := 1001) (by decide +kernel), List.mem_of_getElem? (i := 1002) (by decide +kernel)⟩
theorem lw_p35 : lw_okq (⟨"WatchValleyModel", "leave", "(II)V"⟩, 43) := ⟨⟨by decide +kernel, by decide +kernel⟩, List.mem_of_getElem? (i := 718) (by decide +kernel), List.mem_of_getElem? (i := 1005) (by decide +kernel), List.mem_of_getElem? (i := 1006) (by decide +kernel)⟩
theorem lw_p36 : lw_okq (⟨"WatchValleyModel", "homesOfWatch", "(I)I"⟩, 43) := ⟨⟨by decide +kernel, by decide +kernel⟩, List.mem_of_getElem? (i := 718) (by decide +kernel), List.mem_of_getElem? (i := 1013) (by decide +kernel), List.mem_of_getElem? (i := 1014) (by decide +kernel)⟩
theorem lw_p37 : lw_okq (⟨"WatchValleyModel", "countOf", "(IZ)I"⟩, 43) := ⟨⟨by decide +kernel, by decide +kernel⟩, List.mem_of_getElem? (i := 718) (by decide +kernel), List.mem_of_getElem? (i := 1025) (by decide +kernel), List.mem_of_getElem? (i := 1026) (by decide +kernel)⟩
def lw_privs_3 : List (MethodName × Nat) := [(⟨"WatchValleyModel", "taken", "(III)I"⟩, 43), (⟨"WatchValleyModel", "can", "(III)Z"⟩, 43), (⟨"WatchValleyModel", "firstFor", "(IIII)I"⟩, 43), (⟨"WatchValleyModel", "leave", "(II)V"⟩, 43), (⟨"WatchValleyModel", "homesOfWatch", "(I)I"⟩, 43), (⟨"WatchValleyModel", "countOf", "(IZ)I"⟩, 43)]
theorem lw_r3 : ∀ q ∈ lw_privs_3, lw_okq q := List.forall_mem_cons.mpr ⟨lw_p32, List.forall_mem_cons.mpr ⟨lw_p33, List.forall_mem_cons.mpr ⟨lw_p34, List.forall_mem_cons.mpr ⟨lw_p35, List.forall_mem_cons.mpr ⟨lw_p36, List.forall_mem_cons.mpr ⟨lw_p37, fun _ h => absurd h List.not_mem_nil⟩⟩⟩⟩⟩⟩
def lw_privs : List (MethodName × Nat) := lw_privs_1 ++ (lw_privs_2 ++ (lw_privs_3))
def lw_tbl : List Cond := k2_sels lw_privs ++ tables_1
theorem lw_privs_ok : ∀ q ∈ lw_privs, lw_okq q := by
  show ∀ q ∈ lw_privs_1 ++ (lw_privs_2 ++ (lw_privs_3)), lw_okq q
  exact List.forall_mem_append.mpr ⟨lw_r1, List.forall_mem_append.mpr ⟨lw_r2, lw_r3⟩⟩
/-! names: the classes whose objects the worlds hold, by number; the owners of code, by number -/
def T_0 : u_T := fun k => match k with
  | 0 => ("WatchValley$Fit", "low", "I", false)
  | _ => ("WatchValley$Fit", "high", "I", false)
def ty_0 : Nat → FieldType := fun k => match k with
  | 0 => .int
  | _ => .int
def T_1 : u_T := fun k => match k with
  | 0 => ("WatchValley$Home", "number", "I", true)
  | 1 => ("WatchValley$Home", "rate", "I", true)
  | 2 => ("WatchValley$Home", "off", "I", true)
  | 3 => ("WatchValley$Home", "breaks", "I", true)
  | 4 => ("WatchValley$Home", "way", "I", true)
  | 5 => ("WatchValley$Home", "worked", "I", false)
  | 6 => ("WatchValley$Home", "broke", "I", false)
  | 7 => ("WatchValley$Home", "waiting", "I", false)
  | 8 => ("WatchValley$Home", "firstWaiting", "LWatchValley$Lot;", false)
  | 9 => ("WatchValley$Home", "lastWaiting", "LWatchValley$Lot;", false)
  | 10 => ("WatchValley$Home", "lastSending", "LWatchValley$Sending;", false)
  | _ => ("WatchValley$Home", "lastWage", "LWatchValley$Wage;", false)
def ty_1 : Nat → FieldType := fun k => match k with
  | 0 => .int
  | 1 => .int
  | 2 => .int
  | 3 => .int
  | 4 => .int
  | 5 => .int
  | 6 => .int
  | 7 => .int
  | 8 => .object "WatchValley$Lot"
  | 9 => .object "WatchValley$Lot"
  | 10 => .object "WatchValley$Sending"
  | _ => .object "WatchValley$Wage"
def T_2 : u_T := fun k => match k with
  | 0 => ("WatchValley$Lot", "number", "I", true)
  | 1 => ("WatchValley$Lot", "kind", "I", true)
  | 2 => ("WatchValley$Lot", "first", "LWatchValley$Piece;", false)
  | 3 => ("WatchValley$Lot", "last", "LWatchValley$Piece;", false)
  | 4 => ("WatchValley$Lot", "size", "I", false)
  | 5 => ("WatchValley$Lot", "stand", "I", false)
  | 6 => ("WatchValley$Lot", "home", "LWatchValley$Home;", false)
  | 7 => ("WatchValley$Lot", "toGo", "I", false)
  | 8 => ("WatchValley$Lot", "lastWorked", "LWatchValley$Piece;", false)
  | 9 => ("WatchValley$Lot", "worked", "I", false)
  | _ => ("WatchValley$Lot", "nextWaiting", "LWatchValley$Lot;", false)
def ty_2 : Nat → FieldType := fun k => match k with
  | 0 => .int
  | 1 => .int
  | 2 => .object "WatchValley$Piece"
  | 3 => .object "WatchValley$Piece"
  | 4 => .int
  | 5 => .int
  | 6 => .object "WatchValley$Home"
  | 7 => .int
  | 8 => .object "WatchValley$Piece"
  | 9 => .int
  | _ => .object "WatchValley$Lot"
def T_3 : u_T := fun k => match k with
  | 0 => ("WatchValley$Making", "plates", "LWatchValley$Mates;", true)
  | 1 => ("WatchValley$Making", "stones", "LWatchValley$Mates;", true)
  | 2 => ("WatchValley$Making", "wheelCount", "I", false)
  | 3 => ("WatchValley$Making", "bestCount", "I", false)
  | _ => ("WatchValley$Making", "bestSet", "I", false)
def ty_3 : Nat → FieldType := fun k => match k with
  | 0 => .object "WatchValley$Mates"
  | 1 => .object "WatchValley$Mates"
  | 2 => .int
  | 3 => .int
  | _ => .int
def T_4 : u_T := fun k => match k with
  | 0 => ("WatchValley$Mates", "fitting", "[I", true)
  | 1 => ("WatchValley$Mates", "holder", "[I", true)
  | 2 => ("WatchValley$Mates", "settled", "[I", true)
  | 3 => ("WatchValley$Mates", "given", "I", false)
  | _ => ("WatchValley$Mates", "seen", "I", false)
def ty_4 : Nat → FieldType := fun k => match k with
  | 0 => .array .int
  | 1 => .array .int
  | 2 => .array .int
  | 3 => .int
  | _ => .int
def T_5 : u_T := fun k => match k with
  | 0 => ("WatchValley$Piece", "number", "I", true)
  | 1 => ("WatchValley$Piece", "kind", "I", true)
  | 2 => ("WatchValley$Piece", "raw", "I", true)
  | 3 => ("WatchValley$Piece", "size", "I", false)
  | 4 => ("WatchValley$Piece", "homes", "I", false)
  | 5 => ("WatchValley$Piece", "state", "I", false)
  | 6 => ("WatchValley$Piece", "place", "I", false)
  | _ => ("WatchValley$Piece", "next", "LWatchValley$Piece;", false)
def ty_5 : Nat → FieldType := fun k => match k with
  | 0 => .int
  | 1 => .int
  | 2 => .int
  | 3 => .int
  | 4 => .int
  | 5 => .int
  | 6 => .int
  | _ => .object "WatchValley$Piece"
def T_6 : u_T := fun k => match k with
  | 0 => ("WatchValley$Sending", "day", "I", true)
  | 1 => ("WatchValley$Sending", "pieces", "I", true)
  | _ => ("WatchValley$Sending", "before", "LWatchValley$Sending;", true)
def ty_6 : Nat → FieldType := fun k => match k with
  | 0 => .int
  | 1 => .int
  | _ => .object "WatchValley$Sending"
def T_7 : u_T := fun k => match k with
  | 0 => ("WatchValley$Wage", "toldOn", "I", true)
  | 1 => ("WatchValley$Wage", "from", "I", true)
  | 2 => ("WatchValley$Wage", "amount", "I", true)
  | _ => ("WatchValley$Wage", "before", "LWatchValley$Wage;", true)
def ty_7 : Nat → FieldType := fun k => match k with
  | 0 => .int
  | 1 => .int
  | 2 => .int
  | _ => .object "WatchValley$Wage"
def T_8 : u_T := fun k => match k with
  | 0 => ("WatchValley$Watch", "plate", "LWatchValley$Piece;", true)
  | 1 => ("WatchValley$Watch", "wheel", "LWatchValley$Piece;", true)
  | 2 => ("WatchValley$Watch", "stone", "LWatchValley$Piece;", true)
  | _ => ("WatchValley$Watch", "isBack", "Z", false)
def ty_8 : Nat → FieldType := fun k => match k with
  | 0 => .object "WatchValley$Piece"
  | 1 => .object "WatchValley$Piece"
  | 2 => .object "WatchValley$Piece"
  | _ => .boolean
def T_9 : u_T := fun k => match k with
  | 0 => ("WatchValley", "pieces", "[LWatchValley$Piece;", true)
  | 1 => ("WatchValley", "lots", "[LWatchValley$Lot;", true)
  | 2 => ("WatchValley", "homes", "[LWatchValley$Home;", true)
  | 3 => ("WatchValley", "watches", "[LWatchValley$Watch;", true)
  | 4 => ("WatchValley", "plateFit", "LWatchValley$Fit;", true)
  | 5 => ("WatchValley", "stoneFit", "LWatchValley$Fit;", true)
  | 6 => ("WatchValley", "making", "LWatchValley$Making;", true)
  | 7 => ("WatchValley", "pieceCount", "I", false)
  | 8 => ("WatchValley", "lotCount", "I", false)
  | 9 => ("WatchValley", "homeCount", "I", false)
  | 10 => ("WatchValley", "watchCount", "I", false)
  | 11 => ("WatchValley", "sendingCount", "I", false)
  | 12 => ("WatchValley", "wageCount", "I", false)
  | _ => ("WatchValley", "today", "I", false)
def ty_9 : Nat → FieldType := fun k => match k with
  | 0 => .array (.object "WatchValley$Piece")
  | 1 => .array (.object "WatchValley$Lot")
  | 2 => .array (.object "WatchValley$Home")
  | 3 => .array (.object "WatchValley$Watch")
  | 4 => .object "WatchValley$Fit"
  | 5 => .object "WatchValley$Fit"
  | 6 => .object "WatchValley$Making"
  | 7 => .int
  | 8 => .int
  | 9 => .int
  | 10 => .int
  | 11 => .int
  | 12 => .int
  | _ => .int
def T_10 : u_T := fun k => match k with
  | 0 => ("WatchValleyModel", "kind", "[I", true)
  | 1 => ("WatchValleyModel", "size", "[I", true)
  | 2 => ("WatchValleyModel", "raw", "[I", true)
  | 3 => ("WatchValleyModel", "homesOf", "[I", true)
  | 4 => ("WatchValleyModel", "state", "[I", true)
  | 5 => ("WatchValleyModel", "in", "[I", true)
  | 6 => ("WatchValleyModel", "pieces", "I", false)
  | 7 => ("WatchValleyModel", "lotKind", "[I", true)
  | 8 => ("WatchValleyModel", "row", "[I", true)
  | 9 => ("WatchValleyModel", "many", "[I", true)
  | 10 => ("WatchValleyModel", "where", "[I", true)
  | 11 => ("WatchValleyModel", "to", "[I", true)
  | 12 => ("WatchValleyModel", "toGo", "[I", true)
  | 13 => ("WatchValleyModel", "worked", "[I", true)
  | 14 => ("WatchValleyModel", "next", "[I", true)
  | 15 => ("WatchValleyModel", "turn", "[I", true)
  | 16 => ("WatchValleyModel", "lots", "I", false)
  | 17 => ("WatchValleyModel", "turns", "I", false)
  | 18 => ("WatchValleyModel", "rate", "[I", true)
  | 19 => ("WatchValleyModel", "off", "[I", true)
  | 20 => ("WatchValleyModel", "breaks", "[I", true)
  | 21 => ("WatchValleyModel", "way", "[I", true)
  | 22 => ("WatchValleyModel", "done", "[I", true)
  | 23 => ("WatchValleyModel", "broke", "[I", true)
  | 24 => ("WatchValleyModel", "homes", "I", false)
  | 25 => ("WatchValleyModel", "day", "I", false)
  | 26 => ("WatchValleyModel", "broken", "I", false)
  | 27 => ("WatchValleyModel", "sendHome", "[I", true)
  | 28 => ("WatchValleyModel", "sendDay", "[I", true)
  | 29 => ("WatchValleyModel", "sendMany", "[I", true)
  | 30 => ("WatchValleyModel", "sends", "I", false)
  | 31 => ("WatchValleyModel", "wageHome", "[I", true)
  | 32 => ("WatchValleyModel", "wageFrom", "[I", true)
  | 33 => ("WatchValleyModel", "wageOf", "[I", true)
  | 34 => ("WatchValleyModel", "wageTold", "[I", true)
  | 35 => ("WatchValleyModel", "wages", "I", false)
  | 36 => ("WatchValleyModel", "low", "[I", true)
  | 37 => ("WatchValleyModel", "high", "[I", true)
  | 38 => ("WatchValleyModel", "watch", "[I", true)
  | 39 => ("WatchValleyModel", "isBack", "[Z", true)
  | 40 => ("WatchValleyModel", "watches", "I", false)
  | 41 => ("WatchValleyModel", "thrown", "I", false)
  | _ => ("WatchValleyModel", "goesWith", "[I", true)
def ty_10 : Nat → FieldType := fun k => match k with
  | 0 => .array .int
  | 1 => .array .int
  | 2 => .array .int
  | 3 => .array .int
  | 4 => .array .int
  | 5 => .array .int
  | 6 => .int
  | 7 => .array .int
  | 8 => .array .int
  | 9 => .array .int
  | 10 => .array .int
  | 11 => .array .int
  | 12 => .array .int
  | 13 => .array .int
  | 14 => .array .int
  | 15 => .array .int
  | 16 => .int
  | 17 => .int
  | 18 => .array .int
  | 19 => .array .int
  | 20 => .array .int
  | 21 => .array .int
  | 22 => .array .int
  | 23 => .array .int
  | 24 => .int
  | 25 => .int
  | 26 => .int
  | 27 => .array .int
  | 28 => .array .int
  | 29 => .array .int
  | 30 => .int
  | 31 => .array .int
  | 32 => .array .int
  | 33 => .array .int
  | 34 => .array .int
  | 35 => .int
  | 36 => .array .int
  | 37 => .array .int
  | 38 => .array .int
  | 39 => .array .boolean
  | 40 => .int
  | 41 => .int
  | _ => .array .int
abbrev classes : List vw_C := [("WatchValley$Fit", T_0, 2), ("WatchValley$Home", T_1, 12), ("WatchValley$Lot", T_2, 11), ("WatchValley$Making", T_3, 5), ("WatchValley$Mates", T_4, 5), ("WatchValley$Piece", T_5, 8), ("WatchValley$Sending", T_6, 3), ("WatchValley$Wage", T_7, 4), ("WatchValley$Watch", T_8, 4), ("WatchValley", T_9, 14), ("WatchValleyModel", T_10, 43)]
def owns : List String := ["WatchValley$Fit", "WatchValley$Home", "WatchValley$Lot", "WatchValley$Making", "WatchValley$Mates", "WatchValley$Piece", "WatchValley$Sending", "WatchValley$Wage", "WatchValley$Watch", "WatchValley", "WatchValleyModel", "WatchValleyLaw", "java/lang/Integer", "java/lang/Math", "java/util/Arrays"]
def ownS (k : Nat) : String := owns.getD k ""
def clNs : List Nat := [2, 12, 11, 5, 5, 8, 3, 4, 4, 14, 43]
def clN (t : Nat) : Nat := clNs.getD t 0
def clT (t : Nat) : u_T := match t with
  | 0 => T_0
  | 1 => T_1
  | 2 => T_2
  | 3 => T_3
  | 4 => T_4
  | 5 => T_5
  | 6 => T_6
  | 7 => T_7
  | 8 => T_8
  | 9 => T_9
  | _ => T_10
def clTy (t : Nat) : Nat → FieldType := match t with
  | 0 => ty_0
  | 1 => ty_1
  | 2 => ty_2
  | 3 => ty_3
  | 4 => ty_4
  | 5 => ty_5
  | 6 => ty_6
  | 7 => ty_7
  | 8 => ty_8
  | 9 => ty_9
  | _ => ty_10
def rfT : List (List Bool) := [[false, false], [false, false, false, false, false, false, false, false, true, true, true, true], [false, false, true, true, false, false, true, false, true, false, true], [true, true, false, false, false], [true, true, true, false, false], [false, false, false, false, false, false, false, true], [false, false, true], [false, false, false, true], [true, true, true, false], [true, true, true, true, true, true, true, false, false, false, false, false, false, false], [true, true, true, true, true, true, false, true, true, true, true, true, true, true, true, true, false, false, true, true, true, true, true, true, false, false, false, true, true, true, false, true, true, true, true, false, true, true, true, true, false, false, true]]
/-- is the field a reference -/
def isRf (t k : Nat) : Bool := (rfT.getD t []).getD k false
def finT : List (List Bool) := [[false, false], [true, true, true, true, true, false, false, false, false, false, false, false], [true, true, false, false, false, false, false, false, false, false, false], [true, true, false, false, false], [true, true, true, false, false], [true, true, true, false, false, false, false, false], [true, true, true], [true, true, true, true], [true, true, true, false], [true, true, true, true, true, true, true, false, false, false, false, false, false, false], [true, true, true, true, true, true, false, true, true, true, true, true, true, true, true, true, false, false, true, true, true, true, true, true, false, false, false, true, true, true, false, true, true, true, true, false, true, true, true, true, false, false, true]]
def isFin (t k : Nat) : Bool := (finT.getD t []).getD k false
/-- the words that hold at every state of the run: those of the tables that keep -/
def tb : List Cond := lw_tbl.filter goodWord
theorem tb_good : ∀ w ∈ tb, goodWord w = true := fun w h => (List.mem_filter.mp h).2
theorem tb_sub : ∀ w ∈ tb, w ∈ lw_tbl := fun w h => (List.mem_filter.mp h).1
theorem tb_of (L : List Cond) (ps : List Nat) (h : L = ps.filterMap (fun i => lw_tbl[i]?)) (g : L.all goodWord = true) : ∀ w ∈ L, w ∈ tb := by
  intro w hw
  have h1 := List.all_eq_true.mp g w hw
  rw [h] at hw
  obtain ⟨i, -, hi⟩ := List.mem_filterMap.mp hw
  exact List.mem_filter.mpr ⟨List.mem_of_getElem? hi, h1⟩
theorem lw_of (L : List Cond) (ps : List Nat) (h : L = ps.filterMap (fun i => lw_tbl[i]?)) : ∀ w ∈ L, w ∈ lw_tbl := by
  intro w hw
  rw [h] at hw
  obtain ⟨i, -, hi⟩ := List.mem_filterMap.mp hw
  exact List.mem_of_getElem? hi
set_option maxRecDepth 100000 in
theorem cin_0 : ∀ w ∈ u_ws "WatchValley$Fit" T_0 2, w ∈ tb := tb_of _ [83, 85] rfl (by decide +kernel)
theorem cnm_0 : ∀ a, a < 2 → ∀ b, b < 2 → a ≠ b → (T_0 a).2.1 ≠ (T_0 b).2.1 := by decide +kernel
theorem cty_0 : ∀ k, k < 2 → parseFieldDescriptor (T_0 k).2.2.1 = some (ty_0 k) := by decide +kernel
theorem cfi_0 : ∀ k, k < 2 → (T_0 k).2.2.2 = isFin 0 k := by decide +kernel
theorem cdc_0 : ∀ k, k < 2 → (T_0 k).1 = "WatchValley$Fit" := by decide +kernel
set_option maxRecDepth 100000 in
theorem cin_1 : ∀ w ∈ u_ws "WatchValley$Home" T_1 12, w ∈ tb := tb_of _ [207, 209, 211, 213, 215, 217, 219, 221, 223, 225, 227, 229] rfl (by decide +kernel)
theorem cnm_1 : ∀ a, a < 12 → ∀ b, b < 12 → a ≠ b → (T_1 a).2.1 ≠ (T_1 b).2.1 := by decide +kernel
theorem cty_1 : ∀ k, k < 12 → parseFieldDescriptor (T_1 k).2.2.1 = some (ty_1 k) := by decide +kernel
theorem cfi_1 : ∀ k, k < 12 → (T_1 k).2.2.2 = isFin 1 k := by decide +kernel
theorem cdc_1 : ∀ k, k < 12 → (T_1 k).1 = "WatchValley$Home" := by decide +kernel
set_option maxRecDepth 100000 in
theorem cin_2 : ∀ w ∈ u_ws "WatchValley$Lot" T_2 11, w ∈ tb := tb_of _ [273, 275, 277, 279, 281, 283, 285, 287, 289, 291, 293] rfl (by decide +kernel)
theorem cnm_2 : ∀ a, a < 11 → ∀ b, b < 11 → a ≠ b → (T_2 a).2.1 ≠ (T_2 b).2.1 := by decide +kernel
theorem cty_2 : ∀ k, k < 11 → parseFieldDescriptor (T_2 k).2.2.1 = some (ty_2 k) := by decide +kernel
theorem cfi_2 : ∀ k, k < 11 → (T_2 k).2.2.2 = isFin 2 k := by decide +kernel
theorem cdc_2 : ∀ k, k < 11 → (T_2 k).1 = "WatchValley$Lot" := by decide +kernel
set_option maxRecDepth 100000 in
theorem cin_3 : ∀ w ∈ u_ws "WatchValley$Making" T_3 5, w ∈ tb := tb_of _ [122, 124, 126, 128, 130] rfl (by decide +kernel)
theorem cnm_3 : ∀ a, a < 5 → ∀ b, b < 5 → a ≠ b → (T_3 a).2.1 ≠ (T_3 b).2.1 := by decide +kernel
theorem cty_3 : ∀ k, k < 5 → parseFieldDescriptor (T_3 k).2.2.1 = some (ty_3 k) := by decide +kernel
theorem cfi_3 : ∀ k, k < 5 → (T_3 k).2.2.2 = isFin 3 k := by decide +kernel
theorem cdc_3 : ∀ k, k < 5 → (T_3 k).1 = "WatchValley$Making" := by decide +kernel
set_option maxRecDepth 100000 in
theorem cin_4 : ∀ w ∈ u_ws "WatchValley$Mates" T_4 5, w ∈ tb := tb_of _ [105, 107, 109, 111, 113] rfl (by decide +kernel)
theorem cnm_4 : ∀ a, a < 5 → ∀ b, b < 5 → a ≠ b → (T_4 a).2.1 ≠ (T_4 b).2.1 := by decide +kernel
theorem cty_4 : ∀ k, k < 5 → parseFieldDescriptor (T_4 k).2.2.1 = some (ty_4 k) := by decide +kernel
theorem cfi_4 : ∀ k, k < 5 → (T_4 k).2.2.2 = isFin 4 k := by decide +kernel
theorem cdc_4 : ∀ k, k < 5 → (T_4 k).1 = "WatchValley$Mates" := by decide +kernel
set_option maxRecDepth 100000 in
theorem cin_5 : ∀ w ∈ u_ws "WatchValley$Piece" T_5 8, w ∈ tb := tb_of _ [324, 326, 328, 330, 332, 334, 336, 338] rfl (by decide +kernel)
theorem cnm_5 : ∀ a, a < 8 → ∀ b, b < 8 → a ≠ b → (T_5 a).2.1 ≠ (T_5 b).2.1 := by decide +kernel
theorem cty_5 : ∀ k, k < 8 → parseFieldDescriptor (T_5 k).2.2.1 = some (ty_5 k) := by decide +kernel
theorem cfi_5 : ∀ k, k < 8 → (T_5 k).2.2.2 = isFin 5 k := by decide +kernel
theorem cdc_5 : ∀ k, k < 8 → (T_5 k).1 = "WatchValley$Piece" := by decide +kernel
set_option maxRecDepth 100000 in
theorem cin_6 : ∀ w ∈ u_ws "WatchValley$Sending" T_6 3, w ∈ tb := tb_of _ [390, 392, 394] rfl (by decide +kernel)
theorem cnm_6 : ∀ a, a < 3 → ∀ b, b < 3 → a ≠ b → (T_6 a).2.1 ≠ (T_6 b).2.1 := by decide +kernel
theorem cty_6 : ∀ k, k < 3 → parseFieldDescriptor (T_6 k).2.2.1 = some (ty_6 k) := by decide +kernel
theorem cfi_6 : ∀ k, k < 3 → (T_6 k).2.2.2 = isFin 6 k := by decide +kernel
theorem cdc_6 : ∀ k, k < 3 → (T_6 k).1 = "WatchValley$Sending" := by decide +kernel
set_option maxRecDepth 100000 in
theorem cin_7 : ∀ w ∈ u_ws "WatchValley$Wage" T_7 4, w ∈ tb := tb_of _ [488, 490, 492, 494] rfl (by decide +kernel)
theorem cnm_7 : ∀ a, a < 4 → ∀ b, b < 4 → a ≠ b → (T_7 a).2.1 ≠ (T_7 b).2.1 := by decide +kernel
theorem cty_7 : ∀ k, k < 4 → parseFieldDescriptor (T_7 k).2.2.1 = some (ty_7 k) := by decide +kernel
theorem cfi_7 : ∀ k, k < 4 → (T_7 k).2.2.2 = isFin 7 k := by decide +kernel
theorem cdc_7 : ∀ k, k < 4 → (T_7 k).1 = "WatchValley$Wage" := by decide +kernel
set_option maxRecDepth 100000 in
theorem cin_8 : ∀ w ∈ u_ws "WatchValley$Watch" T_8 4, w ∈ tb := tb_of _ [613, 615, 617, 619] rfl (by decide +kernel)
theorem cnm_8 : ∀ a, a < 4 → ∀ b, b < 4 → a ≠ b → (T_8 a).2.1 ≠ (T_8 b).2.1 := by decide +kernel
theorem cty_8 : ∀ k, k < 4 → parseFieldDescriptor (T_8 k).2.2.1 = some (ty_8 k) := by decide +kernel
theorem cfi_8 : ∀ k, k < 4 → (T_8 k).2.2.2 = isFin 8 k := by decide +kernel
theorem cdc_8 : ∀ k, k < 4 → (T_8 k).1 = "WatchValley$Watch" := by decide +kernel
set_option maxRecDepth 100000 in
theorem cin_9 : ∀ w ∈ u_ws "WatchValley" T_9 14, w ∈ tb := tb_of _ [147, 149, 151, 153, 155, 157, 159, 161, 163, 165, 167, 169, 171, 173] rfl (by decide +kernel)
theorem cnm_9 : ∀ a, a < 14 → ∀ b, b < 14 → a ≠ b → (T_9 a).2.1 ≠ (T_9 b).2.1 := by decide +kernel
theorem cty_9 : ∀ k, k < 14 → parseFieldDescriptor (T_9 k).2.2.1 = some (ty_9 k) := by decide +kernel
theorem cfi_9 : ∀ k, k < 14 → (T_9 k).2.2.2 = isFin 9 k := by decide +kernel
theorem cdc_9 : ∀ k, k < 14 → (T_9 k).1 = "WatchValley" := by decide +kernel
set_option maxRecDepth 100000 in
theorem cin_10 : ∀ w ∈ u_ws "WatchValleyModel" T_10 43, w ∈ tb := tb_of _ [804, 806, 808, 810, 812, 814, 816, 818, 820, 822, 824, 826, 828, 830, 832, 834, 836, 838, 840, 842, 844, 846, 848, 850, 852, 854, 856, 858, 860, 862, 864, 866, 868, 870, 872, 874, 876, 878, 880, 882, 884, 886, 888] rfl (by decide +kernel)
theorem cnm_10 : ∀ a, a < 43 → ∀ b, b < 43 → a ≠ b → (T_10 a).2.1 ≠ (T_10 b).2.1 := by decide +kernel
theorem cty_10 : ∀ k, k < 43 → parseFieldDescriptor (T_10 k).2.2.1 = some (ty_10 k) := by decide +kernel
theorem cfi_10 : ∀ k, k < 43 → (T_10 k).2.2.2 = isFin 10 k := by decide +kernel
theorem cdc_10 : ∀ k, k < 43 → (T_10 k).1 = "WatchValleyModel" := by decide +kernel
theorem cl_at : ∀ t, t < 11 → classes[t]? = some (ownS t, clT t, clN t)
  | 0, _ => rfl
  | 1, _ => rfl
  | 2, _ => rfl
  | 3, _ => rfl
  | 4, _ => rfl
  | 5, _ => rfl
  | 6, _ => rfl
  | 7, _ => rfl
  | 8, _ => rfl
  | 9, _ => rfl
  | 10, _ => rfl
  | n + 11, h => absurd h (by omega)
theorem cl_in : ∀ t, t < 11 → ∀ w ∈ u_ws (ownS t) (clT t) (clN t), w ∈ tb
  | 0, _ => cin_0
  | 1, _ => cin_1
  | 2, _ => cin_2
  | 3, _ => cin_3
  | 4, _ => cin_4
  | 5, _ => cin_5
  | 6, _ => cin_6
  | 7, _ => cin_7
  | 8, _ => cin_8
  | 9, _ => cin_9
  | 10, _ => cin_10
  | n + 11, h => absurd h (by omega)
theorem cl_nm : ∀ t, t < 11 → ∀ a, a < clN t → ∀ b, b < clN t → a ≠ b → (clT t a).2.1 ≠ (clT t b).2.1
  | 0, _ => cnm_0
  | 1, _ => cnm_1
  | 2, _ => cnm_2
  | 3, _ => cnm_3
  | 4, _ => cnm_4
  | 5, _ => cnm_5
  | 6, _ => cnm_6
  | 7, _ => cnm_7
  | 8, _ => cnm_8
  | 9, _ => cnm_9
  | 10, _ => cnm_10
  | n + 11, h => absurd h (by omega)
theorem cl_ty : ∀ t, t < 11 → ∀ k, k < clN t → parseFieldDescriptor (clT t k).2.2.1 = some (clTy t k)
  | 0, _ => cty_0
  | 1, _ => cty_1
  | 2, _ => cty_2
  | 3, _ => cty_3
  | 4, _ => cty_4
  | 5, _ => cty_5
  | 6, _ => cty_6
  | 7, _ => cty_7
  | 8, _ => cty_8
  | 9, _ => cty_9
  | 10, _ => cty_10
  | n + 11, h => absurd h (by omega)
theorem cl_fi : ∀ t, t < 11 → ∀ k, k < clN t → (clT t k).2.2.2 = isFin t k
  | 0, _ => cfi_0
  | 1, _ => cfi_1
  | 2, _ => cfi_2
  | 3, _ => cfi_3
  | 4, _ => cfi_4
  | 5, _ => cfi_5
  | 6, _ => cfi_6
  | 7, _ => cfi_7
  | 8, _ => cfi_8
  | 9, _ => cfi_9
  | 10, _ => cfi_10
  | n + 11, h => absurd h (by omega)
theorem cl_dc : ∀ t, t < 11 → ∀ k, k < clN t → (clT t k).1 = ownS t
  | 0, _ => cdc_0
  | 1, _ => cdc_1
  | 2, _ => cdc_2
  | 3, _ => cdc_3
  | 4, _ => cdc_4
  | 5, _ => cdc_5
  | 6, _ => cdc_6
  | 7, _ => cdc_7
  | 8, _ => cdc_8
  | 9, _ => cdc_9
  | 10, _ => cdc_10
  | n + 11, h => absurd h (by omega)
theorem cl_rf0 : ∀ t, t < 11 → ∀ k, k < clN t → isRf t k = true → (match clTy t k with | .object _ => true | .array _ => true | _ => false) = true := by decide +kernel
theorem cl_rf : ∀ t, t < 11 → ∀ k, k < clN t → isRf t k = true → (∃ C, clTy t k = .object C) ∨ (∃ C, clTy t k = .array C) := by
  intro t ht k hk hf
  have h := cl_rf0 t ht k hk hf
  split at h
  · exact Or.inl ⟨_, by assumption⟩
  · exact Or.inr ⟨_, by assumption⟩
  · cases h
/-! links: (owner, entry, number of the object kind, field) -/
def FL_0 : List (Nat × Nat × Nat × Nat) := [(0, 18, 0, 0), (9, 219, 0, 0), (0, 23, 0, 1), (9, 222, 0, 1), (4, 9, 4, 0), (4, 15, 4, 1), (4, 18, 4, 2), (4, 27, 4, 3), (4, 52, 4, 4), (3, 12, 3, 0), (3, 18, 3, 1), (3, 33, 3, 2), (3, 40, 3, 3), (3, 47, 3, 4), (9, 11, 9, 0), (9, 17, 9, 1), (9, 23, 9, 2), (9, 29, 9, 3), (9, 36, 9, 4), (9, 40, 9, 5), (9, 46, 9, 6), (9, 64, 9, 7), (9, 124, 9, 8), (9, 50, 9, 9), (9, 141, 9, 10), (9, 96, 9, 11), (9, 199, 9, 12), (9, 101, 9, 13), (1, 9, 1, 0), (9, 57, 1, 0), (1, 15, 1, 1), (9, 183, 1, 1), (1, 18, 1, 2), (9, 186, 1, 2), (1, 21, 1, 3), (9, 189, 1, 3), (1, 24, 1, 4), (9, 118, 1, 4), (1, 66, 1, 5), (9, 192, 1, 5), (1, 70, 1, 6), (9, 193, 1, 6)]
def FL_1 : List (Nat × Nat × Nat × Nat) := [(1, 39, 1, 7), (9, 196, 1, 7), (1, 31, 1, 8), (1, 27, 1, 9), (1, 85, 1, 10), (9, 104, 1, 10), (1, 104, 1, 11), (9, 204, 1, 11), (2, 15, 2, 0), (9, 71, 2, 0), (2, 18, 2, 1), (9, 85, 2, 1), (4, 31, 2, 2), (2, 33, 2, 2), (2, 30, 2, 3), (3, 21, 2, 4), (2, 36, 2, 4), (9, 82, 2, 4), (2, 9, 2, 5), (9, 115, 2, 5), (9, 111, 2, 6), (2, 53, 2, 6), (9, 121, 2, 7), (2, 57, 2, 7), (1, 77, 2, 8), (2, 50, 2, 8), (1, 69, 2, 9), (2, 66, 2, 9), (9, 150, 2, 9), (1, 34, 2, 10), (2, 69, 2, 10), (5, 15, 5, 0), (9, 157, 5, 0), (5, 18, 5, 1), (0, 9, 5, 1), (9, 168, 5, 1), (5, 24, 5, 2), (8, 29, 5, 2), (9, 170, 5, 2), (5, 21, 5, 3), (0, 15, 5, 3), (1, 58, 5, 3)]
def FL_2 : List (Nat × Nat × Nat × Nat) := [(9, 169, 5, 3), (8, 19, 5, 4), (1, 63, 5, 4), (9, 173, 5, 4), (5, 9, 5, 5), (2, 47, 5, 5), (9, 175, 5, 5), (2, 21, 5, 6), (5, 27, 5, 6), (9, 178, 5, 6), (2, 26, 5, 7), (4, 41, 5, 7), (6, 7, 6, 0), (1, 89, 6, 0), (6, 13, 6, 1), (1, 94, 6, 1), (6, 16, 6, 2), (1, 101, 6, 2), (7, 7, 7, 0), (1, 108, 7, 0), (7, 13, 7, 1), (1, 113, 7, 1), (7, 16, 7, 2), (1, 118, 7, 2), (7, 19, 7, 3), (1, 116, 7, 3), (8, 7, 8, 0), (9, 265, 8, 0), (8, 13, 8, 1), (9, 269, 8, 1), (8, 16, 8, 2), (9, 272, 8, 2), (9, 275, 8, 3), (10, 9, 10, 0), (10, 13, 10, 1), (10, 16, 10, 2), (10, 19, 10, 3), (10, 22, 10, 4), (10, 25, 10, 5), (10, 127, 10, 6), (10, 28, 10, 7), (10, 31, 10, 8)]
def FL_3 : List (Nat × Nat × Nat × Nat) := [(10, 34, 10, 9), (10, 37, 10, 10), (10, 40, 10, 11), (10, 43, 10, 12), (10, 46, 10, 13), (10, 49, 10, 14), (10, 52, 10, 15), (10, 114, 10, 16), (10, 154, 10, 17), (10, 55, 10, 18), (10, 58, 10, 19), (10, 61, 10, 20), (10, 64, 10, 21), (10, 67, 10, 22), (10, 70, 10, 23), (10, 124, 10, 24), (10, 151, 10, 25), (10, 157, 10, 26), (10, 73, 10, 27), (10, 76, 10, 28), (10, 79, 10, 29), (10, 148, 10, 30), (10, 82, 10, 31), (10, 85, 10, 32), (10, 88, 10, 33), (10, 91, 10, 34), (10, 177, 10, 35), (10, 94, 10, 36), (10, 97, 10, 37), (10, 100, 10, 38), (10, 103, 10, 39), (10, 170, 10, 40), (10, 110, 10, 41), (10, 107, 10, 42)]
def flW (q : Nat × Nat × Nat × Nat) : Cond := .fieldLink (ownS q.1) q.2.1 (ownS q.2.2.1) (clT q.2.2.1 q.2.2.2).2.1 (clT q.2.2.1 q.2.2.2).2.2.1
set_option maxRecDepth 100000 in
theorem FLok_0 : ∀ w ∈ FL_0.map flW, w ∈ tb := tb_of _ [79, 80, 81, 82, 100, 101, 102, 103, 104, 117, 118, 119, 120, 121, 133, 134, 135, 136, 137, 138, 139, 140, 141, 142, 143, 144, 145, 146, 185, 186, 187, 188, 189, 190, 191, 192, 193, 194, 195, 196, 197, 198] rfl (by decide +kernel)
set_option maxRecDepth 100000 in
theorem FLok_1 : ∀ w ∈ FL_1.map flW, w ∈ tb := tb_of _ [199, 200, 201, 202, 203, 204, 205, 206, 250, 251, 252, 253, 254, 255, 256, 257, 258, 259, 260, 261, 262, 263, 264, 265, 266, 267, 268, 269, 270, 271, 272, 301, 302, 303, 304, 305, 306, 307, 308, 309, 310, 311] rfl (by decide +kernel)
set_option maxRecDepth 100000 in
theorem FLok_2 : ∀ w ∈ FL_2.map flW, w ∈ tb := tb_of _ [312, 313, 314, 315, 316, 317, 318, 319, 320, 321, 322, 323, 384, 385, 386, 387, 388, 389, 480, 481, 482, 483, 484, 485, 486, 487, 606, 607, 608, 609, 610, 611, 612, 761, 762, 763, 764, 765, 766, 767, 768, 769] rfl (by decide +kernel)
set_option maxRecDepth 100000 in
theorem FLok_3 : ∀ w ∈ FL_3.map flW, w ∈ tb := tb_of _ [770, 771, 772, 773, 774, 775, 776, 777, 778, 779, 780, 781, 782, 783, 784, 785, 786, 787, 788, 789, 790, 791, 792, 793, 794, 795, 796, 797, 798, 799, 800, 801, 802, 803] rfl (by decide +kernel)
def FLT : List (Nat × Nat × Nat × Nat) := FL_0 ++ (FL_1 ++ (FL_2 ++ (FL_3)))
theorem FLT_ok : ∀ q ∈ FLT, flW q ∈ tb := by
  intro q hq
  unfold FLT at hq
  simp only [List.mem_append] at hq
  rcases hq with h | h | h | h
  · exact FLok_0 _ (List.mem_map.mpr ⟨q, h, rfl⟩)
  · exact FLok_1 _ (List.mem_map.mpr ⟨q, h, rfl⟩)
  · exact FLok_2 _ (List.mem_map.mpr ⟨q, h, rfl⟩)
  · exact FLok_3 _ (List.mem_map.mpr ⟨q, h, rfl⟩)
theorem FLT_lt : ∀ q ∈ FLT, q.2.2.1 < 11 ∧ q.2.2.2 < clN q.2.2.1 := by decide +kernel
def NWT : List (Nat × Nat × Nat) := [(11, 8, 9), (9, 9, 5), (9, 15, 2), (9, 21, 1), (9, 27, 8), (9, 33, 0), (9, 43, 3), (3, 9, 4), (9, 99, 6), (9, 202, 7), (11, 20, 10)]
def nwW (q : Nat × Nat × Nat) : List Cond := [.classLink (ownS q.1) q.2.1 (ownS q.2.2), .instantiable (ownS q.2.2) (clN q.2.2), .initialized (ownS q.2.2)]
set_option maxRecDepth 100000 in
theorem NWok : ∀ w ∈ NWT.flatMap nwW, w ∈ tb := tb_of _ [57, 58, 39, 65, 296, 46, 67, 245, 45, 69, 180, 44, 71, 601, 56, 73, 74, 40, 88, 89, 41, 94, 95, 42, 378, 379, 47, 474, 475, 52, 755, 756, 43] rfl (by decide +kernel)
theorem NWT_ok : ∀ q ∈ NWT, ∀ w ∈ nwW q, w ∈ tb := fun q hq w hw => NWok w (List.mem_flatMap.mpr ⟨q, hq, hw⟩)
theorem NWT_lt : ∀ q ∈ NWT, q.2.2 < 11 := by decide +kernel
/-! methods by number: name, code, locals, answer -/
abbrev MtT : Type := MethodName × ByteArray × Nat × Option FieldType
def MT_0 : List MtT := [(⟨"WatchValley", "<init>", "()V"⟩, prog_1_method_1_code, 1, none), (⟨"WatchValley$Fit", "<init>", "()V"⟩, prog_2_method_1_code, 1, none), (⟨"WatchValley$Making", "<init>", "()V"⟩, prog_5_method_1_code, 1, none), (⟨"WatchValley$Mates", "<init>", "()V"⟩, prog_6_method_1_code, 1, none), (⟨"WatchValley", "home", "(IIII)I"⟩, prog_1_method_2_code, 6, (some .int)), (⟨"WatchValley$Home", "<init>", "(IIIII)V"⟩, prog_3_method_1_code, 6, none), (⟨"WatchValley", "raw", "(IIII)I"⟩, prog_1_method_3_code, 10, (some .int)), (⟨"WatchValley", "isRawSize", "(J)Z"⟩, prog_1_method_36_code, 2, (some .boolean)), (⟨"WatchValley", "newLot", "(I)LWatchValley$Lot;"⟩, prog_1_method_30_code, 3, (some (.object "WatchValley$Lot"))), (⟨"WatchValley$Lot", "<init>", "(II)V"⟩, prog_4_method_1_code, 3, none), (⟨"WatchValley$Piece", "<init>", "(IIII)V"⟩, prog_7_method_1_code, 5, none), (⟨"WatchValley$Lot", "append", "(LWatchValley$Piece;)V"⟩, prog_4_method_2_code, 2, none), (⟨"WatchValley", "split", "(II)I"⟩, prog_1_method_4_code, 5, (some .int)), (⟨"WatchValley", "lotAtHouse", "(I)LWatchValley$Lot;"⟩, prog_1_method_28_code, 3, (some (.object "WatchValley$Lot"))), (⟨"WatchValley", "lotNumbered", "(I)LWatchValley$Lot;"⟩, prog_1_method_25_code, 2, (some (.object "WatchValley$Lot"))), (⟨"WatchValley$Lot", "moveFirst", "(ILWatchValley$Lot;)V"⟩, prog_4_method_3_code, 5, none), (⟨"WatchValley$Lot", "unlink", "(LWatchValley$Piece;LWatchValley$Piece;)V"⟩, prog_4_method_4_code, 3, none), (⟨"WatchValley", "join", "(II)I"⟩, prog_1_method_5_code, 5, (some .int)), (⟨"WatchValley", "send", "(II)Z"⟩, prog_1_method_6_code, 5, (some .boolean)), (⟨"WatchValley", "homeNumbered", "(I)LWatchValley$Home;"⟩, prog_1_method_24_code, 2, (some (.object "WatchValley$Home"))), (⟨"WatchValley$Sending", "<init>", "(IILWatchValley$Sending;)V"⟩, prog_8_method_1_code, 4, none), (⟨"WatchValley", "day", "(Z)I"⟩, prog_1_method_7_code, 5, (some .int)), (⟨"WatchValley$Lot", "travel", "(Z)V"⟩, prog_4_method_8_code, 2, none), (⟨"WatchValley$Home", "receive", "(LWatchValley$Lot;)V"⟩, prog_3_method_2_code, 2, none), (⟨"WatchValley$Home", "workDay", "()I"⟩, prog_3_method_3_code, 5, (some .int)), (⟨"WatchValley$Lot", "nextToWork", "()LWatchValley$Piece;"⟩, prog_4_method_7_code, 1, (some (.object "WatchValley$Piece"))), (⟨"WatchValley$Home", "release", "(LWatchValley$Lot;)V"⟩, prog_3_method_4_code, 2, none), (⟨"WatchValley$Lot", "turnHome", "(I)V"⟩, prog_4_method_9_code, 2, none), (⟨"WatchValley$Home", "workPiece", "(LWatchValley$Lot;LWatchValley$Piece;)V"⟩, prog_3_method_5_code, 3, none), (⟨"WatchValley$Piece", "leaveRow", "(II)V"⟩, prog_7_method_2_code, 3, none), (⟨"WatchValley", "count", "(I)I"⟩, prog_1_method_8_code, 2, (some .int)), (⟨"WatchValley", "brokenPieces", "()I"⟩, prog_1_method_32_code, 4, (some .int))]
def MT_1 : List MtT := [(⟨"WatchValley", "watchesBack", "()I"⟩, prog_1_method_34_code, 4, (some .int)), (⟨"WatchValley", "watchNumbered", "(I)LWatchValley$Watch;"⟩, prog_1_method_27_code, 2, (some (.object "WatchValley$Watch"))), (⟨"WatchValley", "lotsOut", "()I"⟩, prog_1_method_33_code, 4, (some .int)), (⟨"WatchValley", "lot", "(II)I"⟩, prog_1_method_9_code, 4, (some .int)), (⟨"WatchValley", "at", "(II)I"⟩, prog_1_method_10_code, 5, (some .int)), (⟨"WatchValley$Lot", "pieceAt", "(I)LWatchValley$Piece;"⟩, prog_4_method_6_code, 4, (some (.object "WatchValley$Piece"))), (⟨"WatchValley", "of", "(II)I"⟩, prog_1_method_12_code, 4, (some .int)), (⟨"WatchValley", "wage", "(III)I"⟩, prog_1_method_13_code, 5, (some .int)), (⟨"WatchValley$Wage", "<init>", "(IIILWatchValley$Wage;)V"⟩, prog_9_method_1_code, 5, none), (⟨"WatchValley", "fit", "(III)Z"⟩, prog_1_method_15_code, 5, (some .boolean)), (⟨"WatchValley", "fits", "(II)I"⟩, prog_1_method_16_code, 5, (some .int)), (⟨"WatchValley", "pieceNumbered", "(I)LWatchValley$Piece;"⟩, prog_1_method_26_code, 2, (some (.object "WatchValley$Piece"))), (⟨"WatchValley$Fit", "allows", "(LWatchValley$Piece;LWatchValley$Piece;)Z"⟩, prog_2_method_2_code, 4, (some .boolean)), (⟨"WatchValley", "most", "(III)I"⟩, prog_1_method_17_code, 7, (some .int)), (⟨"WatchValley", "lotForMaking", "(II)LWatchValley$Lot;"⟩, prog_1_method_29_code, 4, (some (.object "WatchValley$Lot"))), (⟨"WatchValley$Making", "readLots", "(LWatchValley$Lot;LWatchValley$Lot;LWatchValley$Lot;LWatchValley$Fit;LWatchValley$Fit;)V"⟩, prog_5_method_2_code, 6, none), (⟨"java/lang/Math", "min", "(II)I"⟩, prog_15_method_69_code, 2, (some .int)), (⟨"WatchValley$Mates", "readLots", "(LWatchValley$Lot;LWatchValley$Lot;LWatchValley$Fit;)V"⟩, prog_6_method_2_code, 6, none), (⟨"java/util/Arrays", "fill", "([II)V"⟩, prog_19_method_103_code, 4, none), (⟨"WatchValley$Mates", "placesFor", "(LWatchValley$Piece;LWatchValley$Lot;LWatchValley$Fit;)I"⟩, prog_6_method_3_code, 6, (some .int)), (⟨"WatchValley$Making", "chooseWheels", "()I"⟩, prog_5_method_3_code, 1, (some .int)), (⟨"WatchValley$Making", "tryWheel", "(III)V"⟩, prog_5_method_4_code, 4, none), (⟨"WatchValley$Mates", "seat", "(I)Z"⟩, prog_6_method_4_code, 2, (some .boolean)), (⟨"WatchValley$Mates", "seatOrMove", "(II)Z"⟩, prog_6_method_5_code, 5, (some .boolean)), (⟨"WatchValley$Mates", "unseat", "(I)V"⟩, prog_6_method_6_code, 3, none), (⟨"WatchValley", "make", "(III)I"⟩, prog_1_method_18_code, 9, (some .int)), (⟨"WatchValley$Making", "chooseMates", "()V"⟩, prog_5_method_5_code, 1, none), (⟨"WatchValley$Mates", "settle", "(I)V"⟩, prog_6_method_7_code, 3, none), (⟨"WatchValley$Mates", "firstPlaceFor", "(II)I"⟩, prog_6_method_8_code, 5, (some .int)), (⟨"WatchValley$Mates", "canSeatBehind", "(II)Z"⟩, prog_6_method_9_code, 4, (some .boolean)), (⟨"WatchValley$Making", "takes", "(I)Z"⟩, prog_5_method_6_code, 2, (some .boolean)), (⟨"WatchValley$Making", "plateFor", "(I)I"⟩, prog_5_method_7_code, 2, (some .int))]
def MT_2 : List MtT := [(⟨"WatchValley$Mates", "settledFor", "(I)I"⟩, prog_6_method_10_code, 2, (some .int)), (⟨"WatchValley$Making", "stoneFor", "(I)I"⟩, prog_5_method_8_code, 2, (some .int)), (⟨"WatchValley", "assemble", "(LWatchValley$Piece;LWatchValley$Piece;LWatchValley$Piece;)V"⟩, prog_1_method_31_code, 4, none), (⟨"WatchValley$Watch", "<init>", "(LWatchValley$Piece;LWatchValley$Piece;LWatchValley$Piece;)V"⟩, prog_10_method_1_code, 4, none), (⟨"WatchValley$Lot", "dropTaken", "()V"⟩, prog_4_method_5_code, 3, none), (⟨"WatchValley", "watch", "(II)I"⟩, prog_1_method_19_code, 4, (some .int)), (⟨"WatchValley$Watch", "homesThatWorked", "()I"⟩, prog_10_method_2_code, 1, (some .int)), (⟨"WatchValley", "back", "(IZ)Z"⟩, prog_1_method_20_code, 4, (some .boolean)), (⟨"WatchValley", "counts", "(II)I"⟩, prog_1_method_21_code, 3, (some .int)), (⟨"WatchValley", "watchesOf", "(IZ)I"⟩, prog_1_method_35_code, 6, (some .int)), (⟨"WatchValley$Watch", "wasWorkedBy", "(I)Z"⟩, prog_10_method_3_code, 2, (some .boolean)), (⟨"WatchValley", "suspect", "(I)I"⟩, prog_1_method_22_code, 8, (some .int)), (⟨"WatchValley", "recall", "(I)I"⟩, prog_1_method_23_code, 5, (some .int)), (⟨"WatchValley$Watch", "hasRaw", "(I)Z"⟩, prog_10_method_4_code, 2, (some .boolean)), (⟨"WatchValley", "piece", "(II)I"⟩, prog_1_method_11_code, 4, (some .int)), (⟨"WatchValley", "due", "(II)J"⟩, prog_1_method_14_code, 4, (some .long)), (⟨"WatchValley$Home", "dueAsKnown", "(I)J"⟩, prog_3_method_6_code, 5, (some .long)), (⟨"WatchValley$Home", "wageFor", "(II)I"⟩, prog_3_method_7_code, 5, (some .int)), (⟨"WatchValleyModel", "<init>", "()V"⟩, prog_12_method_1_code, 1, none), (⟨"WatchValleyModel", "thrown", "()I"⟩, prog_12_method_2_code, 1, (some .int)), (⟨"WatchValleyModel", "home", "(IIII)I"⟩, prog_12_method_6_code, 5, (some .int)), (⟨"WatchValleyModel", "in", "(III)Z"⟩, prog_12_method_3_code, 3, (some .boolean)), (⟨"WatchValleyModel", "raw", "(IIII)I"⟩, prog_12_method_10_code, 8, (some .int)), (⟨"WatchValleyModel", "newLot", "(I)I"⟩, prog_12_method_7_code, 2, (some .int)), (⟨"WatchValleyModel", "add", "(II)V"⟩, prog_12_method_8_code, 3, none), (⟨"WatchValleyModel", "split", "(II)I"⟩, prog_12_method_11_code, 5, (some .int)), (⟨"WatchValleyModel", "isHere", "(I)Z"⟩, prog_12_method_5_code, 2, (some .boolean)), (⟨"WatchValleyModel", "isLot", "(I)Z"⟩, prog_12_method_4_code, 2, (some .boolean)), (⟨"WatchValleyModel", "take", "(II)V"⟩, prog_12_method_9_code, 4, none), (⟨"WatchValleyModel", "join", "(II)I"⟩, prog_12_method_12_code, 4, (some .int)), (⟨"WatchValleyModel", "send", "(II)Z"⟩, prog_12_method_13_code, 3, (some .boolean)), (⟨"WatchValleyModel", "day", "(Z)I"⟩, prog_12_method_17_code, 7, (some .int))]
def MT_3 : List MtT := [(⟨"WatchValleyModel", "goes", "(Z)V"⟩, prog_12_method_14_code, 3, none), (⟨"WatchValleyModel", "first", "(I)I"⟩, prog_12_method_15_code, 4, (some .int)), (⟨"WatchValleyModel", "work", "(II)V"⟩, prog_12_method_16_code, 4, none), (⟨"WatchValleyModel", "count", "(I)I"⟩, prog_12_method_19_code, 4, (some .int)), (⟨"WatchValleyModel", "outMany", "()I"⟩, prog_12_method_18_code, 3, (some .int)), (⟨"WatchValleyModel", "lot", "(II)I"⟩, prog_12_method_20_code, 3, (some .int)), (⟨"WatchValleyModel", "at", "(II)I"⟩, prog_12_method_21_code, 3, (some .int)), (⟨"WatchValleyModel", "piece", "(II)I"⟩, prog_12_method_22_code, 3, (some .int)), (⟨"WatchValleyModel", "of", "(II)I"⟩, prog_12_method_23_code, 5, (some .int)), (⟨"WatchValleyModel", "wage", "(III)I"⟩, prog_12_method_24_code, 4, (some .int)), (⟨"WatchValleyModel", "due", "(II)J"⟩, prog_12_method_26_code, 6, (some .long)), (⟨"WatchValleyModel", "wageFor", "(III)I"⟩, prog_12_method_25_code, 6, (some .int)), (⟨"WatchValleyModel", "fit", "(III)Z"⟩, prog_12_method_27_code, 4, (some .boolean)), (⟨"WatchValleyModel", "fits", "(II)I"⟩, prog_12_method_29_code, 3, (some .int)), (⟨"WatchValleyModel", "doFit", "(II)Z"⟩, prog_12_method_28_code, 4, (some .boolean)), (⟨"WatchValleyModel", "most", "(III)I"⟩, prog_12_method_34_code, 4, (some .int)), (⟨"WatchValleyModel", "areLots", "(III)Z"⟩, prog_12_method_31_code, 4, (some .boolean)), (⟨"WatchValleyModel", "taken", "(III)I"⟩, prog_12_method_33_code, 9, (some .int)), (⟨"java/lang/Integer", "bitCount", "(I)I"⟩, prog_14_method_49_code, 1, (some .int)), (⟨"WatchValleyModel", "isAhead", "(II)Z"⟩, prog_12_method_32_code, 3, (some .boolean)), (⟨"WatchValleyModel", "can", "(III)Z"⟩, prog_12_method_30_code, 7, (some .boolean)), (⟨"java/lang/Integer", "numberOfTrailingZeros", "(I)I"⟩, prog_14_method_48_code, 2, (some .int)), (⟨"WatchValleyModel", "make", "(III)I"⟩, prog_12_method_37_code, 14, (some .int)), (⟨"WatchValleyModel", "firstFor", "(IIII)I"⟩, prog_12_method_35_code, 6, (some .int)), (⟨"WatchValleyModel", "leave", "(II)V"⟩, prog_12_method_36_code, 4, none), (⟨"WatchValleyModel", "watch", "(II)I"⟩, prog_12_method_39_code, 3, (some .int)), (⟨"WatchValleyModel", "homesOfWatch", "(I)I"⟩, prog_12_method_38_code, 2, (some .int)), (⟨"WatchValleyModel", "back", "(IZ)Z"⟩, prog_12_method_40_code, 3, (some .boolean)), (⟨"WatchValleyModel", "counts", "(II)I"⟩, prog_12_method_42_code, 3, (some .int)), (⟨"WatchValleyModel", "countOf", "(IZ)I"⟩, prog_12_method_41_code, 5, (some .int)), (⟨"WatchValleyModel", "suspect", "(I)I"⟩, prog_12_method_43_code, 4, (some .int)), (⟨"WatchValleyModel", "recall", "(I)I"⟩, prog_12_method_44_code, 4, (some .int))]
def MTT : List MtT := MT_0 ++ (MT_1 ++ (MT_2 ++ (MT_3)))
def mt (k : Nat) : MtT := MTT.getD k (⟨"", "", ""⟩, ⟨#[]⟩, 0, none)
def mtW (q : MtT) : Cond := .code q.1 q.2.1 q.2.2.1 q.2.2.2
set_option maxRecDepth 100000 in
theorem MTok_0 : ∀ w ∈ MT_0.map mtW, w ∈ tb := tb_of _ [61, 77, 92, 98, 179, 183, 235, 238, 244, 248, 299, 344, 348, 352, 356, 360, 364, 369, 373, 377, 382, 400, 404, 408, 412, 416, 420, 424, 428, 432, 437, 441] rfl (by decide +kernel)
set_option maxRecDepth 100000 in
theorem MTok_1 : ∀ w ∈ MT_1.map mtW, w ∈ tb := tb_of _ [445, 449, 453, 457, 461, 465, 469, 473, 478, 500, 504, 508, 512, 516, 520, 524, 527, 531, 534, 537, 542, 546, 550, 554, 558, 562, 566, 570, 574, 578, 583, 587] rfl (by decide +kernel)
set_option maxRecDepth 100000 in
theorem MTok_2 : ∀ w ∈ MT_2.map mtW, w ∈ tb := tb_of _ [591, 595, 599, 604, 625, 629, 633, 637, 641, 645, 649, 654, 658, 662, 670, 744, 750, 754, 759, 895, 899, 902, 906, 912, 916, 920, 924, 928, 932, 936, 940, 944] rfl (by decide +kernel)
set_option maxRecDepth 100000 in
theorem MTok_3 : ∀ w ∈ MT_3.map mtW, w ∈ tb := tb_of _ [948, 952, 956, 960, 964, 968, 972, 976, 980, 984, 988, 992, 996, 1000, 1004, 1008, 1012, 1016, 1019, 1025, 1029, 1032, 1037, 1041, 1045, 1049, 1053, 1057, 1061, 1065, 1069, 1073] rfl (by decide +kernel)
theorem MTT_ok : ∀ q ∈ MTT, mtW q ∈ tb := by
  intro q hq
  unfold MTT at hq
  simp only [List.mem_append] at hq
  rcases hq with h | h | h | h
  · exact MTok_0 _ (List.mem_map.mpr ⟨q, h, rfl⟩)
  · exact MTok_1 _ (List.mem_map.mpr ⟨q, h, rfl⟩)
  · exact MTok_2 _ (List.mem_map.mpr ⟨q, h, rfl⟩)
  · exact MTok_3 _ (List.mem_map.mpr ⟨q, h, rfl⟩)
theorem MTT_len : MTT.length = 128 := by decide +kernel
theorem mt_mem {k : Nat} (h : k < 128) : mt k ∈ MTT := by
  have h1 : k < MTT.length := by rw [MTT_len]; exact h
  unfold mt
  rw [List.getD_eq_getElem?_getD, List.getElem?_eq_getElem h1]
  exact List.getElem_mem h1
/-! calls: (owner, entry, number of the method) -/
def IV_0 : List (Nat × Nat × Nat) := [(11, 23, 4), (11, 28, 6), (9, 67, 8), (9, 75, 11), (11, 32, 12), (9, 79, 13), (9, 127, 14), (9, 88, 15), (2, 39, 16), (2, 43, 11), (11, 36, 17), (11, 40, 18), (9, 92, 19), (11, 45, 21), (9, 130, 22), (2, 60, 23), (9, 134, 24), (1, 42, 25), (1, 46, 26), (1, 54, 27), (1, 50, 28), (1, 73, 29), (1, 81, 16), (11, 50, 30)]
def IV_1 : List (Nat × Nat × Nat) := [(9, 138, 31), (9, 144, 32), (9, 261, 33), (9, 147, 34), (11, 55, 35), (11, 59, 36), (9, 153, 37), (11, 73, 38), (11, 77, 39), (11, 85, 41), (11, 90, 42), (9, 158, 43), (9, 225, 44), (11, 94, 45), (9, 229, 46), (9, 233, 47), (3, 36, 49), (4, 46, 44), (9, 237, 52), (3, 43, 53), (3, 50, 54), (4, 55, 55), (3, 54, 56), (11, 98, 57)]
def IV_2 : List (Nat × Nat × Nat) := [(9, 240, 58), (3, 58, 59), (4, 59, 60), (4, 63, 61), (4, 66, 54), (9, 243, 62), (9, 247, 63), (3, 61, 64), (9, 251, 65), (9, 254, 66), (9, 292, 29), (9, 258, 68), (11, 102, 69), (9, 279, 70), (11, 106, 71), (11, 111, 72), (9, 282, 73), (9, 297, 74), (8, 25, 70), (11, 115, 75), (11, 119, 76), (9, 286, 77), (11, 7, 78), (11, 15, 79)]
def IV_3 : List (Nat × Nat × Nat) := [(9, 215, 80), (1, 97, 81), (11, 69, 83), (11, 27, 84), (11, 31, 86), (10, 134, 87), (10, 138, 88), (11, 35, 89), (10, 142, 90), (10, 120, 91), (10, 145, 92), (11, 39, 93), (11, 44, 94), (11, 49, 95), (10, 160, 96), (10, 164, 97), (10, 167, 98), (11, 54, 99), (10, 173, 100), (11, 58, 101), (11, 62, 102), (11, 68, 103), (11, 76, 104), (11, 81, 105)]
def IV_4 : List (Nat × Nat × Nat) := [(11, 84, 106), (10, 180, 107), (11, 89, 108), (11, 93, 109), (10, 184, 110), (11, 97, 111), (10, 202, 112), (10, 205, 113), (10, 193, 116), (11, 101, 118), (10, 208, 119), (10, 212, 120), (11, 105, 121), (10, 215, 122), (11, 110, 123), (11, 114, 124), (10, 218, 125), (11, 118, 126), (11, 122, 127)]
def IVT : List (Nat × Nat × Nat) := IV_0 ++ (IV_1 ++ (IV_2 ++ (IV_3 ++ (IV_4))))
def IVW (q : Nat × Nat × Nat) : List Cond := [.methodLink (ownS q.1) q.2.1 (mt q.2.2).1, .instanceMethod (mt q.2.2).1, .selects (mt q.2.2).1.cls (mt q.2.2).1 (mt q.2.2).1, .initialized (mt q.2.2).1.cls]
set_option maxRecDepth 100000 in
theorem IVok_0 : ∀ w ∈ IV_0.flatMap IVW, w ∈ tb := tb_of _ [176, 177, 178, 39, 232, 233, 234, 39, 241, 243, 0, 39, 341, 342, 343, 45, 345, 346, 347, 39, 349, 351, 1, 39, 353, 355, 2, 39, 357, 358, 359, 45, 361, 362, 363, 45, 365, 342, 343, 45, 366, 367, 368, 39, 370, 371, 372, 39, 374, 376, 3, 39, 397, 398, 399, 39, 401, 402, 403, 45, 405, 406, 407, 44, 409, 410, 411, 44, 413, 414, 415, 45, 417, 419, 4, 44, 421, 422, 423, 45, 425, 427, 5, 44, 429, 430, 431, 46, 433, 362, 363, 45, 434, 435, 436, 39] rfl (by decide +kernel)
set_option maxRecDepth 100000 in
theorem IVok_1 : ∀ w ∈ IV_1.flatMap IVW, w ∈ tb := tb_of _ [438, 440, 6, 39, 442, 444, 7, 39, 446, 448, 8, 39, 450, 452, 9, 39, 454, 455, 456, 39, 458, 459, 460, 39, 462, 463, 464, 45, 466, 467, 468, 39, 470, 471, 472, 39, 497, 498, 499, 39, 501, 502, 503, 39, 505, 507, 10, 39, 509, 510, 511, 40, 513, 514, 515, 39, 517, 519, 11, 39, 521, 522, 523, 41, 528, 529, 530, 42, 538, 510, 511, 40, 539, 540, 541, 41, 543, 545, 12, 41, 547, 548, 549, 42, 551, 553, 13, 42, 555, 556, 557, 42, 559, 560, 561, 39] rfl (by decide +kernel)
set_option maxRecDepth 100000 in
theorem IVok_2 : ∀ w ∈ IV_2.flatMap IVW, w ∈ tb := tb_of _ [563, 564, 565, 41, 567, 568, 569, 42, 571, 573, 14, 42, 575, 577, 15, 42, 579, 548, 549, 42, 580, 581, 582, 41, 584, 585, 586, 41, 588, 589, 590, 42, 592, 593, 594, 41, 596, 598, 16, 39, 600, 430, 431, 46, 622, 623, 624, 45, 626, 627, 628, 39, 630, 631, 632, 56, 634, 635, 636, 39, 638, 639, 640, 39, 642, 644, 17, 39, 646, 647, 648, 56, 650, 631, 632, 56, 651, 652, 653, 39, 655, 656, 657, 39, 659, 660, 661, 56, 667, 668, 669, 39, 741, 742, 743, 39] rfl (by decide +kernel)
set_option maxRecDepth 100000 in
theorem IVok_3 : ∀ w ∈ IV_3.flatMap IVW, w ∈ tb := tb_of _ [747, 748, 749, 44, 751, 753, 19, 44, 892, 893, 894, 43, 896, 897, 898, 43, 903, 904, 905, 43, 909, 911, 20, 43, 913, 915, 21, 43, 917, 918, 919, 43, 921, 923, 22, 43, 925, 927, 23, 43, 929, 931, 24, 43, 933, 934, 935, 43, 937, 938, 939, 43, 941, 942, 943, 43, 945, 947, 25, 43, 949, 951, 26, 43, 953, 955, 27, 43, 957, 958, 959, 43, 961, 963, 28, 43, 965, 966, 967, 43, 969, 970, 971, 43, 973, 974, 975, 43, 977, 978, 979, 43, 981, 982, 983, 43] rfl (by decide +kernel)
set_option maxRecDepth 100000 in
theorem IVok_4 : ∀ w ∈ IV_4.flatMap IVW, w ∈ tb := tb_of _ [985, 986, 987, 43, 989, 991, 29, 43, 993, 994, 995, 43, 997, 998, 999, 43, 1001, 1003, 30, 43, 1005, 1006, 1007, 43, 1009, 1011, 31, 43, 1013, 1015, 32, 43, 1026, 1028, 33, 43, 1034, 1035, 1036, 43, 1038, 1040, 34, 43, 1042, 1044, 35, 43, 1046, 1047, 1048, 43, 1050, 1052, 36, 43, 1054, 1055, 1056, 43, 1058, 1059, 1060, 43, 1062, 1064, 37, 43, 1066, 1067, 1068, 43, 1070, 1071, 1072, 43] rfl (by decide +kernel)
theorem IVT_ok : ∀ q ∈ IVT, ∀ w ∈ IVW q, w ∈ tb := by
  intro q hq w hw
  unfold IVT at hq
  simp only [List.mem_append] at hq
  rcases hq with h | h | h | h | h
  · exact IVok_0 w (List.mem_flatMap.mpr ⟨q, h, hw⟩)
  · exact IVok_1 w (List.mem_flatMap.mpr ⟨q, h, hw⟩)
  · exact IVok_2 w (List.mem_flatMap.mpr ⟨q, h, hw⟩)
  · exact IVok_3 w (List.mem_flatMap.mpr ⟨q, h, hw⟩)
  · exact IVok_4 w (List.mem_flatMap.mpr ⟨q, h, hw⟩)
theorem IVT_lt : ∀ q ∈ IVT, q.2.2 < 128 := by decide +kernel
def IS_0 : List (Nat × Nat × Nat) := [(9, 60, 7), (3, 27, 48), (4, 21, 50), (4, 37, 51), (10, 117, 85), (10, 196, 114), (10, 199, 115), (10, 188, 117)]
def IST : List (Nat × Nat × Nat) := IS_0
def ISW (q : Nat × Nat × Nat) : List Cond := [.methodLink (ownS q.1) q.2.1 (mt q.2.2).1, .static (mt q.2.2).1, .initialized (mt q.2.2).1.cls]
set_option maxRecDepth 100000 in
theorem ISok_0 : ∀ w ∈ IS_0.flatMap ISW, w ∈ tb := tb_of _ [236, 237, 39, 525, 526, 53, 532, 533, 54, 535, 536, 42, 900, 901, 43, 1017, 1018, 55, 1023, 1024, 43, 1030, 1031, 55] rfl (by decide +kernel)
theorem IST_ok : ∀ q ∈ IST, ∀ w ∈ ISW q, w ∈ tb := by
  intro q hq w hw
  unfold IST at hq
  exact ISok_0 w (List.mem_flatMap.mpr ⟨q, hq, hw⟩)
theorem IST_lt : ∀ q ∈ IST, q.2.2 < 128 := by decide +kernel
def II_0 : List (Nat × Nat × Nat) := [(11, 19, 0), (9, 54, 5), (9, 289, 9), (9, 72, 10), (9, 108, 20), (9, 208, 40), (9, 295, 67), (11, 22, 82)]
def IIT : List (Nat × Nat × Nat) := II_0
def IIW (q : Nat × Nat × Nat) : List Cond := [.methodLink (ownS q.1) q.2.1 (mt q.2.2).1, .instanceMethod (mt q.2.2).1, .initialized (mt q.2.2).1.cls]
set_option maxRecDepth 100000 in
theorem IIok_0 : ∀ w ∈ II_0.flatMap IIW, w ∈ tb := tb_of _ [59, 60, 39, 181, 182, 44, 246, 247, 45, 297, 298, 46, 380, 381, 47, 476, 477, 52, 602, 603, 56, 757, 758, 43] rfl (by decide +kernel)
theorem IIT_ok : ∀ q ∈ IIT, ∀ w ∈ IIW q, w ∈ tb := by
  intro q hq w hw
  unfold IIT at hq
  exact IIok_0 w (List.mem_flatMap.mpr ⟨q, hq, hw⟩)
theorem IIT_lt : ∀ q ∈ IIT, q.2.2 < 128 := by decide +kernel
def IN_0 : List (Nat × Nat × Nat) := [(9, 35, 1), (9, 45, 2), (3, 11, 3)]
def INT : List (Nat × Nat × Nat) := IN_0
def INW (q : Nat × Nat × Nat) : List Cond := [.instanceMethod (mt q.2.2).1, .initialized (mt q.2.2).1.cls]
set_option maxRecDepth 100000 in
theorem INok_0 : ∀ w ∈ IN_0.flatMap INW, w ∈ tb := tb_of _ [76, 40, 91, 41, 97, 42] rfl (by decide +kernel)
theorem INT_ok : ∀ q ∈ INT, ∀ w ∈ INW q, w ∈ tb := by
  intro q hq w hw
  unfold INT at hq
  exact INok_0 w (List.mem_flatMap.mpr ⟨q, hq, hw⟩)
theorem INT_lt : ∀ q ∈ INT, q.2.2 < 128 := by decide +kernel
set_option maxRecDepth 100000 in
theorem INnest : ∀ w ∈ INT.map (fun q => Cond.methodLinkNest (ownS q.1) q.2.1 (mt q.2.2).1 "WatchValley"), w ∈ lw_tbl := lw_of _ [75, 90, 96] rfl
def IOT : List (Nat × Nat) := [(9, 3), (0, 3), (3, 3), (4, 3), (1, 3), (2, 3), (5, 3), (6, 1), (7, 1), (8, 1), (10, 1)]
set_option maxRecDepth 100000 in
theorem IOok : ∀ w ∈ IOT.map (fun q => Cond.methodLink (ownS q.1) q.2 objectInit), w ∈ tb := tb_of _ [62, 78, 93, 99, 184, 249, 300, 383, 479, 605, 760] rfl (by decide +kernel)
set_option maxRecDepth 100000 in
theorem IOin : ∀ w ∈ [Cond.instanceMethod objectInit, Cond.code objectInit ⟨#[0xb1]⟩ 1 none], w ∈ tb := tb_of _ [63, 64] rfl (by decide +kernel)
/-- the number of the object kind of a method, how many it takes beside the receiver -/
def mtC : List Nat := [9, 0, 3, 4, 9, 1, 9, 9, 9, 2, 5, 2, 9, 9, 9, 2, 2, 9, 9, 9, 6, 9, 2, 1, 1, 2, 1, 2, 1, 5, 9, 9, 9, 9, 9, 9, 9, 2, 9, 9, 7, 9, 9, 9, 0, 9, 9, 3, 13, 4, 14, 4, 3, 3, 4, 4, 4, 9, 3, 4, 4, 4, 3, 3, 4, 3, 9, 8, 2, 9, 8, 9, 9, 9, 8, 9, 9, 8, 9, 9, 1, 1, 10, 10, 10, 10, 10, 10, 10, 10, 10, 10, 10, 10, 10, 10, 10, 10, 10, 10, 10, 10, 10, 10, 10, 10, 10, 10, 10, 10, 10, 10, 10, 10, 12, 10, 10, 12, 10, 10, 10, 10, 10, 10, 10, 10, 10, 10]
def mtN : List Nat := [0, 0, 0, 0, 4, 5, 4, 1, 1, 2, 4, 1, 2, 1, 1, 2, 2, 2, 2, 1, 3, 1, 1, 1, 0, 0, 1, 1, 2, 2, 1, 0, 0, 1, 0, 2, 2, 1, 2, 3, 4, 3, 2, 1, 2, 3, 2, 5, 2, 3, 2, 3, 0, 3, 1, 2, 1, 3, 0, 1, 2, 2, 1, 1, 1, 1, 3, 3, 0, 2, 0, 2, 2, 2, 1, 1, 1, 1, 2, 2, 1, 2, 0, 0, 4, 3, 4, 1, 2, 2, 1, 1, 2, 2, 2, 1, 1, 1, 2, 1, 0, 2, 2, 2, 2, 3, 2, 3, 3, 2, 2, 3, 3, 3, 1, 2, 3, 1, 3, 4, 2, 2, 1, 2, 2, 2, 1, 1]
set_option maxRecDepth 100000 in
theorem mt_cls : ∀ k, k < 128 → (mt k).1.cls = ownS (mtC.getD k 0) := by decide +kernel
set_option maxRecDepth 100000 in
theorem mt_par : ∀ k, k < 128 → (parseMethodDescriptor (mt k).1.desc).map (fun d => d.parameters.length) = some (mtN.getD k 0) := by decide +kernel
set_option maxRecDepth 100000 in
theorem mt_mh : ∀ k, k < 128 → (mt k).1.cls ≠ "java/lang/invoke/MethodHandle" ∧ (mt k).1.cls ≠ "java/lang/invoke/VarHandle" := by decide +kernel
set_option maxRecDepth 100000 in
theorem mt_pf : ∀ k, k < 128 → plainFor (mt k).1 = true := by decide +kernel
def CKT : List (Nat × Nat × Int32) := [(12, 265, 1431655765), (12, 266, 858993459), (12, 267, 252645135), (12, 264, 65536)]
set_option maxRecDepth 100000 in
theorem CKok : ∀ w ∈ CKT.map (fun q => Cond.constant (ownS q.1) q.2.1 q.2.2), w ∈ tb := tb_of _ [1020, 1021, 1022, 1033] rfl (by decide +kernel)
def CJT : List (Nat × Nat × Int64) := [(9, 300, -100), (9, 302, 100), (10, 130, -100), (10, 132, 100)]
set_option maxRecDepth 100000 in
theorem CJok : ∀ w ∈ CJT.map (fun q => Cond.constantLong (ownS q.1) q.2.1 q.2.2), w ∈ tb := tb_of _ [239, 240, 907, 908] rfl (by decide +kernel)
set_option maxRecDepth 100000 in
theorem AOok : ∀ w ∈ [Cond.arrayOver (.object "WatchValley$Piece"), .arrayOver (.object "WatchValley$Lot"), .arrayOver (.object "WatchValley$Home"), .arrayOver (.object "WatchValley$Watch")], w ∈ lw_tbl := lw_of _ [66, 68, 70, 72] rfl
set_option maxRecDepth 100000 in
theorem ACok : ∀ w ∈ [Cond.arrayClass .int, .arrayClass .boolean, .arrayClass .long], w ∈ tb := tb_of _ [116, 891, 1074] rfl (by decide +kernel)
