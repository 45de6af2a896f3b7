section
-- ===== PART A: goes FIRST, ahead of the names: the tables' words, and 'selects' of the private methods out of them =====
/-- a private method of a class that the tables say can be made, by its rows of tables_1 -/
def lw_okq (q : MethodName × Nat) : Prop := (q.1.cls ≠ "java/lang/invoke/MethodHandle" ∧ q.1.cls ≠ "java/lang/invoke/VarHandle") ∧ Cond.instantiable q.1.cls q.2 ∈ tables_1 ∧ Cond.privateMethod q.1 ∈ tables_1 ∧ Cond.instanceMethod q.1 ∈ tables_1
theorem lw_p0 : lw_okq (⟨"UmbrellaStreet", "keptAt", "(I)LUmbrellaStreet$Walk;"⟩, 9) := ⟨⟨by decide +kernel, by decide +kernel⟩, List.mem_of_getElem? (i := 16) (by decide +kernel), List.mem_of_getElem? (i := 440) (by decide +kernel), List.mem_of_getElem? (i := 441) (by decide +kernel)⟩
theorem lw_p1 : lw_okq (⟨"UmbrellaStreetModel", "isRead", "()Z"⟩, 31) := ⟨⟨by decide +kernel, by decide +kernel⟩, List.mem_of_getElem? (i := 762) (by decide +kernel), List.mem_of_getElem? (i := 878) (by decide +kernel), List.mem_of_getElem? (i := 879) (by decide +kernel)⟩
theorem lw_p2 : lw_okq (⟨"UmbrellaStreetModel", "isLine", "(I)Z"⟩, 31) := ⟨⟨by decide +kernel, by decide +kernel⟩, List.mem_of_getElem? (i := 762) (by decide +kernel), List.mem_of_getElem? (i := 882) (by decide +kernel), List.mem_of_getElem? (i := 883) (by decide +kernel)⟩
theorem lw_p3 : lw_okq (⟨"UmbrellaStreetModel", "nextToken", "()V"⟩, 31) := ⟨⟨by decide +kernel, by decide +kernel⟩, List.mem_of_getElem? (i := 762) (by decide +kernel), List.mem_of_getElem? (i := 886) (by decide +kernel), List.mem_of_getElem? (i := 887) (by decide +kernel)⟩
theorem lw_p4 : lw_okq (⟨"UmbrellaStreetModel", "isStreet", "(I)Z"⟩, 31) := ⟨⟨by decide +kernel, by decide +kernel⟩, List.mem_of_getElem? (i := 762) (by decide +kernel), List.mem_of_getElem? (i := 901) (by decide +kernel), List.mem_of_getElem? (i := 902) (by decide +kernel)⟩
theorem lw_p5 : lw_okq (⟨"UmbrellaStreetModel", "isNumber", "(III)Z"⟩, 31) := ⟨⟨by decide +kernel, by decide +kernel⟩, List.mem_of_getElem? (i := 762) (by decide +kernel), List.mem_of_getElem? (i := 905) (by decide +kernel), List.mem_of_getElem? (i := 906) (by decide +kernel)⟩
theorem lw_p6 : lw_okq (⟨"UmbrellaStreetModel", "fails", "()Z"⟩, 31) := ⟨⟨by decide +kernel, by decide +kernel⟩, List.mem_of_getElem? (i := 762) (by decide +kernel), List.mem_of_getElem? (i := 909) (by decide +kernel), List.mem_of_getElem? (i := 910) (by decide +kernel)⟩
theorem lw_p7 : lw_okq (⟨"UmbrellaStreetModel", "isWalkerLine", "(I)Z"⟩, 31) := ⟨⟨by decide +kernel, by decide +kernel⟩, List.mem_of_getElem? (i := 762) (by decide +kernel), List.mem_of_getElem? (i := 913) (by decide +kernel), List.mem_of_getElem? (i := 914) (by decide +kernel)⟩
theorem lw_p8 : lw_okq (⟨"UmbrellaStreetModel", "isRain", "(I)Z"⟩, 31) := ⟨⟨by decide +kernel, by decide +kernel⟩, List.mem_of_getElem? (i := 762) (by decide +kernel), List.mem_of_getElem? (i := 917) (by decide +kernel), List.mem_of_getElem? (i := 918) (by decide +kernel)⟩
theorem lw_p9 : lw_okq (⟨"UmbrellaStreetModel", "doLine", "(I)V"⟩, 31) := ⟨⟨by decide +kernel, by decide +kernel⟩, List.mem_of_getElem? (i := 762) (by decide +kernel), List.mem_of_getElem? (i := 925) (by decide +kernel), List.mem_of_getElem? (i := 926) (by decide +kernel)⟩
theorem lw_p10 : lw_okq (⟨"UmbrellaStreetModel", "begin", "()V"⟩, 31) := ⟨⟨by decide +kernel, by decide +kernel⟩, List.mem_of_getElem? (i := 762) (by decide +kernel), List.mem_of_getElem? (i := 929) (by decide +kernel), List.mem_of_getElem? (i := 930) (by decide +kernel)⟩
theorem lw_p11 : lw_okq (⟨"UmbrellaStreetModel", "whoAt", "(I)I"⟩, 31) := ⟨⟨by decide +kernel, by decide +kernel⟩, List.mem_of_getElem? (i := 762) (by decide +kernel), List.mem_of_getElem? (i := 937) (by decide +kernel), List.mem_of_getElem? (i := 938) (by decide +kernel)⟩
theorem lw_p12 : lw_okq (⟨"UmbrellaStreetModel", "isWalker", "(I)Z"⟩, 31) := ⟨⟨by decide +kernel, by decide +kernel⟩, List.mem_of_getElem? (i := 762) (by decide +kernel), List.mem_of_getElem? (i := 948) (by decide +kernel), List.mem_of_getElem? (i := 949) (by decide +kernel)⟩
theorem lw_p13 : lw_okq (⟨"UmbrellaStreetModel", "sizesAsTold", "()V"⟩, 31) := ⟨⟨by decide +kernel, by decide +kernel⟩, List.mem_of_getElem? (i := 762) (by decide +kernel), List.mem_of_getElem? (i := 956) (by decide +kernel), List.mem_of_getElem? (i := 957) (by decide +kernel)⟩
theorem lw_p14 : lw_okq (⟨"UmbrellaStreetModel", "goTick", "()V"⟩, 31) := ⟨⟨by decide +kernel, by decide +kernel⟩, List.mem_of_getElem? (i := 762) (by decide +kernel), List.mem_of_getElem? (i := 960) (by decide +kernel), List.mem_of_getElem? (i := 961) (by decide +kernel)⟩
theorem lw_p15 : lw_okq (⟨"UmbrellaStreetModel", "isOn", "(I)Z"⟩, 31) := ⟨⟨by decide +kernel, by decide +kernel⟩, List.mem_of_getElem? (i := 762) (by decide +kernel), List.mem_of_getElem? (i := 964) (by decide +kernel), List.mem_of_getElem? (i := 965) (by decide +kernel)⟩
def lw_privs_1 : List (MethodName × Nat) := [(⟨"UmbrellaStreet", "keptAt", "(I)LUmbrellaStreet$Walk;"⟩, 9), (⟨"UmbrellaStreetModel", "isRead", "()Z"⟩, 31), (⟨"UmbrellaStreetModel", "isLine", "(I)Z"⟩, 31), (⟨"UmbrellaStreetModel", "nextToken", "()V"⟩, 31), (⟨"UmbrellaStreetModel", "isStreet", "(I)Z"⟩, 31), (⟨"UmbrellaStreetModel", "isNumber", "(III)Z"⟩, 31), (⟨"UmbrellaStreetModel", "fails", "()Z"⟩, 31), (⟨"UmbrellaStreetModel", "isWalkerLine", "(I)Z"⟩, 31), (⟨"UmbrellaStreetModel", "isRain", "(I)Z"⟩, 31), (⟨"UmbrellaStreetModel", "doLine", "(I)V"⟩, 31), (⟨"UmbrellaStreetModel", "begin", "()V"⟩, 31), (⟨"UmbrellaStreetModel", "whoAt", "(I)I"⟩, 31), (⟨"UmbrellaStreetModel", "isWalker", "(I)Z"⟩, 31), (⟨"UmbrellaStreetModel", "sizesAsTold", "()V"⟩, 31), (⟨"UmbrellaStreetModel", "goTick", "()V"⟩, 31), (⟨"UmbrellaStreetModel", "isOn", "(I)Z"⟩, 31)]
theorem lw_r1 : ∀ q ∈ lw_privs_1, lw_okq q := List.forall_mem_cons.mpr ⟨lw_p0, List.forall_mem_cons.mpr ⟨lw_p1, List.forall_mem_cons.mpr ⟨lw_p2, List.forall_mem_cons.mpr ⟨lw_p3, List.forall_mem_cons.mpr ⟨lw_p4, List.forall_mem_cons.mpr ⟨lw_p5, List.forall_mem_cons.mpr ⟨lw_p6, List.forall_mem_cons.mpr ⟨lw_p7, List.forall_mem_cons.mpr ⟨lw_p8, List.forall_mem_cons.mpr ⟨lw_p9, List.forall_mem_cons.mpr ⟨lw_p10, List.forall_mem_cons.mpr ⟨lw_p11, List.forall_mem_cons.mpr ⟨lw_p12, List.forall_mem_cons.mpr ⟨lw_p13, List.forall_mem_cons.mpr ⟨lw_p14, List.forall_mem_cons.mpr ⟨lw_p15, fun _ h => absurd h List.not_mem_nil⟩⟩⟩⟩⟩⟩⟩⟩⟩⟩⟩⟩⟩⟩⟩⟩
theorem lw_p16 : lw_okq (⟨"UmbrellaStreetModel", "goOne", "(I)V"⟩, 31) := ⟨⟨by decide +kernel, by decide +kernel⟩, List.mem_of_getElem? (i := 762) (by decide +kernel), List.mem_of_getElem? (i := 968) (by decide +kernel), List.mem_of_getElem? (i := 969) (by decide +kernel)⟩
theorem lw_p17 : lw_okq (⟨"UmbrellaStreetModel", "placeOf", "(I)I"⟩, 31) := ⟨⟨by decide +kernel, by decide +kernel⟩, List.mem_of_getElem? (i := 762) (by decide +kernel), List.mem_of_getElem? (i := 972) (by decide +kernel), List.mem_of_getElem? (i := 973) (by decide +kernel)⟩
theorem lw_p18 : lw_okq (⟨"UmbrellaStreetModel", "laneOf", "(I)I"⟩, 31) := ⟨⟨by decide +kernel, by decide +kernel⟩, List.mem_of_getElem? (i := 762) (by decide +kernel), List.mem_of_getElem? (i := 976) (by decide +kernel), List.mem_of_getElem? (i := 977) (by decide +kernel)⟩
theorem lw_p19 : lw_okq (⟨"UmbrellaStreetModel", "comeOne", "(I)V"⟩, 31) := ⟨⟨by decide +kernel, by decide +kernel⟩, List.mem_of_getElem? (i := 762) (by decide +kernel), List.mem_of_getElem? (i := 980) (by decide +kernel), List.mem_of_getElem? (i := 981) (by decide +kernel)⟩
theorem lw_p20 : lw_okq (⟨"UmbrellaStreetModel", "poke", "()V"⟩, 31) := ⟨⟨by decide +kernel, by decide +kernel⟩, List.mem_of_getElem? (i := 762) (by decide +kernel), List.mem_of_getElem? (i := 984) (by decide +kernel), List.mem_of_getElem? (i := 985) (by decide +kernel)⟩
theorem lw_p21 : lw_okq (⟨"UmbrellaStreetModel", "wetNow", "(I)I"⟩, 31) := ⟨⟨by decide +kernel, by decide +kernel⟩, List.mem_of_getElem? (i := 762) (by decide +kernel), List.mem_of_getElem? (i := 991) (by decide +kernel), List.mem_of_getElem? (i := 992) (by decide +kernel)⟩
theorem lw_p22 : lw_okq (⟨"UmbrellaStreetModel", "areThrough", "()Z"⟩, 31) := ⟨⟨by decide +kernel, by decide +kernel⟩, List.mem_of_getElem? (i := 762) (by decide +kernel), List.mem_of_getElem? (i := 1010) (by decide +kernel), List.mem_of_getElem? (i := 1011) (by decide +kernel)⟩
theorem lw_p23 : lw_okq (⟨"UmbrellaStreetModel", "takeSizes", "(I)Z"⟩, 31) := ⟨⟨by decide +kernel, by decide +kernel⟩, List.mem_of_getElem? (i := 762) (by decide +kernel), List.mem_of_getElem? (i := 1018) (by decide +kernel), List.mem_of_getElem? (i := 1019) (by decide +kernel)⟩
theorem lw_p24 : lw_okq (⟨"UmbrellaStreetModel", "goWhole", "(II)V"⟩, 31) := ⟨⟨by decide +kernel, by decide +kernel⟩, List.mem_of_getElem? (i := 762) (by decide +kernel), List.mem_of_getElem? (i := 1028) (by decide +kernel), List.mem_of_getElem? (i := 1029) (by decide +kernel)⟩
theorem lw_p25 : lw_okq (⟨"UmbrellaStreetModel", "layPaid", "(III)V"⟩, 31) := ⟨⟨by decide +kernel, by decide +kernel⟩, List.mem_of_getElem? (i := 762) (by decide +kernel), List.mem_of_getElem? (i := 1036) (by decide +kernel), List.mem_of_getElem? (i := 1037) (by decide +kernel)⟩
theorem lw_p26 : lw_okq (⟨"UmbrellaStreetModel", "doesRest", "(II)Z"⟩, 31) := ⟨⟨by decide +kernel, by decide +kernel⟩, List.mem_of_getElem? (i := 762) (by decide +kernel), List.mem_of_getElem? (i := 1046) (by decide +kernel), List.mem_of_getElem? (i := 1047) (by decide +kernel)⟩
theorem lw_p27 : lw_okq (⟨"UmbrellaStreetModel", "pour", "()V"⟩, 31) := ⟨⟨by decide +kernel, by decide +kernel⟩, List.mem_of_getElem? (i := 762) (by decide +kernel), List.mem_of_getElem? (i := 1066) (by decide +kernel), List.mem_of_getElem? (i := 1067) (by decide +kernel)⟩
theorem lw_p28 : lw_okq (⟨"UmbrellaStreetModel", "falls", "(III)V"⟩, 31) := ⟨⟨by decide +kernel, by decide +kernel⟩, List.mem_of_getElem? (i := 762) (by decide +kernel), List.mem_of_getElem? (i := 1070) (by decide +kernel), List.mem_of_getElem? (i := 1071) (by decide +kernel)⟩
theorem lw_p29 : lw_okq (⟨"UmbrellaStreetModel", "umbrellaAt", "(II)I"⟩, 31) := ⟨⟨by decide +kernel, by decide +kernel⟩, List.mem_of_getElem? (i := 762) (by decide +kernel), List.mem_of_getElem? (i := 1074) (by decide +kernel), List.mem_of_getElem? (i := 1075) (by decide +kernel)⟩
theorem lw_p30 : lw_okq (⟨"UmbrellaStreetModel", "isHigher", "(II)Z"⟩, 31) := ⟨⟨by decide +kernel, by decide +kernel⟩, List.mem_of_getElem? (i := 762) (by decide +kernel), List.mem_of_getElem? (i := 1078) (by decide +kernel), List.mem_of_getElem? (i := 1079) (by decide +kernel)⟩
theorem lw_p31 : lw_okq (⟨"UmbrellaStreetModel", "sold", "(II)I"⟩, 31) := ⟨⟨by decide +kernel, by decide +kernel⟩, List.mem_of_getElem? (i := 762) (by decide +kernel), List.mem_of_getElem? (i := 1134) (by decide +kernel), List.mem_of_getElem? (i := 1135) (by decide +kernel)⟩
def lw_privs_2 : List (MethodName × Nat) := [(⟨"UmbrellaStreetModel", "goOne", "(I)V"⟩, 31), (⟨"UmbrellaStreetModel", "placeOf", "(I)I"⟩, 31), (⟨"UmbrellaStreetModel", "laneOf", "(I)I"⟩, 31), (⟨"UmbrellaStreetModel", "comeOne", "(I)V"⟩, 31), (⟨"UmbrellaStreetModel", "poke", "()V"⟩, 31), (⟨"UmbrellaStreetModel", "wetNow", "(I)I"⟩, 31), (⟨"UmbrellaStreetModel", "areThrough", "()Z"⟩, 31), (⟨"UmbrellaStreetModel", "takeSizes", "(I)Z"⟩, 31), (⟨"UmbrellaStreetModel", "goWhole", "(II)V"⟩, 31), (⟨"UmbrellaStreetModel", "layPaid", "(III)V"⟩, 31), (⟨"UmbrellaStreetModel", "doesRest", "(II)Z"⟩, 31), (⟨"UmbrellaStreetModel", "pour", "()V"⟩, 31), (⟨"UmbrellaStreetModel", "falls", "(III)V"⟩, 31), (⟨"UmbrellaStreetModel", "umbrellaAt", "(II)I"⟩, 31), (⟨"UmbrellaStreetModel", "isHigher", "(II)Z"⟩, 31), (⟨"UmbrellaStreetModel", "sold", "(II)I"⟩, 31)]
theorem lw_r2 : ∀ q ∈ lw_privs_2, lw_okq q := List.forall_mem_cons.mpr ⟨lw_p16, List.forall_mem_cons.mpr ⟨lw_p17, List.forall_mem_cons.mpr ⟨lw_p18, List.forall_mem_cons.mpr ⟨lw_p19, List.forall_mem_cons.mpr ⟨lw_p20, List.forall_mem_cons.mpr ⟨lw_p21, List.forall_mem_cons.mpr ⟨lw_p22, List.forall_mem_cons.mpr ⟨lw_p23, List.forall_mem_cons.mpr ⟨lw_p24, List.forall_mem_cons.mpr ⟨lw_p25, List.forall_mem_cons.mpr ⟨lw_p26, List.forall_mem_cons.mpr ⟨lw_p27, List.forall_mem_cons.mpr ⟨lw_p28, List.forall_mem_cons.mpr ⟨lw_p29, List.forall_mem_cons.mpr ⟨lw_p30, List.forall_mem_cons.mpr ⟨lw_p31, fun _ h => absurd h List.not_mem_nil⟩⟩⟩⟩⟩⟩⟩⟩⟩⟩⟩⟩⟩⟩⟩⟩
theorem lw_p32 : lw_okq (⟨"UmbrellaStreetModel", "wetFrom", "(II)I"⟩, 31) := ⟨⟨by decide +kernel, by decide +kernel⟩, List.mem_of_getElem? (i := 762) (by decide +kernel), List.mem_of_getElem? (i := 1138) (by decide +kernel), List.mem_of_getElem? (i := 1139) (by decide +kernel)⟩
def lw_privs_3 : List (MethodName × Nat) := [(⟨"UmbrellaStreetModel", "wetFrom", "(II)I"⟩, 31)]
theorem lw_r3 : ∀ q ∈ lw_privs_3, lw_okq q := List.forall_mem_cons.mpr ⟨lw_p32, fun _ h => absurd h List.not_mem_nil⟩
def lw_privs : List (MethodName × Nat) := lw_privs_1 ++ (lw_privs_2 ++ (lw_privs_3))
def lw_tbl : List Cond := k2_sels lw_privs ++ tables_1
theorem lw_privs_ok : ∀ q ∈ lw_privs, lw_okq q := by
  show ∀ q ∈ lw_privs_1 ++ (lw_privs_2 ++ (lw_privs_3)), lw_okq q
  exact List.forall_mem_append.mpr ⟨lw_r1, List.forall_mem_append.mpr ⟨lw_r2, lw_r3⟩⟩
def R_law : String := "UmbrellaStreetLaw"
def RX0 : String := "UmbrellaStreet$Market"
def TX0 : u_T := fun k => match k with
  | 0 => ("UmbrellaStreet$Market", "worth", "[I", true)
  | 1 => ("UmbrellaStreet$Market", "bestPlace", "I", false)
  | 2 => ("UmbrellaStreet$Market", "bestPrice", "I", false)
  | _ => ("UmbrellaStreet$Market", "best", "I", false)
def tyX0 : Nat → FieldType := fun k => match k with
  | 0 => .array .int
  | 1 => .int
  | 2 => .int
  | _ => .int
theorem nmX0 : ∀ a, a < 4 → ∀ b, b < 4 → a ≠ b → (TX0 a).2.1 ≠ (TX0 b).2.1 := by decide +kernel
theorem tyX0_ok : ∀ k, k < 4 → parseFieldDescriptor (TX0 k).2.2.1 = some (tyX0 k) := by decide +kernel
abbrev cX0_init : ByteArray := prog_2_method_1_code
def yX0_init : MethodName := ⟨RX0, "<init>", "()V"⟩
abbrev cX0_watch : ByteArray := prog_2_method_2_code
def yX0_watch : MethodName := ⟨RX0, "watch", "(LUmbrellaStreet$Plan;LUmbrellaStreet$Walk;)V"⟩
abbrev cX0_noteFirst : ByteArray := prog_2_method_3_code
def yX0_noteFirst : MethodName := ⟨RX0, "noteFirst", "(LUmbrellaStreet$Plan;LUmbrellaStreet$Walk;)V"⟩
abbrev cX0_income : ByteArray := prog_2_method_4_code
def yX0_income : MethodName := ⟨RX0, "income", "(II)I"⟩
abbrev cX0_seekBest : ByteArray := prog_2_method_5_code
def yX0_seekBest : MethodName := ⟨RX0, "seekBest", "(I)V"⟩
def RX1 : String := "UmbrellaStreet$Plan"
def TX1 : u_T := fun k => match k with
  | 0 => ("UmbrellaStreet$Plan", "lanes", "I", false)
  | 1 => ("UmbrellaStreet$Plan", "places", "I", false)
  | 2 => ("UmbrellaStreet$Plan", "awning", "[Z", true)
  | 3 => ("UmbrellaStreet$Plan", "told", "[Z", true)
  | 4 => ("UmbrellaStreet$Plan", "lane", "[I", true)
  | 5 => ("UmbrellaStreet$Plan", "way", "[I", true)
  | 6 => ("UmbrellaStreet$Plan", "start", "[I", true)
  | 7 => ("UmbrellaStreet$Plan", "height", "[I", true)
  | 8 => ("UmbrellaStreet$Plan", "size", "[I", true)
  | 9 => ("UmbrellaStreet$Plan", "rule", "[I", true)
  | _ => ("UmbrellaStreet$Plan", "rain", "[I", true)
def tyX1 : Nat → FieldType := fun k => match k with
  | 0 => .int
  | 1 => .int
  | 2 => .array .boolean
  | 3 => .array .boolean
  | 4 => .array .int
  | 5 => .array .int
  | 6 => .array .int
  | 7 => .array .int
  | 8 => .array .int
  | 9 => .array .int
  | _ => .array .int
theorem nmX1 : ∀ a, a < 11 → ∀ b, b < 11 → a ≠ b → (TX1 a).2.1 ≠ (TX1 b).2.1 := by decide +kernel
theorem tyX1_ok : ∀ k, k < 11 → parseFieldDescriptor (TX1 k).2.2.1 = some (tyX1 k) := by decide +kernel
abbrev cX1_init : ByteArray := prog_3_method_1_code
def yX1_init : MethodName := ⟨RX1, "<init>", "()V"⟩
abbrev cX1_copyFrom : ByteArray := prog_3_method_2_code
def yX1_copyFrom : MethodName := ⟨RX1, "copyFrom", "(LUmbrellaStreet$Plan;)V"⟩
abbrev cX1_lay : ByteArray := prog_3_method_3_code
def yX1_lay : MethodName := ⟨RX1, "lay", "(II)V"⟩
abbrev cX1_cover : ByteArray := prog_3_method_4_code
def yX1_cover : MethodName := ⟨RX1, "cover", "(I)V"⟩
abbrev cX1_welcome : ByteArray := prog_3_method_5_code
def yX1_welcome : MethodName := ⟨RX1, "welcome", "([I)V"⟩
abbrev cX1_forget : ByteArray := prog_3_method_6_code
def yX1_forget : MethodName := ⟨RX1, "forget", "(I)V"⟩
abbrev cX1_pour : ByteArray := prog_3_method_7_code
def yX1_pour : MethodName := ⟨RX1, "pour", "(III)V"⟩
abbrev cX1_hasCell : ByteArray := prog_3_method_8_code
def yX1_hasCell : MethodName := ⟨RX1, "hasCell", "(I)Z"⟩
abbrev cX1_isDry : ByteArray := prog_3_method_9_code
def yX1_isDry : MethodName := ⟨RX1, "isDry", "(I)Z"⟩
abbrev cX1_hasWalker : ByteArray := prog_3_method_10_code
def yX1_hasWalker : MethodName := ⟨RX1, "hasWalker", "(I)Z"⟩
abbrev cX1_walkers : ByteArray := prog_3_method_11_code
def yX1_walkers : MethodName := ⟨RX1, "walkers", "()I"⟩
abbrev cX1_rainOf : ByteArray := prog_3_method_12_code
def yX1_rainOf : MethodName := ⟨RX1, "rainOf", "(I)I"⟩
def RX2 : String := "UmbrellaStreet$Row"
def TX2 : u_T := fun k => match k with
  | 0 => ("UmbrellaStreet$Row", "people", "I", false)
  | 1 => ("UmbrellaStreet$Row", "place", "[I", true)
  | 2 => ("UmbrellaStreet$Row", "size", "[I", true)
  | 3 => ("UmbrellaStreet$Row", "height", "[I", true)
  | 4 => ("UmbrellaStreet$Row", "load", "[I", true)
  | _ => ("UmbrellaStreet$Row", "ground", "[I", true)
def tyX2 : Nat → FieldType := fun k => match k with
  | 0 => .int
  | 1 => .array .int
  | 2 => .array .int
  | 3 => .array .int
  | 4 => .array .int
  | _ => .array .int
theorem nmX2 : ∀ a, a < 6 → ∀ b, b < 6 → a ≠ b → (TX2 a).2.1 ≠ (TX2 b).2.1 := by decide +kernel
theorem tyX2_ok : ∀ k, k < 6 → parseFieldDescriptor (TX2 k).2.2.1 = some (tyX2 k) := by decide +kernel
abbrev cX2_init : ByteArray := prog_4_method_1_code
def yX2_init : MethodName := ⟨RX2, "<init>", "()V"⟩
abbrev cX2_isTaken : ByteArray := prog_4_method_2_code
def yX2_isTaken : MethodName := ⟨RX2, "isTaken", "(I)Z"⟩
abbrev cX2_add : ByteArray := prog_4_method_3_code
def yX2_add : MethodName := ⟨RX2, "add", "(III)Z"⟩
abbrev cX2_letItRain : ByteArray := prog_4_method_4_code
def yX2_letItRain : MethodName := ⟨RX2, "letItRain", "()V"⟩
abbrev cX2_runOff : ByteArray := prog_4_method_5_code
def yX2_runOff : MethodName := ⟨RX2, "runOff", "(I)V"⟩
abbrev cX2_drop : ByteArray := prog_4_method_6_code
def yX2_drop : MethodName := ⟨RX2, "drop", "(III)V"⟩
abbrev cX2_highestBelow : ByteArray := prog_4_method_7_code
def yX2_highestBelow : MethodName := ⟨RX2, "highestBelow", "(I)I"⟩
abbrev cX2_isOver : ByteArray := prog_4_method_8_code
def yX2_isOver : MethodName := ⟨RX2, "isOver", "(II)Z"⟩
abbrev cX2_isLower : ByteArray := prog_4_method_9_code
def yX2_isLower : MethodName := ⟨RX2, "isLower", "(II)Z"⟩
abbrev cX2_reaching : ByteArray := prog_4_method_10_code
def yX2_reaching : MethodName := ⟨RX2, "reaching", "(I)I"⟩
abbrev cX2_driestFree : ByteArray := prog_4_method_11_code
def yX2_driestFree : MethodName := ⟨RX2, "driestFree", "()I"⟩
def RX3 : String := "UmbrellaStreet$Text"
def TX3 : u_T := fun k => match k with
  | 0 => ("UmbrellaStreet$Text", "bytes", "[I", true)
  | 1 => ("UmbrellaStreet$Text", "numbers", "[I", true)
  | 2 => ("UmbrellaStreet$Text", "length", "I", false)
  | 3 => ("UmbrellaStreet$Text", "lines", "I", false)
  | 4 => ("UmbrellaStreet$Text", "from", "I", false)
  | 5 => ("UmbrellaStreet$Text", "to", "I", false)
  | _ => ("UmbrellaStreet$Text", "kind", "I", false)
def tyX3 : Nat → FieldType := fun k => match k with
  | 0 => .array .int
  | 1 => .array .int
  | 2 => .int
  | 3 => .int
  | 4 => .int
  | 5 => .int
  | _ => .int
theorem nmX3 : ∀ a, a < 7 → ∀ b, b < 7 → a ≠ b → (TX3 a).2.1 ≠ (TX3 b).2.1 := by decide +kernel
theorem tyX3_ok : ∀ k, k < 7 → parseFieldDescriptor (TX3 k).2.2.1 = some (tyX3 k) := by decide +kernel
abbrev cX3_init : ByteArray := prog_5_method_1_code
def yX3_init : MethodName := ⟨RX3, "<init>", "()V"⟩
abbrev cX3_append : ByteArray := prog_5_method_2_code
def yX3_append : MethodName := ⟨RX3, "append", "(JI)Z"⟩
abbrev cX3_empty : ByteArray := prog_5_method_3_code
def yX3_empty : MethodName := ⟨RX3, "empty", "()I"⟩
abbrev cX3_readInto : ByteArray := prog_5_method_4_code
def yX3_readInto : MethodName := ⟨RX3, "readInto", "(LUmbrellaStreet$Plan;)I"⟩
abbrev cX3_readLine : ByteArray := prog_5_method_5_code
def yX3_readLine : MethodName := ⟨RX3, "readLine", "(LUmbrellaStreet$Plan;)Z"⟩
abbrev cX3_readStreet : ByteArray := prog_5_method_6_code
def yX3_readStreet : MethodName := ⟨RX3, "readStreet", "(LUmbrellaStreet$Plan;)Z"⟩
abbrev cX3_readAwning : ByteArray := prog_5_method_7_code
def yX3_readAwning : MethodName := ⟨RX3, "readAwning", "(LUmbrellaStreet$Plan;)Z"⟩
abbrev cX3_readWalker : ByteArray := prog_5_method_8_code
def yX3_readWalker : MethodName := ⟨RX3, "readWalker", "(LUmbrellaStreet$Plan;)Z"⟩
abbrev cX3_readGone : ByteArray := prog_5_method_9_code
def yX3_readGone : MethodName := ⟨RX3, "readGone", "(LUmbrellaStreet$Plan;)Z"⟩
abbrev cX3_readRain : ByteArray := prog_5_method_10_code
def yX3_readRain : MethodName := ⟨RX3, "readRain", "(LUmbrellaStreet$Plan;)Z"⟩
abbrev cX3_reads : ByteArray := prog_5_method_11_code
def yX3_reads : MethodName := ⟨RX3, "reads", "(III)Z"⟩
abbrev cX3_isWord : ByteArray := prog_5_method_12_code
def yX3_isWord : MethodName := ⟨RX3, "isWord", "(Ljava/lang/String;)Z"⟩
abbrev cX3_readToken : ByteArray := prog_5_method_13_code
def yX3_readToken : MethodName := ⟨RX3, "readToken", "()V"⟩
abbrev cX3_byteAt : ByteArray := prog_5_method_14_code
def yX3_byteAt : MethodName := ⟨RX3, "byteAt", "(I)I"⟩
abbrev cX3_kindOf : ByteArray := prog_5_method_15_code
def yX3_kindOf : MethodName := ⟨RX3, "kindOf", "(I)I"⟩
def RX4 : String := "UmbrellaStreet$Trial"
def TX4 : u_T := fun k => match k with
  | 0 => ("UmbrellaStreet$Trial", "plan", "LUmbrellaStreet$Plan;", true)
  | 1 => ("UmbrellaStreet$Trial", "walk", "LUmbrellaStreet$Walk;", true)
  | 2 => ("UmbrellaStreet$Trial", "paid", "[I", true)
  | 3 => ("UmbrellaStreet$Trial", "rests", "I", false)
  | 4 => ("UmbrellaStreet$Trial", "firstRest", "I", false)
  | 5 => ("UmbrellaStreet$Trial", "common", "I", false)
  | _ => ("UmbrellaStreet$Trial", "commonPaid", "I", false)
def tyX4 : Nat → FieldType := fun k => match k with
  | 0 => .object "UmbrellaStreet$Plan"
  | 1 => .object "UmbrellaStreet$Walk"
  | 2 => .array .int
  | 3 => .int
  | 4 => .int
  | 5 => .int
  | _ => .int
theorem nmX4 : ∀ a, a < 7 → ∀ b, b < 7 → a ≠ b → (TX4 a).2.1 ≠ (TX4 b).2.1 := by decide +kernel
theorem tyX4_ok : ∀ k, k < 7 → parseFieldDescriptor (TX4 k).2.2.1 = some (tyX4 k) := by decide +kernel
abbrev cX4_init : ByteArray := prog_6_method_1_code
def yX4_init : MethodName := ⟨RX4, "<init>", "()V"⟩
abbrev cX4_walkWith : ByteArray := prog_6_method_2_code
def yX4_walkWith : MethodName := ⟨RX4, "walkWith", "(LUmbrellaStreet$Plan;I)V"⟩
abbrev cX4_paidBy : ByteArray := prog_6_method_3_code
def yX4_paidBy : MethodName := ⟨RX4, "paidBy", "(III)I"⟩
abbrev cX4_seekRests : ByteArray := prog_6_method_4_code
def yX4_seekRests : MethodName := ⟨RX4, "seekRests", "(LUmbrellaStreet$Plan;II)V"⟩
abbrev cX4_sizesOf : ByteArray := prog_6_method_5_code
def yX4_sizesOf : MethodName := ⟨RX4, "sizesOf", "(II)I"⟩
abbrev cX4_notePaid : ByteArray := prog_6_method_6_code
def yX4_notePaid : MethodName := ⟨RX4, "notePaid", "(III)V"⟩
abbrev cX4_isRest : ByteArray := prog_6_method_7_code
def yX4_isRest : MethodName := ⟨RX4, "isRest", "(II)Z"⟩
abbrev cX4_paidIn : ByteArray := prog_6_method_8_code
def yX4_paidIn : MethodName := ⟨RX4, "paidIn", "(II)I"⟩
abbrev cX4_seekCommon : ByteArray := prog_6_method_9_code
def yX4_seekCommon : MethodName := ⟨RX4, "seekCommon", "(LUmbrellaStreet$Plan;II)V"⟩
def RX5 : String := "UmbrellaStreet$Walk"
def TX5 : u_T := fun k => match k with
  | 0 => ("UmbrellaStreet$Walk", "isKept", "Z", false)
  | 1 => ("UmbrellaStreet$Walk", "ticks", "I", false)
  | 2 => ("UmbrellaStreet$Walk", "pairPokes", "I", false)
  | 3 => ("UmbrellaStreet$Walk", "cell", "[I", true)
  | 4 => ("UmbrellaStreet$Walk", "through", "[Z", true)
  | 5 => ("UmbrellaStreet$Walk", "wet", "[I", true)
  | 6 => ("UmbrellaStreet$Walk", "pokes", "[I", true)
  | _ => ("UmbrellaStreet$Walk", "waited", "[I", true)
def tyX5 : Nat → FieldType := fun k => match k with
  | 0 => .boolean
  | 1 => .int
  | 2 => .int
  | 3 => .array .int
  | 4 => .array .boolean
  | 5 => .array .int
  | 6 => .array .int
  | _ => .array .int
theorem nmX5 : ∀ a, a < 8 → ∀ b, b < 8 → a ≠ b → (TX5 a).2.1 ≠ (TX5 b).2.1 := by decide +kernel
theorem tyX5_ok : ∀ k, k < 8 → parseFieldDescriptor (TX5 k).2.2.1 = some (tyX5 k) := by decide +kernel
abbrev cX5_init : ByteArray := prog_7_method_1_code
def yX5_init : MethodName := ⟨RX5, "<init>", "()V"⟩
abbrev cX5_clear : ByteArray := prog_7_method_2_code
def yX5_clear : MethodName := ⟨RX5, "clear", "()V"⟩
abbrev cX5_copyFrom : ByteArray := prog_7_method_3_code
def yX5_copyFrom : MethodName := ⟨RX5, "copyFrom", "(LUmbrellaStreet$Walk;)V"⟩
abbrev cX5_whoIsAt : ByteArray := prog_7_method_4_code
def yX5_whoIsAt : MethodName := ⟨RX5, "whoIsAt", "(I)I"⟩
abbrev cX5_onStreet : ByteArray := prog_7_method_5_code
def yX5_onStreet : MethodName := ⟨RX5, "onStreet", "()I"⟩
abbrev cX5_isOver : ByteArray := prog_7_method_6_code
def yX5_isOver : MethodName := ⟨RX5, "isOver", "(LUmbrellaStreet$Plan;)Z"⟩
abbrev cX5_tick : ByteArray := prog_7_method_7_code
def yX5_tick : MethodName := ⟨RX5, "tick", "(LUmbrellaStreet$Plan;)V"⟩
abbrev cX5_isOn : ByteArray := prog_7_method_8_code
def yX5_isOn : MethodName := ⟨RX5, "isOn", "(I)Z"⟩
abbrev cX5_move : ByteArray := prog_7_method_9_code
def yX5_move : MethodName := ⟨RX5, "move", "(LUmbrellaStreet$Plan;I)V"⟩
abbrev cX5_laneBeside : ByteArray := prog_7_method_10_code
def yX5_laneBeside : MethodName := ⟨RX5, "laneBeside", "(LUmbrellaStreet$Plan;II)I"⟩
abbrev cX5_come : ByteArray := prog_7_method_11_code
def yX5_come : MethodName := ⟨RX5, "come", "(LUmbrellaStreet$Plan;I)V"⟩
abbrev cX5_poke : ByteArray := prog_7_method_12_code
def yX5_poke : MethodName := ⟨RX5, "poke", "(LUmbrellaStreet$Plan;)V"⟩
abbrev cX5_isPoking : ByteArray := prog_7_method_13_code
def yX5_isPoking : MethodName := ⟨RX5, "isPoking", "(LUmbrellaStreet$Plan;II)Z"⟩
abbrev cX5_placesApart : ByteArray := prog_7_method_14_code
def yX5_placesApart : MethodName := ⟨RX5, "placesApart", "(II)I"⟩
abbrev cX5_lanesApart : ByteArray := prog_7_method_15_code
def yX5_lanesApart : MethodName := ⟨RX5, "lanesApart", "(II)I"⟩
abbrev cX5_rain : ByteArray := prog_7_method_16_code
def yX5_rain : MethodName := ⟨RX5, "rain", "(LUmbrellaStreet$Plan;)V"⟩
abbrev cX5_amountOnBare : ByteArray := prog_7_method_17_code
def yX5_amountOnBare : MethodName := ⟨RX5, "amountOnBare", "(LUmbrellaStreet$Plan;II)I"⟩
def RX6 : String := "UmbrellaStreet"
def TX6 : u_T := fun k => match k with
  | 0 => ("UmbrellaStreet", "plan", "LUmbrellaStreet$Plan;", true)
  | 1 => ("UmbrellaStreet", "draft", "LUmbrellaStreet$Plan;", true)
  | 2 => ("UmbrellaStreet", "text", "LUmbrellaStreet$Text;", true)
  | 3 => ("UmbrellaStreet", "walk", "LUmbrellaStreet$Walk;", true)
  | 4 => ("UmbrellaStreet", "other", "LUmbrellaStreet$Walk;", true)
  | 5 => ("UmbrellaStreet", "keptWalks", "[LUmbrellaStreet$Walk;", true)
  | 6 => ("UmbrellaStreet", "trial", "LUmbrellaStreet$Trial;", true)
  | 7 => ("UmbrellaStreet", "row", "LUmbrellaStreet$Row;", true)
  | _ => ("UmbrellaStreet", "market", "LUmbrellaStreet$Market;", true)
def tyX6 : Nat → FieldType := fun k => match k with
  | 0 => .object "UmbrellaStreet$Plan"
  | 1 => .object "UmbrellaStreet$Plan"
  | 2 => .object "UmbrellaStreet$Text"
  | 3 => .object "UmbrellaStreet$Walk"
  | 4 => .object "UmbrellaStreet$Walk"
  | 5 => .array (.object "UmbrellaStreet$Walk")
  | 6 => .object "UmbrellaStreet$Trial"
  | 7 => .object "UmbrellaStreet$Row"
  | _ => .object "UmbrellaStreet$Market"
theorem nmX6 : ∀ a, a < 9 → ∀ b, b < 9 → a ≠ b → (TX6 a).2.1 ≠ (TX6 b).2.1 := by decide +kernel
theorem tyX6_ok : ∀ k, k < 9 → parseFieldDescriptor (TX6 k).2.2.1 = some (tyX6 k) := by decide +kernel
abbrev cX6_init : ByteArray := prog_1_method_1_code
def yX6_init : MethodName := ⟨RX6, "<init>", "()V"⟩
abbrev cX6_write : ByteArray := prog_1_method_2_code
def yX6_write : MethodName := ⟨RX6, "write", "(JI)I"⟩
abbrev cX6_erase : ByteArray := prog_1_method_3_code
def yX6_erase : MethodName := ⟨RX6, "erase", "()I"⟩
abbrev cX6_fault : ByteArray := prog_1_method_4_code
def yX6_fault : MethodName := ⟨RX6, "fault", "()I"⟩
abbrev cX6_shower : ByteArray := prog_1_method_5_code
def yX6_shower : MethodName := ⟨RX6, "shower", "()I"⟩
abbrev cX6_cell : ByteArray := prog_1_method_6_code
def yX6_cell : MethodName := ⟨RX6, "cell", "(II)I"⟩
abbrev cX6_walker : ByteArray := prog_1_method_7_code
def yX6_walker : MethodName := ⟨RX6, "walker", "(II)I"⟩
abbrev cX6_go : ByteArray := prog_1_method_8_code
def yX6_go : MethodName := ⟨RX6, "go", "(I)I"⟩
abbrev cX6_keep : ByteArray := prog_1_method_9_code
def yX6_keep : MethodName := ⟨RX6, "keep", "(I)I"⟩
abbrev cX6_back : ByteArray := prog_1_method_10_code
def yX6_back : MethodName := ⟨RX6, "back", "(I)I"⟩
abbrev cX6_keptAt : ByteArray := prog_1_method_11_code
def yX6_keptAt : MethodName := ⟨RX6, "keptAt", "(I)LUmbrellaStreet$Walk;"⟩
abbrev cX6_done : ByteArray := prog_1_method_12_code
def yX6_done : MethodName := ⟨RX6, "done", "()I"⟩
abbrev cX6_pays : ByteArray := prog_1_method_13_code
def yX6_pays : MethodName := ⟨RX6, "pays", "(IIII)I"⟩
abbrev cX6_rests : ByteArray := prog_1_method_14_code
def yX6_rests : MethodName := ⟨RX6, "rests", "(III)I"⟩
abbrev cX6_common : ByteArray := prog_1_method_15_code
def yX6_common : MethodName := ⟨RX6, "common", "(III)I"⟩
abbrev cX6_areSizes : ByteArray := prog_1_method_16_code
def yX6_areSizes : MethodName := ⟨RX6, "areSizes", "(II)Z"⟩
abbrev cX6_areNotCosts : ByteArray := prog_1_method_17_code
def yX6_areNotCosts : MethodName := ⟨RX6, "areNotCosts", "(II)Z"⟩
abbrev cX6_stand : ByteArray := prog_1_method_18_code
def yX6_stand : MethodName := ⟨RX6, "stand", "(III)I"⟩
abbrev cX6_bus : ByteArray := prog_1_method_19_code
def yX6_bus : MethodName := ⟨RX6, "bus", "()I"⟩
abbrev cX6_wet : ByteArray := prog_1_method_20_code
def yX6_wet : MethodName := ⟨RX6, "wet", "(I)I"⟩
abbrev cX6_driest : ByteArray := prog_1_method_21_code
def yX6_driest : MethodName := ⟨RX6, "driest", "(I)I"⟩
abbrev cX6_two : ByteArray := prog_1_method_22_code
def yX6_two : MethodName := ⟨RX6, "two", "(IIIII)I"⟩
abbrev cX6_fair : ByteArray := prog_1_method_23_code
def yX6_fair : MethodName := ⟨RX6, "fair", "(III)I"⟩
abbrev cX6_areNotWidths : ByteArray := prog_1_method_24_code
def yX6_areNotWidths : MethodName := ⟨RX6, "areNotWidths", "(III)Z"⟩
abbrev cX6_bareOfLeft : ByteArray := prog_1_method_25_code
def yX6_bareOfLeft : MethodName := ⟨RX6, "bareOfLeft", "(III)I"⟩
abbrev cX6_bareOfRight : ByteArray := prog_1_method_26_code
def yX6_bareOfRight : MethodName := ⟨RX6, "bareOfRight", "(III)I"⟩
abbrev cX6_shared : ByteArray := prog_1_method_27_code
def yX6_shared : MethodName := ⟨RX6, "shared", "(IIII)I"⟩
abbrev cX6_greaterPart : ByteArray := prog_1_method_28_code
def yX6_greaterPart : MethodName := ⟨RX6, "greaterPart", "(IIII)I"⟩
abbrev cX6_run : ByteArray := prog_1_method_29_code
def yX6_run : MethodName := ⟨RX6, "run", "(IIIIII)I"⟩
abbrev cX6_pace : ByteArray := prog_1_method_30_code
def yX6_pace : MethodName := ⟨RX6, "pace", "(IIII)I"⟩
abbrev cX6_areNotRunners : ByteArray := prog_1_method_31_code
def yX6_areNotRunners : MethodName := ⟨RX6, "areNotRunners", "(IIII)Z"⟩
abbrev cX6_wetPerWay : ByteArray := prog_1_method_32_code
def yX6_wetPerWay : MethodName := ⟨RX6, "wetPerWay", "(IIIII)I"⟩
abbrev cX6_bestPace : ByteArray := prog_1_method_33_code
def yX6_bestPace : MethodName := ⟨RX6, "bestPace", "(IIII)I"⟩
abbrev cX6_door : ByteArray := prog_1_method_34_code
def yX6_door : MethodName := ⟨RX6, "door", "(IIIII)J"⟩
abbrev cX6_left : ByteArray := prog_1_method_35_code
def yX6_left : MethodName := ⟨RX6, "left", "(IIIII)J"⟩
abbrev cX6_power : ByteArray := prog_1_method_36_code
def yX6_power : MethodName := ⟨RX6, "power", "(JI)J"⟩
abbrev cX6_seller : ByteArray := prog_1_method_37_code
def yX6_seller : MethodName := ⟨RX6, "seller", "(II)I"⟩
abbrev cX6_where : ByteArray := prog_1_method_38_code
def yX6_where : MethodName := ⟨RX6, "where", "(I)I"⟩
abbrev cX6_count : ByteArray := prog_1_method_39_code
def yX6_count : MethodName := ⟨RX6, "count", "(I)I"⟩
abbrev cX6_isNotIn : ByteArray := prog_1_method_40_code
def yX6_isNotIn : MethodName := ⟨RX6, "isNotIn", "(III)Z"⟩
abbrev cX6_lowest : ByteArray := prog_1_method_41_code
def yX6_lowest : MethodName := ⟨RX6, "lowest", "(JJI)J"⟩
abbrev cX6_commonDivisor : ByteArray := prog_1_method_42_code
def yX6_commonDivisor : MethodName := ⟨RX6, "commonDivisor", "(JJ)J"⟩
def RX7 : String := "UmbrellaStreetModel"
def TX7 : u_T := fun k => match k with
  | 0 => ("UmbrellaStreetModel", "lanes", "I", false)
  | 1 => ("UmbrellaStreetModel", "places", "I", false)
  | 2 => ("UmbrellaStreetModel", "awnings", "J", false)
  | 3 => ("UmbrellaStreetModel", "told", "I", false)
  | 4 => ("UmbrellaStreetModel", "walker", "[I", true)
  | 5 => ("UmbrellaStreetModel", "rain", "[I", true)
  | 6 => ("UmbrellaStreetModel", "bytes", "I", false)
  | 7 => ("UmbrellaStreetModel", "text", "[I", true)
  | 8 => ("UmbrellaStreetModel", "position", "I", false)
  | 9 => ("UmbrellaStreetModel", "tokenAt", "I", false)
  | 10 => ("UmbrellaStreetModel", "token", "J", false)
  | 11 => ("UmbrellaStreetModel", "digits", "I", false)
  | 12 => ("UmbrellaStreetModel", "number", "I", false)
  | 13 => ("UmbrellaStreetModel", "faultAt", "I", false)
  | 14 => ("UmbrellaStreetModel", "readMany", "I", false)
  | 15 => ("UmbrellaStreetModel", "read", "[I", true)
  | 16 => ("UmbrellaStreetModel", "readLanes", "I", false)
  | 17 => ("UmbrellaStreetModel", "readPlaces", "I", false)
  | 18 => ("UmbrellaStreetModel", "now", "[I", true)
  | 19 => ("UmbrellaStreetModel", "aside", "[I", true)
  | 20 => ("UmbrellaStreetModel", "image", "[I", true)
  | 21 => ("UmbrellaStreetModel", "isKept", "[Z", true)
  | 22 => ("UmbrellaStreetModel", "sizes", "[I", true)
  | 23 => ("UmbrellaStreetModel", "wetIn", "[I", true)
  | 24 => ("UmbrellaStreetModel", "firstAt", "[I", true)
  | 25 => ("UmbrellaStreetModel", "people", "I", false)
  | 26 => ("UmbrellaStreetModel", "person", "[I", true)
  | 27 => ("UmbrellaStreetModel", "onto", "[I", true)
  | 28 => ("UmbrellaStreetModel", "ground", "[I", true)
  | 29 => ("UmbrellaStreetModel", "pays", "[I", true)
  | _ => ("UmbrellaStreetModel", "paid", "[I", true)
def tyX7 : Nat → FieldType := fun k => match k with
  | 0 => .int
  | 1 => .int
  | 2 => .long
  | 3 => .int
  | 4 => .array .int
  | 5 => .array .int
  | 6 => .int
  | 7 => .array .int
  | 8 => .int
  | 9 => .int
  | 10 => .long
  | 11 => .int
  | 12 => .int
  | 13 => .int
  | 14 => .int
  | 15 => .array .int
  | 16 => .int
  | 17 => .int
  | 18 => .array .int
  | 19 => .array .int
  | 20 => .array .int
  | 21 => .array .boolean
  | 22 => .array .int
  | 23 => .array .int
  | 24 => .array .int
  | 25 => .int
  | 26 => .array .int
  | 27 => .array .int
  | 28 => .array .int
  | 29 => .array .int
  | _ => .array .int
theorem nmX7 : ∀ a, a < 31 → ∀ b, b < 31 → a ≠ b → (TX7 a).2.1 ≠ (TX7 b).2.1 := by decide +kernel
theorem tyX7_ok : ∀ k, k < 31 → parseFieldDescriptor (TX7 k).2.2.1 = some (tyX7 k) := by decide +kernel
abbrev cX7_init : ByteArray := prog_9_method_1_code
def yX7_init : MethodName := ⟨RX7, "<init>", "()V"⟩
abbrev cX7_in : ByteArray := prog_9_method_2_code
def yX7_in : MethodName := ⟨RX7, "in", "(III)Z"⟩
abbrev cX7_has : ByteArray := prog_9_method_3_code
def yX7_has : MethodName := ⟨RX7, "has", "(II)Z"⟩
abbrev cX7_bits : ByteArray := prog_9_method_4_code
def yX7_bits : MethodName := ⟨RX7, "bits", "(I)I"⟩
abbrev cX7_off : ByteArray := prog_9_method_5_code
def yX7_off : MethodName := ⟨RX7, "off", "(II)I"⟩
abbrev cX7_isWalker : ByteArray := prog_9_method_6_code
def yX7_isWalker : MethodName := ⟨RX7, "isWalker", "(I)Z"⟩
abbrev cX7_write : ByteArray := prog_9_method_7_code
def yX7_write : MethodName := ⟨RX7, "write", "(JI)I"⟩
abbrev cX7_erase : ByteArray := prog_9_method_8_code
def yX7_erase : MethodName := ⟨RX7, "erase", "()I"⟩
abbrev cX7_nextToken : ByteArray := prog_9_method_9_code
def yX7_nextToken : MethodName := ⟨RX7, "nextToken", "()V"⟩
abbrev cX7_fails : ByteArray := prog_9_method_10_code
def yX7_fails : MethodName := ⟨RX7, "fails", "()Z"⟩
abbrev cX7_isNumber : ByteArray := prog_9_method_11_code
def yX7_isNumber : MethodName := ⟨RX7, "isNumber", "(III)Z"⟩
abbrev cX7_isStreet : ByteArray := prog_9_method_12_code
def yX7_isStreet : MethodName := ⟨RX7, "isStreet", "(I)Z"⟩
abbrev cX7_isWalkerLine : ByteArray := prog_9_method_13_code
def yX7_isWalkerLine : MethodName := ⟨RX7, "isWalkerLine", "(I)Z"⟩
abbrev cX7_isRain : ByteArray := prog_9_method_14_code
def yX7_isRain : MethodName := ⟨RX7, "isRain", "(I)Z"⟩
abbrev cX7_isLine : ByteArray := prog_9_method_15_code
def yX7_isLine : MethodName := ⟨RX7, "isLine", "(I)Z"⟩
abbrev cX7_isRead : ByteArray := prog_9_method_16_code
def yX7_isRead : MethodName := ⟨RX7, "isRead", "()Z"⟩
abbrev cX7_fault : ByteArray := prog_9_method_17_code
def yX7_fault : MethodName := ⟨RX7, "fault", "()I"⟩
abbrev cX7_doLine : ByteArray := prog_9_method_18_code
def yX7_doLine : MethodName := ⟨RX7, "doLine", "(I)V"⟩
abbrev cX7_begin : ByteArray := prog_9_method_19_code
def yX7_begin : MethodName := ⟨RX7, "begin", "()V"⟩
abbrev cX7_shower : ByteArray := prog_9_method_20_code
def yX7_shower : MethodName := ⟨RX7, "shower", "()I"⟩
abbrev cX7_whoAt : ByteArray := prog_9_method_21_code
def yX7_whoAt : MethodName := ⟨RX7, "whoAt", "(I)I"⟩
abbrev cX7_cell : ByteArray := prog_9_method_22_code
def yX7_cell : MethodName := ⟨RX7, "cell", "(II)I"⟩
abbrev cX7_walker : ByteArray := prog_9_method_23_code
def yX7_walker : MethodName := ⟨RX7, "walker", "(II)I"⟩
abbrev cX7_sizesAsTold : ByteArray := prog_9_method_24_code
def yX7_sizesAsTold : MethodName := ⟨RX7, "sizesAsTold", "()V"⟩
abbrev cX7_isOn : ByteArray := prog_9_method_25_code
def yX7_isOn : MethodName := ⟨RX7, "isOn", "(I)Z"⟩
abbrev cX7_placeOf : ByteArray := prog_9_method_26_code
def yX7_placeOf : MethodName := ⟨RX7, "placeOf", "(I)I"⟩
abbrev cX7_laneOf : ByteArray := prog_9_method_27_code
def yX7_laneOf : MethodName := ⟨RX7, "laneOf", "(I)I"⟩
abbrev cX7_goOne : ByteArray := prog_9_method_28_code
def yX7_goOne : MethodName := ⟨RX7, "goOne", "(I)V"⟩
abbrev cX7_comeOne : ByteArray := prog_9_method_29_code
def yX7_comeOne : MethodName := ⟨RX7, "comeOne", "(I)V"⟩
abbrev cX7_poke : ByteArray := prog_9_method_30_code
def yX7_poke : MethodName := ⟨RX7, "poke", "()V"⟩
abbrev cX7_wetNow : ByteArray := prog_9_method_31_code
def yX7_wetNow : MethodName := ⟨RX7, "wetNow", "(I)I"⟩
abbrev cX7_goTick : ByteArray := prog_9_method_32_code
def yX7_goTick : MethodName := ⟨RX7, "goTick", "()V"⟩
abbrev cX7_go : ByteArray := prog_9_method_33_code
def yX7_go : MethodName := ⟨RX7, "go", "(I)I"⟩
abbrev cX7_copy : ByteArray := prog_9_method_34_code
def yX7_copy : MethodName := ⟨RX7, "copy", "([II[II)V"⟩
abbrev cX7_keep : ByteArray := prog_9_method_35_code
def yX7_keep : MethodName := ⟨RX7, "keep", "(I)I"⟩
abbrev cX7_back : ByteArray := prog_9_method_36_code
def yX7_back : MethodName := ⟨RX7, "back", "(I)I"⟩
abbrev cX7_areThrough : ByteArray := prog_9_method_37_code
def yX7_areThrough : MethodName := ⟨RX7, "areThrough", "()Z"⟩
abbrev cX7_done : ByteArray := prog_9_method_38_code
def yX7_done : MethodName := ⟨RX7, "done", "()I"⟩
abbrev cX7_goWhole : ByteArray := prog_9_method_39_code
def yX7_goWhole : MethodName := ⟨RX7, "goWhole", "(II)V"⟩
abbrev cX7_takeSizes : ByteArray := prog_9_method_40_code
def yX7_takeSizes : MethodName := ⟨RX7, "takeSizes", "(I)Z"⟩
abbrev cX7_arePrices : ByteArray := prog_9_method_41_code
def yX7_arePrices : MethodName := ⟨RX7, "arePrices", "(II)Z"⟩
abbrev cX7_pays : ByteArray := prog_9_method_42_code
def yX7_pays : MethodName := ⟨RX7, "pays", "(IIII)I"⟩
abbrev cX7_power : ByteArray := prog_9_method_43_code
def yX7_power : MethodName := ⟨RX7, "power", "(I)I"⟩
abbrev cX7_figure : ByteArray := prog_9_method_44_code
def yX7_figure : MethodName := ⟨RX7, "figure", "(III)I"⟩
abbrev cX7_layPaid : ByteArray := prog_9_method_45_code
def yX7_layPaid : MethodName := ⟨RX7, "layPaid", "(III)V"⟩
abbrev cX7_doesRest : ByteArray := prog_9_method_46_code
def yX7_doesRest : MethodName := ⟨RX7, "doesRest", "(II)Z"⟩
abbrev cX7_rests : ByteArray := prog_9_method_47_code
def yX7_rests : MethodName := ⟨RX7, "rests", "(III)I"⟩
abbrev cX7_common : ByteArray := prog_9_method_48_code
def yX7_common : MethodName := ⟨RX7, "common", "(III)I"⟩
abbrev cX7_stand : ByteArray := prog_9_method_49_code
def yX7_stand : MethodName := ⟨RX7, "stand", "(III)I"⟩
abbrev cX7_bus : ByteArray := prog_9_method_50_code
def yX7_bus : MethodName := ⟨RX7, "bus", "()I"⟩
abbrev cX7_isHigher : ByteArray := prog_9_method_51_code
def yX7_isHigher : MethodName := ⟨RX7, "isHigher", "(II)Z"⟩
abbrev cX7_umbrellaAt : ByteArray := prog_9_method_52_code
def yX7_umbrellaAt : MethodName := ⟨RX7, "umbrellaAt", "(II)I"⟩
abbrev cX7_falls : ByteArray := prog_9_method_53_code
def yX7_falls : MethodName := ⟨RX7, "falls", "(III)V"⟩
abbrev cX7_pour : ByteArray := prog_9_method_54_code
def yX7_pour : MethodName := ⟨RX7, "pour", "()V"⟩
abbrev cX7_wet : ByteArray := prog_9_method_55_code
def yX7_wet : MethodName := ⟨RX7, "wet", "(I)I"⟩
abbrev cX7_driest : ByteArray := prog_9_method_56_code
def yX7_driest : MethodName := ⟨RX7, "driest", "(I)I"⟩
abbrev cX7_under : ByteArray := prog_9_method_57_code
def yX7_under : MethodName := ⟨RX7, "under", "(IIII)I"⟩
abbrev cX7_areWide : ByteArray := prog_9_method_58_code
def yX7_areWide : MethodName := ⟨RX7, "areWide", "(III)Z"⟩
abbrev cX7_two : ByteArray := prog_9_method_59_code
def yX7_two : MethodName := ⟨RX7, "two", "(IIIII)I"⟩
abbrev cX7_fair : ByteArray := prog_9_method_60_code
def yX7_fair : MethodName := ⟨RX7, "fair", "(III)I"⟩
abbrev cX7_gcd : ByteArray := prog_9_method_61_code
def yX7_gcd : MethodName := ⟨RX7, "gcd", "(JJ)J"⟩
abbrev cX7_isRun : ByteArray := prog_9_method_62_code
def yX7_isRun : MethodName := ⟨RX7, "isRun", "(IIII)Z"⟩
abbrev cX7_runOf : ByteArray := prog_9_method_63_code
def yX7_runOf : MethodName := ⟨RX7, "runOf", "(IIIII)I"⟩
abbrev cX7_bestPace : ByteArray := prog_9_method_64_code
def yX7_bestPace : MethodName := ⟨RX7, "bestPace", "(IIII)I"⟩
abbrev cX7_run : ByteArray := prog_9_method_65_code
def yX7_run : MethodName := ⟨RX7, "run", "(IIIIII)I"⟩
abbrev cX7_pace : ByteArray := prog_9_method_66_code
def yX7_pace : MethodName := ⟨RX7, "pace", "(IIII)I"⟩
abbrev cX7_door : ByteArray := prog_9_method_67_code
def yX7_door : MethodName := ⟨RX7, "door", "(IIIII)J"⟩
abbrev cX7_left : ByteArray := prog_9_method_68_code
def yX7_left : MethodName := ⟨RX7, "left", "(IIIII)J"⟩
abbrev cX7_wetFrom : ByteArray := prog_9_method_69_code
def yX7_wetFrom : MethodName := ⟨RX7, "wetFrom", "(II)I"⟩
abbrev cX7_sold : ByteArray := prog_9_method_70_code
def yX7_sold : MethodName := ⟨RX7, "sold", "(II)I"⟩
abbrev cX7_seller : ByteArray := prog_9_method_71_code
def yX7_seller : MethodName := ⟨RX7, "seller", "(II)I"⟩
abbrev cX7_where : ByteArray := prog_9_method_72_code
def yX7_where : MethodName := ⟨RX7, "where", "(I)I"⟩
abbrev cX7_count : ByteArray := prog_9_method_73_code
def yX7_count : MethodName := ⟨RX7, "count", "(I)I"⟩
def RJ9 : String := "java/lang/Math"
abbrev cJ9_abs_0f7a4 : ByteArray := prog_10_method_59_code
def yJ9_abs_0f7a4 : MethodName := ⟨RJ9, "abs", "(I)I"⟩
abbrev cJ9_max_7cf53 : ByteArray := prog_10_method_65_code
def yJ9_max_7cf53 : MethodName := ⟨RJ9, "max", "(II)I"⟩
abbrev cJ9_min_7cf53 : ByteArray := prog_10_method_69_code
def yJ9_min_7cf53 : MethodName := ⟨RJ9, "min", "(II)I"⟩
def RJ0 : String := "java/lang/String"
abbrev cJ0_length_8abf5 : ByteArray := prog_11_method_54_code
def yJ0_length_8abf5 : MethodName := ⟨RJ0, "length", "()I"⟩
abbrev cJ0_charAt_5068e : ByteArray := prog_11_method_56_code
def yJ0_charAt_5068e : MethodName := ⟨RJ0, "charAt", "(I)C"⟩
abbrev cJ0_coder_7d493 : ByteArray := prog_11_method_152_code
def yJ0_coder_7d493 : MethodName := ⟨RJ0, "coder", "()B"⟩
abbrev cJ0_isLatin1_aae02 : ByteArray := prog_11_method_154_code
def yJ0_isLatin1_aae02 : MethodName := ⟨RJ0, "isLatin1", "()Z"⟩
abbrev cJ0_checkIndex_df160 : ByteArray := prog_11_method_155_code
def yJ0_checkIndex_df160 : MethodName := ⟨RJ0, "checkIndex", "(II)V"⟩
def RJ1 : String := "java/lang/StringLatin1"
abbrev cJ1_charAt_3b067 : ByteArray := prog_12_method_2_code
def yJ1_charAt_3b067 : MethodName := ⟨RJ1, "charAt", "([BI)C"⟩
def RJ7 : String := "java/util/Arrays"
abbrev cJ7_fill_53178 : ByteArray := prog_14_method_103_code
def yJ7_fill_53178 : MethodName := ⟨RJ7, "fill", "([II)V"⟩
def RJ3 : String := "jdk/internal/util/Preconditions"
abbrev cJ3_checkIndex_8e157 : ByteArray := prog_15_method_11_code
def yJ3_checkIndex_8e157 : MethodName := ⟨RJ3, "checkIndex", "(IILjava/util/function/BiFunction;)I"⟩
abbrev MD : Type := MethodName × ByteArray × Nat × Option FieldType × Nat × Nat
def m_Mk_watch : MD := (yX0_watch, cX0_watch, 4, none, 5, 113)
def m_Mk_noteFirst : MD := (yX0_noteFirst, cX0_noteFirst, 5, none, 1, 21)
def m_Mk_income : MD := (yX0_income, cX0_income, 6, (some .int), 0, 0)
def m_Mk_seekBest : MD := (yX0_seekBest, cX0_seekBest, 4, none, 1, 25)
def m_Pl_copyFrom : MD := (yX1_copyFrom, cX1_copyFrom, 3, none, 0, 0)
def m_Pl_lay : MD := (yX1_lay, cX1_lay, 4, none, 0, 0)
def m_Pl_cover : MD := (yX1_cover, cX1_cover, 2, none, 1, 21)
def m_Pl_welcome : MD := (yX1_welcome, cX1_welcome, 3, none, 0, 0)
def m_Pl_forget : MD := (yX1_forget, cX1_forget, 2, none, 1, 21)
def m_Pl_pour : MD := (yX1_pour, cX1_pour, 5, none, 1, 21)
def m_Pl_hasCell : MD := (yX1_hasCell, cX1_hasCell, 2, (some .boolean), 0, 0)
def m_Pl_isDry : MD := (yX1_isDry, cX1_isDry, 2, (some .boolean), 1, 21)
def m_Pl_hasWalker : MD := (yX1_hasWalker, cX1_hasWalker, 2, (some .boolean), 0, 0)
def m_Pl_walkers : MD := (yX1_walkers, cX1_walkers, 3, (some .int), 0, 0)
def m_Pl_rainOf : MD := (yX1_rainOf, cX1_rainOf, 2, (some .int), 0, 0)
def m_Ro_isTaken : MD := (yX2_isTaken, cX2_isTaken, 3, (some .boolean), 0, 0)
def m_Ro_add : MD := (yX2_add, cX2_add, 4, (some .boolean), 0, 0)
def m_Ro_letItRain : MD := (yX2_letItRain, cX2_letItRain, 3, none, 4, 89)
def m_Ro_runOff : MD := (yX2_runOff, cX2_runOff, 3, none, 3, 67)
def m_Ro_drop : MD := (yX2_drop, cX2_drop, 6, none, 2, 42)
def m_Ro_highestBelow : MD := (yX2_highestBelow, cX2_highestBelow, 4, (some .int), 1, 22)
def m_Ro_isOver : MD := (yX2_isOver, cX2_isOver, 3, (some .boolean), 1, 20)
def m_Ro_isLower : MD := (yX2_isLower, cX2_isLower, 3, (some .boolean), 0, 0)
def m_Ro_reaching : MD := (yX2_reaching, cX2_reaching, 2, (some .int), 0, 0)
def m_Ro_driestFree : MD := (yX2_driestFree, cX2_driestFree, 3, (some .int), 1, 22)
def m_Tx_append : MD := (yX3_append, cX3_append, 5, (some .boolean), 0, 0)
def m_Tx_empty : MD := (yX3_empty, cX3_empty, 2, (some .int), 0, 0)
def m_Tx_readInto : MD := (yX3_readInto, cX3_readInto, 3, (some .int), 6, 128)
def m_Tx_readLine : MD := (yX3_readLine, cX3_readLine, 2, (some .boolean), 5, 107)
def m_Tx_readStreet : MD := (yX3_readStreet, cX3_readStreet, 2, (some .boolean), 3, 66)
def m_Tx_readAwning : MD := (yX3_readAwning, cX3_readAwning, 2, (some .boolean), 3, 66)
def m_Tx_readWalker : MD := (yX3_readWalker, cX3_readWalker, 2, (some .boolean), 3, 66)
def m_Tx_readGone : MD := (yX3_readGone, cX3_readGone, 2, (some .boolean), 3, 66)
def m_Tx_readRain : MD := (yX3_readRain, cX3_readRain, 2, (some .boolean), 3, 66)
def m_Tx_reads : MD := (yX3_reads, cX3_reads, 6, (some .boolean), 2, 41)
def m_Tx_isWord : MD := (yX3_isWord, cX3_isWord, 3, (some .boolean), 4, 85)
def m_Tx_readToken : MD := (yX3_readToken, cX3_readToken, 1, none, 1, 21)
def m_Tx_byteAt : MD := (yX3_byteAt, cX3_byteAt, 2, (some .int), 0, 0)
def m_Tx_kindOf : MD := (yX3_kindOf, cX3_kindOf, 1, (some .int), 0, 0)
def m_Tr_walkWith : MD := (yX4_walkWith, cX4_walkWith, 5, none, 5, 113)
def m_Tr_paidBy : MD := (yX4_paidBy, cX4_paidBy, 4, (some .int), 0, 0)
def m_Tr_seekRests : MD := (yX4_seekRests, cX4_seekRests, 7, none, 6, 137)
def m_Tr_sizesOf : MD := (yX4_sizesOf, cX4_sizesOf, 5, (some .int), 0, 0)
def m_Tr_notePaid : MD := (yX4_notePaid, cX4_notePaid, 6, none, 1, 23)
def m_Tr_isRest : MD := (yX4_isRest, cX4_isRest, 8, (some .boolean), 1, 23)
def m_Tr_paidIn : MD := (yX4_paidIn, cX4_paidIn, 4, (some .int), 0, 0)
def m_Tr_seekCommon : MD := (yX4_seekCommon, cX4_seekCommon, 7, none, 6, 137)
def m_Wk_clear : MD := (yX5_clear, cX5_clear, 2, none, 0, 0)
def m_Wk_copyFrom : MD := (yX5_copyFrom, cX5_copyFrom, 3, none, 0, 0)
def m_Wk_whoIsAt : MD := (yX5_whoIsAt, cX5_whoIsAt, 3, (some .int), 0, 0)
def m_Wk_onStreet : MD := (yX5_onStreet, cX5_onStreet, 3, (some .int), 1, 21)
def m_Wk_isOver : MD := (yX5_isOver, cX5_isOver, 3, (some .boolean), 0, 0)
def m_Wk_tick : MD := (yX5_tick, cX5_tick, 3, none, 4, 91)
def m_Wk_isOn : MD := (yX5_isOn, cX5_isOn, 2, (some .boolean), 0, 0)
def m_Wk_move : MD := (yX5_move, cX5_move, 7, none, 1, 25)
def m_Wk_laneBeside : MD := (yX5_laneBeside, cX5_laneBeside, 6, (some .int), 0, 0)
def m_Wk_come : MD := (yX5_come, cX5_come, 5, none, 1, 22)
def m_Wk_poke : MD := (yX5_poke, cX5_poke, 4, none, 3, 65)
def m_Wk_isPoking : MD := (yX5_isPoking, cX5_isPoking, 4, (some .boolean), 2, 42)
def m_Wk_placesApart : MD := (yX5_placesApart, cX5_placesApart, 3, (some .int), 1, 20)
def m_Wk_lanesApart : MD := (yX5_lanesApart, cX5_lanesApart, 3, (some .int), 1, 20)
def m_Wk_rain : MD := (yX5_rain, cX5_rain, 5, none, 3, 67)
def m_Wk_amountOnBare : MD := (yX5_amountOnBare, cX5_amountOnBare, 6, (some .int), 2, 42)
def m_Us_write : MD := (yX6_write, cX6_write, 4, (some .int), 1, 24)
def m_Us_erase : MD := (yX6_erase, cX6_erase, 1, (some .int), 1, 21)
def m_Us_fault : MD := (yX6_fault, cX6_fault, 1, (some .int), 7, 150)
def m_Us_shower : MD := (yX6_shower, cX6_shower, 3, (some .int), 7, 150)
def m_Us_cell : MD := (yX6_cell, cX6_cell, 3, (some .int), 2, 42)
def m_Us_walker : MD := (yX6_walker, cX6_walker, 3, (some .int), 1, 21)
def m_Us_go : MD := (yX6_go, cX6_go, 3, (some .int), 5, 113)
def m_Us_keep : MD := (yX6_keep, cX6_keep, 3, (some .int), 1, 22)
def m_Us_back : MD := (yX6_back, cX6_back, 3, (some .int), 1, 22)
def m_Us_keptAt : MD := (yX6_keptAt, cX6_keptAt, 2, (some (.object "UmbrellaStreet$Walk")), 0, 0)
def m_Us_done : MD := (yX6_done, cX6_done, 2, (some .int), 5, 113)
def m_Us_pays : MD := (yX6_pays, cX6_pays, 5, (some .int), 6, 137)
def m_Us_rests : MD := (yX6_rests, cX6_rests, 4, (some .int), 7, 163)
def m_Us_common : MD := (yX6_common, cX6_common, 4, (some .int), 7, 163)
def m_Us_areSizes : MD := (yX6_areSizes, cX6_areSizes, 3, (some .boolean), 0, 0)
def m_Us_areNotCosts : MD := (yX6_areNotCosts, cX6_areNotCosts, 2, (some .boolean), 1, 22)
def m_Us_stand : MD := (yX6_stand, cX6_stand, 4, (some .int), 1, 23)
def m_Us_bus : MD := (yX6_bus, cX6_bus, 2, (some .int), 0, 0)
def m_Us_wet : MD := (yX6_wet, cX6_wet, 2, (some .int), 5, 111)
def m_Us_driest : MD := (yX6_driest, cX6_driest, 3, (some .int), 5, 111)
def m_Us_two : MD := (yX6_two, cX6_two, 6, (some .int), 3, 66)
def m_Us_fair : MD := (yX6_fair, cX6_fair, 6, (some .int), 4, 89)
def m_Us_areNotWidths : MD := (yX6_areNotWidths, cX6_areNotWidths, 3, (some .boolean), 1, 22)
def m_Us_bareOfLeft : MD := (yX6_bareOfLeft, cX6_bareOfLeft, 3, (some .int), 2, 44)
def m_Us_bareOfRight : MD := (yX6_bareOfRight, cX6_bareOfRight, 3, (some .int), 2, 44)
def m_Us_shared : MD := (yX6_shared, cX6_shared, 4, (some .int), 1, 21)
def m_Us_greaterPart : MD := (yX6_greaterPart, cX6_greaterPart, 4, (some .int), 3, 66)
def m_Us_run : MD := (yX6_run, cX6_run, 8, (some .int), 3, 70)
def m_Us_pace : MD := (yX6_pace, cX6_pace, 5, (some .int), 3, 70)
def m_Us_areNotRunners : MD := (yX6_areNotRunners, cX6_areNotRunners, 4, (some .boolean), 1, 22)
def m_Us_wetPerWay : MD := (yX6_wetPerWay, cX6_wetPerWay, 5, (some .int), 1, 20)
def m_Us_bestPace : MD := (yX6_bestPace, cX6_bestPace, 7, (some .int), 2, 44)
def m_Us_door : MD := (yX6_door, cX6_door, 15, (some .long), 2, 56)
def m_Us_left : MD := (yX6_left, cX6_left, 12, (some .long), 2, 56)
def m_Us_power : MD := (yX6_power, cX6_power, 6, (some .long), 0, 0)
def m_Us_seller : MD := (yX6_seller, cX6_seller, 3, (some .int), 6, 136)
def m_Us_where : MD := (yX6_where, cX6_where, 2, (some .int), 6, 136)
def m_Us_count : MD := (yX6_count, cX6_count, 2, (some .int), 2, 43)
def m_Us_isNotIn : MD := (yX6_isNotIn, cX6_isNotIn, 3, (some .boolean), 0, 0)
def m_Us_lowest : MD := (yX6_lowest, cX6_lowest, 7, (some .long), 1, 30)
def m_Us_commonDivisor : MD := (yX6_commonDivisor, cX6_commonDivisor, 11, (some .long), 0, 0)
def m_Rf_in : MD := (yX7_in, cX7_in, 3, (some .boolean), 0, 0)
def m_Rf_has : MD := (yX7_has, cX7_has, 2, (some .boolean), 0, 0)
def m_Rf_bits : MD := (yX7_bits, cX7_bits, 3, (some .int), 0, 0)
def m_Rf_off : MD := (yX7_off, cX7_off, 2, (some .int), 0, 0)
def m_Rf_isWalker : MD := (yX7_isWalker, cX7_isWalker, 2, (some .boolean), 1, 22)
def m_Rf_write : MD := (yX7_write, cX7_write, 5, (some .int), 1, 22)
def m_Rf_erase : MD := (yX7_erase, cX7_erase, 2, (some .int), 0, 0)
def m_Rf_nextToken : MD := (yX7_nextToken, cX7_nextToken, 1, none, 1, 22)
def m_Rf_fails : MD := (yX7_fails, cX7_fails, 1, (some .boolean), 0, 0)
def m_Rf_isNumber : MD := (yX7_isNumber, cX7_isNumber, 4, (some .boolean), 2, 42)
def m_Rf_isStreet : MD := (yX7_isStreet, cX7_isStreet, 2, (some .boolean), 3, 65)
def m_Rf_isWalkerLine : MD := (yX7_isWalkerLine, cX7_isWalkerLine, 2, (some .boolean), 3, 65)
def m_Rf_isRain : MD := (yX7_isRain, cX7_isRain, 2, (some .boolean), 3, 65)
def m_Rf_isLine : MD := (yX7_isLine, cX7_isLine, 2, (some .boolean), 4, 86)
def m_Rf_isRead : MD := (yX7_isRead, cX7_isRead, 2, (some .boolean), 5, 107)
def m_Rf_fault : MD := (yX7_fault, cX7_fault, 1, (some .int), 6, 128)
def m_Rf_doLine : MD := (yX7_doLine, cX7_doLine, 4, none, 0, 0)
def m_Rf_begin : MD := (yX7_begin, cX7_begin, 2, none, 0, 0)
def m_Rf_shower : MD := (yX7_shower, cX7_shower, 2, (some .int), 6, 128)
def m_Rf_whoAt : MD := (yX7_whoAt, cX7_whoAt, 3, (some .int), 1, 21)
def m_Rf_cell : MD := (yX7_cell, cX7_cell, 3, (some .int), 2, 43)
def m_Rf_walker : MD := (yX7_walker, cX7_walker, 3, (some .int), 2, 43)
def m_Rf_sizesAsTold : MD := (yX7_sizesAsTold, cX7_sizesAsTold, 2, none, 0, 0)
def m_Rf_isOn : MD := (yX7_isOn, cX7_isOn, 2, (some .boolean), 1, 21)
def m_Rf_placeOf : MD := (yX7_placeOf, cX7_placeOf, 2, (some .int), 0, 0)
def m_Rf_laneOf : MD := (yX7_laneOf, cX7_laneOf, 2, (some .int), 0, 0)
def m_Rf_goOne : MD := (yX7_goOne, cX7_goOne, 6, none, 2, 43)
def m_Rf_comeOne : MD := (yX7_comeOne, cX7_comeOne, 3, none, 2, 43)
def m_Rf_poke : MD := (yX7_poke, cX7_poke, 4, none, 2, 42)
def m_Rf_wetNow : MD := (yX7_wetNow, cX7_wetNow, 7, (some .int), 2, 42)
def m_Rf_goTick : MD := (yX7_goTick, cX7_goTick, 4, none, 3, 68)
def m_Rf_go : MD := (yX7_go, cX7_go, 3, (some .int), 4, 91)
def m_Rf_copy : MD := (yX7_copy, cX7_copy, 5, none, 0, 0)
def m_Rf_keep : MD := (yX7_keep, cX7_keep, 2, (some .int), 1, 24)
def m_Rf_back : MD := (yX7_back, cX7_back, 2, (some .int), 1, 24)
def m_Rf_areThrough : MD := (yX7_areThrough, cX7_areThrough, 3, (some .boolean), 1, 21)
def m_Rf_done : MD := (yX7_done, cX7_done, 2, (some .int), 4, 91)
def m_Rf_goWhole : MD := (yX7_goWhole, cX7_goWhole, 4, none, 4, 91)
def m_Rf_takeSizes : MD := (yX7_takeSizes, cX7_takeSizes, 5, (some .boolean), 1, 21)
def m_Rf_arePrices : MD := (yX7_arePrices, cX7_arePrices, 2, (some .boolean), 1, 22)
def m_Rf_pays : MD := (yX7_pays, cX7_pays, 5, (some .int), 5, 114)
def m_Rf_power : MD := (yX7_power, cX7_power, 1, (some .int), 0, 0)
def m_Rf_figure : MD := (yX7_figure, cX7_figure, 3, (some .int), 1, 20)
def m_Rf_layPaid : MD := (yX7_layPaid, cX7_layPaid, 7, none, 5, 114)
def m_Rf_doesRest : MD := (yX7_doesRest, cX7_doesRest, 7, (some .boolean), 2, 42)
def m_Rf_rests : MD := (yX7_rests, cX7_rests, 9, (some .int), 6, 140)
def m_Rf_common : MD := (yX7_common, cX7_common, 9, (some .int), 5, 114)
def m_Rf_stand : MD := (yX7_stand, cX7_stand, 5, (some .int), 1, 22)
def m_Rf_bus : MD := (yX7_bus, cX7_bus, 2, (some .int), 0, 0)
def m_Rf_isHigher : MD := (yX7_isHigher, cX7_isHigher, 3, (some .boolean), 0, 0)
def m_Rf_umbrellaAt : MD := (yX7_umbrellaAt, cX7_umbrellaAt, 6, (some .int), 1, 22)
def m_Rf_falls : MD := (yX7_falls, cX7_falls, 5, none, 2, 47)
def m_Rf_pour : MD := (yX7_pour, cX7_pour, 5, none, 3, 71)
def m_Rf_wet : MD := (yX7_wet, cX7_wet, 2, (some .int), 4, 95)
def m_Rf_driest : MD := (yX7_driest, cX7_driest, 6, (some .int), 4, 95)
def m_Rf_under : MD := (yX7_under, cX7_under, 6, (some .int), 0, 0)
def m_Rf_areWide : MD := (yX7_areWide, cX7_areWide, 3, (some .boolean), 1, 22)
def m_Rf_two : MD := (yX7_two, cX7_two, 6, (some .int), 2, 44)
def m_Rf_fair : MD := (yX7_fair, cX7_fair, 12, (some .int), 2, 44)
def m_Rf_gcd : MD := (yX7_gcd, cX7_gcd, 10, (some .long), 0, 0)
def m_Rf_isRun : MD := (yX7_isRun, cX7_isRun, 4, (some .boolean), 1, 22)
def m_Rf_runOf : MD := (yX7_runOf, cX7_runOf, 5, (some .int), 1, 21)
def m_Rf_bestPace : MD := (yX7_bestPace, cX7_bestPace, 6, (some .int), 2, 45)
def m_Rf_run : MD := (yX7_run, cX7_run, 9, (some .int), 3, 70)
def m_Rf_pace : MD := (yX7_pace, cX7_pace, 5, (some .int), 3, 70)
def m_Rf_door : MD := (yX7_door, cX7_door, 15, (some .long), 1, 29)
def m_Rf_left : MD := (yX7_left, cX7_left, 16, (some .long), 1, 29)
def m_Rf_wetFrom : MD := (yX7_wetFrom, cX7_wetFrom, 6, (some .int), 1, 21)
def m_Rf_sold : MD := (yX7_sold, cX7_sold, 5, (some .int), 2, 46)
def m_Rf_seller : MD := (yX7_seller, cX7_seller, 3, (some .int), 5, 114)
def m_Rf_where : MD := (yX7_where, cX7_where, 8, (some .int), 5, 114)
def m_Rf_count : MD := (yX7_count, cX7_count, 4, (some .int), 2, 42)
def m_Ma_abs : MD := (yJ9_abs_0f7a4, cJ9_abs_0f7a4, 1, (some .int), 0, 0)
def m_Ma_max : MD := (yJ9_max_7cf53, cJ9_max_7cf53, 2, (some .int), 0, 0)
def m_Ma_min : MD := (yJ9_min_7cf53, cJ9_min_7cf53, 2, (some .int), 0, 0)
def m_St_length : MD := (yJ0_length_8abf5, cJ0_length_8abf5, 1, (some .int), 1, 20)
def m_St_charAt : MD := (yJ0_charAt_5068e, cJ0_charAt_5068e, 2, (some .char), 3, 64)
def m_St_coder : MD := (yJ0_coder_7d493, cJ0_coder_7d493, 1, (some .byte), 0, 0)
def m_St_isLatin1 : MD := (yJ0_isLatin1_aae02, cJ0_isLatin1_aae02, 1, (some .boolean), 0, 0)
def m_St_checkIndex : MD := (yJ0_checkIndex_df160, cJ0_checkIndex_df160, 2, none, 1, 22)
def m_SL_charAt : MD := (yJ1_charAt_3b067, cJ1_charAt_3b067, 2, (some .char), 2, 43)
def m_Ar_fill : MD := (yJ7_fill_53178, cJ7_fill_53178, 4, none, 0, 0)
def m_Pc_checkIndex : MD := (yJ3_checkIndex_8e157, cJ3_checkIndex_8e157, 3, (some .int), 0, 0)
def m_Lw_law : MD := (x, code, 4, ret, 8, 186)
def wsG : List Cond := lw_tbl.filter goodWord
theorem wsG_of {w : Cond} {i : Nat} (h : lw_tbl[i]? = some w) (g : goodWord w = true) : w ∈ wsG := List.mem_filter.mpr ⟨List.mem_of_getElem? h, g⟩
end
section
/-- what the tables say of a method, whoever calls it -/
def MCode (z : MD) (n : Nat) : Prop := Cond.code z.1 z.2.1 z.2.2.1 z.2.2.2.1 ∈ wsG ∧ Cond.initialized z.1.cls ∈ wsG ∧ (z.1.cls ≠ "java/lang/invoke/MethodHandle" ∧ z.1.cls ≠ "java/lang/invoke/VarHandle" ∧ (parseMethodDescriptor z.1.desc).map (fun d => d.parameters.length) = some n)
def MInst (z : MD) (n : Nat) : Prop := MCode z n ∧ Cond.instanceMethod z.1 ∈ wsG ∧ Cond.selects z.1.cls z.1 z.1 ∈ wsG
def MStat (z : MD) (n : Nat) : Prop := MCode z n ∧ Cond.static z.1 ∈ wsG
def MFits (y z : MD) : Prop := z.2.2.2.2.1 + 1 ≤ y.2.2.2.2.1 ∧ 8 + (z.2.2.1 + 11) + z.2.2.2.2.2 ≤ y.2.2.2.2.2
def MLink (y : MD) (idx : Nat) (z : MD) : Prop := Cond.methodLink y.1.cls idx z.1 ∈ wsG ∧ MFits y z
theorem inG (ws : List Cond) (is : List Nat) (h : ws = is.filterMap (fun i => lw_tbl[i]?)) (g : ws.all goodWord = true) : ∀ w ∈ ws, w ∈ wsG := by
  intro w hw
  have hg := List.all_eq_true.mp g w hw
  rw [h] at hw
  obtain ⟨i, -, hi⟩ := List.mem_filterMap.mp hw
  exact wsG_of hi hg
theorem iwX0 : ∀ w ∈ u_ws RX0 TX0 4, w ∈ wsG := inG _ [266, 268, 270, 272] (by decide +kernel) (by decide +kernel)
theorem iwX1 : ∀ w ∈ u_ws RX1 TX1 11, w ∈ wsG := inG _ [89, 91, 93, 95, 97, 99, 101, 103, 105, 107, 109] (by decide +kernel) (by decide +kernel)
theorem iwX2 : ∀ w ∈ u_ws RX2 TX2 6, w ∈ wsG := inG _ [240, 242, 244, 246, 248, 250] (by decide +kernel) (by decide +kernel)
theorem iwX3 : ∀ w ∈ u_ws RX3 TX3 7, w ∈ wsG := inG _ [129, 131, 133, 135, 137, 139, 141] (by decide +kernel) (by decide +kernel)
theorem iwX4 : ∀ w ∈ u_ws RX4 TX4 7, w ∈ wsG := inG _ [211, 213, 215, 217, 219, 221, 223] (by decide +kernel) (by decide +kernel)
theorem iwX5 : ∀ w ∈ u_ws RX5 TX5 8, w ∈ wsG := inG _ [172, 174, 176, 178, 180, 182, 184, 186] (by decide +kernel) (by decide +kernel)
theorem iwX6 : ∀ w ∈ u_ws RX6 TX6 9, w ∈ wsG := inG _ [284, 286, 288, 290, 292, 294, 296, 298, 300] (by decide +kernel) (by decide +kernel)
theorem iwX7 : ∀ w ∈ u_ws RX7 TX7 31, w ∈ wsG := inG _ [831, 833, 835, 837, 839, 841, 843, 845, 847, 849, 851, 853, 855, 857, 859, 861, 863, 865, 867, 869, 871, 873, 875, 877, 879, 881, 883, 885, 887, 889, 891] (by decide +kernel) (by decide +kernel)
def clsU : List vw_C := [(RX0, TX0, 4), (RX1, TX1, 11), (RX2, TX2, 6), (RX3, TX3, 7), (RX4, TX4, 7), (RX5, TX5, 8), (RX6, TX6, 9), (RX7, TX7, 31)]
def ftab : List (List Nat) := [[2, 0, 0, 0], [0, 0, 2, 2, 2, 2, 2, 2, 2, 2, 2], [0, 2, 2, 2, 2, 2], [2, 2, 0, 0, 0, 0, 0], [2, 2, 2, 0, 0, 0, 0], [1, 0, 0, 2, 2, 2, 2, 2], [2, 2, 2, 2, 2, 2, 2, 2, 2], [0, 0, 3, 0, 2, 2, 0, 2, 0, 0, 3, 0, 0, 0, 0, 2, 0, 0, 2, 2, 2, 2, 2, 2, 2, 0, 2, 2, 2, 2, 2]]
/-- own : the class of the method; the field k of the class ci -/
def FLk (own : String) (idx ci k : Nat) : Prop := ∃ (C : String) (T : u_T) (N : Nat), clsU[ci]? = some (C, T, N) ∧ k < N ∧ Cond.fieldLink own idx (T k).1 (T k).2.1 (T k).2.2.1 ∈ wsG
def PLk (ci k : Nat) : Prop := ∀ (C : String) (T : u_T) (N : Nat), clsU[ci]? = some (C, T, N) → (T k).2.2.2 = false
theorem mi_Mk_watch : MInst m_Mk_watch 2 := ⟨⟨wsG_of (i := 764) (by decide +kernel) rfl, wsG_of (i := 41) (by decide +kernel) rfl, by decide +kernel⟩, wsG_of (i := 762) (by decide +kernel) rfl, wsG_of (i := 763) (by decide +kernel) rfl⟩
theorem mi_Mk_noteFirst : MInst m_Mk_noteFirst 2 := ⟨⟨wsG_of (i := 771) (by decide +kernel) rfl, wsG_of (i := 41) (by decide +kernel) rfl, by decide +kernel⟩, wsG_of (i := 769) (by decide +kernel) rfl, wsG_of (i := 770) (by decide +kernel) rfl⟩
theorem mi_Mk_income : MInst m_Mk_income 2 := ⟨⟨wsG_of (i := 776) (by decide +kernel) rfl, wsG_of (i := 41) (by decide +kernel) rfl, by decide +kernel⟩, wsG_of (i := 774) (by decide +kernel) rfl, wsG_of (i := 775) (by decide +kernel) rfl⟩
theorem mi_Mk_seekBest : MInst m_Mk_seekBest 1 := ⟨⟨wsG_of (i := 784) (by decide +kernel) rfl, wsG_of (i := 41) (by decide +kernel) rfl, by decide +kernel⟩, wsG_of (i := 782) (by decide +kernel) rfl, wsG_of (i := 783) (by decide +kernel) rfl⟩
theorem mi_Pl_copyFrom : MInst m_Pl_copyFrom 1 := ⟨⟨wsG_of (i := 330) (by decide +kernel) rfl, wsG_of (i := 35) (by decide +kernel) rfl, by decide +kernel⟩, wsG_of (i := 328) (by decide +kernel) rfl, wsG_of (i := 329) (by decide +kernel) rfl⟩
theorem mi_Pl_lay : MInst m_Pl_lay 2 := ⟨⟨wsG_of (i := 415) (by decide +kernel) rfl, wsG_of (i := 35) (by decide +kernel) rfl, by decide +kernel⟩, wsG_of (i := 413) (by decide +kernel) rfl, wsG_of (i := 414) (by decide +kernel) rfl⟩
theorem mi_Pl_cover : MInst m_Pl_cover 1 := ⟨⟨wsG_of (i := 424) (by decide +kernel) rfl, wsG_of (i := 35) (by decide +kernel) rfl, by decide +kernel⟩, wsG_of (i := 422) (by decide +kernel) rfl, wsG_of (i := 423) (by decide +kernel) rfl⟩
theorem mi_Pl_welcome : MInst m_Pl_welcome 1 := ⟨⟨wsG_of (i := 437) (by decide +kernel) rfl, wsG_of (i := 35) (by decide +kernel) rfl, by decide +kernel⟩, wsG_of (i := 435) (by decide +kernel) rfl, wsG_of (i := 436) (by decide +kernel) rfl⟩
theorem mi_Pl_forget : MInst m_Pl_forget 1 := ⟨⟨wsG_of (i := 446) (by decide +kernel) rfl, wsG_of (i := 35) (by decide +kernel) rfl, by decide +kernel⟩, wsG_of (i := 444) (by decide +kernel) rfl, wsG_of (i := 445) (by decide +kernel) rfl⟩
theorem mi_Pl_pour : MInst m_Pl_pour 3 := ⟨⟨wsG_of (i := 459) (by decide +kernel) rfl, wsG_of (i := 35) (by decide +kernel) rfl, by decide +kernel⟩, wsG_of (i := 457) (by decide +kernel) rfl, wsG_of (i := 458) (by decide +kernel) rfl⟩
theorem mi_Pl_hasCell : MInst m_Pl_hasCell 1 := ⟨⟨wsG_of (i := 428) (by decide +kernel) rfl, wsG_of (i := 35) (by decide +kernel) rfl, by decide +kernel⟩, wsG_of (i := 426) (by decide +kernel) rfl, wsG_of (i := 427) (by decide +kernel) rfl⟩
theorem mi_Pl_isDry : MInst m_Pl_isDry 1 := ⟨⟨wsG_of (i := 484) (by decide +kernel) rfl, wsG_of (i := 35) (by decide +kernel) rfl, by decide +kernel⟩, wsG_of (i := 482) (by decide +kernel) rfl, wsG_of (i := 483) (by decide +kernel) rfl⟩
theorem mi_Pl_hasWalker : MInst m_Pl_hasWalker 1 := ⟨⟨wsG_of (i := 450) (by decide +kernel) rfl, wsG_of (i := 35) (by decide +kernel) rfl, by decide +kernel⟩, wsG_of (i := 448) (by decide +kernel) rfl, wsG_of (i := 449) (by decide +kernel) rfl⟩
theorem mi_Pl_walkers : MInst m_Pl_walkers 0 := ⟨⟨wsG_of (i := 579) (by decide +kernel) rfl, wsG_of (i := 35) (by decide +kernel) rfl, by decide +kernel⟩, wsG_of (i := 577) (by decide +kernel) rfl, wsG_of (i := 578) (by decide +kernel) rfl⟩
theorem mi_Pl_rainOf : MInst m_Pl_rainOf 1 := ⟨⟨wsG_of (i := 546) (by decide +kernel) rfl, wsG_of (i := 35) (by decide +kernel) rfl, by decide +kernel⟩, wsG_of (i := 544) (by decide +kernel) rfl, wsG_of (i := 545) (by decide +kernel) rfl⟩
theorem mi_Ro_isTaken : MInst m_Ro_isTaken 1 := ⟨⟨wsG_of (i := 641) (by decide +kernel) rfl, wsG_of (i := 40) (by decide +kernel) rfl, by decide +kernel⟩, wsG_of (i := 639) (by decide +kernel) rfl, wsG_of (i := 640) (by decide +kernel) rfl⟩
theorem mi_Ro_add : MInst m_Ro_add 3 := ⟨⟨wsG_of (i := 645) (by decide +kernel) rfl, wsG_of (i := 40) (by decide +kernel) rfl, by decide +kernel⟩, wsG_of (i := 643) (by decide +kernel) rfl, wsG_of (i := 644) (by decide +kernel) rfl⟩
theorem mi_Ro_letItRain : MInst m_Ro_letItRain 0 := ⟨⟨wsG_of (i := 657) (by decide +kernel) rfl, wsG_of (i := 40) (by decide +kernel) rfl, by decide +kernel⟩, wsG_of (i := 655) (by decide +kernel) rfl, wsG_of (i := 656) (by decide +kernel) rfl⟩
theorem mi_Ro_runOff : MInst m_Ro_runOff 1 := ⟨⟨wsG_of (i := 679) (by decide +kernel) rfl, wsG_of (i := 40) (by decide +kernel) rfl, by decide +kernel⟩, wsG_of (i := 677) (by decide +kernel) rfl, wsG_of (i := 678) (by decide +kernel) rfl⟩
theorem mi_Ro_drop : MInst m_Ro_drop 3 := ⟨⟨wsG_of (i := 662) (by decide +kernel) rfl, wsG_of (i := 40) (by decide +kernel) rfl, by decide +kernel⟩, wsG_of (i := 660) (by decide +kernel) rfl, wsG_of (i := 661) (by decide +kernel) rfl⟩
theorem mi_Ro_highestBelow : MInst m_Ro_highestBelow 1 := ⟨⟨wsG_of (i := 675) (by decide +kernel) rfl, wsG_of (i := 40) (by decide +kernel) rfl, by decide +kernel⟩, wsG_of (i := 673) (by decide +kernel) rfl, wsG_of (i := 674) (by decide +kernel) rfl⟩
theorem mi_Ro_isOver : MInst m_Ro_isOver 2 := ⟨⟨wsG_of (i := 666) (by decide +kernel) rfl, wsG_of (i := 40) (by decide +kernel) rfl, by decide +kernel⟩, wsG_of (i := 664) (by decide +kernel) rfl, wsG_of (i := 665) (by decide +kernel) rfl⟩
theorem mi_Ro_isLower : MInst m_Ro_isLower 2 := ⟨⟨wsG_of (i := 671) (by decide +kernel) rfl, wsG_of (i := 40) (by decide +kernel) rfl, by decide +kernel⟩, wsG_of (i := 669) (by decide +kernel) rfl, wsG_of (i := 670) (by decide +kernel) rfl⟩
theorem mi_Ro_reaching : MInst m_Ro_reaching 1 := ⟨⟨wsG_of (i := 683) (by decide +kernel) rfl, wsG_of (i := 40) (by decide +kernel) rfl, by decide +kernel⟩, wsG_of (i := 681) (by decide +kernel) rfl, wsG_of (i := 682) (by decide +kernel) rfl⟩
theorem mi_Ro_driestFree : MInst m_Ro_driestFree 0 := ⟨⟨wsG_of (i := 691) (by decide +kernel) rfl, wsG_of (i := 40) (by decide +kernel) rfl, by decide +kernel⟩, wsG_of (i := 689) (by decide +kernel) rfl, wsG_of (i := 690) (by decide +kernel) rfl⟩
theorem mi_Tx_append : MInst m_Tx_append 2 := ⟨⟨wsG_of (i := 313) (by decide +kernel) rfl, wsG_of (i := 36) (by decide +kernel) rfl, by decide +kernel⟩, wsG_of (i := 311) (by decide +kernel) rfl, wsG_of (i := 312) (by decide +kernel) rfl⟩
theorem mi_Tx_empty : MInst m_Tx_empty 0 := ⟨⟨wsG_of (i := 322) (by decide +kernel) rfl, wsG_of (i := 36) (by decide +kernel) rfl, by decide +kernel⟩, wsG_of (i := 320) (by decide +kernel) rfl, wsG_of (i := 321) (by decide +kernel) rfl⟩
theorem mi_Tx_readInto : MInst m_Tx_readInto 1 := ⟨⟨wsG_of (i := 334) (by decide +kernel) rfl, wsG_of (i := 36) (by decide +kernel) rfl, by decide +kernel⟩, wsG_of (i := 332) (by decide +kernel) rfl, wsG_of (i := 333) (by decide +kernel) rfl⟩
theorem mi_Tx_readLine : MInst m_Tx_readLine 1 := ⟨⟨wsG_of (i := 338) (by decide +kernel) rfl, wsG_of (i := 36) (by decide +kernel) rfl, by decide +kernel⟩, wsG_of (i := 336) (by decide +kernel) rfl, wsG_of (i := 337) (by decide +kernel) rfl⟩
theorem mi_Tx_readStreet : MInst m_Tx_readStreet 1 := ⟨⟨wsG_of (i := 406) (by decide +kernel) rfl, wsG_of (i := 36) (by decide +kernel) rfl, by decide +kernel⟩, wsG_of (i := 404) (by decide +kernel) rfl, wsG_of (i := 405) (by decide +kernel) rfl⟩
theorem mi_Tx_readAwning : MInst m_Tx_readAwning 1 := ⟨⟨wsG_of (i := 420) (by decide +kernel) rfl, wsG_of (i := 36) (by decide +kernel) rfl, by decide +kernel⟩, wsG_of (i := 418) (by decide +kernel) rfl, wsG_of (i := 419) (by decide +kernel) rfl⟩
theorem mi_Tx_readWalker : MInst m_Tx_readWalker 1 := ⟨⟨wsG_of (i := 433) (by decide +kernel) rfl, wsG_of (i := 36) (by decide +kernel) rfl, by decide +kernel⟩, wsG_of (i := 431) (by decide +kernel) rfl, wsG_of (i := 432) (by decide +kernel) rfl⟩
theorem mi_Tx_readGone : MInst m_Tx_readGone 1 := ⟨⟨wsG_of (i := 442) (by decide +kernel) rfl, wsG_of (i := 36) (by decide +kernel) rfl, by decide +kernel⟩, wsG_of (i := 440) (by decide +kernel) rfl, wsG_of (i := 441) (by decide +kernel) rfl⟩
theorem mi_Tx_readRain : MInst m_Tx_readRain 1 := ⟨⟨wsG_of (i := 455) (by decide +kernel) rfl, wsG_of (i := 36) (by decide +kernel) rfl, by decide +kernel⟩, wsG_of (i := 453) (by decide +kernel) rfl, wsG_of (i := 454) (by decide +kernel) rfl⟩
theorem mi_Tx_reads : MInst m_Tx_reads 3 := ⟨⟨wsG_of (i := 410) (by decide +kernel) rfl, wsG_of (i := 36) (by decide +kernel) rfl, by decide +kernel⟩, wsG_of (i := 408) (by decide +kernel) rfl, wsG_of (i := 409) (by decide +kernel) rfl⟩
theorem mi_Tx_isWord : MInst m_Tx_isWord 1 := ⟨⟨wsG_of (i := 354) (by decide +kernel) rfl, wsG_of (i := 36) (by decide +kernel) rfl, by decide +kernel⟩, wsG_of (i := 352) (by decide +kernel) rfl, wsG_of (i := 353) (by decide +kernel) rfl⟩
theorem mi_Tx_readToken : MInst m_Tx_readToken 0 := ⟨⟨wsG_of (i := 342) (by decide +kernel) rfl, wsG_of (i := 36) (by decide +kernel) rfl, by decide +kernel⟩, wsG_of (i := 340) (by decide +kernel) rfl, wsG_of (i := 341) (by decide +kernel) rfl⟩
theorem mi_Tx_byteAt : MInst m_Tx_byteAt 1 := ⟨⟨wsG_of (i := 346) (by decide +kernel) rfl, wsG_of (i := 36) (by decide +kernel) rfl, by decide +kernel⟩, wsG_of (i := 344) (by decide +kernel) rfl, wsG_of (i := 345) (by decide +kernel) rfl⟩
theorem ms_Tx_kindOf : MStat m_Tx_kindOf 1 := ⟨⟨wsG_of (i := 349) (by decide +kernel) rfl, wsG_of (i := 36) (by decide +kernel) rfl, by decide +kernel⟩, wsG_of (i := 348) (by decide +kernel) rfl⟩
theorem mi_Tr_walkWith : MInst m_Tr_walkWith 2 := ⟨⟨wsG_of (i := 589) (by decide +kernel) rfl, wsG_of (i := 39) (by decide +kernel) rfl, by decide +kernel⟩, wsG_of (i := 587) (by decide +kernel) rfl, wsG_of (i := 588) (by decide +kernel) rfl⟩
theorem mi_Tr_paidBy : MInst m_Tr_paidBy 3 := ⟨⟨wsG_of (i := 596) (by decide +kernel) rfl, wsG_of (i := 39) (by decide +kernel) rfl, by decide +kernel⟩, wsG_of (i := 594) (by decide +kernel) rfl, wsG_of (i := 595) (by decide +kernel) rfl⟩
theorem mi_Tr_seekRests : MInst m_Tr_seekRests 3 := ⟨⟨wsG_of (i := 604) (by decide +kernel) rfl, wsG_of (i := 39) (by decide +kernel) rfl, by decide +kernel⟩, wsG_of (i := 602) (by decide +kernel) rfl, wsG_of (i := 603) (by decide +kernel) rfl⟩
theorem ms_Tr_sizesOf : MStat m_Tr_sizesOf 2 := ⟨⟨wsG_of (i := 611) (by decide +kernel) rfl, wsG_of (i := 39) (by decide +kernel) rfl, by decide +kernel⟩, wsG_of (i := 610) (by decide +kernel) rfl⟩
theorem mi_Tr_notePaid : MInst m_Tr_notePaid 3 := ⟨⟨wsG_of (i := 616) (by decide +kernel) rfl, wsG_of (i := 39) (by decide +kernel) rfl, by decide +kernel⟩, wsG_of (i := 614) (by decide +kernel) rfl, wsG_of (i := 615) (by decide +kernel) rfl⟩
theorem mi_Tr_isRest : MInst m_Tr_isRest 2 := ⟨⟨wsG_of (i := 621) (by decide +kernel) rfl, wsG_of (i := 39) (by decide +kernel) rfl, by decide +kernel⟩, wsG_of (i := 619) (by decide +kernel) rfl, wsG_of (i := 620) (by decide +kernel) rfl⟩
theorem mi_Tr_paidIn : MInst m_Tr_paidIn 2 := ⟨⟨wsG_of (i := 625) (by decide +kernel) rfl, wsG_of (i := 39) (by decide +kernel) rfl, by decide +kernel⟩, wsG_of (i := 623) (by decide +kernel) rfl, wsG_of (i := 624) (by decide +kernel) rfl⟩
theorem mi_Tr_seekCommon : MInst m_Tr_seekCommon 3 := ⟨⟨wsG_of (i := 633) (by decide +kernel) rfl, wsG_of (i := 39) (by decide +kernel) rfl, by decide +kernel⟩, wsG_of (i := 631) (by decide +kernel) rfl, wsG_of (i := 632) (by decide +kernel) rfl⟩
theorem mi_Wk_clear : MInst m_Wk_clear 0 := ⟨⟨wsG_of (i := 471) (by decide +kernel) rfl, wsG_of (i := 37) (by decide +kernel) rfl, by decide +kernel⟩, wsG_of (i := 469) (by decide +kernel) rfl, wsG_of (i := 470) (by decide +kernel) rfl⟩
theorem mi_Wk_copyFrom : MInst m_Wk_copyFrom 1 := ⟨⟨wsG_of (i := 559) (by decide +kernel) rfl, wsG_of (i := 37) (by decide +kernel) rfl, by decide +kernel⟩, wsG_of (i := 557) (by decide +kernel) rfl, wsG_of (i := 558) (by decide +kernel) rfl⟩
theorem mi_Wk_whoIsAt : MInst m_Wk_whoIsAt 1 := ⟨⟨wsG_of (i := 488) (by decide +kernel) rfl, wsG_of (i := 37) (by decide +kernel) rfl, by decide +kernel⟩, wsG_of (i := 486) (by decide +kernel) rfl, wsG_of (i := 487) (by decide +kernel) rfl⟩
theorem mi_Wk_onStreet : MInst m_Wk_onStreet 0 := ⟨⟨wsG_of (i := 793) (by decide +kernel) rfl, wsG_of (i := 37) (by decide +kernel) rfl, by decide +kernel⟩, wsG_of (i := 791) (by decide +kernel) rfl, wsG_of (i := 792) (by decide +kernel) rfl⟩
theorem mi_Wk_isOver : MInst m_Wk_isOver 1 := ⟨⟨wsG_of (i := 571) (by decide +kernel) rfl, wsG_of (i := 37) (by decide +kernel) rfl, by decide +kernel⟩, wsG_of (i := 569) (by decide +kernel) rfl, wsG_of (i := 570) (by decide +kernel) rfl⟩
theorem mi_Wk_tick : MInst m_Wk_tick 1 := ⟨⟨wsG_of (i := 501) (by decide +kernel) rfl, wsG_of (i := 37) (by decide +kernel) rfl, by decide +kernel⟩, wsG_of (i := 499) (by decide +kernel) rfl, wsG_of (i := 500) (by decide +kernel) rfl⟩
theorem mi_Wk_isOn : MInst m_Wk_isOn 1 := ⟨⟨wsG_of (i := 505) (by decide +kernel) rfl, wsG_of (i := 37) (by decide +kernel) rfl, by decide +kernel⟩, wsG_of (i := 503) (by decide +kernel) rfl, wsG_of (i := 504) (by decide +kernel) rfl⟩
theorem mi_Wk_move : MInst m_Wk_move 2 := ⟨⟨wsG_of (i := 509) (by decide +kernel) rfl, wsG_of (i := 37) (by decide +kernel) rfl, by decide +kernel⟩, wsG_of (i := 507) (by decide +kernel) rfl, wsG_of (i := 508) (by decide +kernel) rfl⟩
theorem mi_Wk_laneBeside : MInst m_Wk_laneBeside 3 := ⟨⟨wsG_of (i := 513) (by decide +kernel) rfl, wsG_of (i := 37) (by decide +kernel) rfl, by decide +kernel⟩, wsG_of (i := 511) (by decide +kernel) rfl, wsG_of (i := 512) (by decide +kernel) rfl⟩
theorem mi_Wk_come : MInst m_Wk_come 2 := ⟨⟨wsG_of (i := 518) (by decide +kernel) rfl, wsG_of (i := 37) (by decide +kernel) rfl, by decide +kernel⟩, wsG_of (i := 516) (by decide +kernel) rfl, wsG_of (i := 517) (by decide +kernel) rfl⟩
theorem mi_Wk_poke : MInst m_Wk_poke 1 := ⟨⟨wsG_of (i := 522) (by decide +kernel) rfl, wsG_of (i := 37) (by decide +kernel) rfl, by decide +kernel⟩, wsG_of (i := 520) (by decide +kernel) rfl, wsG_of (i := 521) (by decide +kernel) rfl⟩
theorem mi_Wk_isPoking : MInst m_Wk_isPoking 3 := ⟨⟨wsG_of (i := 526) (by decide +kernel) rfl, wsG_of (i := 37) (by decide +kernel) rfl, by decide +kernel⟩, wsG_of (i := 524) (by decide +kernel) rfl, wsG_of (i := 525) (by decide +kernel) rfl⟩
theorem mi_Wk_placesApart : MInst m_Wk_placesApart 2 := ⟨⟨wsG_of (i := 533) (by decide +kernel) rfl, wsG_of (i := 37) (by decide +kernel) rfl, by decide +kernel⟩, wsG_of (i := 531) (by decide +kernel) rfl, wsG_of (i := 532) (by decide +kernel) rfl⟩
theorem mi_Wk_lanesApart : MInst m_Wk_lanesApart 2 := ⟨⟨wsG_of (i := 537) (by decide +kernel) rfl, wsG_of (i := 37) (by decide +kernel) rfl, by decide +kernel⟩, wsG_of (i := 535) (by decide +kernel) rfl, wsG_of (i := 536) (by decide +kernel) rfl⟩
theorem mi_Wk_rain : MInst m_Wk_rain 1 := ⟨⟨wsG_of (i := 542) (by decide +kernel) rfl, wsG_of (i := 37) (by decide +kernel) rfl, by decide +kernel⟩, wsG_of (i := 540) (by decide +kernel) rfl, wsG_of (i := 541) (by decide +kernel) rfl⟩
theorem mi_Wk_amountOnBare : MInst m_Wk_amountOnBare 3 := ⟨⟨wsG_of (i := 551) (by decide +kernel) rfl, wsG_of (i := 37) (by decide +kernel) rfl, by decide +kernel⟩, wsG_of (i := 549) (by decide +kernel) rfl, wsG_of (i := 550) (by decide +kernel) rfl⟩
theorem mi_Us_write : MInst m_Us_write 2 := ⟨⟨wsG_of (i := 306) (by decide +kernel) rfl, wsG_of (i := 34) (by decide +kernel) rfl, by decide +kernel⟩, wsG_of (i := 304) (by decide +kernel) rfl, wsG_of (i := 305) (by decide +kernel) rfl⟩
theorem mi_Us_erase : MInst m_Us_erase 0 := ⟨⟨wsG_of (i := 318) (by decide +kernel) rfl, wsG_of (i := 34) (by decide +kernel) rfl, by decide +kernel⟩, wsG_of (i := 316) (by decide +kernel) rfl, wsG_of (i := 317) (by decide +kernel) rfl⟩
theorem mi_Us_fault : MInst m_Us_fault 0 := ⟨⟨wsG_of (i := 326) (by decide +kernel) rfl, wsG_of (i := 34) (by decide +kernel) rfl, by decide +kernel⟩, wsG_of (i := 324) (by decide +kernel) rfl, wsG_of (i := 325) (by decide +kernel) rfl⟩
theorem mi_Us_shower : MInst m_Us_shower 0 := ⟨⟨wsG_of (i := 467) (by decide +kernel) rfl, wsG_of (i := 34) (by decide +kernel) rfl, by decide +kernel⟩, wsG_of (i := 465) (by decide +kernel) rfl, wsG_of (i := 466) (by decide +kernel) rfl⟩
theorem mi_Us_cell : MInst m_Us_cell 2 := ⟨⟨wsG_of (i := 479) (by decide +kernel) rfl, wsG_of (i := 34) (by decide +kernel) rfl, by decide +kernel⟩, wsG_of (i := 477) (by decide +kernel) rfl, wsG_of (i := 478) (by decide +kernel) rfl⟩
theorem mi_Us_walker : MInst m_Us_walker 2 := ⟨⟨wsG_of (i := 492) (by decide +kernel) rfl, wsG_of (i := 34) (by decide +kernel) rfl, by decide +kernel⟩, wsG_of (i := 490) (by decide +kernel) rfl, wsG_of (i := 491) (by decide +kernel) rfl⟩
theorem mi_Us_go : MInst m_Us_go 1 := ⟨⟨wsG_of (i := 497) (by decide +kernel) rfl, wsG_of (i := 34) (by decide +kernel) rfl, by decide +kernel⟩, wsG_of (i := 495) (by decide +kernel) rfl, wsG_of (i := 496) (by decide +kernel) rfl⟩
theorem mi_Us_keep : MInst m_Us_keep 1 := ⟨⟨wsG_of (i := 555) (by decide +kernel) rfl, wsG_of (i := 34) (by decide +kernel) rfl, by decide +kernel⟩, wsG_of (i := 553) (by decide +kernel) rfl, wsG_of (i := 554) (by decide +kernel) rfl⟩
theorem mi_Us_back : MInst m_Us_back 1 := ⟨⟨wsG_of (i := 563) (by decide +kernel) rfl, wsG_of (i := 34) (by decide +kernel) rfl, by decide +kernel⟩, wsG_of (i := 561) (by decide +kernel) rfl, wsG_of (i := 562) (by decide +kernel) rfl⟩
theorem mi_Us_keptAt : MInst m_Us_keptAt 1 := ⟨⟨wsG_of (i := 475) (by decide +kernel) rfl, wsG_of (i := 34) (by decide +kernel) rfl, by decide +kernel⟩, wsG_of (i := 474) (by decide +kernel) rfl, wsG_of (i := 0) (by decide +kernel) rfl⟩
theorem mi_Us_done : MInst m_Us_done 0 := ⟨⟨wsG_of (i := 567) (by decide +kernel) rfl, wsG_of (i := 34) (by decide +kernel) rfl, by decide +kernel⟩, wsG_of (i := 565) (by decide +kernel) rfl, wsG_of (i := 566) (by decide +kernel) rfl⟩
theorem mi_Us_pays : MInst m_Us_pays 4 := ⟨⟨wsG_of (i := 575) (by decide +kernel) rfl, wsG_of (i := 34) (by decide +kernel) rfl, by decide +kernel⟩, wsG_of (i := 573) (by decide +kernel) rfl, wsG_of (i := 574) (by decide +kernel) rfl⟩
theorem mi_Us_rests : MInst m_Us_rests 3 := ⟨⟨wsG_of (i := 600) (by decide +kernel) rfl, wsG_of (i := 34) (by decide +kernel) rfl, by decide +kernel⟩, wsG_of (i := 598) (by decide +kernel) rfl, wsG_of (i := 599) (by decide +kernel) rfl⟩
theorem mi_Us_common : MInst m_Us_common 3 := ⟨⟨wsG_of (i := 629) (by decide +kernel) rfl, wsG_of (i := 34) (by decide +kernel) rfl, by decide +kernel⟩, wsG_of (i := 627) (by decide +kernel) rfl, wsG_of (i := 628) (by decide +kernel) rfl⟩
theorem ms_Us_areSizes : MStat m_Us_areSizes 2 := ⟨⟨wsG_of (i := 582) (by decide +kernel) rfl, wsG_of (i := 34) (by decide +kernel) rfl, by decide +kernel⟩, wsG_of (i := 581) (by decide +kernel) rfl⟩
theorem ms_Us_areNotCosts : MStat m_Us_areNotCosts 2 := ⟨⟨wsG_of (i := 585) (by decide +kernel) rfl, wsG_of (i := 34) (by decide +kernel) rfl, by decide +kernel⟩, wsG_of (i := 584) (by decide +kernel) rfl⟩
theorem mi_Us_stand : MInst m_Us_stand 3 := ⟨⟨wsG_of (i := 637) (by decide +kernel) rfl, wsG_of (i := 34) (by decide +kernel) rfl, by decide +kernel⟩, wsG_of (i := 635) (by decide +kernel) rfl, wsG_of (i := 636) (by decide +kernel) rfl⟩
theorem mi_Us_bus : MInst m_Us_bus 0 := ⟨⟨wsG_of (i := 649) (by decide +kernel) rfl, wsG_of (i := 34) (by decide +kernel) rfl, by decide +kernel⟩, wsG_of (i := 647) (by decide +kernel) rfl, wsG_of (i := 648) (by decide +kernel) rfl⟩
theorem mi_Us_wet : MInst m_Us_wet 1 := ⟨⟨wsG_of (i := 653) (by decide +kernel) rfl, wsG_of (i := 34) (by decide +kernel) rfl, by decide +kernel⟩, wsG_of (i := 651) (by decide +kernel) rfl, wsG_of (i := 652) (by decide +kernel) rfl⟩
theorem mi_Us_driest : MInst m_Us_driest 1 := ⟨⟨wsG_of (i := 687) (by decide +kernel) rfl, wsG_of (i := 34) (by decide +kernel) rfl, by decide +kernel⟩, wsG_of (i := 685) (by decide +kernel) rfl, wsG_of (i := 686) (by decide +kernel) rfl⟩
theorem mi_Us_two : MInst m_Us_two 5 := ⟨⟨wsG_of (i := 697) (by decide +kernel) rfl, wsG_of (i := 34) (by decide +kernel) rfl, by decide +kernel⟩, wsG_of (i := 695) (by decide +kernel) rfl, wsG_of (i := 696) (by decide +kernel) rfl⟩
theorem mi_Us_fair : MInst m_Us_fair 3 := ⟨⟨wsG_of (i := 715) (by decide +kernel) rfl, wsG_of (i := 34) (by decide +kernel) rfl, by decide +kernel⟩, wsG_of (i := 713) (by decide +kernel) rfl, wsG_of (i := 714) (by decide +kernel) rfl⟩
theorem ms_Us_areNotWidths : MStat m_Us_areNotWidths 3 := ⟨⟨wsG_of (i := 700) (by decide +kernel) rfl, wsG_of (i := 34) (by decide +kernel) rfl, by decide +kernel⟩, wsG_of (i := 699) (by decide +kernel) rfl⟩
theorem ms_Us_bareOfLeft : MStat m_Us_bareOfLeft 3 := ⟨⟨wsG_of (i := 703) (by decide +kernel) rfl, wsG_of (i := 34) (by decide +kernel) rfl, by decide +kernel⟩, wsG_of (i := 702) (by decide +kernel) rfl⟩
theorem ms_Us_bareOfRight : MStat m_Us_bareOfRight 3 := ⟨⟨wsG_of (i := 711) (by decide +kernel) rfl, wsG_of (i := 34) (by decide +kernel) rfl, by decide +kernel⟩, wsG_of (i := 710) (by decide +kernel) rfl⟩
theorem ms_Us_shared : MStat m_Us_shared 4 := ⟨⟨wsG_of (i := 706) (by decide +kernel) rfl, wsG_of (i := 34) (by decide +kernel) rfl, by decide +kernel⟩, wsG_of (i := 705) (by decide +kernel) rfl⟩
theorem ms_Us_greaterPart : MStat m_Us_greaterPart 4 := ⟨⟨wsG_of (i := 718) (by decide +kernel) rfl, wsG_of (i := 34) (by decide +kernel) rfl, by decide +kernel⟩, wsG_of (i := 717) (by decide +kernel) rfl⟩
theorem mi_Us_run : MInst m_Us_run 6 := ⟨⟨wsG_of (i := 722) (by decide +kernel) rfl, wsG_of (i := 34) (by decide +kernel) rfl, by decide +kernel⟩, wsG_of (i := 720) (by decide +kernel) rfl, wsG_of (i := 721) (by decide +kernel) rfl⟩
theorem mi_Us_pace : MInst m_Us_pace 4 := ⟨⟨wsG_of (i := 742) (by decide +kernel) rfl, wsG_of (i := 34) (by decide +kernel) rfl, by decide +kernel⟩, wsG_of (i := 740) (by decide +kernel) rfl, wsG_of (i := 741) (by decide +kernel) rfl⟩
theorem ms_Us_areNotRunners : MStat m_Us_areNotRunners 4 := ⟨⟨wsG_of (i := 725) (by decide +kernel) rfl, wsG_of (i := 34) (by decide +kernel) rfl, by decide +kernel⟩, wsG_of (i := 724) (by decide +kernel) rfl⟩
theorem ms_Us_wetPerWay : MStat m_Us_wetPerWay 5 := ⟨⟨wsG_of (i := 731) (by decide +kernel) rfl, wsG_of (i := 34) (by decide +kernel) rfl, by decide +kernel⟩, wsG_of (i := 730) (by decide +kernel) rfl⟩
theorem ms_Us_bestPace : MStat m_Us_bestPace 4 := ⟨⟨wsG_of (i := 728) (by decide +kernel) rfl, wsG_of (i := 34) (by decide +kernel) rfl, by decide +kernel⟩, wsG_of (i := 727) (by decide +kernel) rfl⟩
theorem mi_Us_door : MInst m_Us_door 5 := ⟨⟨wsG_of (i := 746) (by decide +kernel) rfl, wsG_of (i := 34) (by decide +kernel) rfl, by decide +kernel⟩, wsG_of (i := 744) (by decide +kernel) rfl, wsG_of (i := 745) (by decide +kernel) rfl⟩
theorem mi_Us_left : MInst m_Us_left 5 := ⟨⟨wsG_of (i := 752) (by decide +kernel) rfl, wsG_of (i := 34) (by decide +kernel) rfl, by decide +kernel⟩, wsG_of (i := 750) (by decide +kernel) rfl, wsG_of (i := 751) (by decide +kernel) rfl⟩
theorem ms_Us_power : MStat m_Us_power 2 := ⟨⟨wsG_of (i := 755) (by decide +kernel) rfl, wsG_of (i := 34) (by decide +kernel) rfl, by decide +kernel⟩, wsG_of (i := 754) (by decide +kernel) rfl⟩
theorem mi_Us_seller : MInst m_Us_seller 2 := ⟨⟨wsG_of (i := 760) (by decide +kernel) rfl, wsG_of (i := 34) (by decide +kernel) rfl, by decide +kernel⟩, wsG_of (i := 758) (by decide +kernel) rfl, wsG_of (i := 759) (by decide +kernel) rfl⟩
theorem mi_Us_where : MInst m_Us_where 1 := ⟨⟨wsG_of (i := 780) (by decide +kernel) rfl, wsG_of (i := 34) (by decide +kernel) rfl, by decide +kernel⟩, wsG_of (i := 778) (by decide +kernel) rfl, wsG_of (i := 779) (by decide +kernel) rfl⟩
theorem mi_Us_count : MInst m_Us_count 1 := ⟨⟨wsG_of (i := 789) (by decide +kernel) rfl, wsG_of (i := 34) (by decide +kernel) rfl, by decide +kernel⟩, wsG_of (i := 787) (by decide +kernel) rfl, wsG_of (i := 788) (by decide +kernel) rfl⟩
theorem ms_Us_isNotIn : MStat m_Us_isNotIn 3 := ⟨⟨wsG_of (i := 309) (by decide +kernel) rfl, wsG_of (i := 34) (by decide +kernel) rfl, by decide +kernel⟩, wsG_of (i := 308) (by decide +kernel) rfl⟩
theorem ms_Us_lowest : MStat m_Us_lowest 3 := ⟨⟨wsG_of (i := 735) (by decide +kernel) rfl, wsG_of (i := 34) (by decide +kernel) rfl, by decide +kernel⟩, wsG_of (i := 734) (by decide +kernel) rfl⟩
theorem ms_Us_commonDivisor : MStat m_Us_commonDivisor 2 := ⟨⟨wsG_of (i := 738) (by decide +kernel) rfl, wsG_of (i := 34) (by decide +kernel) rfl, by decide +kernel⟩, wsG_of (i := 737) (by decide +kernel) rfl⟩
theorem ms_Rf_in : MStat m_Rf_in 3 := ⟨⟨wsG_of (i := 900) (by decide +kernel) rfl, wsG_of (i := 42) (by decide +kernel) rfl, by decide +kernel⟩, wsG_of (i := 899) (by decide +kernel) rfl⟩
theorem ms_Rf_has : MStat m_Rf_has 2 := ⟨⟨wsG_of (i := 975) (by decide +kernel) rfl, wsG_of (i := 42) (by decide +kernel) rfl, by decide +kernel⟩, wsG_of (i := 974) (by decide +kernel) rfl⟩
theorem ms_Rf_bits : MStat m_Rf_bits 1 := ⟨⟨wsG_of (i := 1059) (by decide +kernel) rfl, wsG_of (i := 42) (by decide +kernel) rfl, by decide +kernel⟩, wsG_of (i := 1058) (by decide +kernel) rfl⟩
theorem ms_Rf_off : MStat m_Rf_off 2 := ⟨⟨wsG_of (i := 1022) (by decide +kernel) rfl, wsG_of (i := 42) (by decide +kernel) rfl, by decide +kernel⟩, wsG_of (i := 1021) (by decide +kernel) rfl⟩
theorem mi_Rf_isWalker : MInst m_Rf_isWalker 1 := ⟨⟨wsG_of (i := 983) (by decide +kernel) rfl, wsG_of (i := 42) (by decide +kernel) rfl, by decide +kernel⟩, wsG_of (i := 982) (by decide +kernel) rfl, wsG_of (i := 12) (by decide +kernel) rfl⟩
theorem mi_Rf_write : MInst m_Rf_write 2 := ⟨⟨wsG_of (i := 897) (by decide +kernel) rfl, wsG_of (i := 42) (by decide +kernel) rfl, by decide +kernel⟩, wsG_of (i := 895) (by decide +kernel) rfl, wsG_of (i := 896) (by decide +kernel) rfl⟩
theorem mi_Rf_erase : MInst m_Rf_erase 0 := ⟨⟨wsG_of (i := 905) (by decide +kernel) rfl, wsG_of (i := 42) (by decide +kernel) rfl, by decide +kernel⟩, wsG_of (i := 903) (by decide +kernel) rfl, wsG_of (i := 904) (by decide +kernel) rfl⟩
theorem mi_Rf_nextToken : MInst m_Rf_nextToken 0 := ⟨⟨wsG_of (i := 921) (by decide +kernel) rfl, wsG_of (i := 42) (by decide +kernel) rfl, by decide +kernel⟩, wsG_of (i := 920) (by decide +kernel) rfl, wsG_of (i := 3) (by decide +kernel) rfl⟩
theorem mi_Rf_fails : MInst m_Rf_fails 0 := ⟨⟨wsG_of (i := 944) (by decide +kernel) rfl, wsG_of (i := 42) (by decide +kernel) rfl, by decide +kernel⟩, wsG_of (i := 943) (by decide +kernel) rfl, wsG_of (i := 6) (by decide +kernel) rfl⟩
theorem mi_Rf_isNumber : MInst m_Rf_isNumber 3 := ⟨⟨wsG_of (i := 940) (by decide +kernel) rfl, wsG_of (i := 42) (by decide +kernel) rfl, by decide +kernel⟩, wsG_of (i := 939) (by decide +kernel) rfl, wsG_of (i := 5) (by decide +kernel) rfl⟩
theorem mi_Rf_isStreet : MInst m_Rf_isStreet 1 := ⟨⟨wsG_of (i := 936) (by decide +kernel) rfl, wsG_of (i := 42) (by decide +kernel) rfl, by decide +kernel⟩, wsG_of (i := 935) (by decide +kernel) rfl, wsG_of (i := 4) (by decide +kernel) rfl⟩
theorem mi_Rf_isWalkerLine : MInst m_Rf_isWalkerLine 1 := ⟨⟨wsG_of (i := 948) (by decide +kernel) rfl, wsG_of (i := 42) (by decide +kernel) rfl, by decide +kernel⟩, wsG_of (i := 947) (by decide +kernel) rfl, wsG_of (i := 7) (by decide +kernel) rfl⟩
theorem mi_Rf_isRain : MInst m_Rf_isRain 1 := ⟨⟨wsG_of (i := 952) (by decide +kernel) rfl, wsG_of (i := 42) (by decide +kernel) rfl, by decide +kernel⟩, wsG_of (i := 951) (by decide +kernel) rfl, wsG_of (i := 8) (by decide +kernel) rfl⟩
theorem mi_Rf_isLine : MInst m_Rf_isLine 1 := ⟨⟨wsG_of (i := 917) (by decide +kernel) rfl, wsG_of (i := 42) (by decide +kernel) rfl, by decide +kernel⟩, wsG_of (i := 916) (by decide +kernel) rfl, wsG_of (i := 2) (by decide +kernel) rfl⟩
theorem mi_Rf_isRead : MInst m_Rf_isRead 0 := ⟨⟨wsG_of (i := 913) (by decide +kernel) rfl, wsG_of (i := 42) (by decide +kernel) rfl, by decide +kernel⟩, wsG_of (i := 912) (by decide +kernel) rfl, wsG_of (i := 1) (by decide +kernel) rfl⟩
theorem mi_Rf_fault : MInst m_Rf_fault 0 := ⟨⟨wsG_of (i := 909) (by decide +kernel) rfl, wsG_of (i := 42) (by decide +kernel) rfl, by decide +kernel⟩, wsG_of (i := 907) (by decide +kernel) rfl, wsG_of (i := 908) (by decide +kernel) rfl⟩
theorem mi_Rf_doLine : MInst m_Rf_doLine 1 := ⟨⟨wsG_of (i := 960) (by decide +kernel) rfl, wsG_of (i := 42) (by decide +kernel) rfl, by decide +kernel⟩, wsG_of (i := 959) (by decide +kernel) rfl, wsG_of (i := 9) (by decide +kernel) rfl⟩
theorem mi_Rf_begin : MInst m_Rf_begin 0 := ⟨⟨wsG_of (i := 964) (by decide +kernel) rfl, wsG_of (i := 42) (by decide +kernel) rfl, by decide +kernel⟩, wsG_of (i := 963) (by decide +kernel) rfl, wsG_of (i := 10) (by decide +kernel) rfl⟩
theorem mi_Rf_shower : MInst m_Rf_shower 0 := ⟨⟨wsG_of (i := 956) (by decide +kernel) rfl, wsG_of (i := 42) (by decide +kernel) rfl, by decide +kernel⟩, wsG_of (i := 954) (by decide +kernel) rfl, wsG_of (i := 955) (by decide +kernel) rfl⟩
theorem mi_Rf_whoAt : MInst m_Rf_whoAt 1 := ⟨⟨wsG_of (i := 972) (by decide +kernel) rfl, wsG_of (i := 42) (by decide +kernel) rfl, by decide +kernel⟩, wsG_of (i := 971) (by decide +kernel) rfl, wsG_of (i := 11) (by decide +kernel) rfl⟩
theorem mi_Rf_cell : MInst m_Rf_cell 2 := ⟨⟨wsG_of (i := 968) (by decide +kernel) rfl, wsG_of (i := 42) (by decide +kernel) rfl, by decide +kernel⟩, wsG_of (i := 966) (by decide +kernel) rfl, wsG_of (i := 967) (by decide +kernel) rfl⟩
theorem mi_Rf_walker : MInst m_Rf_walker 2 := ⟨⟨wsG_of (i := 979) (by decide +kernel) rfl, wsG_of (i := 42) (by decide +kernel) rfl, by decide +kernel⟩, wsG_of (i := 977) (by decide +kernel) rfl, wsG_of (i := 978) (by decide +kernel) rfl⟩
theorem mi_Rf_sizesAsTold : MInst m_Rf_sizesAsTold 0 := ⟨⟨wsG_of (i := 991) (by decide +kernel) rfl, wsG_of (i := 42) (by decide +kernel) rfl, by decide +kernel⟩, wsG_of (i := 990) (by decide +kernel) rfl, wsG_of (i := 13) (by decide +kernel) rfl⟩
theorem mi_Rf_isOn : MInst m_Rf_isOn 1 := ⟨⟨wsG_of (i := 999) (by decide +kernel) rfl, wsG_of (i := 42) (by decide +kernel) rfl, by decide +kernel⟩, wsG_of (i := 998) (by decide +kernel) rfl, wsG_of (i := 15) (by decide +kernel) rfl⟩
theorem mi_Rf_placeOf : MInst m_Rf_placeOf 1 := ⟨⟨wsG_of (i := 1007) (by decide +kernel) rfl, wsG_of (i := 42) (by decide +kernel) rfl, by decide +kernel⟩, wsG_of (i := 1006) (by decide +kernel) rfl, wsG_of (i := 17) (by decide +kernel) rfl⟩
theorem mi_Rf_laneOf : MInst m_Rf_laneOf 1 := ⟨⟨wsG_of (i := 1011) (by decide +kernel) rfl, wsG_of (i := 42) (by decide +kernel) rfl, by decide +kernel⟩, wsG_of (i := 1010) (by decide +kernel) rfl, wsG_of (i := 18) (by decide +kernel) rfl⟩
theorem mi_Rf_goOne : MInst m_Rf_goOne 1 := ⟨⟨wsG_of (i := 1003) (by decide +kernel) rfl, wsG_of (i := 42) (by decide +kernel) rfl, by decide +kernel⟩, wsG_of (i := 1002) (by decide +kernel) rfl, wsG_of (i := 16) (by decide +kernel) rfl⟩
theorem mi_Rf_comeOne : MInst m_Rf_comeOne 1 := ⟨⟨wsG_of (i := 1015) (by decide +kernel) rfl, wsG_of (i := 42) (by decide +kernel) rfl, by decide +kernel⟩, wsG_of (i := 1014) (by decide +kernel) rfl, wsG_of (i := 19) (by decide +kernel) rfl⟩
theorem mi_Rf_poke : MInst m_Rf_poke 0 := ⟨⟨wsG_of (i := 1019) (by decide +kernel) rfl, wsG_of (i := 42) (by decide +kernel) rfl, by decide +kernel⟩, wsG_of (i := 1018) (by decide +kernel) rfl, wsG_of (i := 20) (by decide +kernel) rfl⟩
theorem mi_Rf_wetNow : MInst m_Rf_wetNow 1 := ⟨⟨wsG_of (i := 1026) (by decide +kernel) rfl, wsG_of (i := 42) (by decide +kernel) rfl, by decide +kernel⟩, wsG_of (i := 1025) (by decide +kernel) rfl, wsG_of (i := 21) (by decide +kernel) rfl⟩
theorem mi_Rf_goTick : MInst m_Rf_goTick 0 := ⟨⟨wsG_of (i := 995) (by decide +kernel) rfl, wsG_of (i := 42) (by decide +kernel) rfl, by decide +kernel⟩, wsG_of (i := 994) (by decide +kernel) rfl, wsG_of (i := 14) (by decide +kernel) rfl⟩
theorem mi_Rf_go : MInst m_Rf_go 1 := ⟨⟨wsG_of (i := 987) (by decide +kernel) rfl, wsG_of (i := 42) (by decide +kernel) rfl, by decide +kernel⟩, wsG_of (i := 985) (by decide +kernel) rfl, wsG_of (i := 986) (by decide +kernel) rfl⟩
theorem ms_Rf_copy : MStat m_Rf_copy 4 := ⟨⟨wsG_of (i := 1033) (by decide +kernel) rfl, wsG_of (i := 42) (by decide +kernel) rfl, by decide +kernel⟩, wsG_of (i := 1032) (by decide +kernel) rfl⟩
theorem mi_Rf_keep : MInst m_Rf_keep 1 := ⟨⟨wsG_of (i := 1030) (by decide +kernel) rfl, wsG_of (i := 42) (by decide +kernel) rfl, by decide +kernel⟩, wsG_of (i := 1028) (by decide +kernel) rfl, wsG_of (i := 1029) (by decide +kernel) rfl⟩
theorem mi_Rf_back : MInst m_Rf_back 1 := ⟨⟨wsG_of (i := 1037) (by decide +kernel) rfl, wsG_of (i := 42) (by decide +kernel) rfl, by decide +kernel⟩, wsG_of (i := 1035) (by decide +kernel) rfl, wsG_of (i := 1036) (by decide +kernel) rfl⟩
theorem mi_Rf_areThrough : MInst m_Rf_areThrough 0 := ⟨⟨wsG_of (i := 1045) (by decide +kernel) rfl, wsG_of (i := 42) (by decide +kernel) rfl, by decide +kernel⟩, wsG_of (i := 1044) (by decide +kernel) rfl, wsG_of (i := 22) (by decide +kernel) rfl⟩
theorem mi_Rf_done : MInst m_Rf_done 0 := ⟨⟨wsG_of (i := 1041) (by decide +kernel) rfl, wsG_of (i := 42) (by decide +kernel) rfl, by decide +kernel⟩, wsG_of (i := 1039) (by decide +kernel) rfl, wsG_of (i := 1040) (by decide +kernel) rfl⟩
theorem mi_Rf_goWhole : MInst m_Rf_goWhole 2 := ⟨⟨wsG_of (i := 1063) (by decide +kernel) rfl, wsG_of (i := 42) (by decide +kernel) rfl, by decide +kernel⟩, wsG_of (i := 1062) (by decide +kernel) rfl, wsG_of (i := 24) (by decide +kernel) rfl⟩
theorem mi_Rf_takeSizes : MInst m_Rf_takeSizes 1 := ⟨⟨wsG_of (i := 1053) (by decide +kernel) rfl, wsG_of (i := 42) (by decide +kernel) rfl, by decide +kernel⟩, wsG_of (i := 1052) (by decide +kernel) rfl, wsG_of (i := 23) (by decide +kernel) rfl⟩
theorem ms_Rf_arePrices : MStat m_Rf_arePrices 2 := ⟨⟨wsG_of (i := 1056) (by decide +kernel) rfl, wsG_of (i := 42) (by decide +kernel) rfl, by decide +kernel⟩, wsG_of (i := 1055) (by decide +kernel) rfl⟩
theorem mi_Rf_pays : MInst m_Rf_pays 4 := ⟨⟨wsG_of (i := 1049) (by decide +kernel) rfl, wsG_of (i := 42) (by decide +kernel) rfl, by decide +kernel⟩, wsG_of (i := 1047) (by decide +kernel) rfl, wsG_of (i := 1048) (by decide +kernel) rfl⟩
theorem ms_Rf_power : MStat m_Rf_power 1 := ⟨⟨wsG_of (i := 1074) (by decide +kernel) rfl, wsG_of (i := 42) (by decide +kernel) rfl, by decide +kernel⟩, wsG_of (i := 1073) (by decide +kernel) rfl⟩
theorem ms_Rf_figure : MStat m_Rf_figure 3 := ⟨⟨wsG_of (i := 1077) (by decide +kernel) rfl, wsG_of (i := 42) (by decide +kernel) rfl, by decide +kernel⟩, wsG_of (i := 1076) (by decide +kernel) rfl⟩
theorem mi_Rf_layPaid : MInst m_Rf_layPaid 3 := ⟨⟨wsG_of (i := 1071) (by decide +kernel) rfl, wsG_of (i := 42) (by decide +kernel) rfl, by decide +kernel⟩, wsG_of (i := 1070) (by decide +kernel) rfl, wsG_of (i := 25) (by decide +kernel) rfl⟩
theorem mi_Rf_doesRest : MInst m_Rf_doesRest 2 := ⟨⟨wsG_of (i := 1081) (by decide +kernel) rfl, wsG_of (i := 42) (by decide +kernel) rfl, by decide +kernel⟩, wsG_of (i := 1080) (by decide +kernel) rfl, wsG_of (i := 26) (by decide +kernel) rfl⟩
theorem mi_Rf_rests : MInst m_Rf_rests 3 := ⟨⟨wsG_of (i := 1067) (by decide +kernel) rfl, wsG_of (i := 42) (by decide +kernel) rfl, by decide +kernel⟩, wsG_of (i := 1065) (by decide +kernel) rfl, wsG_of (i := 1066) (by decide +kernel) rfl⟩
theorem mi_Rf_common : MInst m_Rf_common 3 := ⟨⟨wsG_of (i := 1085) (by decide +kernel) rfl, wsG_of (i := 42) (by decide +kernel) rfl, by decide +kernel⟩, wsG_of (i := 1083) (by decide +kernel) rfl, wsG_of (i := 1084) (by decide +kernel) rfl⟩
theorem mi_Rf_stand : MInst m_Rf_stand 3 := ⟨⟨wsG_of (i := 1089) (by decide +kernel) rfl, wsG_of (i := 42) (by decide +kernel) rfl, by decide +kernel⟩, wsG_of (i := 1087) (by decide +kernel) rfl, wsG_of (i := 1088) (by decide +kernel) rfl⟩
theorem mi_Rf_bus : MInst m_Rf_bus 0 := ⟨⟨wsG_of (i := 1093) (by decide +kernel) rfl, wsG_of (i := 42) (by decide +kernel) rfl, by decide +kernel⟩, wsG_of (i := 1091) (by decide +kernel) rfl, wsG_of (i := 1092) (by decide +kernel) rfl⟩
theorem mi_Rf_isHigher : MInst m_Rf_isHigher 2 := ⟨⟨wsG_of (i := 1113) (by decide +kernel) rfl, wsG_of (i := 42) (by decide +kernel) rfl, by decide +kernel⟩, wsG_of (i := 1112) (by decide +kernel) rfl, wsG_of (i := 30) (by decide +kernel) rfl⟩
theorem mi_Rf_umbrellaAt : MInst m_Rf_umbrellaAt 2 := ⟨⟨wsG_of (i := 1109) (by decide +kernel) rfl, wsG_of (i := 42) (by decide +kernel) rfl, by decide +kernel⟩, wsG_of (i := 1108) (by decide +kernel) rfl, wsG_of (i := 29) (by decide +kernel) rfl⟩
theorem mi_Rf_falls : MInst m_Rf_falls 3 := ⟨⟨wsG_of (i := 1105) (by decide +kernel) rfl, wsG_of (i := 42) (by decide +kernel) rfl, by decide +kernel⟩, wsG_of (i := 1104) (by decide +kernel) rfl, wsG_of (i := 28) (by decide +kernel) rfl⟩
theorem mi_Rf_pour : MInst m_Rf_pour 0 := ⟨⟨wsG_of (i := 1101) (by decide +kernel) rfl, wsG_of (i := 42) (by decide +kernel) rfl, by decide +kernel⟩, wsG_of (i := 1100) (by decide +kernel) rfl, wsG_of (i := 27) (by decide +kernel) rfl⟩
theorem mi_Rf_wet : MInst m_Rf_wet 1 := ⟨⟨wsG_of (i := 1097) (by decide +kernel) rfl, wsG_of (i := 42) (by decide +kernel) rfl, by decide +kernel⟩, wsG_of (i := 1095) (by decide +kernel) rfl, wsG_of (i := 1096) (by decide +kernel) rfl⟩
theorem mi_Rf_driest : MInst m_Rf_driest 1 := ⟨⟨wsG_of (i := 1117) (by decide +kernel) rfl, wsG_of (i := 42) (by decide +kernel) rfl, by decide +kernel⟩, wsG_of (i := 1115) (by decide +kernel) rfl, wsG_of (i := 1116) (by decide +kernel) rfl⟩
theorem ms_Rf_under : MStat m_Rf_under 4 := ⟨⟨wsG_of (i := 1127) (by decide +kernel) rfl, wsG_of (i := 42) (by decide +kernel) rfl, by decide +kernel⟩, wsG_of (i := 1126) (by decide +kernel) rfl⟩
theorem ms_Rf_areWide : MStat m_Rf_areWide 3 := ⟨⟨wsG_of (i := 1124) (by decide +kernel) rfl, wsG_of (i := 42) (by decide +kernel) rfl, by decide +kernel⟩, wsG_of (i := 1123) (by decide +kernel) rfl⟩
theorem mi_Rf_two : MInst m_Rf_two 5 := ⟨⟨wsG_of (i := 1121) (by decide +kernel) rfl, wsG_of (i := 42) (by decide +kernel) rfl, by decide +kernel⟩, wsG_of (i := 1119) (by decide +kernel) rfl, wsG_of (i := 1120) (by decide +kernel) rfl⟩
theorem mi_Rf_fair : MInst m_Rf_fair 3 := ⟨⟨wsG_of (i := 1131) (by decide +kernel) rfl, wsG_of (i := 42) (by decide +kernel) rfl, by decide +kernel⟩, wsG_of (i := 1129) (by decide +kernel) rfl, wsG_of (i := 1130) (by decide +kernel) rfl⟩
theorem ms_Rf_gcd : MStat m_Rf_gcd 2 := ⟨⟨wsG_of (i := 1147) (by decide +kernel) rfl, wsG_of (i := 42) (by decide +kernel) rfl, by decide +kernel⟩, wsG_of (i := 1146) (by decide +kernel) rfl⟩
theorem ms_Rf_isRun : MStat m_Rf_isRun 4 := ⟨⟨wsG_of (i := 1138) (by decide +kernel) rfl, wsG_of (i := 42) (by decide +kernel) rfl, by decide +kernel⟩, wsG_of (i := 1137) (by decide +kernel) rfl⟩
theorem ms_Rf_runOf : MStat m_Rf_runOf 5 := ⟨⟨wsG_of (i := 1144) (by decide +kernel) rfl, wsG_of (i := 42) (by decide +kernel) rfl, by decide +kernel⟩, wsG_of (i := 1143) (by decide +kernel) rfl⟩
theorem ms_Rf_bestPace : MStat m_Rf_bestPace 4 := ⟨⟨wsG_of (i := 1141) (by decide +kernel) rfl, wsG_of (i := 42) (by decide +kernel) rfl, by decide +kernel⟩, wsG_of (i := 1140) (by decide +kernel) rfl⟩
theorem mi_Rf_run : MInst m_Rf_run 6 := ⟨⟨wsG_of (i := 1135) (by decide +kernel) rfl, wsG_of (i := 42) (by decide +kernel) rfl, by decide +kernel⟩, wsG_of (i := 1133) (by decide +kernel) rfl, wsG_of (i := 1134) (by decide +kernel) rfl⟩
theorem mi_Rf_pace : MInst m_Rf_pace 4 := ⟨⟨wsG_of (i := 1151) (by decide +kernel) rfl, wsG_of (i := 42) (by decide +kernel) rfl, by decide +kernel⟩, wsG_of (i := 1149) (by decide +kernel) rfl, wsG_of (i := 1150) (by decide +kernel) rfl⟩
theorem mi_Rf_door : MInst m_Rf_door 5 := ⟨⟨wsG_of (i := 1155) (by decide +kernel) rfl, wsG_of (i := 42) (by decide +kernel) rfl, by decide +kernel⟩, wsG_of (i := 1153) (by decide +kernel) rfl, wsG_of (i := 1154) (by decide +kernel) rfl⟩
theorem mi_Rf_left : MInst m_Rf_left 5 := ⟨⟨wsG_of (i := 1161) (by decide +kernel) rfl, wsG_of (i := 42) (by decide +kernel) rfl, by decide +kernel⟩, wsG_of (i := 1159) (by decide +kernel) rfl, wsG_of (i := 1160) (by decide +kernel) rfl⟩
theorem mi_Rf_wetFrom : MInst m_Rf_wetFrom 2 := ⟨⟨wsG_of (i := 1173) (by decide +kernel) rfl, wsG_of (i := 42) (by decide +kernel) rfl, by decide +kernel⟩, wsG_of (i := 1172) (by decide +kernel) rfl, wsG_of (i := 32) (by decide +kernel) rfl⟩
theorem mi_Rf_sold : MInst m_Rf_sold 2 := ⟨⟨wsG_of (i := 1169) (by decide +kernel) rfl, wsG_of (i := 42) (by decide +kernel) rfl, by decide +kernel⟩, wsG_of (i := 1168) (by decide +kernel) rfl, wsG_of (i := 31) (by decide +kernel) rfl⟩
theorem mi_Rf_seller : MInst m_Rf_seller 2 := ⟨⟨wsG_of (i := 1165) (by decide +kernel) rfl, wsG_of (i := 42) (by decide +kernel) rfl, by decide +kernel⟩, wsG_of (i := 1163) (by decide +kernel) rfl, wsG_of (i := 1164) (by decide +kernel) rfl⟩
theorem mi_Rf_where : MInst m_Rf_where 1 := ⟨⟨wsG_of (i := 1177) (by decide +kernel) rfl, wsG_of (i := 42) (by decide +kernel) rfl, by decide +kernel⟩, wsG_of (i := 1175) (by decide +kernel) rfl, wsG_of (i := 1176) (by decide +kernel) rfl⟩
theorem mi_Rf_count : MInst m_Rf_count 1 := ⟨⟨wsG_of (i := 1181) (by decide +kernel) rfl, wsG_of (i := 42) (by decide +kernel) rfl, by decide +kernel⟩, wsG_of (i := 1179) (by decide +kernel) rfl, wsG_of (i := 1180) (by decide +kernel) rfl⟩
theorem ms_Ma_abs : MStat m_Ma_abs 1 := ⟨⟨wsG_of (i := 529) (by decide +kernel) rfl, wsG_of (i := 47) (by decide +kernel) rfl, by decide +kernel⟩, wsG_of (i := 528) (by decide +kernel) rfl⟩
theorem ms_Ma_max : MStat m_Ma_max 2 := ⟨⟨wsG_of (i := 462) (by decide +kernel) rfl, wsG_of (i := 47) (by decide +kernel) rfl, by decide +kernel⟩, wsG_of (i := 461) (by decide +kernel) rfl⟩
theorem ms_Ma_min : MStat m_Ma_min 2 := ⟨⟨wsG_of (i := 608) (by decide +kernel) rfl, wsG_of (i := 47) (by decide +kernel) rfl, by decide +kernel⟩, wsG_of (i := 607) (by decide +kernel) rfl⟩
theorem mi_St_length : MInst m_St_length 0 := ⟨⟨wsG_of (i := 358) (by decide +kernel) rfl, wsG_of (i := 43) (by decide +kernel) rfl, by decide +kernel⟩, wsG_of (i := 356) (by decide +kernel) rfl, wsG_of (i := 357) (by decide +kernel) rfl⟩
theorem mi_St_charAt : MInst m_St_charAt 1 := ⟨⟨wsG_of (i := 368) (by decide +kernel) rfl, wsG_of (i := 43) (by decide +kernel) rfl, by decide +kernel⟩, wsG_of (i := 366) (by decide +kernel) rfl, wsG_of (i := 367) (by decide +kernel) rfl⟩
theorem mi_St_coder : MInst m_St_coder 0 := ⟨⟨wsG_of (i := 362) (by decide +kernel) rfl, wsG_of (i := 43) (by decide +kernel) rfl, by decide +kernel⟩, wsG_of (i := 360) (by decide +kernel) rfl, wsG_of (i := 361) (by decide +kernel) rfl⟩
theorem mi_St_isLatin1 : MInst m_St_isLatin1 0 := ⟨⟨wsG_of (i := 372) (by decide +kernel) rfl, wsG_of (i := 43) (by decide +kernel) rfl, by decide +kernel⟩, wsG_of (i := 370) (by decide +kernel) rfl, wsG_of (i := 371) (by decide +kernel) rfl⟩
theorem ms_St_checkIndex : MStat m_St_checkIndex 2 := ⟨⟨wsG_of (i := 378) (by decide +kernel) rfl, wsG_of (i := 43) (by decide +kernel) rfl, by decide +kernel⟩, wsG_of (i := 377) (by decide +kernel) rfl⟩
theorem ms_SL_charAt : MStat m_SL_charAt 2 := ⟨⟨wsG_of (i := 375) (by decide +kernel) rfl, wsG_of (i := 44) (by decide +kernel) rfl, by decide +kernel⟩, wsG_of (i := 374) (by decide +kernel) rfl⟩
theorem ms_Ar_fill : MStat m_Ar_fill 2 := ⟨⟨wsG_of (i := 152) (by decide +kernel) rfl, wsG_of (i := 38) (by decide +kernel) rfl, by decide +kernel⟩, wsG_of (i := 151) (by decide +kernel) rfl⟩
theorem ms_Pc_checkIndex : MStat m_Pc_checkIndex 3 := ⟨⟨wsG_of (i := 383) (by decide +kernel) rfl, wsG_of (i := 45) (by decide +kernel) rfl, by decide +kernel⟩, wsG_of (i := 382) (by decide +kernel) rfl⟩
theorem ml_Mk_watch_15 : MLink m_Mk_watch 15 m_Ar_fill := ⟨wsG_of (i := 765) (by decide +kernel) rfl, Nat.le_of_ble_eq_true rfl, Nat.le_of_ble_eq_true rfl⟩
theorem ml_Mk_watch_21 : MLink m_Mk_watch 21 m_Wk_clear := ⟨wsG_of (i := 766) (by decide +kernel) rfl, Nat.le_of_ble_eq_true rfl, Nat.le_of_ble_eq_true rfl⟩
theorem ml_Mk_watch_26 : MLink m_Mk_watch 26 m_Wk_tick := ⟨wsG_of (i := 767) (by decide +kernel) rfl, Nat.le_of_ble_eq_true rfl, Nat.le_of_ble_eq_true rfl⟩
theorem ml_Mk_watch_30 : MLink m_Mk_watch 30 m_Mk_noteFirst := ⟨wsG_of (i := 768) (by decide +kernel) rfl, Nat.le_of_ble_eq_true rfl, Nat.le_of_ble_eq_true rfl⟩
theorem ml_Mk_noteFirst_37 : MLink m_Mk_noteFirst 37 m_Wk_isOn := ⟨wsG_of (i := 772) (by decide +kernel) rfl, Nat.le_of_ble_eq_true rfl, Nat.le_of_ble_eq_true rfl⟩
theorem ml_Mk_seekBest_53 : MLink m_Mk_seekBest 53 m_Mk_income := ⟨wsG_of (i := 785) (by decide +kernel) rfl, Nat.le_of_ble_eq_true rfl, Nat.le_of_ble_eq_true rfl⟩
theorem ml_Pl_cover_47 : MLink m_Pl_cover 47 m_Pl_hasCell := ⟨wsG_of (i := 425) (by decide +kernel) rfl, Nat.le_of_ble_eq_true rfl, Nat.le_of_ble_eq_true rfl⟩
theorem ml_Pl_forget_51 : MLink m_Pl_forget 51 m_Pl_hasWalker := ⟨wsG_of (i := 447) (by decide +kernel) rfl, Nat.le_of_ble_eq_true rfl, Nat.le_of_ble_eq_true rfl⟩
theorem ml_Pl_pour_54 : MLink m_Pl_pour 54 m_Ma_max := ⟨wsG_of (i := 460) (by decide +kernel) rfl, Nat.le_of_ble_eq_true rfl, Nat.le_of_ble_eq_true rfl⟩
theorem ml_Pl_isDry_47 : MLink m_Pl_isDry 47 m_Pl_hasCell := ⟨wsG_of (i := 425) (by decide +kernel) rfl, Nat.le_of_ble_eq_true rfl, Nat.le_of_ble_eq_true rfl⟩
theorem ml_Ro_letItRain_31 : MLink m_Ro_letItRain 31 m_Ar_fill := ⟨wsG_of (i := 658) (by decide +kernel) rfl, Nat.le_of_ble_eq_true rfl, Nat.le_of_ble_eq_true rfl⟩
theorem ml_Ro_letItRain_37 : MLink m_Ro_letItRain 37 m_Ro_drop := ⟨wsG_of (i := 659) (by decide +kernel) rfl, Nat.le_of_ble_eq_true rfl, Nat.le_of_ble_eq_true rfl⟩
theorem ml_Ro_letItRain_41 : MLink m_Ro_letItRain 41 m_Ro_highestBelow := ⟨wsG_of (i := 672) (by decide +kernel) rfl, Nat.le_of_ble_eq_true rfl, Nat.le_of_ble_eq_true rfl⟩
theorem ml_Ro_letItRain_45 : MLink m_Ro_letItRain 45 m_Ro_runOff := ⟨wsG_of (i := 676) (by decide +kernel) rfl, Nat.le_of_ble_eq_true rfl, Nat.le_of_ble_eq_true rfl⟩
theorem ml_Ro_runOff_37 : MLink m_Ro_runOff 37 m_Ro_drop := ⟨wsG_of (i := 659) (by decide +kernel) rfl, Nat.le_of_ble_eq_true rfl, Nat.le_of_ble_eq_true rfl⟩
theorem ml_Ro_drop_49 : MLink m_Ro_drop 49 m_Ro_isOver := ⟨wsG_of (i := 663) (by decide +kernel) rfl, Nat.le_of_ble_eq_true rfl, Nat.le_of_ble_eq_true rfl⟩
theorem ml_Ro_drop_53 : MLink m_Ro_drop 53 m_Ro_isLower := ⟨wsG_of (i := 668) (by decide +kernel) rfl, Nat.le_of_ble_eq_true rfl, Nat.le_of_ble_eq_true rfl⟩
theorem ml_Ro_highestBelow_53 : MLink m_Ro_highestBelow 53 m_Ro_isLower := ⟨wsG_of (i := 668) (by decide +kernel) rfl, Nat.le_of_ble_eq_true rfl, Nat.le_of_ble_eq_true rfl⟩
theorem ml_Ro_isOver_56 : MLink m_Ro_isOver 56 m_Ma_abs := ⟨wsG_of (i := 667) (by decide +kernel) rfl, Nat.le_of_ble_eq_true rfl, Nat.le_of_ble_eq_true rfl⟩
theorem ml_Ro_driestFree_61 : MLink m_Ro_driestFree 61 m_Ro_isTaken := ⟨wsG_of (i := 692) (by decide +kernel) rfl, Nat.le_of_ble_eq_true rfl, Nat.le_of_ble_eq_true rfl⟩
theorem ml_Ro_driestFree_65 : MLink m_Ro_driestFree 65 m_Ro_reaching := ⟨wsG_of (i := 693) (by decide +kernel) rfl, Nat.le_of_ble_eq_true rfl, Nat.le_of_ble_eq_true rfl⟩
theorem ml_Tx_readInto_32 : MLink m_Tx_readInto 32 m_Tx_readLine := ⟨wsG_of (i := 335) (by decide +kernel) rfl, Nat.le_of_ble_eq_true rfl, Nat.le_of_ble_eq_true rfl⟩
theorem ml_Tx_readInto_39 : MLink m_Tx_readInto 39 m_Tx_readToken := ⟨wsG_of (i := 339) (by decide +kernel) rfl, Nat.le_of_ble_eq_true rfl, Nat.le_of_ble_eq_true rfl⟩
theorem ml_Tx_readInto_45 : MLink m_Tx_readInto 45 m_Tx_byteAt := ⟨wsG_of (i := 343) (by decide +kernel) rfl, Nat.le_of_ble_eq_true rfl, Nat.le_of_ble_eq_true rfl⟩
theorem ml_Tx_readLine_39 : MLink m_Tx_readLine 39 m_Tx_readToken := ⟨wsG_of (i := 339) (by decide +kernel) rfl, Nat.le_of_ble_eq_true rfl, Nat.le_of_ble_eq_true rfl⟩
theorem ml_Tx_readLine_51 : MLink m_Tx_readLine 51 m_Tx_isWord := ⟨wsG_of (i := 351) (by decide +kernel) rfl, Nat.le_of_ble_eq_true rfl, Nat.le_of_ble_eq_true rfl⟩
theorem ml_Tx_readLine_55 : MLink m_Tx_readLine 55 m_Tx_readStreet := ⟨wsG_of (i := 403) (by decide +kernel) rfl, Nat.le_of_ble_eq_true rfl, Nat.le_of_ble_eq_true rfl⟩
theorem ml_Tx_readLine_60 : MLink m_Tx_readLine 60 m_Tx_readAwning := ⟨wsG_of (i := 417) (by decide +kernel) rfl, Nat.le_of_ble_eq_true rfl, Nat.le_of_ble_eq_true rfl⟩
theorem ml_Tx_readLine_65 : MLink m_Tx_readLine 65 m_Tx_readWalker := ⟨wsG_of (i := 430) (by decide +kernel) rfl, Nat.le_of_ble_eq_true rfl, Nat.le_of_ble_eq_true rfl⟩
theorem ml_Tx_readLine_70 : MLink m_Tx_readLine 70 m_Tx_readGone := ⟨wsG_of (i := 439) (by decide +kernel) rfl, Nat.le_of_ble_eq_true rfl, Nat.le_of_ble_eq_true rfl⟩
theorem ml_Tx_readLine_75 : MLink m_Tx_readLine 75 m_Tx_readRain := ⟨wsG_of (i := 452) (by decide +kernel) rfl, Nat.le_of_ble_eq_true rfl, Nat.le_of_ble_eq_true rfl⟩
theorem ml_Tx_readStreet_78 : MLink m_Tx_readStreet 78 m_Tx_reads := ⟨wsG_of (i := 407) (by decide +kernel) rfl, Nat.le_of_ble_eq_true rfl, Nat.le_of_ble_eq_true rfl⟩
theorem ml_Tx_readStreet_82 : MLink m_Tx_readStreet 82 m_Pl_lay := ⟨wsG_of (i := 412) (by decide +kernel) rfl, Nat.le_of_ble_eq_true rfl, Nat.le_of_ble_eq_true rfl⟩
theorem ml_Tx_readAwning_78 : MLink m_Tx_readAwning 78 m_Tx_reads := ⟨wsG_of (i := 407) (by decide +kernel) rfl, Nat.le_of_ble_eq_true rfl, Nat.le_of_ble_eq_true rfl⟩
theorem ml_Tx_readAwning_92 : MLink m_Tx_readAwning 92 m_Pl_cover := ⟨wsG_of (i := 421) (by decide +kernel) rfl, Nat.le_of_ble_eq_true rfl, Nat.le_of_ble_eq_true rfl⟩
theorem ml_Tx_readWalker_78 : MLink m_Tx_readWalker 78 m_Tx_reads := ⟨wsG_of (i := 407) (by decide +kernel) rfl, Nat.le_of_ble_eq_true rfl, Nat.le_of_ble_eq_true rfl⟩
theorem ml_Tx_readWalker_96 : MLink m_Tx_readWalker 96 m_Pl_welcome := ⟨wsG_of (i := 434) (by decide +kernel) rfl, Nat.le_of_ble_eq_true rfl, Nat.le_of_ble_eq_true rfl⟩
theorem ml_Tx_readGone_78 : MLink m_Tx_readGone 78 m_Tx_reads := ⟨wsG_of (i := 407) (by decide +kernel) rfl, Nat.le_of_ble_eq_true rfl, Nat.le_of_ble_eq_true rfl⟩
theorem ml_Tx_readGone_100 : MLink m_Tx_readGone 100 m_Pl_forget := ⟨wsG_of (i := 443) (by decide +kernel) rfl, Nat.le_of_ble_eq_true rfl, Nat.le_of_ble_eq_true rfl⟩
theorem ml_Tx_readRain_78 : MLink m_Tx_readRain 78 m_Tx_reads := ⟨wsG_of (i := 407) (by decide +kernel) rfl, Nat.le_of_ble_eq_true rfl, Nat.le_of_ble_eq_true rfl⟩
theorem ml_Tx_readRain_103 : MLink m_Tx_readRain 103 m_Pl_pour := ⟨wsG_of (i := 456) (by decide +kernel) rfl, Nat.le_of_ble_eq_true rfl, Nat.le_of_ble_eq_true rfl⟩
theorem ml_Tx_reads_39 : MLink m_Tx_reads 39 m_Tx_readToken := ⟨wsG_of (i := 339) (by decide +kernel) rfl, Nat.le_of_ble_eq_true rfl, Nat.le_of_ble_eq_true rfl⟩
theorem ml_Tx_reads_45 : MLink m_Tx_reads 45 m_Tx_byteAt := ⟨wsG_of (i := 343) (by decide +kernel) rfl, Nat.le_of_ble_eq_true rfl, Nat.le_of_ble_eq_true rfl⟩
theorem ml_Tx_isWord_110 : MLink m_Tx_isWord 110 m_St_length := ⟨wsG_of (i := 355) (by decide +kernel) rfl, Nat.le_of_ble_eq_true rfl, Nat.le_of_ble_eq_true rfl⟩
theorem ml_Tx_isWord_45 : MLink m_Tx_isWord 45 m_Tx_byteAt := ⟨wsG_of (i := 343) (by decide +kernel) rfl, Nat.le_of_ble_eq_true rfl, Nat.le_of_ble_eq_true rfl⟩
theorem ml_Tx_isWord_115 : MLink m_Tx_isWord 115 m_St_charAt := ⟨wsG_of (i := 365) (by decide +kernel) rfl, Nat.le_of_ble_eq_true rfl, Nat.le_of_ble_eq_true rfl⟩
theorem ml_Tx_readToken_45 : MLink m_Tx_readToken 45 m_Tx_byteAt := ⟨wsG_of (i := 343) (by decide +kernel) rfl, Nat.le_of_ble_eq_true rfl, Nat.le_of_ble_eq_true rfl⟩
theorem ml_Tx_readToken_119 : MLink m_Tx_readToken 119 m_Tx_kindOf := ⟨wsG_of (i := 347) (by decide +kernel) rfl, Nat.le_of_ble_eq_true rfl, Nat.le_of_ble_eq_true rfl⟩
theorem ml_Tr_walkWith_29 : MLink m_Tr_walkWith 29 m_Pl_copyFrom := ⟨wsG_of (i := 590) (by decide +kernel) rfl, Nat.le_of_ble_eq_true rfl, Nat.le_of_ble_eq_true rfl⟩
theorem ml_Tr_walkWith_40 : MLink m_Tr_walkWith 40 m_Wk_clear := ⟨wsG_of (i := 591) (by decide +kernel) rfl, Nat.le_of_ble_eq_true rfl, Nat.le_of_ble_eq_true rfl⟩
theorem ml_Tr_walkWith_43 : MLink m_Tr_walkWith 43 m_Wk_tick := ⟨wsG_of (i := 592) (by decide +kernel) rfl, Nat.le_of_ble_eq_true rfl, Nat.le_of_ble_eq_true rfl⟩
theorem ml_Tr_seekRests_52 : MLink m_Tr_seekRests 52 m_Pl_walkers := ⟨wsG_of (i := 605) (by decide +kernel) rfl, Nat.le_of_ble_eq_true rfl, Nat.le_of_ble_eq_true rfl⟩
theorem ml_Tr_seekRests_56 : MLink m_Tr_seekRests 56 m_Ma_min := ⟨wsG_of (i := 606) (by decide +kernel) rfl, Nat.le_of_ble_eq_true rfl, Nat.le_of_ble_eq_true rfl⟩
theorem ml_Tr_seekRests_62 : MLink m_Tr_seekRests 62 m_Tr_sizesOf := ⟨wsG_of (i := 609) (by decide +kernel) rfl, Nat.le_of_ble_eq_true rfl, Nat.le_of_ble_eq_true rfl⟩
theorem ml_Tr_seekRests_65 : MLink m_Tr_seekRests 65 m_Tr_walkWith := ⟨wsG_of (i := 612) (by decide +kernel) rfl, Nat.le_of_ble_eq_true rfl, Nat.le_of_ble_eq_true rfl⟩
theorem ml_Tr_seekRests_69 : MLink m_Tr_seekRests 69 m_Tr_notePaid := ⟨wsG_of (i := 613) (by decide +kernel) rfl, Nat.le_of_ble_eq_true rfl, Nat.le_of_ble_eq_true rfl⟩
theorem ml_Tr_seekRests_80 : MLink m_Tr_seekRests 80 m_Tr_isRest := ⟨wsG_of (i := 618) (by decide +kernel) rfl, Nat.le_of_ble_eq_true rfl, Nat.le_of_ble_eq_true rfl⟩
theorem ml_Tr_notePaid_84 : MLink m_Tr_notePaid 84 m_Tr_paidBy := ⟨wsG_of (i := 617) (by decide +kernel) rfl, Nat.le_of_ble_eq_true rfl, Nat.le_of_ble_eq_true rfl⟩
theorem ml_Tr_isRest_88 : MLink m_Tr_isRest 88 m_Tr_paidIn := ⟨wsG_of (i := 622) (by decide +kernel) rfl, Nat.le_of_ble_eq_true rfl, Nat.le_of_ble_eq_true rfl⟩
theorem ml_Tr_seekCommon_65 : MLink m_Tr_seekCommon 65 m_Tr_walkWith := ⟨wsG_of (i := 612) (by decide +kernel) rfl, Nat.le_of_ble_eq_true rfl, Nat.le_of_ble_eq_true rfl⟩
theorem ml_Tr_seekCommon_84 : MLink m_Tr_seekCommon 84 m_Tr_paidBy := ⟨wsG_of (i := 617) (by decide +kernel) rfl, Nat.le_of_ble_eq_true rfl, Nat.le_of_ble_eq_true rfl⟩
theorem ml_Wk_onStreet_41 : MLink m_Wk_onStreet 41 m_Wk_isOn := ⟨wsG_of (i := 502) (by decide +kernel) rfl, Nat.le_of_ble_eq_true rfl, Nat.le_of_ble_eq_true rfl⟩
theorem ml_Wk_tick_41 : MLink m_Wk_tick 41 m_Wk_isOn := ⟨wsG_of (i := 502) (by decide +kernel) rfl, Nat.le_of_ble_eq_true rfl, Nat.le_of_ble_eq_true rfl⟩
theorem ml_Wk_tick_50 : MLink m_Wk_tick 50 m_Wk_move := ⟨wsG_of (i := 506) (by decide +kernel) rfl, Nat.le_of_ble_eq_true rfl, Nat.le_of_ble_eq_true rfl⟩
theorem ml_Wk_tick_57 : MLink m_Wk_tick 57 m_Wk_come := ⟨wsG_of (i := 515) (by decide +kernel) rfl, Nat.le_of_ble_eq_true rfl, Nat.le_of_ble_eq_true rfl⟩
theorem ml_Wk_tick_60 : MLink m_Wk_tick 60 m_Wk_poke := ⟨wsG_of (i := 519) (by decide +kernel) rfl, Nat.le_of_ble_eq_true rfl, Nat.le_of_ble_eq_true rfl⟩
theorem ml_Wk_tick_64 : MLink m_Wk_tick 64 m_Wk_rain := ⟨wsG_of (i := 539) (by decide +kernel) rfl, Nat.le_of_ble_eq_true rfl, Nat.le_of_ble_eq_true rfl⟩
theorem ml_Wk_move_70 : MLink m_Wk_move 70 m_Wk_laneBeside := ⟨wsG_of (i := 510) (by decide +kernel) rfl, Nat.le_of_ble_eq_true rfl, Nat.le_of_ble_eq_true rfl⟩
theorem ml_Wk_move_77 : MLink m_Wk_move 77 m_Wk_whoIsAt := ⟨wsG_of (i := 514) (by decide +kernel) rfl, Nat.le_of_ble_eq_true rfl, Nat.le_of_ble_eq_true rfl⟩
theorem ml_Wk_come_77 : MLink m_Wk_come 77 m_Wk_whoIsAt := ⟨wsG_of (i := 514) (by decide +kernel) rfl, Nat.le_of_ble_eq_true rfl, Nat.le_of_ble_eq_true rfl⟩
theorem ml_Wk_poke_41 : MLink m_Wk_poke 41 m_Wk_isOn := ⟨wsG_of (i := 502) (by decide +kernel) rfl, Nat.le_of_ble_eq_true rfl, Nat.le_of_ble_eq_true rfl⟩
theorem ml_Wk_poke_90 : MLink m_Wk_poke 90 m_Wk_isPoking := ⟨wsG_of (i := 523) (by decide +kernel) rfl, Nat.le_of_ble_eq_true rfl, Nat.le_of_ble_eq_true rfl⟩
theorem ml_Wk_isPoking_100 : MLink m_Wk_isPoking 100 m_Ma_abs := ⟨wsG_of (i := 527) (by decide +kernel) rfl, Nat.le_of_ble_eq_true rfl, Nat.le_of_ble_eq_true rfl⟩
theorem ml_Wk_isPoking_105 : MLink m_Wk_isPoking 105 m_Wk_placesApart := ⟨wsG_of (i := 530) (by decide +kernel) rfl, Nat.le_of_ble_eq_true rfl, Nat.le_of_ble_eq_true rfl⟩
theorem ml_Wk_isPoking_109 : MLink m_Wk_isPoking 109 m_Wk_lanesApart := ⟨wsG_of (i := 534) (by decide +kernel) rfl, Nat.le_of_ble_eq_true rfl, Nat.le_of_ble_eq_true rfl⟩
theorem ml_Wk_isPoking_112 : MLink m_Wk_isPoking 112 m_Ma_max := ⟨wsG_of (i := 538) (by decide +kernel) rfl, Nat.le_of_ble_eq_true rfl, Nat.le_of_ble_eq_true rfl⟩
theorem ml_Wk_placesApart_100 : MLink m_Wk_placesApart 100 m_Ma_abs := ⟨wsG_of (i := 527) (by decide +kernel) rfl, Nat.le_of_ble_eq_true rfl, Nat.le_of_ble_eq_true rfl⟩
theorem ml_Wk_lanesApart_100 : MLink m_Wk_lanesApart 100 m_Ma_abs := ⟨wsG_of (i := 527) (by decide +kernel) rfl, Nat.le_of_ble_eq_true rfl, Nat.le_of_ble_eq_true rfl⟩
theorem ml_Wk_rain_115 : MLink m_Wk_rain 115 m_Pl_rainOf := ⟨wsG_of (i := 543) (by decide +kernel) rfl, Nat.le_of_ble_eq_true rfl, Nat.le_of_ble_eq_true rfl⟩
theorem ml_Wk_rain_41 : MLink m_Wk_rain 41 m_Wk_isOn := ⟨wsG_of (i := 502) (by decide +kernel) rfl, Nat.le_of_ble_eq_true rfl, Nat.le_of_ble_eq_true rfl⟩
theorem ml_Wk_rain_118 : MLink m_Wk_rain 118 m_Pl_isDry := ⟨wsG_of (i := 547) (by decide +kernel) rfl, Nat.le_of_ble_eq_true rfl, Nat.le_of_ble_eq_true rfl⟩
theorem ml_Wk_rain_121 : MLink m_Wk_rain 121 m_Wk_amountOnBare := ⟨wsG_of (i := 548) (by decide +kernel) rfl, Nat.le_of_ble_eq_true rfl, Nat.le_of_ble_eq_true rfl⟩
theorem ml_Wk_amountOnBare_41 : MLink m_Wk_amountOnBare 41 m_Wk_isOn := ⟨wsG_of (i := 502) (by decide +kernel) rfl, Nat.le_of_ble_eq_true rfl, Nat.le_of_ble_eq_true rfl⟩
theorem ml_Wk_amountOnBare_105 : MLink m_Wk_amountOnBare 105 m_Wk_placesApart := ⟨wsG_of (i := 530) (by decide +kernel) rfl, Nat.le_of_ble_eq_true rfl, Nat.le_of_ble_eq_true rfl⟩
theorem ml_Wk_amountOnBare_109 : MLink m_Wk_amountOnBare 109 m_Wk_lanesApart := ⟨wsG_of (i := 534) (by decide +kernel) rfl, Nat.le_of_ble_eq_true rfl, Nat.le_of_ble_eq_true rfl⟩
theorem ml_Us_write_61 : MLink m_Us_write 61 m_Us_isNotIn := ⟨wsG_of (i := 307) (by decide +kernel) rfl, Nat.le_of_ble_eq_true rfl, Nat.le_of_ble_eq_true rfl⟩
theorem ml_Us_write_65 : MLink m_Us_write 65 m_Tx_append := ⟨wsG_of (i := 310) (by decide +kernel) rfl, Nat.le_of_ble_eq_true rfl, Nat.le_of_ble_eq_true rfl⟩
theorem ml_Us_erase_73 : MLink m_Us_erase 73 m_Tx_empty := ⟨wsG_of (i := 319) (by decide +kernel) rfl, Nat.le_of_ble_eq_true rfl, Nat.le_of_ble_eq_true rfl⟩
theorem ml_Us_fault_77 : MLink m_Us_fault 77 m_Pl_copyFrom := ⟨wsG_of (i := 327) (by decide +kernel) rfl, Nat.le_of_ble_eq_true rfl, Nat.le_of_ble_eq_true rfl⟩
theorem ml_Us_fault_81 : MLink m_Us_fault 81 m_Tx_readInto := ⟨wsG_of (i := 331) (by decide +kernel) rfl, Nat.le_of_ble_eq_true rfl, Nat.le_of_ble_eq_true rfl⟩
theorem ml_Us_shower_77 : MLink m_Us_shower 77 m_Pl_copyFrom := ⟨wsG_of (i := 327) (by decide +kernel) rfl, Nat.le_of_ble_eq_true rfl, Nat.le_of_ble_eq_true rfl⟩
theorem ml_Us_shower_81 : MLink m_Us_shower 81 m_Tx_readInto := ⟨wsG_of (i := 331) (by decide +kernel) rfl, Nat.le_of_ble_eq_true rfl, Nat.le_of_ble_eq_true rfl⟩
theorem ml_Us_shower_85 : MLink m_Us_shower 85 m_Wk_clear := ⟨wsG_of (i := 468) (by decide +kernel) rfl, Nat.le_of_ble_eq_true rfl, Nat.le_of_ble_eq_true rfl⟩
theorem ml_Us_shower_88 : MLink m_Us_shower 88 m_Us_keptAt := ⟨wsG_of (i := 472) (by decide +kernel) rfl, Nat.le_of_ble_eq_true rfl, Nat.le_of_ble_eq_true rfl⟩
theorem ml_Us_shower_73 : MLink m_Us_shower 73 m_Tx_empty := ⟨wsG_of (i := 319) (by decide +kernel) rfl, Nat.le_of_ble_eq_true rfl, Nat.le_of_ble_eq_true rfl⟩
theorem ml_Us_cell_99 : MLink m_Us_cell 99 m_Pl_hasCell := ⟨wsG_of (i := 480) (by decide +kernel) rfl, Nat.le_of_ble_eq_true rfl, Nat.le_of_ble_eq_true rfl⟩
theorem ml_Us_cell_103 : MLink m_Us_cell 103 m_Pl_isDry := ⟨wsG_of (i := 481) (by decide +kernel) rfl, Nat.le_of_ble_eq_true rfl, Nat.le_of_ble_eq_true rfl⟩
theorem ml_Us_cell_106 : MLink m_Us_cell 106 m_Wk_whoIsAt := ⟨wsG_of (i := 485) (by decide +kernel) rfl, Nat.le_of_ble_eq_true rfl, Nat.le_of_ble_eq_true rfl⟩
theorem ml_Us_walker_110 : MLink m_Us_walker 110 m_Pl_hasWalker := ⟨wsG_of (i := 493) (by decide +kernel) rfl, Nat.le_of_ble_eq_true rfl, Nat.le_of_ble_eq_true rfl⟩
theorem ml_Us_go_61 : MLink m_Us_go 61 m_Us_isNotIn := ⟨wsG_of (i := 307) (by decide +kernel) rfl, Nat.le_of_ble_eq_true rfl, Nat.le_of_ble_eq_true rfl⟩
theorem ml_Us_go_130 : MLink m_Us_go 130 m_Wk_tick := ⟨wsG_of (i := 498) (by decide +kernel) rfl, Nat.le_of_ble_eq_true rfl, Nat.le_of_ble_eq_true rfl⟩
theorem ml_Us_keep_88 : MLink m_Us_keep 88 m_Us_keptAt := ⟨wsG_of (i := 472) (by decide +kernel) rfl, Nat.le_of_ble_eq_true rfl, Nat.le_of_ble_eq_true rfl⟩
theorem ml_Us_keep_136 : MLink m_Us_keep 136 m_Wk_copyFrom := ⟨wsG_of (i := 556) (by decide +kernel) rfl, Nat.le_of_ble_eq_true rfl, Nat.le_of_ble_eq_true rfl⟩
theorem ml_Us_back_88 : MLink m_Us_back 88 m_Us_keptAt := ⟨wsG_of (i := 472) (by decide +kernel) rfl, Nat.le_of_ble_eq_true rfl, Nat.le_of_ble_eq_true rfl⟩
theorem ml_Us_back_136 : MLink m_Us_back 136 m_Wk_copyFrom := ⟨wsG_of (i := 556) (by decide +kernel) rfl, Nat.le_of_ble_eq_true rfl, Nat.le_of_ble_eq_true rfl⟩
theorem ml_Us_done_85 : MLink m_Us_done 85 m_Wk_clear := ⟨wsG_of (i := 468) (by decide +kernel) rfl, Nat.le_of_ble_eq_true rfl, Nat.le_of_ble_eq_true rfl⟩
theorem ml_Us_done_139 : MLink m_Us_done 139 m_Wk_isOver := ⟨wsG_of (i := 568) (by decide +kernel) rfl, Nat.le_of_ble_eq_true rfl, Nat.le_of_ble_eq_true rfl⟩
theorem ml_Us_done_130 : MLink m_Us_done 130 m_Wk_tick := ⟨wsG_of (i := 498) (by decide +kernel) rfl, Nat.le_of_ble_eq_true rfl, Nat.le_of_ble_eq_true rfl⟩
theorem ml_Us_pays_110 : MLink m_Us_pays 110 m_Pl_hasWalker := ⟨wsG_of (i := 493) (by decide +kernel) rfl, Nat.le_of_ble_eq_true rfl, Nat.le_of_ble_eq_true rfl⟩
theorem ml_Us_pays_143 : MLink m_Us_pays 143 m_Pl_walkers := ⟨wsG_of (i := 576) (by decide +kernel) rfl, Nat.le_of_ble_eq_true rfl, Nat.le_of_ble_eq_true rfl⟩
theorem ml_Us_pays_146 : MLink m_Us_pays 146 m_Us_areSizes := ⟨wsG_of (i := 580) (by decide +kernel) rfl, Nat.le_of_ble_eq_true rfl, Nat.le_of_ble_eq_true rfl⟩
theorem ml_Us_pays_150 : MLink m_Us_pays 150 m_Us_areNotCosts := ⟨wsG_of (i := 583) (by decide +kernel) rfl, Nat.le_of_ble_eq_true rfl, Nat.le_of_ble_eq_true rfl⟩
theorem ml_Us_pays_153 : MLink m_Us_pays 153 m_Tr_walkWith := ⟨wsG_of (i := 586) (by decide +kernel) rfl, Nat.le_of_ble_eq_true rfl, Nat.le_of_ble_eq_true rfl⟩
theorem ml_Us_pays_157 : MLink m_Us_pays 157 m_Tr_paidBy := ⟨wsG_of (i := 593) (by decide +kernel) rfl, Nat.le_of_ble_eq_true rfl, Nat.le_of_ble_eq_true rfl⟩
theorem ml_Us_rests_150 : MLink m_Us_rests 150 m_Us_areNotCosts := ⟨wsG_of (i := 583) (by decide +kernel) rfl, Nat.le_of_ble_eq_true rfl, Nat.le_of_ble_eq_true rfl⟩
theorem ml_Us_rests_61 : MLink m_Us_rests 61 m_Us_isNotIn := ⟨wsG_of (i := 307) (by decide +kernel) rfl, Nat.le_of_ble_eq_true rfl, Nat.le_of_ble_eq_true rfl⟩
theorem ml_Us_rests_143 : MLink m_Us_rests 143 m_Pl_walkers := ⟨wsG_of (i := 576) (by decide +kernel) rfl, Nat.le_of_ble_eq_true rfl, Nat.le_of_ble_eq_true rfl⟩
theorem ml_Us_rests_161 : MLink m_Us_rests 161 m_Tr_seekRests := ⟨wsG_of (i := 601) (by decide +kernel) rfl, Nat.le_of_ble_eq_true rfl, Nat.le_of_ble_eq_true rfl⟩
theorem ml_Us_common_150 : MLink m_Us_common 150 m_Us_areNotCosts := ⟨wsG_of (i := 583) (by decide +kernel) rfl, Nat.le_of_ble_eq_true rfl, Nat.le_of_ble_eq_true rfl⟩
theorem ml_Us_common_61 : MLink m_Us_common 61 m_Us_isNotIn := ⟨wsG_of (i := 307) (by decide +kernel) rfl, Nat.le_of_ble_eq_true rfl, Nat.le_of_ble_eq_true rfl⟩
theorem ml_Us_common_143 : MLink m_Us_common 143 m_Pl_walkers := ⟨wsG_of (i := 576) (by decide +kernel) rfl, Nat.le_of_ble_eq_true rfl, Nat.le_of_ble_eq_true rfl⟩
theorem ml_Us_common_171 : MLink m_Us_common 171 m_Tr_seekCommon := ⟨wsG_of (i := 630) (by decide +kernel) rfl, Nat.le_of_ble_eq_true rfl, Nat.le_of_ble_eq_true rfl⟩
theorem ml_Us_areNotCosts_61 : MLink m_Us_areNotCosts 61 m_Us_isNotIn := ⟨wsG_of (i := 307) (by decide +kernel) rfl, Nat.le_of_ble_eq_true rfl, Nat.le_of_ble_eq_true rfl⟩
theorem ml_Us_stand_61 : MLink m_Us_stand 61 m_Us_isNotIn := ⟨wsG_of (i := 307) (by decide +kernel) rfl, Nat.le_of_ble_eq_true rfl, Nat.le_of_ble_eq_true rfl⟩
theorem ml_Us_stand_180 : MLink m_Us_stand 180 m_Ro_isTaken := ⟨wsG_of (i := 638) (by decide +kernel) rfl, Nat.le_of_ble_eq_true rfl, Nat.le_of_ble_eq_true rfl⟩
theorem ml_Us_stand_183 : MLink m_Us_stand 183 m_Ro_add := ⟨wsG_of (i := 642) (by decide +kernel) rfl, Nat.le_of_ble_eq_true rfl, Nat.le_of_ble_eq_true rfl⟩
theorem ml_Us_wet_189 : MLink m_Us_wet 189 m_Ro_letItRain := ⟨wsG_of (i := 654) (by decide +kernel) rfl, Nat.le_of_ble_eq_true rfl, Nat.le_of_ble_eq_true rfl⟩
theorem ml_Us_wet_195 : MLink m_Us_wet 195 m_Ro_reaching := ⟨wsG_of (i := 680) (by decide +kernel) rfl, Nat.le_of_ble_eq_true rfl, Nat.le_of_ble_eq_true rfl⟩
theorem ml_Us_driest_61 : MLink m_Us_driest 61 m_Us_isNotIn := ⟨wsG_of (i := 307) (by decide +kernel) rfl, Nat.le_of_ble_eq_true rfl, Nat.le_of_ble_eq_true rfl⟩
theorem ml_Us_driest_189 : MLink m_Us_driest 189 m_Ro_letItRain := ⟨wsG_of (i := 654) (by decide +kernel) rfl, Nat.le_of_ble_eq_true rfl, Nat.le_of_ble_eq_true rfl⟩
theorem ml_Us_driest_198 : MLink m_Us_driest 198 m_Ro_driestFree := ⟨wsG_of (i := 688) (by decide +kernel) rfl, Nat.le_of_ble_eq_true rfl, Nat.le_of_ble_eq_true rfl⟩
theorem ml_Us_driest_195 : MLink m_Us_driest 195 m_Ro_reaching := ⟨wsG_of (i := 680) (by decide +kernel) rfl, Nat.le_of_ble_eq_true rfl, Nat.le_of_ble_eq_true rfl⟩
theorem ml_Us_two_201 : MLink m_Us_two 201 m_Us_areNotWidths := ⟨wsG_of (i := 698) (by decide +kernel) rfl, Nat.le_of_ble_eq_true rfl, Nat.le_of_ble_eq_true rfl⟩
theorem ml_Us_two_61 : MLink m_Us_two 61 m_Us_isNotIn := ⟨wsG_of (i := 307) (by decide +kernel) rfl, Nat.le_of_ble_eq_true rfl, Nat.le_of_ble_eq_true rfl⟩
theorem ml_Us_two_204 : MLink m_Us_two 204 m_Us_bareOfLeft := ⟨wsG_of (i := 701) (by decide +kernel) rfl, Nat.le_of_ble_eq_true rfl, Nat.le_of_ble_eq_true rfl⟩
theorem ml_Us_two_207 : MLink m_Us_two 207 m_Us_bareOfRight := ⟨wsG_of (i := 709) (by decide +kernel) rfl, Nat.le_of_ble_eq_true rfl, Nat.le_of_ble_eq_true rfl⟩
theorem ml_Us_fair_201 : MLink m_Us_fair 201 m_Us_areNotWidths := ⟨wsG_of (i := 698) (by decide +kernel) rfl, Nat.le_of_ble_eq_true rfl, Nat.le_of_ble_eq_true rfl⟩
theorem ml_Us_fair_210 : MLink m_Us_fair 210 m_Us_greaterPart := ⟨wsG_of (i := 716) (by decide +kernel) rfl, Nat.le_of_ble_eq_true rfl, Nat.le_of_ble_eq_true rfl⟩
theorem ml_Us_areNotWidths_61 : MLink m_Us_areNotWidths 61 m_Us_isNotIn := ⟨wsG_of (i := 307) (by decide +kernel) rfl, Nat.le_of_ble_eq_true rfl, Nat.le_of_ble_eq_true rfl⟩
theorem ml_Us_bareOfLeft_214 : MLink m_Us_bareOfLeft 214 m_Us_shared := ⟨wsG_of (i := 704) (by decide +kernel) rfl, Nat.le_of_ble_eq_true rfl, Nat.le_of_ble_eq_true rfl⟩
theorem ml_Us_bareOfRight_214 : MLink m_Us_bareOfRight 214 m_Us_shared := ⟨wsG_of (i := 704) (by decide +kernel) rfl, Nat.le_of_ble_eq_true rfl, Nat.le_of_ble_eq_true rfl⟩
theorem ml_Us_shared_217 : MLink m_Us_shared 217 m_Ma_min := ⟨wsG_of (i := 707) (by decide +kernel) rfl, Nat.le_of_ble_eq_true rfl, Nat.le_of_ble_eq_true rfl⟩
theorem ml_Us_shared_223 : MLink m_Us_shared 223 m_Ma_max := ⟨wsG_of (i := 708) (by decide +kernel) rfl, Nat.le_of_ble_eq_true rfl, Nat.le_of_ble_eq_true rfl⟩
theorem ml_Us_greaterPart_204 : MLink m_Us_greaterPart 204 m_Us_bareOfLeft := ⟨wsG_of (i := 701) (by decide +kernel) rfl, Nat.le_of_ble_eq_true rfl, Nat.le_of_ble_eq_true rfl⟩
theorem ml_Us_greaterPart_207 : MLink m_Us_greaterPart 207 m_Us_bareOfRight := ⟨wsG_of (i := 709) (by decide +kernel) rfl, Nat.le_of_ble_eq_true rfl, Nat.le_of_ble_eq_true rfl⟩
theorem ml_Us_greaterPart_223 : MLink m_Us_greaterPart 223 m_Ma_max := ⟨wsG_of (i := 708) (by decide +kernel) rfl, Nat.le_of_ble_eq_true rfl, Nat.le_of_ble_eq_true rfl⟩
theorem ml_Us_run_226 : MLink m_Us_run 226 m_Us_areNotRunners := ⟨wsG_of (i := 723) (by decide +kernel) rfl, Nat.le_of_ble_eq_true rfl, Nat.le_of_ble_eq_true rfl⟩
theorem ml_Us_run_61 : MLink m_Us_run 61 m_Us_isNotIn := ⟨wsG_of (i := 307) (by decide +kernel) rfl, Nat.le_of_ble_eq_true rfl, Nat.le_of_ble_eq_true rfl⟩
theorem ml_Us_run_230 : MLink m_Us_run 230 m_Us_bestPace := ⟨wsG_of (i := 726) (by decide +kernel) rfl, Nat.le_of_ble_eq_true rfl, Nat.le_of_ble_eq_true rfl⟩
theorem ml_Us_run_233 : MLink m_Us_run 233 m_Us_wetPerWay := ⟨wsG_of (i := 729) (by decide +kernel) rfl, Nat.le_of_ble_eq_true rfl, Nat.le_of_ble_eq_true rfl⟩
theorem ml_Us_run_237 : MLink m_Us_run 237 m_Us_lowest := ⟨wsG_of (i := 733) (by decide +kernel) rfl, Nat.le_of_ble_eq_true rfl, Nat.le_of_ble_eq_true rfl⟩
theorem ml_Us_pace_226 : MLink m_Us_pace 226 m_Us_areNotRunners := ⟨wsG_of (i := 723) (by decide +kernel) rfl, Nat.le_of_ble_eq_true rfl, Nat.le_of_ble_eq_true rfl⟩
theorem ml_Us_pace_230 : MLink m_Us_pace 230 m_Us_bestPace := ⟨wsG_of (i := 726) (by decide +kernel) rfl, Nat.le_of_ble_eq_true rfl, Nat.le_of_ble_eq_true rfl⟩
theorem ml_Us_areNotRunners_61 : MLink m_Us_areNotRunners 61 m_Us_isNotIn := ⟨wsG_of (i := 307) (by decide +kernel) rfl, Nat.le_of_ble_eq_true rfl, Nat.le_of_ble_eq_true rfl⟩
theorem ml_Us_wetPerWay_241 : MLink m_Us_wetPerWay 241 m_Ma_abs := ⟨wsG_of (i := 732) (by decide +kernel) rfl, Nat.le_of_ble_eq_true rfl, Nat.le_of_ble_eq_true rfl⟩
theorem ml_Us_bestPace_233 : MLink m_Us_bestPace 233 m_Us_wetPerWay := ⟨wsG_of (i := 729) (by decide +kernel) rfl, Nat.le_of_ble_eq_true rfl, Nat.le_of_ble_eq_true rfl⟩
theorem ml_Us_door_61 : MLink m_Us_door 61 m_Us_isNotIn := ⟨wsG_of (i := 307) (by decide +kernel) rfl, Nat.le_of_ble_eq_true rfl, Nat.le_of_ble_eq_true rfl⟩
theorem ml_Us_door_237 : MLink m_Us_door 237 m_Us_lowest := ⟨wsG_of (i := 733) (by decide +kernel) rfl, Nat.le_of_ble_eq_true rfl, Nat.le_of_ble_eq_true rfl⟩
theorem ml_Us_left_61 : MLink m_Us_left 61 m_Us_isNotIn := ⟨wsG_of (i := 307) (by decide +kernel) rfl, Nat.le_of_ble_eq_true rfl, Nat.le_of_ble_eq_true rfl⟩
theorem ml_Us_left_248 : MLink m_Us_left 248 m_Us_power := ⟨wsG_of (i := 753) (by decide +kernel) rfl, Nat.le_of_ble_eq_true rfl, Nat.le_of_ble_eq_true rfl⟩
theorem ml_Us_left_237 : MLink m_Us_left 237 m_Us_lowest := ⟨wsG_of (i := 733) (by decide +kernel) rfl, Nat.le_of_ble_eq_true rfl, Nat.le_of_ble_eq_true rfl⟩
theorem ml_Us_seller_61 : MLink m_Us_seller 61 m_Us_isNotIn := ⟨wsG_of (i := 307) (by decide +kernel) rfl, Nat.le_of_ble_eq_true rfl, Nat.le_of_ble_eq_true rfl⟩
theorem ml_Us_seller_257 : MLink m_Us_seller 257 m_Mk_watch := ⟨wsG_of (i := 761) (by decide +kernel) rfl, Nat.le_of_ble_eq_true rfl, Nat.le_of_ble_eq_true rfl⟩
theorem ml_Us_seller_261 : MLink m_Us_seller 261 m_Mk_income := ⟨wsG_of (i := 773) (by decide +kernel) rfl, Nat.le_of_ble_eq_true rfl, Nat.le_of_ble_eq_true rfl⟩
theorem ml_Us_where_61 : MLink m_Us_where 61 m_Us_isNotIn := ⟨wsG_of (i := 307) (by decide +kernel) rfl, Nat.le_of_ble_eq_true rfl, Nat.le_of_ble_eq_true rfl⟩
theorem ml_Us_where_257 : MLink m_Us_where 257 m_Mk_watch := ⟨wsG_of (i := 761) (by decide +kernel) rfl, Nat.le_of_ble_eq_true rfl, Nat.le_of_ble_eq_true rfl⟩
theorem ml_Us_where_264 : MLink m_Us_where 264 m_Mk_seekBest := ⟨wsG_of (i := 781) (by decide +kernel) rfl, Nat.le_of_ble_eq_true rfl, Nat.le_of_ble_eq_true rfl⟩
theorem ml_Us_count_143 : MLink m_Us_count 143 m_Pl_walkers := ⟨wsG_of (i := 576) (by decide +kernel) rfl, Nat.le_of_ble_eq_true rfl, Nat.le_of_ble_eq_true rfl⟩
theorem ml_Us_count_280 : MLink m_Us_count 280 m_Wk_onStreet := ⟨wsG_of (i := 790) (by decide +kernel) rfl, Nat.le_of_ble_eq_true rfl, Nat.le_of_ble_eq_true rfl⟩
theorem ml_Us_lowest_286 : MLink m_Us_lowest 286 m_Us_commonDivisor := ⟨wsG_of (i := 736) (by decide +kernel) rfl, Nat.le_of_ble_eq_true rfl, Nat.le_of_ble_eq_true rfl⟩
theorem ml_Rf_isWalker_66 : MLink m_Rf_isWalker 66 m_Rf_in := ⟨wsG_of (i := 898) (by decide +kernel) rfl, Nat.le_of_ble_eq_true rfl, Nat.le_of_ble_eq_true rfl⟩
theorem ml_Rf_isWalker_73 : MLink m_Rf_isWalker 73 m_Rf_has := ⟨wsG_of (i := 973) (by decide +kernel) rfl, Nat.le_of_ble_eq_true rfl, Nat.le_of_ble_eq_true rfl⟩
theorem ml_Rf_write_66 : MLink m_Rf_write 66 m_Rf_in := ⟨wsG_of (i := 898) (by decide +kernel) rfl, Nat.le_of_ble_eq_true rfl, Nat.le_of_ble_eq_true rfl⟩
theorem ml_Rf_nextToken_66 : MLink m_Rf_nextToken 66 m_Rf_in := ⟨wsG_of (i := 898) (by decide +kernel) rfl, Nat.le_of_ble_eq_true rfl, Nat.le_of_ble_eq_true rfl⟩
theorem ml_Rf_isNumber_113 : MLink m_Rf_isNumber 113 m_Rf_nextToken := ⟨wsG_of (i := 918) (by decide +kernel) rfl, Nat.le_of_ble_eq_true rfl, Nat.le_of_ble_eq_true rfl⟩
theorem ml_Rf_isNumber_66 : MLink m_Rf_isNumber 66 m_Rf_in := ⟨wsG_of (i := 898) (by decide +kernel) rfl, Nat.le_of_ble_eq_true rfl, Nat.le_of_ble_eq_true rfl⟩
theorem ml_Rf_isNumber_116 : MLink m_Rf_isNumber 116 m_Rf_fails := ⟨wsG_of (i := 941) (by decide +kernel) rfl, Nat.le_of_ble_eq_true rfl, Nat.le_of_ble_eq_true rfl⟩
theorem ml_Rf_isStreet_120 : MLink m_Rf_isStreet 120 m_Rf_isNumber := ⟨wsG_of (i := 937) (by decide +kernel) rfl, Nat.le_of_ble_eq_true rfl, Nat.le_of_ble_eq_true rfl⟩
theorem ml_Rf_isWalkerLine_120 : MLink m_Rf_isWalkerLine 120 m_Rf_isNumber := ⟨wsG_of (i := 937) (by decide +kernel) rfl, Nat.le_of_ble_eq_true rfl, Nat.le_of_ble_eq_true rfl⟩
theorem ml_Rf_isRain_120 : MLink m_Rf_isRain 120 m_Rf_isNumber := ⟨wsG_of (i := 937) (by decide +kernel) rfl, Nat.le_of_ble_eq_true rfl, Nat.le_of_ble_eq_true rfl⟩
theorem ml_Rf_isLine_113 : MLink m_Rf_isLine 113 m_Rf_nextToken := ⟨wsG_of (i := 918) (by decide +kernel) rfl, Nat.le_of_ble_eq_true rfl, Nat.le_of_ble_eq_true rfl⟩
theorem ml_Rf_isLine_139 : MLink m_Rf_isLine 139 m_Rf_isStreet := ⟨wsG_of (i := 933) (by decide +kernel) rfl, Nat.le_of_ble_eq_true rfl, Nat.le_of_ble_eq_true rfl⟩
theorem ml_Rf_isLine_120 : MLink m_Rf_isLine 120 m_Rf_isNumber := ⟨wsG_of (i := 937) (by decide +kernel) rfl, Nat.le_of_ble_eq_true rfl, Nat.le_of_ble_eq_true rfl⟩
theorem ml_Rf_isLine_143 : MLink m_Rf_isLine 143 m_Rf_isWalkerLine := ⟨wsG_of (i := 945) (by decide +kernel) rfl, Nat.le_of_ble_eq_true rfl, Nat.le_of_ble_eq_true rfl⟩
theorem ml_Rf_isLine_146 : MLink m_Rf_isLine 146 m_Rf_isRain := ⟨wsG_of (i := 949) (by decide +kernel) rfl, Nat.le_of_ble_eq_true rfl, Nat.le_of_ble_eq_true rfl⟩
theorem ml_Rf_isLine_116 : MLink m_Rf_isLine 116 m_Rf_fails := ⟨wsG_of (i := 941) (by decide +kernel) rfl, Nat.le_of_ble_eq_true rfl, Nat.le_of_ble_eq_true rfl⟩
theorem ml_Rf_isRead_152 : MLink m_Rf_isRead 152 m_Rf_isLine := ⟨wsG_of (i := 914) (by decide +kernel) rfl, Nat.le_of_ble_eq_true rfl, Nat.le_of_ble_eq_true rfl⟩
theorem ml_Rf_isRead_113 : MLink m_Rf_isRead 113 m_Rf_nextToken := ⟨wsG_of (i := 918) (by decide +kernel) rfl, Nat.le_of_ble_eq_true rfl, Nat.le_of_ble_eq_true rfl⟩
theorem ml_Rf_isRead_116 : MLink m_Rf_isRead 116 m_Rf_fails := ⟨wsG_of (i := 941) (by decide +kernel) rfl, Nat.le_of_ble_eq_true rfl, Nat.le_of_ble_eq_true rfl⟩
theorem ml_Rf_fault_155 : MLink m_Rf_fault 155 m_Rf_isRead := ⟨wsG_of (i := 910) (by decide +kernel) rfl, Nat.le_of_ble_eq_true rfl, Nat.le_of_ble_eq_true rfl⟩
theorem ml_Rf_shower_155 : MLink m_Rf_shower 155 m_Rf_isRead := ⟨wsG_of (i := 910) (by decide +kernel) rfl, Nat.le_of_ble_eq_true rfl, Nat.le_of_ble_eq_true rfl⟩
theorem ml_Rf_shower_161 : MLink m_Rf_shower 161 m_Rf_doLine := ⟨wsG_of (i := 957) (by decide +kernel) rfl, Nat.le_of_ble_eq_true rfl, Nat.le_of_ble_eq_true rfl⟩
theorem ml_Rf_shower_165 : MLink m_Rf_shower 165 m_Rf_begin := ⟨wsG_of (i := 961) (by decide +kernel) rfl, Nat.le_of_ble_eq_true rfl, Nat.le_of_ble_eq_true rfl⟩
theorem ml_Rf_whoAt_73 : MLink m_Rf_whoAt 73 m_Rf_has := ⟨wsG_of (i := 973) (by decide +kernel) rfl, Nat.le_of_ble_eq_true rfl, Nat.le_of_ble_eq_true rfl⟩
theorem ml_Rf_cell_66 : MLink m_Rf_cell 66 m_Rf_in := ⟨wsG_of (i := 898) (by decide +kernel) rfl, Nat.le_of_ble_eq_true rfl, Nat.le_of_ble_eq_true rfl⟩
theorem ml_Rf_cell_168 : MLink m_Rf_cell 168 m_Rf_whoAt := ⟨wsG_of (i := 969) (by decide +kernel) rfl, Nat.le_of_ble_eq_true rfl, Nat.le_of_ble_eq_true rfl⟩
theorem ml_Rf_walker_172 : MLink m_Rf_walker 172 m_Rf_isWalker := ⟨wsG_of (i := 980) (by decide +kernel) rfl, Nat.le_of_ble_eq_true rfl, Nat.le_of_ble_eq_true rfl⟩
theorem ml_Rf_isOn_73 : MLink m_Rf_isOn 73 m_Rf_has := ⟨wsG_of (i := 973) (by decide +kernel) rfl, Nat.le_of_ble_eq_true rfl, Nat.le_of_ble_eq_true rfl⟩
theorem ml_Rf_goOne_175 : MLink m_Rf_goOne 175 m_Rf_placeOf := ⟨wsG_of (i := 1004) (by decide +kernel) rfl, Nat.le_of_ble_eq_true rfl, Nat.le_of_ble_eq_true rfl⟩
theorem ml_Rf_goOne_66 : MLink m_Rf_goOne 66 m_Rf_in := ⟨wsG_of (i := 898) (by decide +kernel) rfl, Nat.le_of_ble_eq_true rfl, Nat.le_of_ble_eq_true rfl⟩
theorem ml_Rf_goOne_178 : MLink m_Rf_goOne 178 m_Rf_laneOf := ⟨wsG_of (i := 1008) (by decide +kernel) rfl, Nat.le_of_ble_eq_true rfl, Nat.le_of_ble_eq_true rfl⟩
theorem ml_Rf_goOne_168 : MLink m_Rf_goOne 168 m_Rf_whoAt := ⟨wsG_of (i := 969) (by decide +kernel) rfl, Nat.le_of_ble_eq_true rfl, Nat.le_of_ble_eq_true rfl⟩
theorem ml_Rf_comeOne_168 : MLink m_Rf_comeOne 168 m_Rf_whoAt := ⟨wsG_of (i := 969) (by decide +kernel) rfl, Nat.le_of_ble_eq_true rfl, Nat.le_of_ble_eq_true rfl⟩
theorem ml_Rf_poke_181 : MLink m_Rf_poke 181 m_Rf_isOn := ⟨wsG_of (i := 996) (by decide +kernel) rfl, Nat.le_of_ble_eq_true rfl, Nat.le_of_ble_eq_true rfl⟩
theorem ml_Rf_poke_184 : MLink m_Rf_poke 184 m_Rf_off := ⟨wsG_of (i := 1020) (by decide +kernel) rfl, Nat.le_of_ble_eq_true rfl, Nat.le_of_ble_eq_true rfl⟩
theorem ml_Rf_poke_175 : MLink m_Rf_poke 175 m_Rf_placeOf := ⟨wsG_of (i := 1004) (by decide +kernel) rfl, Nat.le_of_ble_eq_true rfl, Nat.le_of_ble_eq_true rfl⟩
theorem ml_Rf_poke_178 : MLink m_Rf_poke 178 m_Rf_laneOf := ⟨wsG_of (i := 1008) (by decide +kernel) rfl, Nat.le_of_ble_eq_true rfl, Nat.le_of_ble_eq_true rfl⟩
theorem ml_Rf_wetNow_181 : MLink m_Rf_wetNow 181 m_Rf_isOn := ⟨wsG_of (i := 996) (by decide +kernel) rfl, Nat.le_of_ble_eq_true rfl, Nat.le_of_ble_eq_true rfl⟩
theorem ml_Rf_wetNow_175 : MLink m_Rf_wetNow 175 m_Rf_placeOf := ⟨wsG_of (i := 1004) (by decide +kernel) rfl, Nat.le_of_ble_eq_true rfl, Nat.le_of_ble_eq_true rfl⟩
theorem ml_Rf_wetNow_178 : MLink m_Rf_wetNow 178 m_Rf_laneOf := ⟨wsG_of (i := 1008) (by decide +kernel) rfl, Nat.le_of_ble_eq_true rfl, Nat.le_of_ble_eq_true rfl⟩
theorem ml_Rf_wetNow_184 : MLink m_Rf_wetNow 184 m_Rf_off := ⟨wsG_of (i := 1020) (by decide +kernel) rfl, Nat.le_of_ble_eq_true rfl, Nat.le_of_ble_eq_true rfl⟩
theorem ml_Rf_goTick_181 : MLink m_Rf_goTick 181 m_Rf_isOn := ⟨wsG_of (i := 996) (by decide +kernel) rfl, Nat.le_of_ble_eq_true rfl, Nat.le_of_ble_eq_true rfl⟩
theorem ml_Rf_goTick_188 : MLink m_Rf_goTick 188 m_Rf_goOne := ⟨wsG_of (i := 1000) (by decide +kernel) rfl, Nat.le_of_ble_eq_true rfl, Nat.le_of_ble_eq_true rfl⟩
theorem ml_Rf_goTick_73 : MLink m_Rf_goTick 73 m_Rf_has := ⟨wsG_of (i := 973) (by decide +kernel) rfl, Nat.le_of_ble_eq_true rfl, Nat.le_of_ble_eq_true rfl⟩
theorem ml_Rf_goTick_191 : MLink m_Rf_goTick 191 m_Rf_comeOne := ⟨wsG_of (i := 1012) (by decide +kernel) rfl, Nat.le_of_ble_eq_true rfl, Nat.le_of_ble_eq_true rfl⟩
theorem ml_Rf_goTick_194 : MLink m_Rf_goTick 194 m_Rf_poke := ⟨wsG_of (i := 1016) (by decide +kernel) rfl, Nat.le_of_ble_eq_true rfl, Nat.le_of_ble_eq_true rfl⟩
theorem ml_Rf_goTick_197 : MLink m_Rf_goTick 197 m_Rf_wetNow := ⟨wsG_of (i := 1023) (by decide +kernel) rfl, Nat.le_of_ble_eq_true rfl, Nat.le_of_ble_eq_true rfl⟩
theorem ml_Rf_goTick_175 : MLink m_Rf_goTick 175 m_Rf_placeOf := ⟨wsG_of (i := 1004) (by decide +kernel) rfl, Nat.le_of_ble_eq_true rfl, Nat.le_of_ble_eq_true rfl⟩
theorem ml_Rf_go_66 : MLink m_Rf_go 66 m_Rf_in := ⟨wsG_of (i := 898) (by decide +kernel) rfl, Nat.le_of_ble_eq_true rfl, Nat.le_of_ble_eq_true rfl⟩
theorem ml_Rf_go_200 : MLink m_Rf_go 200 m_Rf_sizesAsTold := ⟨wsG_of (i := 988) (by decide +kernel) rfl, Nat.le_of_ble_eq_true rfl, Nat.le_of_ble_eq_true rfl⟩
theorem ml_Rf_go_203 : MLink m_Rf_go 203 m_Rf_goTick := ⟨wsG_of (i := 992) (by decide +kernel) rfl, Nat.le_of_ble_eq_true rfl, Nat.le_of_ble_eq_true rfl⟩
theorem ml_Rf_keep_66 : MLink m_Rf_keep 66 m_Rf_in := ⟨wsG_of (i := 898) (by decide +kernel) rfl, Nat.le_of_ble_eq_true rfl, Nat.le_of_ble_eq_true rfl⟩
theorem ml_Rf_keep_206 : MLink m_Rf_keep 206 m_Rf_copy := ⟨wsG_of (i := 1031) (by decide +kernel) rfl, Nat.le_of_ble_eq_true rfl, Nat.le_of_ble_eq_true rfl⟩
theorem ml_Rf_back_66 : MLink m_Rf_back 66 m_Rf_in := ⟨wsG_of (i := 898) (by decide +kernel) rfl, Nat.le_of_ble_eq_true rfl, Nat.le_of_ble_eq_true rfl⟩
theorem ml_Rf_back_206 : MLink m_Rf_back 206 m_Rf_copy := ⟨wsG_of (i := 1031) (by decide +kernel) rfl, Nat.le_of_ble_eq_true rfl, Nat.le_of_ble_eq_true rfl⟩
theorem ml_Rf_areThrough_73 : MLink m_Rf_areThrough 73 m_Rf_has := ⟨wsG_of (i := 973) (by decide +kernel) rfl, Nat.le_of_ble_eq_true rfl, Nat.le_of_ble_eq_true rfl⟩
theorem ml_Rf_done_200 : MLink m_Rf_done 200 m_Rf_sizesAsTold := ⟨wsG_of (i := 988) (by decide +kernel) rfl, Nat.le_of_ble_eq_true rfl, Nat.le_of_ble_eq_true rfl⟩
theorem ml_Rf_done_206 : MLink m_Rf_done 206 m_Rf_copy := ⟨wsG_of (i := 1031) (by decide +kernel) rfl, Nat.le_of_ble_eq_true rfl, Nat.le_of_ble_eq_true rfl⟩
theorem ml_Rf_done_165 : MLink m_Rf_done 165 m_Rf_begin := ⟨wsG_of (i := 961) (by decide +kernel) rfl, Nat.le_of_ble_eq_true rfl, Nat.le_of_ble_eq_true rfl⟩
theorem ml_Rf_done_210 : MLink m_Rf_done 210 m_Rf_areThrough := ⟨wsG_of (i := 1042) (by decide +kernel) rfl, Nat.le_of_ble_eq_true rfl, Nat.le_of_ble_eq_true rfl⟩
theorem ml_Rf_done_203 : MLink m_Rf_done 203 m_Rf_goTick := ⟨wsG_of (i := 992) (by decide +kernel) rfl, Nat.le_of_ble_eq_true rfl, Nat.le_of_ble_eq_true rfl⟩
theorem ml_Rf_goWhole_206 : MLink m_Rf_goWhole 206 m_Rf_copy := ⟨wsG_of (i := 1031) (by decide +kernel) rfl, Nat.le_of_ble_eq_true rfl, Nat.le_of_ble_eq_true rfl⟩
theorem ml_Rf_goWhole_165 : MLink m_Rf_goWhole 165 m_Rf_begin := ⟨wsG_of (i := 961) (by decide +kernel) rfl, Nat.le_of_ble_eq_true rfl, Nat.le_of_ble_eq_true rfl⟩
theorem ml_Rf_goWhole_203 : MLink m_Rf_goWhole 203 m_Rf_goTick := ⟨wsG_of (i := 992) (by decide +kernel) rfl, Nat.le_of_ble_eq_true rfl, Nat.le_of_ble_eq_true rfl⟩
theorem ml_Rf_takeSizes_73 : MLink m_Rf_takeSizes 73 m_Rf_has := ⟨wsG_of (i := 973) (by decide +kernel) rfl, Nat.le_of_ble_eq_true rfl, Nat.le_of_ble_eq_true rfl⟩
theorem ml_Rf_arePrices_66 : MLink m_Rf_arePrices 66 m_Rf_in := ⟨wsG_of (i := 898) (by decide +kernel) rfl, Nat.le_of_ble_eq_true rfl, Nat.le_of_ble_eq_true rfl⟩
theorem ml_Rf_pays_172 : MLink m_Rf_pays 172 m_Rf_isWalker := ⟨wsG_of (i := 980) (by decide +kernel) rfl, Nat.le_of_ble_eq_true rfl, Nat.le_of_ble_eq_true rfl⟩
theorem ml_Rf_pays_213 : MLink m_Rf_pays 213 m_Rf_takeSizes := ⟨wsG_of (i := 1050) (by decide +kernel) rfl, Nat.le_of_ble_eq_true rfl, Nat.le_of_ble_eq_true rfl⟩
theorem ml_Rf_pays_216 : MLink m_Rf_pays 216 m_Rf_arePrices := ⟨wsG_of (i := 1054) (by decide +kernel) rfl, Nat.le_of_ble_eq_true rfl, Nat.le_of_ble_eq_true rfl⟩
theorem ml_Rf_pays_219 : MLink m_Rf_pays 219 m_Rf_bits := ⟨wsG_of (i := 1057) (by decide +kernel) rfl, Nat.le_of_ble_eq_true rfl, Nat.le_of_ble_eq_true rfl⟩
theorem ml_Rf_pays_222 : MLink m_Rf_pays 222 m_Rf_goWhole := ⟨wsG_of (i := 1060) (by decide +kernel) rfl, Nat.le_of_ble_eq_true rfl, Nat.le_of_ble_eq_true rfl⟩
theorem ml_Rf_figure_226 : MLink m_Rf_figure 226 m_Rf_power := ⟨wsG_of (i := 1072) (by decide +kernel) rfl, Nat.le_of_ble_eq_true rfl, Nat.le_of_ble_eq_true rfl⟩
theorem ml_Rf_layPaid_226 : MLink m_Rf_layPaid 226 m_Rf_power := ⟨wsG_of (i := 1072) (by decide +kernel) rfl, Nat.le_of_ble_eq_true rfl, Nat.le_of_ble_eq_true rfl⟩
theorem ml_Rf_layPaid_73 : MLink m_Rf_layPaid 73 m_Rf_has := ⟨wsG_of (i := 973) (by decide +kernel) rfl, Nat.le_of_ble_eq_true rfl, Nat.le_of_ble_eq_true rfl⟩
theorem ml_Rf_layPaid_229 : MLink m_Rf_layPaid 229 m_Rf_figure := ⟨wsG_of (i := 1075) (by decide +kernel) rfl, Nat.le_of_ble_eq_true rfl, Nat.le_of_ble_eq_true rfl⟩
theorem ml_Rf_layPaid_222 : MLink m_Rf_layPaid 222 m_Rf_goWhole := ⟨wsG_of (i := 1060) (by decide +kernel) rfl, Nat.le_of_ble_eq_true rfl, Nat.le_of_ble_eq_true rfl⟩
theorem ml_Rf_doesRest_229 : MLink m_Rf_doesRest 229 m_Rf_figure := ⟨wsG_of (i := 1075) (by decide +kernel) rfl, Nat.le_of_ble_eq_true rfl, Nat.le_of_ble_eq_true rfl⟩
theorem ml_Rf_doesRest_226 : MLink m_Rf_doesRest 226 m_Rf_power := ⟨wsG_of (i := 1072) (by decide +kernel) rfl, Nat.le_of_ble_eq_true rfl, Nat.le_of_ble_eq_true rfl⟩
theorem ml_Rf_rests_216 : MLink m_Rf_rests 216 m_Rf_arePrices := ⟨wsG_of (i := 1054) (by decide +kernel) rfl, Nat.le_of_ble_eq_true rfl, Nat.le_of_ble_eq_true rfl⟩
theorem ml_Rf_rests_66 : MLink m_Rf_rests 66 m_Rf_in := ⟨wsG_of (i := 898) (by decide +kernel) rfl, Nat.le_of_ble_eq_true rfl, Nat.le_of_ble_eq_true rfl⟩
theorem ml_Rf_rests_219 : MLink m_Rf_rests 219 m_Rf_bits := ⟨wsG_of (i := 1057) (by decide +kernel) rfl, Nat.le_of_ble_eq_true rfl, Nat.le_of_ble_eq_true rfl⟩
theorem ml_Rf_rests_233 : MLink m_Rf_rests 233 m_Rf_layPaid := ⟨wsG_of (i := 1068) (by decide +kernel) rfl, Nat.le_of_ble_eq_true rfl, Nat.le_of_ble_eq_true rfl⟩
theorem ml_Rf_rests_226 : MLink m_Rf_rests 226 m_Rf_power := ⟨wsG_of (i := 1072) (by decide +kernel) rfl, Nat.le_of_ble_eq_true rfl, Nat.le_of_ble_eq_true rfl⟩
theorem ml_Rf_rests_237 : MLink m_Rf_rests 237 m_Rf_doesRest := ⟨wsG_of (i := 1078) (by decide +kernel) rfl, Nat.le_of_ble_eq_true rfl, Nat.le_of_ble_eq_true rfl⟩
theorem ml_Rf_rests_229 : MLink m_Rf_rests 229 m_Rf_figure := ⟨wsG_of (i := 1075) (by decide +kernel) rfl, Nat.le_of_ble_eq_true rfl, Nat.le_of_ble_eq_true rfl⟩
theorem ml_Rf_common_216 : MLink m_Rf_common 216 m_Rf_arePrices := ⟨wsG_of (i := 1054) (by decide +kernel) rfl, Nat.le_of_ble_eq_true rfl, Nat.le_of_ble_eq_true rfl⟩
theorem ml_Rf_common_66 : MLink m_Rf_common 66 m_Rf_in := ⟨wsG_of (i := 898) (by decide +kernel) rfl, Nat.le_of_ble_eq_true rfl, Nat.le_of_ble_eq_true rfl⟩
theorem ml_Rf_common_219 : MLink m_Rf_common 219 m_Rf_bits := ⟨wsG_of (i := 1057) (by decide +kernel) rfl, Nat.le_of_ble_eq_true rfl, Nat.le_of_ble_eq_true rfl⟩
theorem ml_Rf_common_222 : MLink m_Rf_common 222 m_Rf_goWhole := ⟨wsG_of (i := 1060) (by decide +kernel) rfl, Nat.le_of_ble_eq_true rfl, Nat.le_of_ble_eq_true rfl⟩
theorem ml_Rf_common_73 : MLink m_Rf_common 73 m_Rf_has := ⟨wsG_of (i := 973) (by decide +kernel) rfl, Nat.le_of_ble_eq_true rfl, Nat.le_of_ble_eq_true rfl⟩
theorem ml_Rf_stand_66 : MLink m_Rf_stand 66 m_Rf_in := ⟨wsG_of (i := 898) (by decide +kernel) rfl, Nat.le_of_ble_eq_true rfl, Nat.le_of_ble_eq_true rfl⟩
theorem ml_Rf_umbrellaAt_184 : MLink m_Rf_umbrellaAt 184 m_Rf_off := ⟨wsG_of (i := 1020) (by decide +kernel) rfl, Nat.le_of_ble_eq_true rfl, Nat.le_of_ble_eq_true rfl⟩
theorem ml_Rf_umbrellaAt_243 : MLink m_Rf_umbrellaAt 243 m_Rf_isHigher := ⟨wsG_of (i := 1110) (by decide +kernel) rfl, Nat.le_of_ble_eq_true rfl, Nat.le_of_ble_eq_true rfl⟩
theorem ml_Rf_falls_66 : MLink m_Rf_falls 66 m_Rf_in := ⟨wsG_of (i := 898) (by decide +kernel) rfl, Nat.le_of_ble_eq_true rfl, Nat.le_of_ble_eq_true rfl⟩
theorem ml_Rf_falls_246 : MLink m_Rf_falls 246 m_Rf_umbrellaAt := ⟨wsG_of (i := 1106) (by decide +kernel) rfl, Nat.le_of_ble_eq_true rfl, Nat.le_of_ble_eq_true rfl⟩
theorem ml_Rf_pour_249 : MLink m_Rf_pour 249 m_Rf_falls := ⟨wsG_of (i := 1102) (by decide +kernel) rfl, Nat.le_of_ble_eq_true rfl, Nat.le_of_ble_eq_true rfl⟩
theorem ml_Rf_pour_73 : MLink m_Rf_pour 73 m_Rf_has := ⟨wsG_of (i := 973) (by decide +kernel) rfl, Nat.le_of_ble_eq_true rfl, Nat.le_of_ble_eq_true rfl⟩
theorem ml_Rf_pour_243 : MLink m_Rf_pour 243 m_Rf_isHigher := ⟨wsG_of (i := 1110) (by decide +kernel) rfl, Nat.le_of_ble_eq_true rfl, Nat.le_of_ble_eq_true rfl⟩
theorem ml_Rf_wet_66 : MLink m_Rf_wet 66 m_Rf_in := ⟨wsG_of (i := 898) (by decide +kernel) rfl, Nat.le_of_ble_eq_true rfl, Nat.le_of_ble_eq_true rfl⟩
theorem ml_Rf_wet_252 : MLink m_Rf_wet 252 m_Rf_pour := ⟨wsG_of (i := 1098) (by decide +kernel) rfl, Nat.le_of_ble_eq_true rfl, Nat.le_of_ble_eq_true rfl⟩
theorem ml_Rf_driest_66 : MLink m_Rf_driest 66 m_Rf_in := ⟨wsG_of (i := 898) (by decide +kernel) rfl, Nat.le_of_ble_eq_true rfl, Nat.le_of_ble_eq_true rfl⟩
theorem ml_Rf_driest_252 : MLink m_Rf_driest 252 m_Rf_pour := ⟨wsG_of (i := 1098) (by decide +kernel) rfl, Nat.le_of_ble_eq_true rfl, Nat.le_of_ble_eq_true rfl⟩
theorem ml_Rf_areWide_66 : MLink m_Rf_areWide 66 m_Rf_in := ⟨wsG_of (i := 898) (by decide +kernel) rfl, Nat.le_of_ble_eq_true rfl, Nat.le_of_ble_eq_true rfl⟩
theorem ml_Rf_two_255 : MLink m_Rf_two 255 m_Rf_areWide := ⟨wsG_of (i := 1122) (by decide +kernel) rfl, Nat.le_of_ble_eq_true rfl, Nat.le_of_ble_eq_true rfl⟩
theorem ml_Rf_two_66 : MLink m_Rf_two 66 m_Rf_in := ⟨wsG_of (i := 898) (by decide +kernel) rfl, Nat.le_of_ble_eq_true rfl, Nat.le_of_ble_eq_true rfl⟩
theorem ml_Rf_two_258 : MLink m_Rf_two 258 m_Rf_under := ⟨wsG_of (i := 1125) (by decide +kernel) rfl, Nat.le_of_ble_eq_true rfl, Nat.le_of_ble_eq_true rfl⟩
theorem ml_Rf_fair_255 : MLink m_Rf_fair 255 m_Rf_areWide := ⟨wsG_of (i := 1122) (by decide +kernel) rfl, Nat.le_of_ble_eq_true rfl, Nat.le_of_ble_eq_true rfl⟩
theorem ml_Rf_fair_258 : MLink m_Rf_fair 258 m_Rf_under := ⟨wsG_of (i := 1125) (by decide +kernel) rfl, Nat.le_of_ble_eq_true rfl, Nat.le_of_ble_eq_true rfl⟩
theorem ml_Rf_isRun_66 : MLink m_Rf_isRun 66 m_Rf_in := ⟨wsG_of (i := 898) (by decide +kernel) rfl, Nat.le_of_ble_eq_true rfl, Nat.le_of_ble_eq_true rfl⟩
theorem ml_Rf_runOf_184 : MLink m_Rf_runOf 184 m_Rf_off := ⟨wsG_of (i := 1020) (by decide +kernel) rfl, Nat.le_of_ble_eq_true rfl, Nat.le_of_ble_eq_true rfl⟩
theorem ml_Rf_bestPace_262 : MLink m_Rf_bestPace 262 m_Rf_runOf := ⟨wsG_of (i := 1142) (by decide +kernel) rfl, Nat.le_of_ble_eq_true rfl, Nat.le_of_ble_eq_true rfl⟩
theorem ml_Rf_run_266 : MLink m_Rf_run 266 m_Rf_isRun := ⟨wsG_of (i := 1136) (by decide +kernel) rfl, Nat.le_of_ble_eq_true rfl, Nat.le_of_ble_eq_true rfl⟩
theorem ml_Rf_run_66 : MLink m_Rf_run 66 m_Rf_in := ⟨wsG_of (i := 898) (by decide +kernel) rfl, Nat.le_of_ble_eq_true rfl, Nat.le_of_ble_eq_true rfl⟩
theorem ml_Rf_run_270 : MLink m_Rf_run 270 m_Rf_bestPace := ⟨wsG_of (i := 1139) (by decide +kernel) rfl, Nat.le_of_ble_eq_true rfl, Nat.le_of_ble_eq_true rfl⟩
theorem ml_Rf_run_262 : MLink m_Rf_run 262 m_Rf_runOf := ⟨wsG_of (i := 1142) (by decide +kernel) rfl, Nat.le_of_ble_eq_true rfl, Nat.le_of_ble_eq_true rfl⟩
theorem ml_Rf_run_273 : MLink m_Rf_run 273 m_Rf_gcd := ⟨wsG_of (i := 1145) (by decide +kernel) rfl, Nat.le_of_ble_eq_true rfl, Nat.le_of_ble_eq_true rfl⟩
theorem ml_Rf_pace_266 : MLink m_Rf_pace 266 m_Rf_isRun := ⟨wsG_of (i := 1136) (by decide +kernel) rfl, Nat.le_of_ble_eq_true rfl, Nat.le_of_ble_eq_true rfl⟩
theorem ml_Rf_pace_270 : MLink m_Rf_pace 270 m_Rf_bestPace := ⟨wsG_of (i := 1139) (by decide +kernel) rfl, Nat.le_of_ble_eq_true rfl, Nat.le_of_ble_eq_true rfl⟩
theorem ml_Rf_door_66 : MLink m_Rf_door 66 m_Rf_in := ⟨wsG_of (i := 898) (by decide +kernel) rfl, Nat.le_of_ble_eq_true rfl, Nat.le_of_ble_eq_true rfl⟩
theorem ml_Rf_door_273 : MLink m_Rf_door 273 m_Rf_gcd := ⟨wsG_of (i := 1145) (by decide +kernel) rfl, Nat.le_of_ble_eq_true rfl, Nat.le_of_ble_eq_true rfl⟩
theorem ml_Rf_left_66 : MLink m_Rf_left 66 m_Rf_in := ⟨wsG_of (i := 898) (by decide +kernel) rfl, Nat.le_of_ble_eq_true rfl, Nat.le_of_ble_eq_true rfl⟩
theorem ml_Rf_left_273 : MLink m_Rf_left 273 m_Rf_gcd := ⟨wsG_of (i := 1145) (by decide +kernel) rfl, Nat.le_of_ble_eq_true rfl, Nat.le_of_ble_eq_true rfl⟩
theorem ml_Rf_wetFrom_73 : MLink m_Rf_wetFrom 73 m_Rf_has := ⟨wsG_of (i := 973) (by decide +kernel) rfl, Nat.le_of_ble_eq_true rfl, Nat.le_of_ble_eq_true rfl⟩
theorem ml_Rf_sold_281 : MLink m_Rf_sold 281 m_Rf_wetFrom := ⟨wsG_of (i := 1170) (by decide +kernel) rfl, Nat.le_of_ble_eq_true rfl, Nat.le_of_ble_eq_true rfl⟩
theorem ml_Rf_seller_66 : MLink m_Rf_seller 66 m_Rf_in := ⟨wsG_of (i := 898) (by decide +kernel) rfl, Nat.le_of_ble_eq_true rfl, Nat.le_of_ble_eq_true rfl⟩
theorem ml_Rf_seller_200 : MLink m_Rf_seller 200 m_Rf_sizesAsTold := ⟨wsG_of (i := 988) (by decide +kernel) rfl, Nat.le_of_ble_eq_true rfl, Nat.le_of_ble_eq_true rfl⟩
theorem ml_Rf_seller_222 : MLink m_Rf_seller 222 m_Rf_goWhole := ⟨wsG_of (i := 1060) (by decide +kernel) rfl, Nat.le_of_ble_eq_true rfl, Nat.le_of_ble_eq_true rfl⟩
theorem ml_Rf_seller_284 : MLink m_Rf_seller 284 m_Rf_sold := ⟨wsG_of (i := 1166) (by decide +kernel) rfl, Nat.le_of_ble_eq_true rfl, Nat.le_of_ble_eq_true rfl⟩
theorem ml_Rf_where_66 : MLink m_Rf_where 66 m_Rf_in := ⟨wsG_of (i := 898) (by decide +kernel) rfl, Nat.le_of_ble_eq_true rfl, Nat.le_of_ble_eq_true rfl⟩
theorem ml_Rf_where_200 : MLink m_Rf_where 200 m_Rf_sizesAsTold := ⟨wsG_of (i := 988) (by decide +kernel) rfl, Nat.le_of_ble_eq_true rfl, Nat.le_of_ble_eq_true rfl⟩
theorem ml_Rf_where_222 : MLink m_Rf_where 222 m_Rf_goWhole := ⟨wsG_of (i := 1060) (by decide +kernel) rfl, Nat.le_of_ble_eq_true rfl, Nat.le_of_ble_eq_true rfl⟩
theorem ml_Rf_where_284 : MLink m_Rf_where 284 m_Rf_sold := ⟨wsG_of (i := 1166) (by decide +kernel) rfl, Nat.le_of_ble_eq_true rfl, Nat.le_of_ble_eq_true rfl⟩
theorem ml_Rf_count_181 : MLink m_Rf_count 181 m_Rf_isOn := ⟨wsG_of (i := 996) (by decide +kernel) rfl, Nat.le_of_ble_eq_true rfl, Nat.le_of_ble_eq_true rfl⟩
theorem ml_Rf_count_219 : MLink m_Rf_count 219 m_Rf_bits := ⟨wsG_of (i := 1057) (by decide +kernel) rfl, Nat.le_of_ble_eq_true rfl, Nat.le_of_ble_eq_true rfl⟩
theorem ml_St_length_335 : MLink m_St_length 335 m_St_coder := ⟨wsG_of (i := 359) (by decide +kernel) rfl, Nat.le_of_ble_eq_true rfl, Nat.le_of_ble_eq_true rfl⟩
theorem ml_St_charAt_492 : MLink m_St_charAt 492 m_St_isLatin1 := ⟨wsG_of (i := 369) (by decide +kernel) rfl, Nat.le_of_ble_eq_true rfl, Nat.le_of_ble_eq_true rfl⟩
theorem ml_St_charAt_495 : MLink m_St_charAt 495 m_SL_charAt := ⟨wsG_of (i := 373) (by decide +kernel) rfl, Nat.le_of_ble_eq_true rfl, Nat.le_of_ble_eq_true rfl⟩
theorem ml_St_checkIndex_1059 : MLink m_St_checkIndex 1059 m_Pc_checkIndex := ⟨wsG_of (i := 381) (by decide +kernel) rfl, Nat.le_of_ble_eq_true rfl, Nat.le_of_ble_eq_true rfl⟩
theorem ml_SL_charAt_9 : MLink m_SL_charAt 9 m_St_checkIndex := ⟨wsG_of (i := 376) (by decide +kernel) rfl, Nat.le_of_ble_eq_true rfl, Nat.le_of_ble_eq_true rfl⟩
theorem ml_Lw_law_15 : MLink m_Lw_law 15 m_Us_write := ⟨wsG_of (i := 303) (by decide +kernel) rfl, Nat.le_of_ble_eq_true rfl, Nat.le_of_ble_eq_true rfl⟩
theorem ml_Lw_law_19 : MLink m_Lw_law 19 m_Rf_write := ⟨wsG_of (i := 894) (by decide +kernel) rfl, Nat.le_of_ble_eq_true rfl, Nat.le_of_ble_eq_true rfl⟩
theorem ml_Lw_law_20 : MLink m_Lw_law 20 m_Us_erase := ⟨wsG_of (i := 315) (by decide +kernel) rfl, Nat.le_of_ble_eq_true rfl, Nat.le_of_ble_eq_true rfl⟩
theorem ml_Lw_law_24 : MLink m_Lw_law 24 m_Rf_erase := ⟨wsG_of (i := 902) (by decide +kernel) rfl, Nat.le_of_ble_eq_true rfl, Nat.le_of_ble_eq_true rfl⟩
theorem ml_Lw_law_25 : MLink m_Lw_law 25 m_Us_fault := ⟨wsG_of (i := 323) (by decide +kernel) rfl, Nat.le_of_ble_eq_true rfl, Nat.le_of_ble_eq_true rfl⟩
theorem ml_Lw_law_28 : MLink m_Lw_law 28 m_Rf_fault := ⟨wsG_of (i := 906) (by decide +kernel) rfl, Nat.le_of_ble_eq_true rfl, Nat.le_of_ble_eq_true rfl⟩
theorem ml_Lw_law_29 : MLink m_Lw_law 29 m_Us_shower := ⟨wsG_of (i := 464) (by decide +kernel) rfl, Nat.le_of_ble_eq_true rfl, Nat.le_of_ble_eq_true rfl⟩
theorem ml_Lw_law_32 : MLink m_Lw_law 32 m_Rf_shower := ⟨wsG_of (i := 953) (by decide +kernel) rfl, Nat.le_of_ble_eq_true rfl, Nat.le_of_ble_eq_true rfl⟩
theorem ml_Lw_law_33 : MLink m_Lw_law 33 m_Us_cell := ⟨wsG_of (i := 476) (by decide +kernel) rfl, Nat.le_of_ble_eq_true rfl, Nat.le_of_ble_eq_true rfl⟩
theorem ml_Lw_law_37 : MLink m_Lw_law 37 m_Rf_cell := ⟨wsG_of (i := 965) (by decide +kernel) rfl, Nat.le_of_ble_eq_true rfl, Nat.le_of_ble_eq_true rfl⟩
theorem ml_Lw_law_38 : MLink m_Lw_law 38 m_Us_walker := ⟨wsG_of (i := 489) (by decide +kernel) rfl, Nat.le_of_ble_eq_true rfl, Nat.le_of_ble_eq_true rfl⟩
theorem ml_Lw_law_41 : MLink m_Lw_law 41 m_Rf_walker := ⟨wsG_of (i := 976) (by decide +kernel) rfl, Nat.le_of_ble_eq_true rfl, Nat.le_of_ble_eq_true rfl⟩
theorem ml_Lw_law_42 : MLink m_Lw_law 42 m_Us_go := ⟨wsG_of (i := 494) (by decide +kernel) rfl, Nat.le_of_ble_eq_true rfl, Nat.le_of_ble_eq_true rfl⟩
theorem ml_Lw_law_46 : MLink m_Lw_law 46 m_Rf_go := ⟨wsG_of (i := 984) (by decide +kernel) rfl, Nat.le_of_ble_eq_true rfl, Nat.le_of_ble_eq_true rfl⟩
theorem ml_Lw_law_47 : MLink m_Lw_law 47 m_Us_keep := ⟨wsG_of (i := 552) (by decide +kernel) rfl, Nat.le_of_ble_eq_true rfl, Nat.le_of_ble_eq_true rfl⟩
theorem ml_Lw_law_50 : MLink m_Lw_law 50 m_Rf_keep := ⟨wsG_of (i := 1027) (by decide +kernel) rfl, Nat.le_of_ble_eq_true rfl, Nat.le_of_ble_eq_true rfl⟩
theorem ml_Lw_law_51 : MLink m_Lw_law 51 m_Us_back := ⟨wsG_of (i := 560) (by decide +kernel) rfl, Nat.le_of_ble_eq_true rfl, Nat.le_of_ble_eq_true rfl⟩
theorem ml_Lw_law_54 : MLink m_Lw_law 54 m_Rf_back := ⟨wsG_of (i := 1034) (by decide +kernel) rfl, Nat.le_of_ble_eq_true rfl, Nat.le_of_ble_eq_true rfl⟩
theorem ml_Lw_law_55 : MLink m_Lw_law 55 m_Us_done := ⟨wsG_of (i := 564) (by decide +kernel) rfl, Nat.le_of_ble_eq_true rfl, Nat.le_of_ble_eq_true rfl⟩
theorem ml_Lw_law_58 : MLink m_Lw_law 58 m_Rf_done := ⟨wsG_of (i := 1038) (by decide +kernel) rfl, Nat.le_of_ble_eq_true rfl, Nat.le_of_ble_eq_true rfl⟩
theorem ml_Lw_law_59 : MLink m_Lw_law 59 m_Us_pays := ⟨wsG_of (i := 572) (by decide +kernel) rfl, Nat.le_of_ble_eq_true rfl, Nat.le_of_ble_eq_true rfl⟩
theorem ml_Lw_law_63 : MLink m_Lw_law 63 m_Rf_pays := ⟨wsG_of (i := 1046) (by decide +kernel) rfl, Nat.le_of_ble_eq_true rfl, Nat.le_of_ble_eq_true rfl⟩
theorem ml_Lw_law_64 : MLink m_Lw_law 64 m_Us_rests := ⟨wsG_of (i := 597) (by decide +kernel) rfl, Nat.le_of_ble_eq_true rfl, Nat.le_of_ble_eq_true rfl⟩
theorem ml_Lw_law_68 : MLink m_Lw_law 68 m_Rf_rests := ⟨wsG_of (i := 1064) (by decide +kernel) rfl, Nat.le_of_ble_eq_true rfl, Nat.le_of_ble_eq_true rfl⟩
theorem ml_Lw_law_69 : MLink m_Lw_law 69 m_Us_common := ⟨wsG_of (i := 626) (by decide +kernel) rfl, Nat.le_of_ble_eq_true rfl, Nat.le_of_ble_eq_true rfl⟩
theorem ml_Lw_law_72 : MLink m_Lw_law 72 m_Rf_common := ⟨wsG_of (i := 1082) (by decide +kernel) rfl, Nat.le_of_ble_eq_true rfl, Nat.le_of_ble_eq_true rfl⟩
theorem ml_Lw_law_73 : MLink m_Lw_law 73 m_Us_stand := ⟨wsG_of (i := 634) (by decide +kernel) rfl, Nat.le_of_ble_eq_true rfl, Nat.le_of_ble_eq_true rfl⟩
theorem ml_Lw_law_76 : MLink m_Lw_law 76 m_Rf_stand := ⟨wsG_of (i := 1086) (by decide +kernel) rfl, Nat.le_of_ble_eq_true rfl, Nat.le_of_ble_eq_true rfl⟩
theorem ml_Lw_law_77 : MLink m_Lw_law 77 m_Us_bus := ⟨wsG_of (i := 646) (by decide +kernel) rfl, Nat.le_of_ble_eq_true rfl, Nat.le_of_ble_eq_true rfl⟩
theorem ml_Lw_law_80 : MLink m_Lw_law 80 m_Rf_bus := ⟨wsG_of (i := 1090) (by decide +kernel) rfl, Nat.le_of_ble_eq_true rfl, Nat.le_of_ble_eq_true rfl⟩
theorem ml_Lw_law_81 : MLink m_Lw_law 81 m_Us_wet := ⟨wsG_of (i := 650) (by decide +kernel) rfl, Nat.le_of_ble_eq_true rfl, Nat.le_of_ble_eq_true rfl⟩
theorem ml_Lw_law_84 : MLink m_Lw_law 84 m_Rf_wet := ⟨wsG_of (i := 1094) (by decide +kernel) rfl, Nat.le_of_ble_eq_true rfl, Nat.le_of_ble_eq_true rfl⟩
theorem ml_Lw_law_85 : MLink m_Lw_law 85 m_Us_driest := ⟨wsG_of (i := 684) (by decide +kernel) rfl, Nat.le_of_ble_eq_true rfl, Nat.le_of_ble_eq_true rfl⟩
theorem ml_Lw_law_88 : MLink m_Lw_law 88 m_Rf_driest := ⟨wsG_of (i := 1114) (by decide +kernel) rfl, Nat.le_of_ble_eq_true rfl, Nat.le_of_ble_eq_true rfl⟩
theorem ml_Lw_law_89 : MLink m_Lw_law 89 m_Us_two := ⟨wsG_of (i := 694) (by decide +kernel) rfl, Nat.le_of_ble_eq_true rfl, Nat.le_of_ble_eq_true rfl⟩
theorem ml_Lw_law_93 : MLink m_Lw_law 93 m_Rf_two := ⟨wsG_of (i := 1118) (by decide +kernel) rfl, Nat.le_of_ble_eq_true rfl, Nat.le_of_ble_eq_true rfl⟩
theorem ml_Lw_law_94 : MLink m_Lw_law 94 m_Us_fair := ⟨wsG_of (i := 712) (by decide +kernel) rfl, Nat.le_of_ble_eq_true rfl, Nat.le_of_ble_eq_true rfl⟩
theorem ml_Lw_law_97 : MLink m_Lw_law 97 m_Rf_fair := ⟨wsG_of (i := 1128) (by decide +kernel) rfl, Nat.le_of_ble_eq_true rfl, Nat.le_of_ble_eq_true rfl⟩
theorem ml_Lw_law_98 : MLink m_Lw_law 98 m_Us_run := ⟨wsG_of (i := 719) (by decide +kernel) rfl, Nat.le_of_ble_eq_true rfl, Nat.le_of_ble_eq_true rfl⟩
theorem ml_Lw_law_102 : MLink m_Lw_law 102 m_Rf_run := ⟨wsG_of (i := 1132) (by decide +kernel) rfl, Nat.le_of_ble_eq_true rfl, Nat.le_of_ble_eq_true rfl⟩
theorem ml_Lw_law_103 : MLink m_Lw_law 103 m_Us_pace := ⟨wsG_of (i := 739) (by decide +kernel) rfl, Nat.le_of_ble_eq_true rfl, Nat.le_of_ble_eq_true rfl⟩
theorem ml_Lw_law_106 : MLink m_Lw_law 106 m_Rf_pace := ⟨wsG_of (i := 1148) (by decide +kernel) rfl, Nat.le_of_ble_eq_true rfl, Nat.le_of_ble_eq_true rfl⟩
theorem ml_Lw_law_107 : MLink m_Lw_law 107 m_Us_door := ⟨wsG_of (i := 743) (by decide +kernel) rfl, Nat.le_of_ble_eq_true rfl, Nat.le_of_ble_eq_true rfl⟩
theorem ml_Lw_law_111 : MLink m_Lw_law 111 m_Rf_door := ⟨wsG_of (i := 1152) (by decide +kernel) rfl, Nat.le_of_ble_eq_true rfl, Nat.le_of_ble_eq_true rfl⟩
theorem ml_Lw_law_112 : MLink m_Lw_law 112 m_Us_left := ⟨wsG_of (i := 749) (by decide +kernel) rfl, Nat.le_of_ble_eq_true rfl, Nat.le_of_ble_eq_true rfl⟩
theorem ml_Lw_law_115 : MLink m_Lw_law 115 m_Rf_left := ⟨wsG_of (i := 1158) (by decide +kernel) rfl, Nat.le_of_ble_eq_true rfl, Nat.le_of_ble_eq_true rfl⟩
theorem ml_Lw_law_116 : MLink m_Lw_law 116 m_Us_seller := ⟨wsG_of (i := 757) (by decide +kernel) rfl, Nat.le_of_ble_eq_true rfl, Nat.le_of_ble_eq_true rfl⟩
theorem ml_Lw_law_119 : MLink m_Lw_law 119 m_Rf_seller := ⟨wsG_of (i := 1162) (by decide +kernel) rfl, Nat.le_of_ble_eq_true rfl, Nat.le_of_ble_eq_true rfl⟩
theorem ml_Lw_law_120 : MLink m_Lw_law 120 m_Us_where := ⟨wsG_of (i := 777) (by decide +kernel) rfl, Nat.le_of_ble_eq_true rfl, Nat.le_of_ble_eq_true rfl⟩
theorem ml_Lw_law_123 : MLink m_Lw_law 123 m_Rf_where := ⟨wsG_of (i := 1174) (by decide +kernel) rfl, Nat.le_of_ble_eq_true rfl, Nat.le_of_ble_eq_true rfl⟩
theorem ml_Lw_law_124 : MLink m_Lw_law 124 m_Us_count := ⟨wsG_of (i := 786) (by decide +kernel) rfl, Nat.le_of_ble_eq_true rfl, Nat.le_of_ble_eq_true rfl⟩
theorem ml_Lw_law_127 : MLink m_Lw_law 127 m_Rf_count := ⟨wsG_of (i := 1178) (by decide +kernel) rfl, Nat.le_of_ble_eq_true rfl, Nat.le_of_ble_eq_true rfl⟩
theorem fl_Us_12 : FLk RX6 12 6 0 := ⟨RX6, TX6, 9, rfl, by decide, wsG_of (i := 275) (by decide +kernel) rfl⟩
theorem fl_Us_16 : FLk RX6 16 6 1 := ⟨RX6, TX6, 9, rfl, by decide, wsG_of (i := 276) (by decide +kernel) rfl⟩
theorem fl_Us_22 : FLk RX6 22 6 2 := ⟨RX6, TX6, 9, rfl, by decide, wsG_of (i := 277) (by decide +kernel) rfl⟩
theorem fl_Us_29 : FLk RX6 29 6 3 := ⟨RX6, TX6, 9, rfl, by decide, wsG_of (i := 278) (by decide +kernel) rfl⟩
theorem fl_Us_33 : FLk RX6 33 6 4 := ⟨RX6, TX6, 9, rfl, by decide, wsG_of (i := 279) (by decide +kernel) rfl⟩
theorem fl_Us_36 : FLk RX6 36 6 5 := ⟨RX6, TX6, 9, rfl, by decide, wsG_of (i := 280) (by decide +kernel) rfl⟩
theorem fl_Us_43 : FLk RX6 43 6 6 := ⟨RX6, TX6, 9, rfl, by decide, wsG_of (i := 281) (by decide +kernel) rfl⟩
theorem fl_Us_50 : FLk RX6 50 6 7 := ⟨RX6, TX6, 9, rfl, by decide, wsG_of (i := 282) (by decide +kernel) rfl⟩
theorem fl_Us_57 : FLk RX6 57 6 8 := ⟨RX6, TX6, 9, rfl, by decide, wsG_of (i := 283) (by decide +kernel) rfl⟩
theorem fl_Us_69 : FLk RX6 69 3 2 := ⟨RX3, TX3, 7, rfl, by decide, wsG_of (i := 123) (by decide +kernel) rfl⟩
theorem fl_Us_92 : FLk RX6 92 5 0 := ⟨RX5, TX5, 8, rfl, by decide, wsG_of (i := 153) (by decide +kernel) rfl⟩
theorem fl_Us_96 : FLk RX6 96 3 3 := ⟨RX3, TX3, 7, rfl, by decide, wsG_of (i := 125) (by decide +kernel) rfl⟩
theorem fl_Us_113 : FLk RX6 113 5 3 := ⟨RX5, TX5, 8, rfl, by decide, wsG_of (i := 160) (by decide +kernel) rfl⟩
theorem fl_Us_117 : FLk RX6 117 5 5 := ⟨RX5, TX5, 8, rfl, by decide, wsG_of (i := 166) (by decide +kernel) rfl⟩
theorem fl_Us_120 : FLk RX6 120 5 6 := ⟨RX5, TX5, 8, rfl, by decide, wsG_of (i := 169) (by decide +kernel) rfl⟩
theorem fl_Us_123 : FLk RX6 123 5 7 := ⟨RX5, TX5, 8, rfl, by decide, wsG_of (i := 171) (by decide +kernel) rfl⟩
theorem fl_Us_126 : FLk RX6 126 5 4 := ⟨RX5, TX5, 8, rfl, by decide, wsG_of (i := 162) (by decide +kernel) rfl⟩
theorem fl_Us_133 : FLk RX6 133 5 1 := ⟨RX5, TX5, 8, rfl, by decide, wsG_of (i := 155) (by decide +kernel) rfl⟩
theorem fl_Us_165 : FLk RX6 165 4 3 := ⟨RX4, TX4, 7, rfl, by decide, wsG_of (i := 204) (by decide +kernel) rfl⟩
theorem fl_Us_168 : FLk RX6 168 4 4 := ⟨RX4, TX4, 7, rfl, by decide, wsG_of (i := 206) (by decide +kernel) rfl⟩
theorem fl_Us_174 : FLk RX6 174 4 5 := ⟨RX4, TX4, 7, rfl, by decide, wsG_of (i := 208) (by decide +kernel) rfl⟩
theorem fl_Us_177 : FLk RX6 177 4 6 := ⟨RX4, TX4, 7, rfl, by decide, wsG_of (i := 210) (by decide +kernel) rfl⟩
theorem fl_Us_186 : FLk RX6 186 2 0 := ⟨RX2, TX2, 6, rfl, by decide, wsG_of (i := 233) (by decide +kernel) rfl⟩
theorem fl_Us_192 : FLk RX6 192 2 1 := ⟨RX2, TX2, 6, rfl, by decide, wsG_of (i := 235) (by decide +kernel) rfl⟩
theorem fl_Us_254 : FLk RX6 254 1 1 := ⟨RX1, TX1, 11, rfl, by decide, wsG_of (i := 69) (by decide +kernel) rfl⟩
theorem fl_Us_268 : FLk RX6 268 0 1 := ⟨RX0, TX0, 4, rfl, by decide, wsG_of (i := 261) (by decide +kernel) rfl⟩
theorem fl_Us_271 : FLk RX6 271 0 2 := ⟨RX0, TX0, 4, rfl, by decide, wsG_of (i := 263) (by decide +kernel) rfl⟩
theorem fl_Us_274 : FLk RX6 274 0 3 := ⟨RX0, TX0, 4, rfl, by decide, wsG_of (i := 265) (by decide +kernel) rfl⟩
theorem fl_Us_277 : FLk RX6 277 1 0 := ⟨RX1, TX1, 11, rfl, by decide, wsG_of (i := 65) (by decide +kernel) rfl⟩
theorem fl_Us_283 : FLk RX6 283 5 2 := ⟨RX5, TX5, 8, rfl, by decide, wsG_of (i := 157) (by decide +kernel) rfl⟩
theorem fl_Mk_9 : FLk RX0 9 0 0 := ⟨RX0, TX0, 4, rfl, by decide, wsG_of (i := 259) (by decide +kernel) rfl⟩
theorem fl_Mk_34 : FLk RX0 34 5 5 := ⟨RX5, TX5, 8, rfl, by decide, wsG_of (i := 164) (by decide +kernel) rfl⟩
theorem fl_Mk_41 : FLk RX0 41 1 8 := ⟨RX1, TX1, 11, rfl, by decide, wsG_of (i := 84) (by decide +kernel) rfl⟩
theorem fl_Mk_46 : FLk RX0 46 5 3 := ⟨RX5, TX5, 8, rfl, by decide, wsG_of (i := 159) (by decide +kernel) rfl⟩
theorem fl_Mk_49 : FLk RX0 49 0 3 := ⟨RX0, TX0, 4, rfl, by decide, wsG_of (i := 264) (by decide +kernel) rfl⟩
theorem fl_Mk_57 : FLk RX0 57 0 1 := ⟨RX0, TX0, 4, rfl, by decide, wsG_of (i := 260) (by decide +kernel) rfl⟩
theorem fl_Mk_60 : FLk RX0 60 0 2 := ⟨RX0, TX0, 4, rfl, by decide, wsG_of (i := 262) (by decide +kernel) rfl⟩
theorem fl_Pl_9 : FLk RX1 9 1 0 := ⟨RX1, TX1, 11, rfl, by decide, wsG_of (i := 62) (by decide +kernel) rfl⟩
theorem fl_Pl_15 : FLk RX1 15 1 1 := ⟨RX1, TX1, 11, rfl, by decide, wsG_of (i := 66) (by decide +kernel) rfl⟩
theorem fl_Pl_18 : FLk RX1 18 1 2 := ⟨RX1, TX1, 11, rfl, by decide, wsG_of (i := 70) (by decide +kernel) rfl⟩
theorem fl_Pl_22 : FLk RX1 22 1 3 := ⟨RX1, TX1, 11, rfl, by decide, wsG_of (i := 71) (by decide +kernel) rfl⟩
theorem fl_Pl_25 : FLk RX1 25 1 4 := ⟨RX1, TX1, 11, rfl, by decide, wsG_of (i := 74) (by decide +kernel) rfl⟩
theorem fl_Pl_29 : FLk RX1 29 1 5 := ⟨RX1, TX1, 11, rfl, by decide, wsG_of (i := 76) (by decide +kernel) rfl⟩
theorem fl_Pl_32 : FLk RX1 32 1 6 := ⟨RX1, TX1, 11, rfl, by decide, wsG_of (i := 78) (by decide +kernel) rfl⟩
theorem fl_Pl_35 : FLk RX1 35 1 7 := ⟨RX1, TX1, 11, rfl, by decide, wsG_of (i := 80) (by decide +kernel) rfl⟩
theorem fl_Pl_38 : FLk RX1 38 1 8 := ⟨RX1, TX1, 11, rfl, by decide, wsG_of (i := 82) (by decide +kernel) rfl⟩
theorem fl_Pl_41 : FLk RX1 41 1 9 := ⟨RX1, TX1, 11, rfl, by decide, wsG_of (i := 86) (by decide +kernel) rfl⟩
theorem fl_Pl_44 : FLk RX1 44 1 10 := ⟨RX1, TX1, 11, rfl, by decide, wsG_of (i := 88) (by decide +kernel) rfl⟩
theorem fl_Ro_11 : FLk RX2 11 2 1 := ⟨RX2, TX2, 6, rfl, by decide, wsG_of (i := 234) (by decide +kernel) rfl⟩
theorem fl_Ro_15 : FLk RX2 15 2 2 := ⟨RX2, TX2, 6, rfl, by decide, wsG_of (i := 236) (by decide +kernel) rfl⟩
theorem fl_Ro_18 : FLk RX2 18 2 3 := ⟨RX2, TX2, 6, rfl, by decide, wsG_of (i := 237) (by decide +kernel) rfl⟩
theorem fl_Ro_21 : FLk RX2 21 2 4 := ⟨RX2, TX2, 6, rfl, by decide, wsG_of (i := 238) (by decide +kernel) rfl⟩
theorem fl_Ro_24 : FLk RX2 24 2 5 := ⟨RX2, TX2, 6, rfl, by decide, wsG_of (i := 239) (by decide +kernel) rfl⟩
theorem fl_Ro_27 : FLk RX2 27 2 0 := ⟨RX2, TX2, 6, rfl, by decide, wsG_of (i := 232) (by decide +kernel) rfl⟩
theorem fl_Tx_11 : FLk RX3 11 3 0 := ⟨RX3, TX3, 7, rfl, by decide, wsG_of (i := 120) (by decide +kernel) rfl⟩
theorem fl_Tx_17 : FLk RX3 17 3 1 := ⟨RX3, TX3, 7, rfl, by decide, wsG_of (i := 121) (by decide +kernel) rfl⟩
theorem fl_Tx_20 : FLk RX3 20 3 2 := ⟨RX3, TX3, 7, rfl, by decide, wsG_of (i := 122) (by decide +kernel) rfl⟩
theorem fl_Tx_26 : FLk RX3 26 3 5 := ⟨RX3, TX3, 7, rfl, by decide, wsG_of (i := 127) (by decide +kernel) rfl⟩
theorem fl_Tx_29 : FLk RX3 29 3 3 := ⟨RX3, TX3, 7, rfl, by decide, wsG_of (i := 124) (by decide +kernel) rfl⟩
theorem fl_Tx_36 : FLk RX3 36 3 4 := ⟨RX3, TX3, 7, rfl, by decide, wsG_of (i := 126) (by decide +kernel) rfl⟩
theorem fl_Tx_42 : FLk RX3 42 3 6 := ⟨RX3, TX3, 7, rfl, by decide, wsG_of (i := 128) (by decide +kernel) rfl⟩
theorem fl_Tx_86 : FLk RX3 86 1 1 := ⟨RX1, TX1, 11, rfl, by decide, wsG_of (i := 67) (by decide +kernel) rfl⟩
theorem fl_Tx_89 : FLk RX3 89 1 0 := ⟨RX1, TX1, 11, rfl, by decide, wsG_of (i := 63) (by decide +kernel) rfl⟩
theorem fl_Tr_12 : FLk RX4 12 4 0 := ⟨RX4, TX4, 7, rfl, by decide, wsG_of (i := 200) (by decide +kernel) rfl⟩
theorem fl_Tr_21 : FLk RX4 21 4 1 := ⟨RX4, TX4, 7, rfl, by decide, wsG_of (i := 201) (by decide +kernel) rfl⟩
theorem fl_Tr_25 : FLk RX4 25 4 2 := ⟨RX4, TX4, 7, rfl, by decide, wsG_of (i := 202) (by decide +kernel) rfl⟩
theorem fl_Tr_33 : FLk RX4 33 1 3 := ⟨RX1, TX1, 11, rfl, by decide, wsG_of (i := 72) (by decide +kernel) rfl⟩
theorem fl_Tr_37 : FLk RX4 37 1 8 := ⟨RX1, TX1, 11, rfl, by decide, wsG_of (i := 83) (by decide +kernel) rfl⟩
theorem fl_Tr_46 : FLk RX4 46 5 5 := ⟨RX5, TX5, 8, rfl, by decide, wsG_of (i := 165) (by decide +kernel) rfl⟩
theorem fl_Tr_49 : FLk RX4 49 5 6 := ⟨RX5, TX5, 8, rfl, by decide, wsG_of (i := 168) (by decide +kernel) rfl⟩
theorem fl_Tr_73 : FLk RX4 73 4 3 := ⟨RX4, TX4, 7, rfl, by decide, wsG_of (i := 203) (by decide +kernel) rfl⟩
theorem fl_Tr_77 : FLk RX4 77 4 4 := ⟨RX4, TX4, 7, rfl, by decide, wsG_of (i := 205) (by decide +kernel) rfl⟩
theorem fl_Tr_91 : FLk RX4 91 4 5 := ⟨RX4, TX4, 7, rfl, by decide, wsG_of (i := 207) (by decide +kernel) rfl⟩
theorem fl_Tr_94 : FLk RX4 94 4 6 := ⟨RX4, TX4, 7, rfl, by decide, wsG_of (i := 209) (by decide +kernel) rfl⟩
theorem fl_Wk_9 : FLk RX5 9 5 3 := ⟨RX5, TX5, 8, rfl, by decide, wsG_of (i := 158) (by decide +kernel) rfl⟩
theorem fl_Wk_15 : FLk RX5 15 5 4 := ⟨RX5, TX5, 8, rfl, by decide, wsG_of (i := 161) (by decide +kernel) rfl⟩
theorem fl_Wk_19 : FLk RX5 19 5 5 := ⟨RX5, TX5, 8, rfl, by decide, wsG_of (i := 163) (by decide +kernel) rfl⟩
theorem fl_Wk_22 : FLk RX5 22 5 6 := ⟨RX5, TX5, 8, rfl, by decide, wsG_of (i := 167) (by decide +kernel) rfl⟩
theorem fl_Wk_25 : FLk RX5 25 5 7 := ⟨RX5, TX5, 8, rfl, by decide, wsG_of (i := 170) (by decide +kernel) rfl⟩
theorem fl_Wk_34 : FLk RX5 34 5 1 := ⟨RX5, TX5, 8, rfl, by decide, wsG_of (i := 154) (by decide +kernel) rfl⟩
theorem fl_Wk_38 : FLk RX5 38 5 2 := ⟨RX5, TX5, 8, rfl, by decide, wsG_of (i := 156) (by decide +kernel) rfl⟩
theorem fl_Wk_45 : FLk RX5 45 1 3 := ⟨RX1, TX1, 11, rfl, by decide, wsG_of (i := 73) (by decide +kernel) rfl⟩
theorem fl_Wk_54 : FLk RX5 54 1 6 := ⟨RX1, TX1, 11, rfl, by decide, wsG_of (i := 79) (by decide +kernel) rfl⟩
theorem fl_Wk_67 : FLk RX5 67 1 5 := ⟨RX1, TX1, 11, rfl, by decide, wsG_of (i := 77) (by decide +kernel) rfl⟩
theorem fl_Wk_74 : FLk RX5 74 1 1 := ⟨RX1, TX1, 11, rfl, by decide, wsG_of (i := 68) (by decide +kernel) rfl⟩
theorem fl_Wk_81 : FLk RX5 81 1 9 := ⟨RX1, TX1, 11, rfl, by decide, wsG_of (i := 87) (by decide +kernel) rfl⟩
theorem fl_Wk_84 : FLk RX5 84 1 0 := ⟨RX1, TX1, 11, rfl, by decide, wsG_of (i := 64) (by decide +kernel) rfl⟩
theorem fl_Wk_87 : FLk RX5 87 1 4 := ⟨RX1, TX1, 11, rfl, by decide, wsG_of (i := 75) (by decide +kernel) rfl⟩
theorem fl_Wk_94 : FLk RX5 94 1 8 := ⟨RX1, TX1, 11, rfl, by decide, wsG_of (i := 85) (by decide +kernel) rfl⟩
theorem fl_Wk_97 : FLk RX5 97 1 7 := ⟨RX1, TX1, 11, rfl, by decide, wsG_of (i := 81) (by decide +kernel) rfl⟩
theorem fl_Rf_7 : FLk RX7 7 7 0 := ⟨RX7, TX7, 31, rfl, by decide, wsG_of (i := 800) (by decide +kernel) rfl⟩
theorem fl_Rf_13 : FLk RX7 13 7 1 := ⟨RX7, TX7, 31, rfl, by decide, wsG_of (i := 801) (by decide +kernel) rfl⟩
theorem fl_Rf_16 : FLk RX7 16 7 4 := ⟨RX7, TX7, 31, rfl, by decide, wsG_of (i := 804) (by decide +kernel) rfl⟩
theorem fl_Rf_20 : FLk RX7 20 7 5 := ⟨RX7, TX7, 31, rfl, by decide, wsG_of (i := 805) (by decide +kernel) rfl⟩
theorem fl_Rf_23 : FLk RX7 23 7 7 := ⟨RX7, TX7, 31, rfl, by decide, wsG_of (i := 807) (by decide +kernel) rfl⟩
theorem fl_Rf_26 : FLk RX7 26 7 15 := ⟨RX7, TX7, 31, rfl, by decide, wsG_of (i := 815) (by decide +kernel) rfl⟩
theorem fl_Rf_29 : FLk RX7 29 7 18 := ⟨RX7, TX7, 31, rfl, by decide, wsG_of (i := 818) (by decide +kernel) rfl⟩
theorem fl_Rf_32 : FLk RX7 32 7 19 := ⟨RX7, TX7, 31, rfl, by decide, wsG_of (i := 819) (by decide +kernel) rfl⟩
theorem fl_Rf_35 : FLk RX7 35 7 20 := ⟨RX7, TX7, 31, rfl, by decide, wsG_of (i := 820) (by decide +kernel) rfl⟩
theorem fl_Rf_38 : FLk RX7 38 7 21 := ⟨RX7, TX7, 31, rfl, by decide, wsG_of (i := 821) (by decide +kernel) rfl⟩
theorem fl_Rf_42 : FLk RX7 42 7 22 := ⟨RX7, TX7, 31, rfl, by decide, wsG_of (i := 822) (by decide +kernel) rfl⟩
theorem fl_Rf_45 : FLk RX7 45 7 23 := ⟨RX7, TX7, 31, rfl, by decide, wsG_of (i := 823) (by decide +kernel) rfl⟩
theorem fl_Rf_48 : FLk RX7 48 7 24 := ⟨RX7, TX7, 31, rfl, by decide, wsG_of (i := 824) (by decide +kernel) rfl⟩
theorem fl_Rf_51 : FLk RX7 51 7 26 := ⟨RX7, TX7, 31, rfl, by decide, wsG_of (i := 826) (by decide +kernel) rfl⟩
theorem fl_Rf_54 : FLk RX7 54 7 27 := ⟨RX7, TX7, 31, rfl, by decide, wsG_of (i := 827) (by decide +kernel) rfl⟩
theorem fl_Rf_57 : FLk RX7 57 7 28 := ⟨RX7, TX7, 31, rfl, by decide, wsG_of (i := 828) (by decide +kernel) rfl⟩
theorem fl_Rf_60 : FLk RX7 60 7 29 := ⟨RX7, TX7, 31, rfl, by decide, wsG_of (i := 829) (by decide +kernel) rfl⟩
theorem fl_Rf_63 : FLk RX7 63 7 30 := ⟨RX7, TX7, 31, rfl, by decide, wsG_of (i := 830) (by decide +kernel) rfl⟩
theorem fl_Rf_70 : FLk RX7 70 7 3 := ⟨RX7, TX7, 31, rfl, by decide, wsG_of (i := 803) (by decide +kernel) rfl⟩
theorem fl_Rf_77 : FLk RX7 77 7 6 := ⟨RX7, TX7, 31, rfl, by decide, wsG_of (i := 806) (by decide +kernel) rfl⟩
theorem fl_Rf_82 : FLk RX7 82 7 8 := ⟨RX7, TX7, 31, rfl, by decide, wsG_of (i := 808) (by decide +kernel) rfl⟩
theorem fl_Rf_85 : FLk RX7 85 7 9 := ⟨RX7, TX7, 31, rfl, by decide, wsG_of (i := 809) (by decide +kernel) rfl⟩
theorem fl_Rf_88 : FLk RX7 88 7 11 := ⟨RX7, TX7, 31, rfl, by decide, wsG_of (i := 811) (by decide +kernel) rfl⟩
theorem fl_Rf_91 : FLk RX7 91 7 12 := ⟨RX7, TX7, 31, rfl, by decide, wsG_of (i := 812) (by decide +kernel) rfl⟩
theorem fl_Rf_96 : FLk RX7 96 7 10 := ⟨RX7, TX7, 31, rfl, by decide, wsG_of (i := 810) (by decide +kernel) rfl⟩
theorem fl_Rf_110 : FLk RX7 110 7 13 := ⟨RX7, TX7, 31, rfl, by decide, wsG_of (i := 813) (by decide +kernel) rfl⟩
theorem fl_Rf_123 : FLk RX7 123 7 16 := ⟨RX7, TX7, 31, rfl, by decide, wsG_of (i := 816) (by decide +kernel) rfl⟩
theorem fl_Rf_126 : FLk RX7 126 7 17 := ⟨RX7, TX7, 31, rfl, by decide, wsG_of (i := 817) (by decide +kernel) rfl⟩
theorem fl_Rf_149 : FLk RX7 149 7 14 := ⟨RX7, TX7, 31, rfl, by decide, wsG_of (i := 814) (by decide +kernel) rfl⟩
theorem fl_Rf_158 : FLk RX7 158 7 2 := ⟨RX7, TX7, 31, rfl, by decide, wsG_of (i := 802) (by decide +kernel) rfl⟩
theorem fl_Rf_240 : FLk RX7 240 7 25 := ⟨RX7, TX7, 31, rfl, by decide, wsG_of (i := 825) (by decide +kernel) rfl⟩
theorem pl_Mk_1 : PLk 0 1 := fun _ _ _ h => by cases h; rfl
theorem pl_Mk_2 : PLk 0 2 := fun _ _ _ h => by cases h; rfl
theorem pl_Mk_3 : PLk 0 3 := fun _ _ _ h => by cases h; rfl
theorem pl_Pl_0 : PLk 1 0 := fun _ _ _ h => by cases h; rfl
theorem pl_Pl_1 : PLk 1 1 := fun _ _ _ h => by cases h; rfl
theorem pl_Ro_0 : PLk 2 0 := fun _ _ _ h => by cases h; rfl
theorem pl_Tx_2 : PLk 3 2 := fun _ _ _ h => by cases h; rfl
theorem pl_Tx_3 : PLk 3 3 := fun _ _ _ h => by cases h; rfl
theorem pl_Tx_4 : PLk 3 4 := fun _ _ _ h => by cases h; rfl
theorem pl_Tx_5 : PLk 3 5 := fun _ _ _ h => by cases h; rfl
theorem pl_Tx_6 : PLk 3 6 := fun _ _ _ h => by cases h; rfl
theorem pl_Tr_3 : PLk 4 3 := fun _ _ _ h => by cases h; rfl
theorem pl_Tr_4 : PLk 4 4 := fun _ _ _ h => by cases h; rfl
theorem pl_Tr_5 : PLk 4 5 := fun _ _ _ h => by cases h; rfl
theorem pl_Tr_6 : PLk 4 6 := fun _ _ _ h => by cases h; rfl
theorem pl_Wk_0 : PLk 5 0 := fun _ _ _ h => by cases h; rfl
theorem pl_Wk_1 : PLk 5 1 := fun _ _ _ h => by cases h; rfl
theorem pl_Wk_2 : PLk 5 2 := fun _ _ _ h => by cases h; rfl
theorem pl_Rf_0 : PLk 7 0 := fun _ _ _ h => by cases h; rfl
theorem pl_Rf_1 : PLk 7 1 := fun _ _ _ h => by cases h; rfl
theorem pl_Rf_2 : PLk 7 2 := fun _ _ _ h => by cases h; rfl
theorem pl_Rf_3 : PLk 7 3 := fun _ _ _ h => by cases h; rfl
theorem pl_Rf_6 : PLk 7 6 := fun _ _ _ h => by cases h; rfl
theorem pl_Rf_8 : PLk 7 8 := fun _ _ _ h => by cases h; rfl
theorem pl_Rf_9 : PLk 7 9 := fun _ _ _ h => by cases h; rfl
theorem pl_Rf_10 : PLk 7 10 := fun _ _ _ h => by cases h; rfl
theorem pl_Rf_11 : PLk 7 11 := fun _ _ _ h => by cases h; rfl
theorem pl_Rf_12 : PLk 7 12 := fun _ _ _ h => by cases h; rfl
theorem pl_Rf_13 : PLk 7 13 := fun _ _ _ h => by cases h; rfl
theorem pl_Rf_14 : PLk 7 14 := fun _ _ _ h => by cases h; rfl
theorem pl_Rf_16 : PLk 7 16 := fun _ _ _ h => by cases h; rfl
theorem pl_Rf_17 : PLk 7 17 := fun _ _ _ h => by cases h; rfl
theorem pl_Rf_25 : PLk 7 25 := fun _ _ _ h => by cases h; rfl
theorem cl_Us_244 : Cond.constantLong RX6 244 (-3) ∈ wsG := wsG_of (i := 747) (by decide +kernel) rfl
theorem cl_Us_246 : Cond.constantLong RX6 246 (10) ∈ wsG := wsG_of (i := 748) (by decide +kernel) rfl
theorem cl_Us_252 : Cond.constantLong RX6 252 (100) ∈ wsG := wsG_of (i := 756) (by decide +kernel) rfl
theorem cl_Tx_24 : Cond.constantLong RX3 24 (255) ∈ wsG := wsG_of (i := 314) (by decide +kernel) rfl
theorem cl_Lw_13 : Cond.constantLong R_law 13 (4294967295) ∈ wsG := wsG_of (i := 1182) (by decide +kernel) rfl
theorem cl_Rf_80 : Cond.constantLong RX7 80 (255) ∈ wsG := wsG_of (i := 901) (by decide +kernel) rfl
theorem cl_Rf_94 : Cond.constantLong RX7 94 (-2) ∈ wsG := wsG_of (i := 922) (by decide +kernel) rfl
theorem cl_Rf_100 : Cond.constantLong RX7 100 (27) ∈ wsG := wsG_of (i := 923) (by decide +kernel) rfl
theorem cl_Rf_102 : Cond.constantLong RX7 102 (96) ∈ wsG := wsG_of (i := 924) (by decide +kernel) rfl
theorem cl_Rf_104 : Cond.constantLong RX7 104 (-4) ∈ wsG := wsG_of (i := 925) (by decide +kernel) rfl
theorem cl_Rf_106 : Cond.constantLong RX7 106 (-1) ∈ wsG := wsG_of (i := 926) (by decide +kernel) rfl
theorem cl_Rf_108 : Cond.constantLong RX7 108 (-3) ∈ wsG := wsG_of (i := 927) (by decide +kernel) rfl
theorem cl_Rf_129 : Cond.constantLong RX7 129 (283616147) ∈ wsG := wsG_of (i := 928) (by decide +kernel) rfl
theorem cl_Rf_131 : Cond.constantLong RX7 131 (26854558) ∈ wsG := wsG_of (i := 929) (by decide +kernel) rfl
theorem cl_Rf_133 : Cond.constantLong RX7 133 (330800670) ∈ wsG := wsG_of (i := 930) (by decide +kernel) rfl
theorem cl_Rf_135 : Cond.constantLong RX7 135 (149099) ∈ wsG := wsG_of (i := 931) (by decide +kernel) rfl
theorem cl_Rf_137 : Cond.constantLong RX7 137 (355280) ∈ wsG := wsG_of (i := 932) (by decide +kernel) rfl
theorem cl_Rf_277 : Cond.constantLong RX7 277 (100) ∈ wsG := wsG_of (i := 1156) (by decide +kernel) rfl
theorem cl_Rf_279 : Cond.constantLong RX7 279 (10) ∈ wsG := wsG_of (i := 1157) (by decide +kernel) rfl
end
section
/-! THE ABSTRACT MACHINE: values by paths (a field's slot in front of its owner's path), a heap of whole numbers, and what stands of it in the machine -/
abbrev AV : Type := (Int32 ⊕ Int64) ⊕ Option (List Nat)
abbrev vI (x : Int32) : AV := .inl (.inl x)
abbrev vL (x : Int64) : AV := .inl (.inr x)
abbrev vR (p : List Nat) : AV := .inr (some p)
abbrev vN : AV := .inr none
abbrev EU : Type := va_G × (ClassId × ClassId × ClassId) × (List Nat → Nat) × (Nat → Prop)
abbrev EU.ad (E : EU) : List Nat → Nat := E.2.2.1
abbrev EU.A (E : EU) : Nat → Prop := E.2.2.2
def cv (E : EU) : AV → Value
  | .inl (.inl x) => .int x
  | .inl (.inr x) => .long x
  | .inr (some p) => .ref (EU.ad E p)
  | .inr none => .null
abbrev Hp : Type := (List Nat → Nat → Int32) × (List Nat → Nat → Int64)
def hsI (h : Hp) (p : List Nat) (i : Nat) (v : Int32) : Hp := (fun q j => if q = p ∧ j = i then v else h.1 q j, h.2)
def hsL (h : Hp) (p : List Nat) (i : Nat) (v : Int64) : Hp := (h.1, fun q j => if q = p ∧ j = i then v else h.2 q j)
def fty (c k : Nat) : Nat := ((ftab.getD c []).getD k 2)
def nfl (c : Nat) : Nat := (ftab.getD c []).length
def gv (h : Hp) (p : List Nat) (c k : Nat) : AV := match fty c k with
  | 0 => vI (h.1 p k)
  | 1 => vI (h.1 p k)
  | 3 => vL (h.2 p k)
  | _ => vR (k :: p)
/-- a cell: its path, its kind (0 .. 7 a class, 8 ints, 9 booleans, 10 walks), its length -/
abbrev CU : Type := List Nat × Nat × Nat
def celE (E : EU) (h : Hp) (q : CU) : va_E := match q.2.1 with
  | 8 => .inl (E.2.1.1, q.2.2, .inl (h.1 q.1))
  | 9 => .inl (E.2.1.2.1, q.2.2, .inl (h.1 q.1))
  | 10 => .inl (E.2.1.2.2, q.2.2, .inr (.inr (.inr (.inr (fun j => some (EU.ad E (j :: q.1)))))))
  | c => .inr (c, (List.range (nfl c)).map (fun k => cv E (gv h q.1 c k)))
def celU (E : EU) (h : Hp) (q : CU) : Nat × va_E := (EU.ad E q.1, celE E h q)
def live : List CU := [([0], 6, 0), ([0, 0], 1, 0), ([2, 0, 0], 9, 48), ([3, 0, 0], 9, 6), ([4, 0, 0], 8, 6), ([5, 0, 0], 8, 6), ([6, 0, 0], 8, 6), ([7, 0, 0], 8, 6), ([8, 0, 0], 8, 6), ([9, 0, 0], 8, 6), ([10, 0, 0], 8, 60), ([1, 0], 1, 0), ([2, 1, 0], 9, 48), ([3, 1, 0], 9, 6), ([4, 1, 0], 8, 6), ([5, 1, 0], 8, 6), ([6, 1, 0], 8, 6), ([7, 1, 0], 8, 6), ([8, 1, 0], 8, 6), ([9, 1, 0], 8, 6), ([10, 1, 0], 8, 60), ([2, 0], 3, 0), ([0, 2, 0], 8, 200), ([1, 2, 0], 8, 7), ([3, 0], 5, 0), ([3, 3, 0], 8, 6), ([4, 3, 0], 9, 6), ([5, 3, 0], 8, 6), ([6, 3, 0], 8, 6), ([7, 3, 0], 8, 6), ([4, 0], 5, 0), ([3, 4, 0], 8, 6), ([4, 4, 0], 9, 6), ([5, 4, 0], 8, 6), ([6, 4, 0], 8, 6), ([7, 4, 0], 8, 6), ([5, 0], 10, 2), ([0, 5, 0], 5, 0), ([3, 0, 5, 0], 8, 6), ([4, 0, 5, 0], 9, 6), ([5, 0, 5, 0], 8, 6), ([6, 0, 5, 0], 8, 6), ([7, 0, 5, 0], 8, 6), ([1, 5, 0], 5, 0), ([3, 1, 5, 0], 8, 6), ([4, 1, 5, 0], 9, 6), ([5, 1, 5, 0], 8, 6), ([6, 1, 5, 0], 8, 6), ([7, 1, 5, 0], 8, 6), ([6, 0], 4, 0), ([0, 6, 0], 1, 0), ([2, 0, 6, 0], 9, 48), ([3, 0, 6, 0], 9, 6), ([4, 0, 6, 0], 8, 6), ([5, 0, 6, 0], 8, 6), ([6, 0, 6, 0], 8, 6), ([7, 0, 6, 0], 8, 6), ([8, 0, 6, 0], 8, 6), ([9, 0, 6, 0], 8, 6), ([10, 0, 6, 0], 8, 60), ([1, 6, 0], 5, 0), ([3, 1, 6, 0], 8, 6), ([4, 1, 6, 0], 9, 6), ([5, 1, 6, 0], 8, 6), ([6, 1, 6, 0], 8, 6), ([7, 1, 6, 0], 8, 6), ([2, 6, 0], 8, 324), ([7, 0], 2, 0), ([1, 7, 0], 8, 8), ([2, 7, 0], 8, 8), ([3, 7, 0], 8, 8), ([4, 7, 0], 8, 8), ([5, 7, 0], 8, 20), ([8, 0], 0, 0), ([0, 8, 0], 8, 72), ([1], 7, 0), ([4, 1], 8, 36), ([5, 1], 8, 60), ([7, 1], 8, 200), ([15, 1], 8, 64), ([18, 1], 8, 26), ([19, 1], 8, 26), ([20, 1], 8, 52), ([21, 1], 9, 2), ([22, 1], 8, 6), ([23, 1], 8, 360), ([24, 1], 8, 72), ([26, 1], 8, 24), ([27, 1], 8, 8), ([28, 1], 8, 20), ([29, 1], 8, 6), ([30, 1], 8, 324)]
abbrev Liv (p : List Nat) (k n : Nat) : Prop := (p, k, n) ∈ live
theorem live_nd : (live.map (·.1)).Nodup := by decide +kernel
theorem live_inj {i j : Nat} {q r : CU} (hi : live[i]? = some q) (hj : live[j]? = some r) (e : q.1 = r.1) : i = j := by
  have h1 : (live.map (·.1))[i]? = some q.1 := by rw [List.getElem?_map, hi]; rfl
  have h2 : (live.map (·.1))[j]? = some r.1 := by rw [List.getElem?_map, hj]; rfl
  exact (List.getElem?_inj (List.getElem?_eq_some_iff.mp h1).1 live_nd).mp (by rw [h1, h2, e])
theorem live_ix {q : CU} (h : q ∈ live) (E : EU) (hp : Hp) : ∃ i : Nat, live[i]? = some q ∧ (live.map (celU E hp))[i]? = some (celU E hp q) := by
  obtain ⟨i, hi⟩ := List.getElem?_of_mem h
  exact ⟨i, hi, by rw [List.getElem?_map, hi]; rfl⟩
theorem live_set {E : EU} {h h' : Hp} {i : Nat} {q : CU} (hi : live[i]? = some q) (hne : ∀ q' : CU, q'.1 ≠ q.1 → celU E h' q' = celU E h q') : (live.map (celU E h)).set i (celU E h' q) = live.map (celU E h') := by
  apply List.ext_getElem?
  intro j
  by_cases hj : j = i
  · subst hj
    have hl := (List.getElem?_eq_some_iff.mp hi).1
    rw [List.getElem?_set_self (by simpa using hl), List.getElem?_map, hi]
    rfl
  · rw [List.getElem?_set_ne (Ne.symm hj), List.getElem?_map, List.getElem?_map]
    cases hq : live[j]? with
    | none => rfl
    | some r =>
      have hn : r.1 ≠ q.1 := fun e => hj (live_inj hq hi e)
      show some (celU E h r) = some (celU E h' r)
      rw [hne r hn]
theorem hsI_other {h : Hp} {p q : List Nat} {i : Nat} {v : Int32} (hn : q ≠ p) : (hsI h p i v).1 q = h.1 q := by
  funext j
  simp [hsI, hn]
theorem hsL_other {h : Hp} {p q : List Nat} {i : Nat} {v : Int64} (hn : q ≠ p) : (hsL h p i v).2 q = h.2 q := by
  funext j
  simp [hsL, hn]
theorem celE_congr {E : EU} {h h' : Hp} {q : CU} (h1 : h'.1 q.1 = h.1 q.1) (h2 : h'.2 q.1 = h.2 q.1) : celU E h' q = celU E h q := by
  have hg : ∀ c k, gv h' q.1 c k = gv h q.1 c k := fun c k => by unfold gv; rw [h1, h2]
  unfold celU celE
  simp only [h1, hg]
def RepH (E : EU) (h : Hp) (H : Heap) : Prop := va_P E.1 clsU (live.map (celU E h)) H ∧ va_D (EU.A E) (live.map (celU E h))
abbrev XS : Type := Nat × (Nat → Int32)
def tysU (E : EU) : List (ClassId × FieldType) := [(E.2.1.1, .int), (E.2.1.2.1, .boolean), (E.2.1.2.2, .object "UmbrellaStreet$Walk")]
def sIx : Nat → Nat := fun i => match i with | 0 => 49 | 1 => 58 | 2 => 63 | 3 => 68 | _ => 73
def sTx : Nat → String := fun i => match i with | 0 => "street" | 1 => "awning" | 2 => "walker" | 3 => "gone" | _ => "rain"
def sLen : List Nat := [6, 6, 6, 4, 4]
def sByt : List (List Int32) := [[115, 116, 114, 101, 101, 116], [97, 119, 110, 105, 110, 103], [119, 97, 108, 107, 101, 114], [103, 111, 110, 101], [114, 97, 105, 110]]
def StrU (E : EU) (s : State) : Prop := (∀ i : Nat, i < 5 → vk_R "UmbrellaStreet$Text" (sIx i) (sTx i) (EU.ad E [i, 3]) s) ∧ vk_S 5 sLen sByt (fun i => EU.ad E [i, 3]) (fun i => EU.ad E [0, i, 3]) (EU.A E) s s.heap ∧ va_Z "java/lang/String" "COMPACT_STRINGS" "Z" (.int 1) (EU.A E) s s.heap ∧ (va_Z "jdk/internal/util/Preconditions" "SIOOBE_FORMATTER" "Ljava/util/function/BiFunction;" .null (EU.A E) s s.heap ∨ va_Z "jdk/internal/util/Preconditions" "SIOOBE_FORMATTER" "Ljava/util/function/BiFunction;" (.ref (EU.ad E [4])) (EU.A E) s s.heap)
def WorldU (X : XS) (E : EU) (s : State) : Prop := va_K E.1 clsU (tysU E) s ∧ (va_X (EU.ad E [2]) X.1 X.2 s s.heap ∧ EU.ad E [2] < s.heap.size ∧ ¬ EU.A E (EU.ad E [2])) ∧ va_Nw (.methodLinkNest "UmbrellaStreet$Text" 107 m_Us_isNotIn.1 "UmbrellaStreet") s ∧ StrU E s
theorem WorldU.go {X : XS} {E : EU} {s U : State} {H : Heap} {locs : List Loc} (hW : WorldU X E s) (hS : va_S (EU.A E) s.heap H locs) (hU : U.heap = H) (hw : s.WarmedH U.vm) : WorldU X E U := by
  obtain ⟨hK, ⟨hX, hb, hA⟩, hN, h1, h2, h3, h4⟩ := hW
  subst hU
  have hq : ∀ a : Nat, a < s.heap.size → ¬ EU.A E a → U.heap[a]? = s.heap[a]? := hS.2.1
  refine ⟨va_K.moved hw.alike hK, ⟨(hX.kept (hq _ hb hA)).moved hw.alike, Nat.lt_of_lt_of_le hb hS.1, hA⟩, va_Nw.warmM hw hN, fun i hi => vk_R.warm hw (h1 i hi), (h2.kept hq).moved hw.alike, (h3.kept hq).moved hw.alike, ?_⟩
  rcases h4 with h | h
  · exact Or.inl ((h.kept hq).moved hw.alike)
  · exact Or.inr ((h.kept hq).moved hw.alike)
/-! locals -/
def asc (E : EU) (ls : List (Option AV)) : List (Nat × Value) := (List.range ls.length).filterMap (fun i => (ls[i]?.join).map (fun v => (i, cv E v)))
theorem mem_asc {E : EU} {ls : List (Option AV)} {q : Nat × Value} : q ∈ asc E ls ↔ ∃ v, ls[q.1]? = some (some v) ∧ q.2 = cv E v := by
  constructor
  · intro h
    obtain ⟨i, -, hi⟩ := List.mem_filterMap.mp h
    cases hl : ls[i]? with
    | none => simp [hl] at hi
    | some o =>
      cases o with
      | none => simp [hl] at hi
      | some v =>
        simp [hl] at hi
        subst hi
        exact ⟨v, hl, rfl⟩
  · rintro ⟨v, hv, e⟩
    refine List.mem_filterMap.mpr ⟨q.1, List.mem_range.mpr (List.getElem?_eq_some_iff.mp hv).1, ?_⟩
    simp [hv, ← e]
theorem asc_at {E : EU} {ls : List (Option AV)} {LS : Array Slot} {n i : Nat} {v : AV} (h : lv_has LS n (asc E ls)) (hv : ls[i]? = some (some v)) : LS[i]? = some (.val (cv E v)) := h.2.2 (i, cv E v) (mem_asc.mpr ⟨v, hv, rfl⟩)
theorem asc_le {E : EU} {ls ls' : List (Option AV)} {LS : Array Slot} {n : Nat} (h : lv_has LS n (asc E ls)) (hl : ∀ (k : Nat) (w : AV), ls'[k]? = some (some w) → ls[k]? = some (some w)) : lv_has LS n (asc E ls') := by
  refine ⟨h.1, h.2.1, fun q hq => ?_⟩
  obtain ⟨v, h1, h2⟩ := mem_asc.mp hq
  rw [h2]
  exact asc_at h (hl _ _ h1)
def isLg : AV → Bool
  | .inl (.inr _) => true
  | _ => false
theorem cat_cv (E : EU) (v : AV) : (cv E v).category = if isLg v then 2 else 1 := by
  rcases v with (x | x) | (_ | p) <;> rfl
def kil (ls : List (Option AV)) (i : Nat) : List (Option AV) := match i with
  | 0 => ls
  | j + 1 => match ls[j]? with
    | some (some (.inl (.inr _))) => ls.set j none
    | _ => ls
def st1 (ls : List (Option AV)) (i : Nat) (v : AV) : List (Option AV) := (kil ls i).set i (some v)
def st2 (ls : List (Option AV)) (i : Nat) (v : AV) : List (Option AV) := ((kil ls i).set (i + 1) none).set i (some v)
theorem kil_get {E : EU} {ls : List (Option AV)} {i k : Nat} {w : AV} (h : (kil ls i)[k]? = some (some w)) : ls[k]? = some (some w) ∧ ¬ (k + 1 = i ∧ (cv E w).category = 2) := by
  cases i with
  | zero => exact ⟨h, fun z => absurd z.1 (by omega)⟩
  | succ j =>
    have hcase : (∃ x : Int64, ls[j]? = some (some (.inl (.inr x))) ∧ kil ls (j + 1) = ls.set j none) ∨ ((∀ x : Int64, ls[j]? ≠ some (some (.inl (.inr x)))) ∧ kil ls (j + 1) = ls) := by
      show (∃ x : Int64, ls[j]? = some (some (.inl (.inr x))) ∧ (match ls[j]? with | some (some (.inl (.inr _))) => ls.set j none | _ => ls) = ls.set j none) ∨ ((∀ x : Int64, ls[j]? ≠ some (some (.inl (.inr x)))) ∧ (match ls[j]? with | some (some (.inl (.inr _))) => ls.set j none | _ => ls) = ls)
      rcases ls[j]? with _ | (_ | ((x | x) | (_ | p)))
      · exact Or.inr ⟨fun x h => (by cases h), rfl⟩
      · exact Or.inr ⟨fun x h => (by cases h), rfl⟩
      · exact Or.inr ⟨fun x h => (by cases h), rfl⟩
      · exact Or.inl ⟨x, rfl, rfl⟩
      · exact Or.inr ⟨fun x h => (by cases h), rfl⟩
      · exact Or.inr ⟨fun x h => (by cases h), rfl⟩
    rcases hcase with ⟨x, hx, he⟩ | ⟨hx, he⟩
    · rw [he, List.getElem?_set] at h
      split at h
      next e =>
        split at h <;> cases h
      next e => exact ⟨h, fun z => e (by omega)⟩
    · rw [he] at h
      refine ⟨h, fun z => ?_⟩
      have hk : k = j := by omega
      subst hk
      rcases w with (x | x) | (_ | p)
      · exact absurd z.2 (by show ¬ (1 : Nat) = 2; decide)
      · exact hx x h
      · exact absurd z.2 (by show ¬ (1 : Nat) = 2; decide)
      · exact absurd z.2 (by show ¬ (1 : Nat) = 2; decide)
theorem st1_has {E : EU} {ls : List (Option AV)} {LS : Array Slot} {n i : Nat} {v : AV} (h : lv_has LS n ((i, cv E v) :: (asc E ls).filter (fun q => !(q.1 == i) && !(q.1 + 1 == i && q.2.category == 2)))) : lv_has LS n (asc E (st1 ls i v)) := by
  refine ⟨h.1, h.2.1, fun q hq => h.2.2 q ?_⟩
  obtain ⟨w, h1, h2⟩ := mem_asc.mp hq
  unfold st1 at h1
  rw [List.getElem?_set] at h1
  split at h1
  next e =>
    split at h1
    · cases h1
      exact List.mem_cons.mpr (Or.inl (Prod.ext e.symm h2))
    · cases h1
  next e =>
    obtain ⟨g1, g2⟩ := kil_get (E := E) h1
    refine List.mem_cons_of_mem _ (List.mem_filter.mpr ⟨mem_asc.mpr ⟨w, g1, h2⟩, ?_⟩)
    rw [h2]
    have e1 : (q.1 == i) = false := by simpa using fun z => e z.symm
    rw [e1]
    have e2 : (q.1 + 1 == i && (cv E w).category == 2) = false := by
      cases hh : (q.1 + 1 == i && (cv E w).category == 2) with
      | false => rfl
      | true => simp only [Bool.and_eq_true, beq_iff_eq] at hh; exact absurd hh g2
    rw [e2]
    rfl
theorem st2_has {E : EU} {ls : List (Option AV)} {LS : Array Slot} {n i : Nat} {v : AV} (h : lv_has LS n ((i, cv E v) :: (asc E ls).filter (fun q => !(q.1 == i) && (!(q.1 == i + 1) && !(q.1 + 1 == i && q.2.category == 2))))) : lv_has LS n (asc E (st2 ls i v)) := by
  refine ⟨h.1, h.2.1, fun q hq => h.2.2 q ?_⟩
  obtain ⟨w, h1, h2⟩ := mem_asc.mp hq
  unfold st2 at h1
  rw [List.getElem?_set] at h1
  split at h1
  next e =>
    split at h1
    · cases h1
      exact List.mem_cons.mpr (Or.inl (Prod.ext e.symm h2))
    · cases h1
  next e =>
    rw [List.getElem?_set] at h1
    split at h1
    next e2 =>
      split at h1 <;> cases h1
    next e2 =>
      obtain ⟨g1, g2⟩ := kil_get (E := E) h1
      refine List.mem_cons_of_mem _ (List.mem_filter.mpr ⟨mem_asc.mpr ⟨w, g1, h2⟩, ?_⟩)
      rw [h2]
      have e1 : (q.1 == i) = false := by simpa using fun z => e z.symm
      have e3 : (q.1 == i + 1) = false := by simpa using fun z => e2 z.symm
      have e4 : (q.1 + 1 == i && (cv E w).category == 2) = false := by
        cases hh : (q.1 + 1 == i && (cv E w).category == 2) with
        | false => rfl
        | true => simp only [Bool.and_eq_true, beq_iff_eq] at hh; exact absurd hh g2
      rw [e1, e3, e4]
      rfl
/-! a method's entry -/
def entl : List AV → List (Option AV)
  | [] => []
  | v :: vs => if isLg v then some v :: none :: entl vs else some v :: entl vs
def slen : List AV → Nat
  | [] => 0
  | v :: vs => (if isLg v then 2 else 1) + slen vs
theorem slen_sl (E : EU) : ∀ (av : List AV), (lg_sl (av.map (cv E))).length = slen av
  | [] => rfl
  | v :: vs => by
    have ih := slen_sl E vs
    simp only [lg_sl, List.map_cons, List.flatMap_cons, List.length_append, slen, cat_cv] at ih ⊢
    rw [ih]
    cases isLg v <;> rfl
theorem entl_args (E : EU) : ∀ (av : List AV) (i k : Nat) (w : AV), (entl av)[k]? = some (some w) → (i + k, cv E w) ∈ lv_args i (av.map (cv E))
  | [], _, k, w, h => by simp [entl] at h
  | v :: vs, i, k, w, h => by
    simp only [List.map_cons, lv_args, cat_cv]
    cases hv : isLg v with
    | true =>
      simp only [entl, hv, if_true] at h
      match k, h with
      | 0, h => simp at h; subst h; simp
      | 1, h => simp at h
      | k + 2, h =>
        have h2 : (entl vs)[k]? = some (some w) := by simpa using h
        have ih := entl_args E vs (i + 2) k w h2
        simp only [if_true]
        rw [show i + (k + 2) = i + 2 + k by omega]
        exact List.mem_cons_of_mem _ ih
    | false =>
      simp only [entl, hv] at h
      match k, h with
      | 0, h => simp at h; subst h; simp
      | k + 1, h =>
        have h2 : (entl vs)[k]? = some (some w) := by simpa using h
        have ih := entl_args E vs (i + 1) k w h2
        have : ¬ ((if false = true then 2 else 1) = 2) := by decide
        simp only [this, if_false]
        rw [show i + (k + 1) = i + 1 + k by omega]
        exact List.mem_cons_of_mem _ ih
def entP (n : Nat) (av : List AV) : List (Option AV) := entl av ++ List.replicate (n - (entl av).length) none
theorem entP_get {n : Nat} {av : List AV} {k : Nat} {w : AV} (h : (entP n av)[k]? = some (some w)) : (entl av)[k]? = some (some w) := by
  unfold entP at h
  by_cases hk : k < (entl av).length
  · rwa [List.getElem?_append_left hk] at h
  · rw [List.getElem?_append_right (by omega)] at h
    have := List.eq_of_mem_replicate (List.mem_of_getElem? h)
    cases this
/-! the judgement -/
def RetAt (M : MD) (pc : Nat) (v : Option AV) : Prop := match v with
  | none => decode M.2.1 pc = .ok (.return_, 1) ∧ M.2.2.2.1 = none
  | some (.inl (.inl x)) => decode M.2.1 pc = .ok (.ireturn, 1) ∧ ∃ ty, M.2.2.2.1 = some ty ∧ narrow ty (.int x) = .int x
  | some (.inl (.inr _)) => decode M.2.1 pc = .ok (.lreturn, 1) ∧ M.2.2.2.1 = some .long
  | some (.inr _) => decode M.2.1 pc = .ok (.areturn, 1) ∧ ∃ n, M.2.2.2.1 = some (.object n)
def Fr (X : XS) (M : MD) (p : Program) (R : Room) (s : State) (m : MethodId) (args : Array Value) (c : Code) (cells slots : Nat) (E : EU) : Prop :=
  p.tables.exec = Jvm.exec ∧ c.code = M.2.1 ∧ c.maxLocals = M.2.2.1 ∧ s.vm.findClass M.1.cls = some m.cls ∧ (∀ w ∈ wsG, w.before args s = true) ∧ WorldU X E s ∧ M.2.2.2.2.1 ≤ R.frames ∧ M.2.2.2.2.2 ≤ R.locals ∧ cells ≤ R.cells ∧ slots ≤ R.slots
def Rn (X : XS) (M : MD) (pc : Nat) (ls : List (Option AV)) (st : List AV) (h : Hp) (Q : Option AV → Hp → Prop) : Prop :=
  ∀ (p : Program) (l : Launch) (e : Env) (R : Room) (s : State) (m : MethodId) (args : Array Value) (below : List Frame) (meth : Method) (c : Code) (cells slots : Nat) (E : EU) (QQ : State → Prop), Fr X M p R s m args c cells slots E →
    (∀ (v : Option AV) (h' : Hp), Q v h' → ∀ (pc' : Nat), RetAt M pc' v → ∀ (H' : Heap) (locs' : List Loc) (LS' : Array Slot), RepH E h' H' → va_S (EU.A E) s.heap H' locs' → W p l e R s m args below meth c H' locs' cells slots QQ (F0 m pc' LS' (v.toList.map (cv E)))) →
    ∀ (H : Heap) (locs : List Loc) (LS : Array Slot), RepH E h H → va_S (EU.A E) s.heap H locs → lv_has LS M.2.2.1 (asc E ls) → W p l e R s m args below meth c H locs cells slots QQ (F0 m pc LS (st.map (cv E)))
def rmM (M : MD) : Room := { frames := M.2.2.2.2.1, cells := 0, slots := 0, locals := M.2.2.2.2.2 }
def wsM (M : MD) : List Cond := .code M.1 M.2.1 M.2.2.1 M.2.2.2.1 :: wsG
def QcE (E : EU) (Q : Option AV → Hp → Prop) : Array Value → State → Outcome → State → Prop := fun _ st o t => (∃ (v : Option AV) (h' : Hp), o = .returned (v.map (cv E)) ∧ Q v h' ∧ RepH E h' t.heap) ∧ va_F (EU.A E) st t
def Ev (X : XS) (M : MD) (av : List AV) (h : Hp) (Q : Option AV → Hp → Prop) : Prop := ∀ (l : Launch) (E : EU), Met l M.1 (wsM M) (rmM M) (va_Pc (av.map (cv E)) (fun U => WorldU X E U ∧ RepH E h U.heap)) (QcE E Q) 0 0 (EU.A E)
theorem Ev.intro {X : XS} {M : MD} {av : List AV} {h : Hp} {Q : Option AV → Hp → Prop} (hy : plainName M.1.cls = true) (hlen : slen av ≤ M.2.2.1) {ls : List (Option AV)} (hls : entP M.2.2.1 av = ls) (k : Rn X M 0 ls [] h Q) : Ev X M av h Q := by
  intro l E
  refine Met.ofW (cc := M.2.1) (maxL := M.2.2.1) (ret := M.2.2.2.1) hy rfl ?_
  intro p e s m args below meth c s₁ B hml hv
  obtain ⟨rfl, hWd, hR⟩ := hv
  have hx := B.exec
  have hb := B.bytes
  have hr := B.returns
  have hts := atoms_spec (ws := wsM M) B.pre
  have hown : s.vm.findClass M.1.cls = some m.cls := findClass_of_methodNamed B.named
  have hlocks := B.notSynchronized
  have hl := lv_entry (av.map (cv E)) (n := M.2.2.1) (by rw [slen_sl]; exact hlen)
  rw [lg_entry_eq]
  refine k p l e _ s m _ below meth c 0 0 E _ ⟨hx, hb, hml, hown, fun w hw => hts w (List.mem_cons_of_mem _ hw), hWd, Nat.le_refl _, Nat.le_refl _, Nat.le_refl _, Nat.le_refl _⟩ ?_ s.heap [] _ hR va_S.rf ?_
  · intro v h' hQ pc' hret H' locs' LS' hR' hS'
    rcases v with _ | ((x | x) | (_ | q))
    · obtain ⟨hd, hn⟩ := hret
      exact W.vret hx hb (hr.trans hn) (fun t ht hW => ⟨⟨none, h', rfl, hQ, by rw [ht]; exact hR'⟩, hS'.F ht⟩) hS'.2.2 hd
    · obtain ⟨hd, ty, hn, hnar⟩ := hret
      exact W.zret hx hb (hr.trans hn) hnar (fun t ht hW => ⟨⟨some (vI x), h', rfl, hQ, by rw [ht]; exact hR'⟩, hS'.F ht⟩) hS'.2.2 hd
    · obtain ⟨hd, hn⟩ := hret
      exact W.lret hx hb (hr.trans hn) (fun t ht hW => ⟨⟨some (vL x), h', rfl, hQ, by rw [ht]; exact hR'⟩, hS'.F ht⟩) hS'.2.2 hd
    · obtain ⟨hd, n, hn⟩ := hret
      exact W.aret hx hb (hr.trans hn) (Or.inl ⟨n, rfl⟩) (Or.inl rfl) (fun t ht hW => ⟨⟨some vN, h', rfl, hQ, by rw [ht]; exact hR'⟩, hS'.F ht⟩) hS'.2.2 hd
    · obtain ⟨hd, n, hn⟩ := hret
      exact W.aret hx hb (hr.trans hn) (Or.inl ⟨n, rfl⟩) (Or.inr ⟨_, rfl⟩) (fun t ht hW => ⟨⟨some (vR q), h', rfl, hQ, by rw [ht]; exact hR'⟩, hS'.F ht⟩) hS'.2.2 hd
  · refine ⟨hl.1, hl.2.1, fun q hq => ?_⟩
    obtain ⟨w, h1, h2⟩ := mem_asc.mp hq
    rw [← hls] at h1
    have h3 := entl_args E av 0 q.1 w (entP_get h1)
    rw [Nat.zero_add] at h3
    have h4 := hl.2.2 _ h3
    rw [h2]
    exact h4
end
section
def iR (x y : Int32) : Int32 := x - x / y * y
def lR (x y : Int64) : Int64 := x - x / y * y
def iShl (x y : Int32) : Int32 := x <<< (y &&& 31)
def iShr (x y : Int32) : Int32 := x >>> (y &&& 31)
def lShl (x : Int64) (y : Int32) : Int64 := x <<< (y.toInt64 &&& 63)
def lShr (x : Int64) (y : Int32) : Int64 := x >>> (y.toInt64 &&& 63)
def i2C (x : Int32) : Int32 := (x.toUInt32 % 65536).toInt32
theorem Rn.iconst {X : XS} {M : MD} {pc n : Nat} {ls : List (Option AV)} {st : List AV} {h : Hp} {Q : Option AV → Hp → Prop} {z : Int} {v : Int32} (d : decode M.2.1 pc = .ok (.iconst z, 1)) (hn : pc + 1 = n) (hv : Int32.ofInt z = v) (k : Rn X M n ls (vI v :: st) h Q) : Rn X M pc ls (st) h Q := by
  subst hn
  intro p l e R s m args below meth c cells slots E QQ F K H locs LS hR hS hL
  exact lv_iconst F.1 F.2.1 d hv (k p l e R s m args below meth c cells slots E QQ F K H locs LS hR hS hL)
theorem Rn.bipush {X : XS} {M : MD} {pc n : Nat} {ls : List (Option AV)} {st : List AV} {h : Hp} {Q : Option AV → Hp → Prop} {z : Int} {v : Int32} (d : decode M.2.1 pc = .ok (.bipush z, 2)) (hn : pc + 2 = n) (hv : (Int8.ofInt z).toInt32 = v) (k : Rn X M n ls (vI v :: st) h Q) : Rn X M pc ls (st) h Q := by
  subst hn
  intro p l e R s m args below meth c cells slots E QQ F K H locs LS hR hS hL
  exact lv_bipush F.1 F.2.1 d hv (k p l e R s m args below meth c cells slots E QQ F K H locs LS hR hS hL)
theorem Rn.sipush {X : XS} {M : MD} {pc n : Nat} {ls : List (Option AV)} {st : List AV} {h : Hp} {Q : Option AV → Hp → Prop} {z : Int} {v : Int32} (d : decode M.2.1 pc = .ok (.sipush z, 3)) (hn : pc + 3 = n) (hv : (Int16.ofInt z).toInt32 = v) (k : Rn X M n ls (vI v :: st) h Q) : Rn X M pc ls (st) h Q := by
  subst hn
  intro p l e R s m args below meth c cells slots E QQ F K H locs LS hR hS hL
  exact lv_sipush F.1 F.2.1 d hv (k p l e R s m args below meth c cells slots E QQ F K H locs LS hR hS hL)
theorem Rn.lconst {X : XS} {M : MD} {pc n : Nat} {ls : List (Option AV)} {st : List AV} {h : Hp} {Q : Option AV → Hp → Prop} {z : Fin 2} {v : Int64} (d : decode M.2.1 pc = .ok (.lconst z, 1)) (hn : pc + 1 = n) (hv : Int64.ofNat (z : Nat) = v) (k : Rn X M n ls (vL v :: st) h Q) : Rn X M pc ls (st) h Q := by
  subst hn
  intro p l e R s m args below meth c cells slots E QQ F K H locs LS hR hS hL
  exact lv_lconst F.1 F.2.1 d hv (k p l e R s m args below meth c cells slots E QQ F K H locs LS hR hS hL)
theorem Rn.aconst_null {X : XS} {M : MD} {pc n : Nat} {ls : List (Option AV)} {st : List AV} {h : Hp} {Q : Option AV → Hp → Prop}  (d : decode M.2.1 pc = .ok (.aconst_null, 1)) (hn : pc + 1 = n)  (k : Rn X M n ls (vN :: st) h Q) : Rn X M pc ls (st) h Q := by
  subst hn
  intro p l e R s m args below meth c cells slots E QQ F K H locs LS hR hS hL
  exact lv_null F.1 F.2.1 d  (k p l e R s m args below meth c cells slots E QQ F K H locs LS hR hS hL)
theorem Rn.ldc2 {X : XS} {M : MD} {pc n : Nat} {ls : List (Option AV)} {st : List AV} {h : Hp} {Q : Option AV → Hp → Prop} {idx : Nat} {v : Int64} (d : decode M.2.1 pc = .ok (.ldc2_w idx, 3)) (hn : pc + 3 = n) (hw : Cond.constantLong M.1.cls idx v ∈ wsG) (k : Rn X M n ls (vL v :: st) h Q) : Rn X M pc ls (st) h Q := by
  subst hn
  intro p l e R s m args below meth c cells slots E QQ F K H locs LS hR hS hL
  exact lv_ldc2 F.1 F.2.1 F.2.2.2.1 (F.2.2.2.2.1 _ hw) d (k p l e R s m args below meth c cells slots E QQ F K H locs LS hR hS hL)
theorem Rn.iadd {X : XS} {M : MD} {pc n : Nat} {ls : List (Option AV)} {st : List AV} {h : Hp} {Q : Option AV → Hp → Prop} {x y : Int32} (d : decode M.2.1 pc = .ok (.iadd, 1)) (hn : pc + 1 = n)  (k : Rn X M n ls (vI (x + y) :: st) h Q) : Rn X M pc ls (vI y :: vI x :: st) h Q := by
  subst hn
  intro p l e R s m args below meth c cells slots E QQ F K H locs LS hR hS hL
  exact lv_iadd F.1 F.2.1 d  (k p l e R s m args below meth c cells slots E QQ F K H locs LS hR hS hL)
theorem Rn.isub {X : XS} {M : MD} {pc n : Nat} {ls : List (Option AV)} {st : List AV} {h : Hp} {Q : Option AV → Hp → Prop} {x y : Int32} (d : decode M.2.1 pc = .ok (.isub, 1)) (hn : pc + 1 = n)  (k : Rn X M n ls (vI (x - y) :: st) h Q) : Rn X M pc ls (vI y :: vI x :: st) h Q := by
  subst hn
  intro p l e R s m args below meth c cells slots E QQ F K H locs LS hR hS hL
  exact lv_isub F.1 F.2.1 d  (k p l e R s m args below meth c cells slots E QQ F K H locs LS hR hS hL)
theorem Rn.imul {X : XS} {M : MD} {pc n : Nat} {ls : List (Option AV)} {st : List AV} {h : Hp} {Q : Option AV → Hp → Prop} {x y : Int32} (d : decode M.2.1 pc = .ok (.imul, 1)) (hn : pc + 1 = n)  (k : Rn X M n ls (vI (x * y) :: st) h Q) : Rn X M pc ls (vI y :: vI x :: st) h Q := by
  subst hn
  intro p l e R s m args below meth c cells slots E QQ F K H locs LS hR hS hL
  exact lv_imul F.1 F.2.1 d  (k p l e R s m args below meth c cells slots E QQ F K H locs LS hR hS hL)
theorem Rn.iand {X : XS} {M : MD} {pc n : Nat} {ls : List (Option AV)} {st : List AV} {h : Hp} {Q : Option AV → Hp → Prop} {x y : Int32} (d : decode M.2.1 pc = .ok (.iand, 1)) (hn : pc + 1 = n)  (k : Rn X M n ls (vI (x &&& y) :: st) h Q) : Rn X M pc ls (vI y :: vI x :: st) h Q := by
  subst hn
  intro p l e R s m args below meth c cells slots E QQ F K H locs LS hR hS hL
  exact lv_iand F.1 F.2.1 d  (k p l e R s m args below meth c cells slots E QQ F K H locs LS hR hS hL)
theorem Rn.ior {X : XS} {M : MD} {pc n : Nat} {ls : List (Option AV)} {st : List AV} {h : Hp} {Q : Option AV → Hp → Prop} {x y : Int32} (d : decode M.2.1 pc = .ok (.ior, 1)) (hn : pc + 1 = n)  (k : Rn X M n ls (vI (x ||| y) :: st) h Q) : Rn X M pc ls (vI y :: vI x :: st) h Q := by
  subst hn
  intro p l e R s m args below meth c cells slots E QQ F K H locs LS hR hS hL
  exact lv_ior F.1 F.2.1 d  (k p l e R s m args below meth c cells slots E QQ F K H locs LS hR hS hL)
theorem Rn.ixor {X : XS} {M : MD} {pc n : Nat} {ls : List (Option AV)} {st : List AV} {h : Hp} {Q : Option AV → Hp → Prop} {x y : Int32} (d : decode M.2.1 pc = .ok (.ixor, 1)) (hn : pc + 1 = n)  (k : Rn X M n ls (vI (x ^^^ y) :: st) h Q) : Rn X M pc ls (vI y :: vI x :: st) h Q := by
  subst hn
  intro p l e R s m args below meth c cells slots E QQ F K H locs LS hR hS hL
  exact lv_ixor F.1 F.2.1 d  (k p l e R s m args below meth c cells slots E QQ F K H locs LS hR hS hL)
theorem Rn.ishl {X : XS} {M : MD} {pc n : Nat} {ls : List (Option AV)} {st : List AV} {h : Hp} {Q : Option AV → Hp → Prop} {x y : Int32} (d : decode M.2.1 pc = .ok (.ishl, 1)) (hn : pc + 1 = n)  (k : Rn X M n ls (vI (iShl x y) :: st) h Q) : Rn X M pc ls (vI y :: vI x :: st) h Q := by
  subst hn
  intro p l e R s m args below meth c cells slots E QQ F K H locs LS hR hS hL
  exact lv_ishl F.1 F.2.1 d  (k p l e R s m args below meth c cells slots E QQ F K H locs LS hR hS hL)
theorem Rn.ishr {X : XS} {M : MD} {pc n : Nat} {ls : List (Option AV)} {st : List AV} {h : Hp} {Q : Option AV → Hp → Prop} {x y : Int32} (d : decode M.2.1 pc = .ok (.ishr, 1)) (hn : pc + 1 = n)  (k : Rn X M n ls (vI (iShr x y) :: st) h Q) : Rn X M pc ls (vI y :: vI x :: st) h Q := by
  subst hn
  intro p l e R s m args below meth c cells slots E QQ F K H locs LS hR hS hL
  exact lv_ishr F.1 F.2.1 d  (k p l e R s m args below meth c cells slots E QQ F K H locs LS hR hS hL)
theorem Rn.idiv {X : XS} {M : MD} {pc n : Nat} {ls : List (Option AV)} {st : List AV} {h : Hp} {Q : Option AV → Hp → Prop} {x y : Int32} (d : decode M.2.1 pc = .ok (.idiv, 1)) (hn : pc + 1 = n) (hy : ¬ y = 0) (k : Rn X M n ls (vI (x / y) :: st) h Q) : Rn X M pc ls (vI y :: vI x :: st) h Q := by
  subst hn
  intro p l e R s m args below meth c cells slots E QQ F K H locs LS hR hS hL
  exact lv_idiv F.1 F.2.1 d hy (k p l e R s m args below meth c cells slots E QQ F K H locs LS hR hS hL)
theorem Rn.irem {X : XS} {M : MD} {pc n : Nat} {ls : List (Option AV)} {st : List AV} {h : Hp} {Q : Option AV → Hp → Prop} {x y : Int32} (d : decode M.2.1 pc = .ok (.irem, 1)) (hn : pc + 1 = n) (hy : ¬ y = 0) (k : Rn X M n ls (vI (iR x y) :: st) h Q) : Rn X M pc ls (vI y :: vI x :: st) h Q := by
  subst hn
  intro p l e R s m args below meth c cells slots E QQ F K H locs LS hR hS hL
  exact lv_irem F.1 F.2.1 d hy (k p l e R s m args below meth c cells slots E QQ F K H locs LS hR hS hL)
theorem Rn.ineg {X : XS} {M : MD} {pc n : Nat} {ls : List (Option AV)} {st : List AV} {h : Hp} {Q : Option AV → Hp → Prop} {x : Int32} (d : decode M.2.1 pc = .ok (.ineg, 1)) (hn : pc + 1 = n)  (k : Rn X M n ls (vI (-x) :: st) h Q) : Rn X M pc ls (vI x :: st) h Q := by
  subst hn
  intro p l e R s m args below meth c cells slots E QQ F K H locs LS hR hS hL
  exact lv_ineg F.1 F.2.1 d  (k p l e R s m args below meth c cells slots E QQ F K H locs LS hR hS hL)
theorem Rn.ladd {X : XS} {M : MD} {pc n : Nat} {ls : List (Option AV)} {st : List AV} {h : Hp} {Q : Option AV → Hp → Prop} {x y : Int64} (d : decode M.2.1 pc = .ok (.ladd, 1)) (hn : pc + 1 = n)  (k : Rn X M n ls (vL (x + y) :: st) h Q) : Rn X M pc ls (vL y :: vL x :: st) h Q := by
  subst hn
  intro p l e R s m args below meth c cells slots E QQ F K H locs LS hR hS hL
  exact lv_ladd F.1 F.2.1 d  (k p l e R s m args below meth c cells slots E QQ F K H locs LS hR hS hL)
theorem Rn.lsub {X : XS} {M : MD} {pc n : Nat} {ls : List (Option AV)} {st : List AV} {h : Hp} {Q : Option AV → Hp → Prop} {x y : Int64} (d : decode M.2.1 pc = .ok (.lsub, 1)) (hn : pc + 1 = n)  (k : Rn X M n ls (vL (x - y) :: st) h Q) : Rn X M pc ls (vL y :: vL x :: st) h Q := by
  subst hn
  intro p l e R s m args below meth c cells slots E QQ F K H locs LS hR hS hL
  exact lv_lsub F.1 F.2.1 d  (k p l e R s m args below meth c cells slots E QQ F K H locs LS hR hS hL)
theorem Rn.lmul {X : XS} {M : MD} {pc n : Nat} {ls : List (Option AV)} {st : List AV} {h : Hp} {Q : Option AV → Hp → Prop} {x y : Int64} (d : decode M.2.1 pc = .ok (.lmul, 1)) (hn : pc + 1 = n)  (k : Rn X M n ls (vL (x * y) :: st) h Q) : Rn X M pc ls (vL y :: vL x :: st) h Q := by
  subst hn
  intro p l e R s m args below meth c cells slots E QQ F K H locs LS hR hS hL
  exact lv_lmul F.1 F.2.1 d  (k p l e R s m args below meth c cells slots E QQ F K H locs LS hR hS hL)
theorem Rn.land {X : XS} {M : MD} {pc n : Nat} {ls : List (Option AV)} {st : List AV} {h : Hp} {Q : Option AV → Hp → Prop} {x y : Int64} (d : decode M.2.1 pc = .ok (.land, 1)) (hn : pc + 1 = n)  (k : Rn X M n ls (vL (x &&& y) :: st) h Q) : Rn X M pc ls (vL y :: vL x :: st) h Q := by
  subst hn
  intro p l e R s m args below meth c cells slots E QQ F K H locs LS hR hS hL
  exact lv_land F.1 F.2.1 d  (k p l e R s m args below meth c cells slots E QQ F K H locs LS hR hS hL)
theorem Rn.lor {X : XS} {M : MD} {pc n : Nat} {ls : List (Option AV)} {st : List AV} {h : Hp} {Q : Option AV → Hp → Prop} {x y : Int64} (d : decode M.2.1 pc = .ok (.lor, 1)) (hn : pc + 1 = n)  (k : Rn X M n ls (vL (x ||| y) :: st) h Q) : Rn X M pc ls (vL y :: vL x :: st) h Q := by
  subst hn
  intro p l e R s m args below meth c cells slots E QQ F K H locs LS hR hS hL
  exact lv_lor F.1 F.2.1 d  (k p l e R s m args below meth c cells slots E QQ F K H locs LS hR hS hL)
theorem Rn.ldiv {X : XS} {M : MD} {pc n : Nat} {ls : List (Option AV)} {st : List AV} {h : Hp} {Q : Option AV → Hp → Prop} {x y : Int64} (d : decode M.2.1 pc = .ok (.ldiv, 1)) (hn : pc + 1 = n) (hy : ¬ y = 0) (k : Rn X M n ls (vL (x / y) :: st) h Q) : Rn X M pc ls (vL y :: vL x :: st) h Q := by
  subst hn
  intro p l e R s m args below meth c cells slots E QQ F K H locs LS hR hS hL
  exact lv_ldiv F.1 F.2.1 d hy (k p l e R s m args below meth c cells slots E QQ F K H locs LS hR hS hL)
theorem Rn.lrem {X : XS} {M : MD} {pc n : Nat} {ls : List (Option AV)} {st : List AV} {h : Hp} {Q : Option AV → Hp → Prop} {x y : Int64} (d : decode M.2.1 pc = .ok (.lrem, 1)) (hn : pc + 1 = n) (hy : ¬ y = 0) (k : Rn X M n ls (vL (lR x y) :: st) h Q) : Rn X M pc ls (vL y :: vL x :: st) h Q := by
  subst hn
  intro p l e R s m args below meth c cells slots E QQ F K H locs LS hR hS hL
  exact lv_lrem F.1 F.2.1 d hy (k p l e R s m args below meth c cells slots E QQ F K H locs LS hR hS hL)
theorem Rn.lshl {X : XS} {M : MD} {pc n : Nat} {ls : List (Option AV)} {st : List AV} {h : Hp} {Q : Option AV → Hp → Prop} {x : Int64} {y : Int32} (d : decode M.2.1 pc = .ok (.lshl, 1)) (hn : pc + 1 = n)  (k : Rn X M n ls (vL (lShl x y) :: st) h Q) : Rn X M pc ls (vI y :: vL x :: st) h Q := by
  subst hn
  intro p l e R s m args below meth c cells slots E QQ F K H locs LS hR hS hL
  exact lv_lshl F.1 F.2.1 d rfl (k p l e R s m args below meth c cells slots E QQ F K H locs LS hR hS hL)
theorem Rn.lshr {X : XS} {M : MD} {pc n : Nat} {ls : List (Option AV)} {st : List AV} {h : Hp} {Q : Option AV → Hp → Prop} {x : Int64} {y : Int32} (d : decode M.2.1 pc = .ok (.lshr, 1)) (hn : pc + 1 = n)  (k : Rn X M n ls (vL (lShr x y) :: st) h Q) : Rn X M pc ls (vI y :: vL x :: st) h Q := by
  subst hn
  intro p l e R s m args below meth c cells slots E QQ F K H locs LS hR hS hL
  exact lv_lshr F.1 F.2.1 d rfl (k p l e R s m args below meth c cells slots E QQ F K H locs LS hR hS hL)
theorem Rn.i2l {X : XS} {M : MD} {pc n : Nat} {ls : List (Option AV)} {st : List AV} {h : Hp} {Q : Option AV → Hp → Prop} {x : Int32} (d : decode M.2.1 pc = .ok (.i2l, 1)) (hn : pc + 1 = n)  (k : Rn X M n ls (vL x.toInt64 :: st) h Q) : Rn X M pc ls (vI x :: st) h Q := by
  subst hn
  intro p l e R s m args below meth c cells slots E QQ F K H locs LS hR hS hL
  exact lv_i2l F.1 F.2.1 d rfl (k p l e R s m args below meth c cells slots E QQ F K H locs LS hR hS hL)
theorem Rn.l2i {X : XS} {M : MD} {pc n : Nat} {ls : List (Option AV)} {st : List AV} {h : Hp} {Q : Option AV → Hp → Prop} {x : Int64} (d : decode M.2.1 pc = .ok (.l2i, 1)) (hn : pc + 1 = n)  (k : Rn X M n ls (vI x.toInt32 :: st) h Q) : Rn X M pc ls (vL x :: st) h Q := by
  subst hn
  intro p l e R s m args below meth c cells slots E QQ F K H locs LS hR hS hL
  exact lv_l2i F.1 F.2.1 d rfl (k p l e R s m args below meth c cells slots E QQ F K H locs LS hR hS hL)
theorem Rn.i2c {X : XS} {M : MD} {pc n : Nat} {ls : List (Option AV)} {st : List AV} {h : Hp} {Q : Option AV → Hp → Prop} {x : Int32} (d : decode M.2.1 pc = .ok (.i2c, 1)) (hn : pc + 1 = n)  (k : Rn X M n ls (vI (i2C x) :: st) h Q) : Rn X M pc ls (vI x :: st) h Q := by
  subst hn
  intro p l e R s m args below meth c cells slots E QQ F K H locs LS hR hS hL
  exact lv_i2c F.1 F.2.1 d rfl (k p l e R s m args below meth c cells slots E QQ F K H locs LS hR hS hL)
theorem Rn.lcmp {X : XS} {M : MD} {pc n : Nat} {ls : List (Option AV)} {st : List AV} {h : Hp} {Q : Option AV → Hp → Prop} {x y : Int64} (d : decode M.2.1 pc = .ok (.lcmp, 1)) (hn : pc + 1 = n)  (k : Rn X M n ls (vI (lg_cmp x y) :: st) h Q) : Rn X M pc ls (vL y :: vL x :: st) h Q := by
  subst hn
  intro p l e R s m args below meth c cells slots E QQ F K H locs LS hR hS hL
  exact W.lcmp F.1 F.2.1 d  (k p l e R s m args below meth c cells slots E QQ F K H locs LS hR hS hL)
theorem Rn.dup {X : XS} {M : MD} {pc n : Nat} {ls : List (Option AV)} {st : List AV} {h : Hp} {Q : Option AV → Hp → Prop} {v : AV} (d : decode M.2.1 pc = .ok (.dup, 1)) (hn : pc + 1 = n) (hv : isLg v = false) (k : Rn X M n ls (v :: v :: st) h Q) : Rn X M pc ls (v :: st) h Q := by
  subst hn
  intro p l e R s m args below meth c cells slots E QQ F K H locs LS hR hS hL
  exact lv_dup F.1 F.2.1 d (by rw [cat_cv, hv]; rfl) (k p l e R s m args below meth c cells slots E QQ F K H locs LS hR hS hL)
theorem Rn.dup2 {X : XS} {M : MD} {pc n : Nat} {ls : List (Option AV)} {st : List AV} {h : Hp} {Q : Option AV → Hp → Prop} {v w : AV} (d : decode M.2.1 pc = .ok (.dup2, 1)) (hn : pc + 1 = n) (hv : isLg v = false) (hw : isLg w = false) (k : Rn X M n ls (v :: w :: v :: w :: st) h Q) : Rn X M pc ls (v :: w :: st) h Q := by
  subst hn
  intro p l e R s m args below meth c cells slots E QQ F K H locs LS hR hS hL
  exact lv_dup2_11 F.1 F.2.1 d (by rw [cat_cv, hv]; rfl) (by rw [cat_cv, hw]; rfl) (k p l e R s m args below meth c cells slots E QQ F K H locs LS hR hS hL)
theorem Rn.pop {X : XS} {M : MD} {pc n : Nat} {ls : List (Option AV)} {st : List AV} {h : Hp} {Q : Option AV → Hp → Prop} {v : AV} (d : decode M.2.1 pc = .ok (.pop, 1)) (hn : pc + 1 = n) (hv : isLg v = false) (k : Rn X M n ls (st) h Q) : Rn X M pc ls (v :: st) h Q := by
  subst hn
  intro p l e R s m args below meth c cells slots E QQ F K H locs LS hR hS hL
  exact lv_pop F.1 F.2.1 d (by rw [cat_cv, hv]; rfl) (k p l e R s m args below meth c cells slots E QQ F K H locs LS hR hS hL)
theorem Rn.iload_n {X : XS} {M : MD} {pc n : Nat} {ls : List (Option AV)} {st : List AV} {h : Hp} {Q : Option AV → Hp → Prop} {kk : Fin 4} {i : Nat} {x : Int32} (d : decode M.2.1 pc = .ok (.iload_n kk, 1)) (hn : pc + 1 = n) (hi : (kk : Nat) = i) (hv : ls[i]? = some (some (vI x))) (k : Rn X M n ls (vI x :: st) h Q) : Rn X M pc ls st h Q := by
  subst hn
  intro p l e R s m args below meth c cells slots E QQ F K H locs LS hR hS hL
  exact lv_iload_n F.1 F.2.1 d hi (asc_at hL hv) (k p l e R s m args below meth c cells slots E QQ F K H locs LS hR hS hL)
theorem Rn.iload {X : XS} {M : MD} {pc n : Nat} {ls : List (Option AV)} {st : List AV} {h : Hp} {Q : Option AV → Hp → Prop} {i : Nat} {x : Int32} (d : decode M.2.1 pc = .ok (.iload i, 2)) (hn : pc + 2 = n)  (hv : ls[i]? = some (some (vI x))) (k : Rn X M n ls (vI x :: st) h Q) : Rn X M pc ls st h Q := by
  subst hn
  intro p l e R s m args below meth c cells slots E QQ F K H locs LS hR hS hL
  exact lv_iload F.1 F.2.1 d  (asc_at hL hv) (k p l e R s m args below meth c cells slots E QQ F K H locs LS hR hS hL)
theorem Rn.lload_n {X : XS} {M : MD} {pc n : Nat} {ls : List (Option AV)} {st : List AV} {h : Hp} {Q : Option AV → Hp → Prop} {kk : Fin 4} {i : Nat} {x : Int64} (d : decode M.2.1 pc = .ok (.lload_n kk, 1)) (hn : pc + 1 = n) (hi : (kk : Nat) = i) (hv : ls[i]? = some (some (vL x))) (k : Rn X M n ls (vL x :: st) h Q) : Rn X M pc ls st h Q := by
  subst hn
  intro p l e R s m args below meth c cells slots E QQ F K H locs LS hR hS hL
  exact lv_lload_n F.1 F.2.1 d hi (asc_at hL hv) (k p l e R s m args below meth c cells slots E QQ F K H locs LS hR hS hL)
theorem Rn.lload {X : XS} {M : MD} {pc n : Nat} {ls : List (Option AV)} {st : List AV} {h : Hp} {Q : Option AV → Hp → Prop} {i : Nat} {x : Int64} (d : decode M.2.1 pc = .ok (.lload i, 2)) (hn : pc + 2 = n)  (hv : ls[i]? = some (some (vL x))) (k : Rn X M n ls (vL x :: st) h Q) : Rn X M pc ls st h Q := by
  subst hn
  intro p l e R s m args below meth c cells slots E QQ F K H locs LS hR hS hL
  exact lv_lload F.1 F.2.1 d  (asc_at hL hv) (k p l e R s m args below meth c cells slots E QQ F K H locs LS hR hS hL)
theorem Rn.aload_n {X : XS} {M : MD} {pc n : Nat} {ls : List (Option AV)} {st : List AV} {h : Hp} {Q : Option AV → Hp → Prop} {kk : Fin 4} {i : Nat} {x : List Nat} (d : decode M.2.1 pc = .ok (.aload_n kk, 1)) (hn : pc + 1 = n) (hi : (kk : Nat) = i) (hv : ls[i]? = some (some (vR x))) (k : Rn X M n ls (vR x :: st) h Q) : Rn X M pc ls st h Q := by
  subst hn
  intro p l e R s m args below meth c cells slots E QQ F K H locs LS hR hS hL
  exact lv_aload_n F.1 F.2.1 d hi (asc_at hL hv) (k p l e R s m args below meth c cells slots E QQ F K H locs LS hR hS hL)
theorem Rn.aload {X : XS} {M : MD} {pc n : Nat} {ls : List (Option AV)} {st : List AV} {h : Hp} {Q : Option AV → Hp → Prop} {i : Nat} {x : List Nat} (d : decode M.2.1 pc = .ok (.aload i, 2)) (hn : pc + 2 = n)  (hv : ls[i]? = some (some (vR x))) (k : Rn X M n ls (vR x :: st) h Q) : Rn X M pc ls st h Q := by
  subst hn
  intro p l e R s m args below meth c cells slots E QQ F K H locs LS hR hS hL
  exact lv_aload F.1 F.2.1 d  (asc_at hL hv) (k p l e R s m args below meth c cells slots E QQ F K H locs LS hR hS hL)
theorem Rn.aload_nN {X : XS} {M : MD} {pc n : Nat} {ls : List (Option AV)} {st : List AV} {h : Hp} {Q : Option AV → Hp → Prop} {kk : Fin 4} {i : Nat} (d : decode M.2.1 pc = .ok (.aload_n kk, 1)) (hn : pc + 1 = n) (hi : (kk : Nat) = i) (hv : ls[i]? = some (some (vN))) (k : Rn X M n ls (vN :: st) h Q) : Rn X M pc ls st h Q := by
  subst hn
  intro p l e R s m args below meth c cells slots E QQ F K H locs LS hR hS hL
  exact lv_aload_nN F.1 F.2.1 d hi (asc_at hL hv) (k p l e R s m args below meth c cells slots E QQ F K H locs LS hR hS hL)
theorem Rn.istore_n {X : XS} {M : MD} {pc n : Nat} {ls : List (Option AV)} {st : List AV} {h : Hp} {Q : Option AV → Hp → Prop} {ls2 : List (Option AV)} {kk : Fin 4} {i : Nat} {x : Int32} (d : decode M.2.1 pc = .ok (.istore_n kk, 1)) (hn : pc + 1 = n) (hi : (kk : Nat) = i) (hb : i < M.2.2.1) (hl : st1 ls i (vI x) = ls2) (k : Rn X M n ls2 st h Q) : Rn X M pc ls (vI x :: st) h Q := by
  subst hn; subst hl
  intro p l e R s m args below meth c cells slots E QQ F K H locs LS hR hS hL
  exact lv_istore_n F.1 F.2.1 d hi hL hb rfl (fun LS2 hL2 => k p l e R s m args below meth c cells slots E QQ F K H locs LS2 hR hS (st1_has (v := vI x) hL2))
theorem Rn.istore {X : XS} {M : MD} {pc n : Nat} {ls : List (Option AV)} {st : List AV} {h : Hp} {Q : Option AV → Hp → Prop} {ls2 : List (Option AV)} {i : Nat} {x : Int32} (d : decode M.2.1 pc = .ok (.istore i, 2)) (hn : pc + 2 = n)  (hb : i < M.2.2.1) (hl : st1 ls i (vI x) = ls2) (k : Rn X M n ls2 st h Q) : Rn X M pc ls (vI x :: st) h Q := by
  subst hn; subst hl
  intro p l e R s m args below meth c cells slots E QQ F K H locs LS hR hS hL
  exact lv_istore F.1 F.2.1 d  hL hb rfl (fun LS2 hL2 => k p l e R s m args below meth c cells slots E QQ F K H locs LS2 hR hS (st1_has (v := vI x) hL2))
theorem Rn.lstore_n {X : XS} {M : MD} {pc n : Nat} {ls : List (Option AV)} {st : List AV} {h : Hp} {Q : Option AV → Hp → Prop} {ls2 : List (Option AV)} {kk : Fin 4} {i : Nat} {x : Int64} (d : decode M.2.1 pc = .ok (.lstore_n kk, 1)) (hn : pc + 1 = n) (hi : (kk : Nat) = i) (hb : i + 1 < M.2.2.1) (hl : st2 ls i (vL x) = ls2) (k : Rn X M n ls2 st h Q) : Rn X M pc ls (vL x :: st) h Q := by
  subst hn; subst hl
  intro p l e R s m args below meth c cells slots E QQ F K H locs LS hR hS hL
  exact lv_lstore_n F.1 F.2.1 d hi hL hb rfl (fun LS2 hL2 => k p l e R s m args below meth c cells slots E QQ F K H locs LS2 hR hS (st2_has (v := vL x) hL2))
theorem Rn.lstore {X : XS} {M : MD} {pc n : Nat} {ls : List (Option AV)} {st : List AV} {h : Hp} {Q : Option AV → Hp → Prop} {ls2 : List (Option AV)} {i : Nat} {x : Int64} (d : decode M.2.1 pc = .ok (.lstore i, 2)) (hn : pc + 2 = n)  (hb : i + 1 < M.2.2.1) (hl : st2 ls i (vL x) = ls2) (k : Rn X M n ls2 st h Q) : Rn X M pc ls (vL x :: st) h Q := by
  subst hn; subst hl
  intro p l e R s m args below meth c cells slots E QQ F K H locs LS hR hS hL
  exact lv_lstore F.1 F.2.1 d  hL hb rfl (fun LS2 hL2 => k p l e R s m args below meth c cells slots E QQ F K H locs LS2 hR hS (st2_has (v := vL x) hL2))
theorem Rn.astore_n {X : XS} {M : MD} {pc n : Nat} {ls : List (Option AV)} {st : List AV} {h : Hp} {Q : Option AV → Hp → Prop} {ls2 : List (Option AV)} {kk : Fin 4} {i : Nat} {x : List Nat} (d : decode M.2.1 pc = .ok (.astore_n kk, 1)) (hn : pc + 1 = n) (hi : (kk : Nat) = i) (hb : i < M.2.2.1) (hl : st1 ls i (vR x) = ls2) (k : Rn X M n ls2 st h Q) : Rn X M pc ls (vR x :: st) h Q := by
  subst hn; subst hl
  intro p l e R s m args below meth c cells slots E QQ F K H locs LS hR hS hL
  exact lv_astore_n F.1 F.2.1 d hi hL hb rfl (fun LS2 hL2 => k p l e R s m args below meth c cells slots E QQ F K H locs LS2 hR hS (st1_has (v := vR x) hL2))
theorem Rn.astore_nN {X : XS} {M : MD} {pc n : Nat} {ls : List (Option AV)} {st : List AV} {h : Hp} {Q : Option AV → Hp → Prop} {ls2 : List (Option AV)} {kk : Fin 4} {i : Nat} (d : decode M.2.1 pc = .ok (.astore_n kk, 1)) (hn : pc + 1 = n) (hi : (kk : Nat) = i) (hb : i < M.2.2.1) (hl : st1 ls i (vN) = ls2) (k : Rn X M n ls2 st h Q) : Rn X M pc ls (vN :: st) h Q := by
  subst hn; subst hl
  intro p l e R s m args below meth c cells slots E QQ F K H locs LS hR hS hL
  exact lv_astore_nN F.1 F.2.1 d hi hL hb rfl (fun LS2 hL2 => k p l e R s m args below meth c cells slots E QQ F K H locs LS2 hR hS (st1_has (v := vN) hL2))
theorem Rn.iinc {X : XS} {M : MD} {pc n : Nat} {ls : List (Option AV)} {st : List AV} {h : Hp} {Q : Option AV → Hp → Prop} {ls2 : List (Option AV)} {i : Nat} {z : Int} {x v : Int32} (d : decode M.2.1 pc = .ok (.iinc i z, 3)) (hn : pc + 3 = n) (hv : ls[i]? = some (some (vI x))) (hz : x + Int32.ofInt z = v) (hb : i < M.2.2.1) (hl : st1 ls i (vI v) = ls2) (k : Rn X M n ls2 st h Q) : Rn X M pc ls st h Q := by
  subst hn; subst hl
  intro p l e R s m args below meth c cells slots E QQ F K H locs LS hR hS hL
  have hm : (i, Value.int x) ∈ asc E ls := mem_asc.mpr ⟨vI x, hv, rfl⟩
  obtain ⟨j, hj⟩ := List.getElem?_of_mem hm
  exact lv_iinc F.1 F.2.1 d hL hj hz hb rfl (fun LS2 hL2 => k p l e R s m args below meth c cells slots E QQ F K H locs LS2 hR hS (st1_has (v := vI v) hL2))
theorem Rn.icmp_eq {X : XS} {M : MD} {pc n : Nat} {ls : List (Option AV)} {st : List AV} {h : Hp} {Q : Option AV → Hp → Prop} {t : Nat} {off : Int} {x y : Int32} (d : decode M.2.1 pc = .ok (.if_icmp .eq off, 3)) (hn : pc + 3 = n) (ht : (pc : Int) + off = (t : Int)) (kt : x = y → Rn X M t ls st h Q) (kf : ¬ x = y → Rn X M n ls st h Q) : Rn X M pc ls (vI y :: vI x :: st) h Q := by
  subst hn
  intro p l e R s m args below meth c cells slots E QQ F K H locs LS hR hS hL
  exact lv_icmp_eq F.1 F.2.1 d ht (fun z => kt z p l e R s m args below meth c cells slots E QQ F K H locs LS hR hS hL) (fun z => kf z p l e R s m args below meth c cells slots E QQ F K H locs LS hR hS hL)
theorem Rn.if_eq {X : XS} {M : MD} {pc n : Nat} {ls : List (Option AV)} {st : List AV} {h : Hp} {Q : Option AV → Hp → Prop} {t : Nat} {off : Int} {x : Int32} (d : decode M.2.1 pc = .ok (.ifCond .eq off, 3)) (hn : pc + 3 = n) (ht : (pc : Int) + off = (t : Int)) (kt : x = 0 → Rn X M t ls st h Q) (kf : ¬ x = 0 → Rn X M n ls st h Q) : Rn X M pc ls (vI x :: st) h Q := by
  subst hn
  intro p l e R s m args below meth c cells slots E QQ F K H locs LS hR hS hL
  exact lv_if_eq F.1 F.2.1 d ht (fun z => kt z p l e R s m args below meth c cells slots E QQ F K H locs LS hR hS hL) (fun z => kf z p l e R s m args below meth c cells slots E QQ F K H locs LS hR hS hL)
theorem Rn.icmp_ne {X : XS} {M : MD} {pc n : Nat} {ls : List (Option AV)} {st : List AV} {h : Hp} {Q : Option AV → Hp → Prop} {t : Nat} {off : Int} {x y : Int32} (d : decode M.2.1 pc = .ok (.if_icmp .ne off, 3)) (hn : pc + 3 = n) (ht : (pc : Int) + off = (t : Int)) (kt : ¬ x = y → Rn X M t ls st h Q) (kf : x = y → Rn X M n ls st h Q) : Rn X M pc ls (vI y :: vI x :: st) h Q := by
  subst hn
  intro p l e R s m args below meth c cells slots E QQ F K H locs LS hR hS hL
  exact lv_icmp_ne F.1 F.2.1 d ht (fun z => kt z p l e R s m args below meth c cells slots E QQ F K H locs LS hR hS hL) (fun z => kf z p l e R s m args below meth c cells slots E QQ F K H locs LS hR hS hL)
theorem Rn.if_ne {X : XS} {M : MD} {pc n : Nat} {ls : List (Option AV)} {st : List AV} {h : Hp} {Q : Option AV → Hp → Prop} {t : Nat} {off : Int} {x : Int32} (d : decode M.2.1 pc = .ok (.ifCond .ne off, 3)) (hn : pc + 3 = n) (ht : (pc : Int) + off = (t : Int)) (kt : ¬ x = 0 → Rn X M t ls st h Q) (kf : x = 0 → Rn X M n ls st h Q) : Rn X M pc ls (vI x :: st) h Q := by
  subst hn
  intro p l e R s m args below meth c cells slots E QQ F K H locs LS hR hS hL
  exact lv_if_ne F.1 F.2.1 d ht (fun z => kt z p l e R s m args below meth c cells slots E QQ F K H locs LS hR hS hL) (fun z => kf z p l e R s m args below meth c cells slots E QQ F K H locs LS hR hS hL)
theorem Rn.icmp_lt {X : XS} {M : MD} {pc n : Nat} {ls : List (Option AV)} {st : List AV} {h : Hp} {Q : Option AV → Hp → Prop} {t : Nat} {off : Int} {x y : Int32} (d : decode M.2.1 pc = .ok (.if_icmp .lt off, 3)) (hn : pc + 3 = n) (ht : (pc : Int) + off = (t : Int)) (kt : x < y → Rn X M t ls st h Q) (kf : ¬ x < y → Rn X M n ls st h Q) : Rn X M pc ls (vI y :: vI x :: st) h Q := by
  subst hn
  intro p l e R s m args below meth c cells slots E QQ F K H locs LS hR hS hL
  exact lv_icmp_lt F.1 F.2.1 d ht (fun z => kt z p l e R s m args below meth c cells slots E QQ F K H locs LS hR hS hL) (fun z => kf z p l e R s m args below meth c cells slots E QQ F K H locs LS hR hS hL)
theorem Rn.if_lt {X : XS} {M : MD} {pc n : Nat} {ls : List (Option AV)} {st : List AV} {h : Hp} {Q : Option AV → Hp → Prop} {t : Nat} {off : Int} {x : Int32} (d : decode M.2.1 pc = .ok (.ifCond .lt off, 3)) (hn : pc + 3 = n) (ht : (pc : Int) + off = (t : Int)) (kt : x < 0 → Rn X M t ls st h Q) (kf : ¬ x < 0 → Rn X M n ls st h Q) : Rn X M pc ls (vI x :: st) h Q := by
  subst hn
  intro p l e R s m args below meth c cells slots E QQ F K H locs LS hR hS hL
  exact lv_if_lt F.1 F.2.1 d ht (fun z => kt z p l e R s m args below meth c cells slots E QQ F K H locs LS hR hS hL) (fun z => kf z p l e R s m args below meth c cells slots E QQ F K H locs LS hR hS hL)
theorem Rn.icmp_ge {X : XS} {M : MD} {pc n : Nat} {ls : List (Option AV)} {st : List AV} {h : Hp} {Q : Option AV → Hp → Prop} {t : Nat} {off : Int} {x y : Int32} (d : decode M.2.1 pc = .ok (.if_icmp .ge off, 3)) (hn : pc + 3 = n) (ht : (pc : Int) + off = (t : Int)) (kt : y ≤ x → Rn X M t ls st h Q) (kf : ¬ y ≤ x → Rn X M n ls st h Q) : Rn X M pc ls (vI y :: vI x :: st) h Q := by
  subst hn
  intro p l e R s m args below meth c cells slots E QQ F K H locs LS hR hS hL
  exact lv_icmp_ge F.1 F.2.1 d ht (fun z => kt z p l e R s m args below meth c cells slots E QQ F K H locs LS hR hS hL) (fun z => kf z p l e R s m args below meth c cells slots E QQ F K H locs LS hR hS hL)
theorem Rn.if_ge {X : XS} {M : MD} {pc n : Nat} {ls : List (Option AV)} {st : List AV} {h : Hp} {Q : Option AV → Hp → Prop} {t : Nat} {off : Int} {x : Int32} (d : decode M.2.1 pc = .ok (.ifCond .ge off, 3)) (hn : pc + 3 = n) (ht : (pc : Int) + off = (t : Int)) (kt : 0 ≤ x → Rn X M t ls st h Q) (kf : ¬ 0 ≤ x → Rn X M n ls st h Q) : Rn X M pc ls (vI x :: st) h Q := by
  subst hn
  intro p l e R s m args below meth c cells slots E QQ F K H locs LS hR hS hL
  exact lv_if_ge F.1 F.2.1 d ht (fun z => kt z p l e R s m args below meth c cells slots E QQ F K H locs LS hR hS hL) (fun z => kf z p l e R s m args below meth c cells slots E QQ F K H locs LS hR hS hL)
theorem Rn.icmp_gt {X : XS} {M : MD} {pc n : Nat} {ls : List (Option AV)} {st : List AV} {h : Hp} {Q : Option AV → Hp → Prop} {t : Nat} {off : Int} {x y : Int32} (d : decode M.2.1 pc = .ok (.if_icmp .gt off, 3)) (hn : pc + 3 = n) (ht : (pc : Int) + off = (t : Int)) (kt : y < x → Rn X M t ls st h Q) (kf : ¬ y < x → Rn X M n ls st h Q) : Rn X M pc ls (vI y :: vI x :: st) h Q := by
  subst hn
  intro p l e R s m args below meth c cells slots E QQ F K H locs LS hR hS hL
  exact lv_icmp_gt F.1 F.2.1 d ht (fun z => kt z p l e R s m args below meth c cells slots E QQ F K H locs LS hR hS hL) (fun z => kf z p l e R s m args below meth c cells slots E QQ F K H locs LS hR hS hL)
theorem Rn.if_gt {X : XS} {M : MD} {pc n : Nat} {ls : List (Option AV)} {st : List AV} {h : Hp} {Q : Option AV → Hp → Prop} {t : Nat} {off : Int} {x : Int32} (d : decode M.2.1 pc = .ok (.ifCond .gt off, 3)) (hn : pc + 3 = n) (ht : (pc : Int) + off = (t : Int)) (kt : 0 < x → Rn X M t ls st h Q) (kf : ¬ 0 < x → Rn X M n ls st h Q) : Rn X M pc ls (vI x :: st) h Q := by
  subst hn
  intro p l e R s m args below meth c cells slots E QQ F K H locs LS hR hS hL
  exact lv_if_gt F.1 F.2.1 d ht (fun z => kt z p l e R s m args below meth c cells slots E QQ F K H locs LS hR hS hL) (fun z => kf z p l e R s m args below meth c cells slots E QQ F K H locs LS hR hS hL)
theorem Rn.icmp_le {X : XS} {M : MD} {pc n : Nat} {ls : List (Option AV)} {st : List AV} {h : Hp} {Q : Option AV → Hp → Prop} {t : Nat} {off : Int} {x y : Int32} (d : decode M.2.1 pc = .ok (.if_icmp .le off, 3)) (hn : pc + 3 = n) (ht : (pc : Int) + off = (t : Int)) (kt : x ≤ y → Rn X M t ls st h Q) (kf : ¬ x ≤ y → Rn X M n ls st h Q) : Rn X M pc ls (vI y :: vI x :: st) h Q := by
  subst hn
  intro p l e R s m args below meth c cells slots E QQ F K H locs LS hR hS hL
  exact lv_icmp_le F.1 F.2.1 d ht (fun z => kt z p l e R s m args below meth c cells slots E QQ F K H locs LS hR hS hL) (fun z => kf z p l e R s m args below meth c cells slots E QQ F K H locs LS hR hS hL)
theorem Rn.if_le {X : XS} {M : MD} {pc n : Nat} {ls : List (Option AV)} {st : List AV} {h : Hp} {Q : Option AV → Hp → Prop} {t : Nat} {off : Int} {x : Int32} (d : decode M.2.1 pc = .ok (.ifCond .le off, 3)) (hn : pc + 3 = n) (ht : (pc : Int) + off = (t : Int)) (kt : x ≤ 0 → Rn X M t ls st h Q) (kf : ¬ x ≤ 0 → Rn X M n ls st h Q) : Rn X M pc ls (vI x :: st) h Q := by
  subst hn
  intro p l e R s m args below meth c cells slots E QQ F K H locs LS hR hS hL
  exact lv_if_le F.1 F.2.1 d ht (fun z => kt z p l e R s m args below meth c cells slots E QQ F K H locs LS hR hS hL) (fun z => kf z p l e R s m args below meth c cells slots E QQ F K H locs LS hR hS hL)
theorem Rn.goto {X : XS} {M : MD} {pc n : Nat} {ls : List (Option AV)} {st : List AV} {h : Hp} {Q : Option AV → Hp → Prop} {off : Int} (d : decode M.2.1 pc = .ok (.goto off, 3)) (ht : (pc : Int) + off = (n : Int)) (k : Rn X M n ls st h Q) : Rn X M pc ls st h Q := by
  intro p l e R s m args below meth c cells slots E QQ F K H locs LS hR hS hL
  exact lv_goto F.1 F.2.1 d ht (k p l e R s m args below meth c cells slots E QQ F K H locs LS hR hS hL)
theorem Rn.ifnullN {X : XS} {M : MD} {pc n : Nat} {ls : List (Option AV)} {st : List AV} {h : Hp} {Q : Option AV → Hp → Prop} {x : List Nat} {off : Int} (d : decode M.2.1 pc = .ok (.ifnull off, 3)) (ht : (pc : Int) + off = (n : Int)) (k : Rn X M n ls st h Q) : Rn X M pc ls (vN :: st) h Q := by
  intro p l e R s m args below meth c cells slots E QQ F K H locs LS hR hS hL
  exact lv_ifnullN F.1 F.2.1 d ht (k p l e R s m args below meth c cells slots E QQ F K H locs LS hR hS hL)
theorem Rn.ifnonnullR {X : XS} {M : MD} {pc n : Nat} {ls : List (Option AV)} {st : List AV} {h : Hp} {Q : Option AV → Hp → Prop} {x : List Nat} {off : Int} (d : decode M.2.1 pc = .ok (.ifnonnull off, 3)) (ht : (pc : Int) + off = (n : Int)) (k : Rn X M n ls st h Q) : Rn X M pc ls (vR x :: st) h Q := by
  intro p l e R s m args below meth c cells slots E QQ F K H locs LS hR hS hL
  exact lv_ifnonnull F.1 F.2.1 d ht (k p l e R s m args below meth c cells slots E QQ F K H locs LS hR hS hL)
theorem Rn.ifnullR {X : XS} {M : MD} {pc n : Nat} {ls : List (Option AV)} {st : List AV} {h : Hp} {Q : Option AV → Hp → Prop} {x : List Nat} {off : Int} (d : decode M.2.1 pc = .ok (.ifnull off, 3)) (hn : pc + 3 = n) (k : Rn X M n ls st h Q) : Rn X M pc ls (vR x :: st) h Q := by
  subst hn
  intro p l e R s m args below meth c cells slots E QQ F K H locs LS hR hS hL
  exact lv_ifnull F.1 F.2.1 d (k p l e R s m args below meth c cells slots E QQ F K H locs LS hR hS hL)
theorem Rn.ifnonnullN {X : XS} {M : MD} {pc n : Nat} {ls : List (Option AV)} {st : List AV} {h : Hp} {Q : Option AV → Hp → Prop} {x : List Nat} {off : Int} (d : decode M.2.1 pc = .ok (.ifnonnull off, 3)) (hn : pc + 3 = n) (k : Rn X M n ls st h Q) : Rn X M pc ls (vN :: st) h Q := by
  subst hn
  intro p l e R s m args below meth c cells slots E QQ F K H locs LS hR hS hL
  exact lv_ifnonnullN F.1 F.2.1 d (k p l e R s m args below meth c cells slots E QQ F K H locs LS hR hS hL)
theorem Rn.tsw {X : XS} {M : MD} {pc n : Nat} {ls : List (Option AV)} {st : List AV} {h : Hp} {Q : Option AV → Hp → Prop} {len : Nat} {dflt lo hi : Int} {offs : Array Int} {x : Int32} (d : decode M.2.1 pc = .ok (.tableswitch dflt lo hi offs, len)) (hout : x.toInt < lo ∨ hi < x.toInt → ∃ t : Nat, (pc : Int) + dflt = (t : Int) ∧ Rn X M t ls st h Q) (hin : ∀ j : Nat, lo ≤ x.toInt → x.toInt ≤ hi → x.toInt = lo + j → ∃ (off : Int) (t : Nat), offs[j]? = some off ∧ (pc : Int) + off = (t : Int) ∧ Rn X M t ls st h Q) : Rn X M pc ls (vI x :: st) h Q := by
  intro p l e R s m args below meth c cells slots E QQ F K H locs LS hR hS hL
  by_cases h1 : x.toInt < lo ∨ hi < x.toInt
  · obtain ⟨t, ht, k⟩ := hout h1
    exact lv_tableOut F.1 F.2.1 d h1 ht (k p l e R s m args below meth c cells slots E QQ F K H locs LS hR hS hL)
  · have g1 : ¬ x.toInt < lo := fun z => h1 (Or.inl z)
    have g2 : ¬ hi < x.toInt := fun z => h1 (Or.inr z)
    obtain ⟨off, t, ho, ht, k⟩ := hin (x.toInt - lo).toNat (by omega) (by omega) (by omega)
    exact lv_tableIn F.1 F.2.1 d g1 g2 ho ht (k p l e R s m args below meth c cells slots E QQ F K H locs LS hR hS hL)
theorem Rn.iret {X : XS} {M : MD} {pc : Nat} {ls : List (Option AV)} {h : Hp} {Q : Option AV → Hp → Prop} {x : Int32} {ty : FieldType} (d : decode M.2.1 pc = .ok (.ireturn, 1)) (hty : M.2.2.2.1 = some ty) (hx : narrow ty (.int x) = .int x) (k : Q (some (vI x)) h) : Rn X M pc ls [vI x] h Q := by
  intro p l e R s m args below meth c cells slots E QQ F K H locs LS hR hS hL
  exact K _ _ k pc ⟨d, ty, hty, hx⟩ H locs LS hR hS
theorem Rn.lret {X : XS} {M : MD} {pc : Nat} {ls : List (Option AV)} {h : Hp} {Q : Option AV → Hp → Prop} {x : Int64} (d : decode M.2.1 pc = .ok (.lreturn, 1)) (hty : M.2.2.2.1 = some .long) (k : Q (some (vL x)) h) : Rn X M pc ls [vL x] h Q := by
  intro p l e R s m args below meth c cells slots E QQ F K H locs LS hR hS hL
  exact K _ _ k pc ⟨d, hty⟩ H locs LS hR hS
theorem Rn.aret {X : XS} {M : MD} {pc : Nat} {ls : List (Option AV)} {h : Hp} {Q : Option AV → Hp → Prop} {x : Option (List Nat)} (d : decode M.2.1 pc = .ok (.areturn, 1)) (hty : ∃ n, M.2.2.2.1 = some (.object n)) (k : Q (some (.inr x)) h) : Rn X M pc ls [.inr x] h Q := by
  intro p l e R s m args below meth c cells slots E QQ F K H locs LS hR hS hL
  exact K _ _ k pc ⟨d, hty⟩ H locs LS hR hS
theorem Rn.vret {X : XS} {M : MD} {pc : Nat} {ls : List (Option AV)} {h : Hp} {Q : Option AV → Hp → Prop} (d : decode M.2.1 pc = .ok (.return_, 1)) (hty : M.2.2.2.1 = none) (k : Q none h) : Rn X M pc ls [] h Q := by
  intro p l e R s m args below meth c cells slots E QQ F K H locs LS hR hS hL
  exact K _ _ k pc ⟨d, hty⟩ H locs LS hR hS
theorem Rn.loc {X : XS} {M : MD} {pc : Nat} {ls : List (Option AV)} {st : List AV} {h : Hp} {Q : Option AV → Hp → Prop} (ls2 : List (Option AV)) (hl : ∀ (k : Nat) (w : AV), ls2[k]? = some (some w) → ls[k]? = some (some w)) (k : Rn X M pc ls2 st h Q) : Rn X M pc ls st h Q := by
  intro p l e R s m args below meth c cells slots E QQ F K H locs LS hR hS hL
  exact k p l e R s m args below meth c cells slots E QQ F K H locs LS hR hS (asc_le hL hl)
theorem Rn.mono {X : XS} {M : MD} {pc : Nat} {ls : List (Option AV)} {st : List AV} {h : Hp} {Q Q2 : Option AV → Hp → Prop} (k : Rn X M pc ls st h Q) (hq : ∀ v h', Q v h' → Q2 v h') : Rn X M pc ls st h Q2 := by
  intro p l e R s m args below meth c cells slots E QQ F K H locs LS hR hS hL
  exact k p l e R s m args below meth c cells slots E QQ F (fun v h' hv => K v h' (hq v h' hv)) H locs LS hR hS hL
def cty : Nat → Nat → FieldType := fun c => match c with | 0 => tyX0 | 1 => tyX1 | 2 => tyX2 | 3 => tyX3 | 4 => tyX4 | 5 => tyX5 | 6 => tyX6 | _ => tyX7
theorem clsU_ok : ∀ (ci : Nat) (C : String) (T : u_T) (N : Nat), clsU[ci]? = some (C, T, N) → (∀ w ∈ u_ws C T N, w ∈ wsG) ∧ (∀ k, k < N → parseFieldDescriptor (T k).2.2.1 = some (cty ci k)) ∧ (∀ a, a < N → ∀ b, b < N → a ≠ b → (T a).2.1 ≠ (T b).2.1) ∧ nfl ci = N ∧ ci < 8 ∧ (∀ k, k < N → fty ci k = 0 → cty ci k = .int) ∧ (∀ k, k < N → fty ci k = 1 → cty ci k = .boolean) ∧ (∀ k, k < N → fty ci k = 3 → cty ci k = .long)
  | 0, _, _, _, h => by cases h; exact ⟨iwX0, tyX0_ok, nmX0, rfl, by decide, by decide +kernel, by decide +kernel, by decide +kernel⟩
  | 1, _, _, _, h => by cases h; exact ⟨iwX1, tyX1_ok, nmX1, rfl, by decide, by decide +kernel, by decide +kernel, by decide +kernel⟩
  | 2, _, _, _, h => by cases h; exact ⟨iwX2, tyX2_ok, nmX2, rfl, by decide, by decide +kernel, by decide +kernel, by decide +kernel⟩
  | 3, _, _, _, h => by cases h; exact ⟨iwX3, tyX3_ok, nmX3, rfl, by decide, by decide +kernel, by decide +kernel, by decide +kernel⟩
  | 4, _, _, _, h => by cases h; exact ⟨iwX4, tyX4_ok, nmX4, rfl, by decide, by decide +kernel, by decide +kernel, by decide +kernel⟩
  | 5, _, _, _, h => by cases h; exact ⟨iwX5, tyX5_ok, nmX5, rfl, by decide, by decide +kernel, by decide +kernel, by decide +kernel⟩
  | 6, _, _, _, h => by cases h; exact ⟨iwX6, tyX6_ok, nmX6, rfl, by decide, by decide +kernel, by decide +kernel, by decide +kernel⟩
  | 7, _, _, _, h => by cases h; exact ⟨iwX7, tyX7_ok, nmX7, rfl, by decide, by decide +kernel, by decide +kernel, by decide +kernel⟩
  | i + 8, _, _, _, h => by cases h
theorem celU_obj {E : EU} {h : Hp} {p : List Nat} {ci n : Nat} (hc : ci < 8) : celU E h (p, ci, n) = (EU.ad E p, .inr (ci, (List.range (nfl ci)).map (fun k => cv E (gv h p ci k)))) := by
  match ci, hc with
  | 0, _ => rfl
  | 1, _ => rfl
  | 2, _ => rfl
  | 3, _ => rfl
  | 4, _ => rfl
  | 5, _ => rfl
  | 6, _ => rfl
  | 7, _ => rfl
theorem Rn.getf {X : XS} {M : MD} {pc n : Nat} {ls : List (Option AV)} {st : List AV} {h : Hp} {Q : Option AV → Hp → Prop} {idx ci kk n0 : Nat} {p0 : List Nat} {v : AV} (d : decode M.2.1 pc = .ok (.getfield idx, 3)) (hn : pc + 3 = n) (lk : FLk M.1.cls idx ci kk) (hp : Liv p0 ci n0) (hv : gv h p0 ci kk = v) (k : Rn X M n ls (v :: st) h Q) : Rn X M pc ls (vR p0 :: st) h Q := by
  subst hn; subst hv
  intro p l e R s m args below meth c cells slots E QQ F K H locs LS hR hS hL
  obtain ⟨C, T, N, hc, hk, hw⟩ := lk
  obtain ⟨c1, c2, c3, c4, c5, -⟩ := clsU_ok ci C T N hc
  obtain ⟨i, hi, hi2⟩ := live_ix hp E h
  rw [celU_obj c5] at hi2
  exact va_get (D := E.1) (cl := clsU) (tys := tysU E) (C := C) (T := T) (N := N) F.1 F.2.1 F.2.2.2.2.1 c1 F.2.2.2.1 F.2.2.2.2.2.1.1 hR.1 i hi2 hc kk hk (F.2.2.2.2.1 _ hw) (fun _ z => z) (v := cv E (gv h p0 ci kk)) (by rw [List.getElem?_map, List.getElem?_range (by omega)]; rfl) d (k p l e R s m args below meth c cells slots E QQ F K H locs LS hR hS hL)

theorem obj_set {E : EU} {h h' : Hp} {p : List Nat} {ci kk n i : Nat} {v : Value} (hc : ci < 8) (hi : live[i]? = some (p, ci, n)) (hne : ∀ q : CU, q.1 ≠ p → celU E h' q = celU E h q) (hv : cv E (gv h' p ci kk) = v) (ho : ∀ j, j ≠ kk → gv h' p ci j = gv h p ci j) :
    (live.map (celU E h)).set i (EU.ad E p, .inr (ci, ((List.range (nfl ci)).map (fun k => cv E (gv h p ci k))).set kk v)) = live.map (celU E h') := by
  have e : ((List.range (nfl ci)).map (fun k => cv E (gv h p ci k))).set kk v = (List.range (nfl ci)).map (fun k => cv E (gv h' p ci k)) := by
    apply List.ext_getElem?
    intro j
    rw [List.getElem?_set]
    by_cases hj : kk = j
    · subst hj
      rw [if_pos rfl]
      by_cases hl : kk < nfl ci
      · rw [if_pos (by simpa using hl), List.getElem?_map, List.getElem?_range hl, ← hv]; rfl
      · rw [if_neg (by simpa using hl), List.getElem?_eq_none (by simpa using hl)]
    · rw [if_neg hj, List.getElem?_map, List.getElem?_map]
      by_cases hl : j < nfl ci
      · rw [List.getElem?_range hl]
        show some (cv E (gv h p ci j)) = some (cv E (gv h' p ci j))
        rw [ho j (fun z => hj z.symm)]
      · rw [List.getElem?_eq_none (by simpa using hl)]
        rfl
  rw [e, ← celU_obj (n := n) hc]
  exact live_set hi hne
theorem Rn.putI {X : XS} {M : MD} {pc n : Nat} {ls : List (Option AV)} {st : List AV} {h : Hp} {Q : Option AV → Hp → Prop} {idx ci kk n0 : Nat} {p0 : List Nat} {x : Int32} (d : decode M.2.1 pc = .ok (.putfield idx, 3)) (hn : pc + 3 = n) (lk : FLk M.1.cls idx ci kk) (pl : PLk ci kk) (hp : Liv p0 ci n0) (hf : fty ci kk = 0)  (k : Rn X M n ls st (hsI h p0 kk x) Q) : Rn X M pc ls (vI x :: vR p0 :: st) h Q := by
  subst hn
  intro p l e R s m args below meth c cells slots E QQ F K H locs LS hR hS hL
  obtain ⟨C, T, N, hc, hk, hw⟩ := lk
  obtain ⟨c1, c2, c3, c4, c5, t0, t1, t3⟩ := clsU_ok ci C T N hc
  obtain ⟨i, hi, hi2⟩ := live_ix hp E h
  rw [celU_obj c5] at hi2
  have e8 := obj_set (E := E) (h := h) (h' := hsI h p0 kk x) (v := cv E (vI x)) c5 hi (fun q hq => celE_congr (hsI_other hq) rfl) (by unfold gv; rw [hf]; simp [hsI]) (fun j hj => by unfold gv; simp [hsI, hj])
  refine va_put (D := E.1) (cl := clsU) (tys := tysU E) (C := C) (T := T) (N := N) (ty := cty ci kk) (v := cv E (vI x)) F.1 F.2.1 F.2.2.2.2.1 c1 (cty ci) c2 c3 F.2.2.2.1 F.2.2.2.2.2.1.1 hR.1 hR.2 hS i hi2 hc kk hk (F.2.2.2.2.1 _ hw) (fun _ z => z) (pl C T N hc) (c2 kk hk) (by rw [t0 kk hk hf]; rfl) (by rw [t0 kk hk hf]; rfl) (by simp; omega) d (fun H1 locs1 hP1 hD1 hS1 => ?_)
  rw [e8] at hP1 hD1
  exact k p l e R s m args below meth c cells slots E QQ F K H1 locs1 LS ⟨hP1, hD1⟩ hS1 hL
theorem Rn.putZ {X : XS} {M : MD} {pc n : Nat} {ls : List (Option AV)} {st : List AV} {h : Hp} {Q : Option AV → Hp → Prop} {idx ci kk n0 : Nat} {p0 : List Nat} {x : Int32} (d : decode M.2.1 pc = .ok (.putfield idx, 3)) (hn : pc + 3 = n) (lk : FLk M.1.cls idx ci kk) (pl : PLk ci kk) (hp : Liv p0 ci n0) (hf : fty ci kk = 1) (hx : x = 0 ∨ x = 1) (k : Rn X M n ls st (hsI h p0 kk x) Q) : Rn X M pc ls (vI x :: vR p0 :: st) h Q := by
  subst hn
  intro p l e R s m args below meth c cells slots E QQ F K H locs LS hR hS hL
  obtain ⟨C, T, N, hc, hk, hw⟩ := lk
  obtain ⟨c1, c2, c3, c4, c5, t0, t1, t3⟩ := clsU_ok ci C T N hc
  obtain ⟨i, hi, hi2⟩ := live_ix hp E h
  rw [celU_obj c5] at hi2
  have e8 := obj_set (E := E) (h := h) (h' := hsI h p0 kk x) (v := cv E (vI x)) c5 hi (fun q hq => celE_congr (hsI_other hq) rfl) (by unfold gv; rw [hf]; simp [hsI]) (fun j hj => by unfold gv; simp [hsI, hj])
  refine va_put (D := E.1) (cl := clsU) (tys := tysU E) (C := C) (T := T) (N := N) (ty := cty ci kk) (v := cv E (vI x)) F.1 F.2.1 F.2.2.2.2.1 c1 (cty ci) c2 c3 F.2.2.2.1 F.2.2.2.2.2.1.1 hR.1 hR.2 hS i hi2 hc kk hk (F.2.2.2.2.1 _ hw) (fun _ z => z) (pl C T N hc) (c2 kk hk) (by rw [t1 kk hk hf]; rcases hx with rfl | rfl <;> rfl) (by rw [t1 kk hk hf]; rcases hx with rfl | rfl <;> rfl) (by simp; omega) d (fun H1 locs1 hP1 hD1 hS1 => ?_)
  rw [e8] at hP1 hD1
  exact k p l e R s m args below meth c cells slots E QQ F K H1 locs1 LS ⟨hP1, hD1⟩ hS1 hL
theorem Rn.putL {X : XS} {M : MD} {pc n : Nat} {ls : List (Option AV)} {st : List AV} {h : Hp} {Q : Option AV → Hp → Prop} {idx ci kk n0 : Nat} {p0 : List Nat} {x : Int64} (d : decode M.2.1 pc = .ok (.putfield idx, 3)) (hn : pc + 3 = n) (lk : FLk M.1.cls idx ci kk) (pl : PLk ci kk) (hp : Liv p0 ci n0) (hf : fty ci kk = 3)  (k : Rn X M n ls st (hsL h p0 kk x) Q) : Rn X M pc ls (vL x :: vR p0 :: st) h Q := by
  subst hn
  intro p l e R s m args below meth c cells slots E QQ F K H locs LS hR hS hL
  obtain ⟨C, T, N, hc, hk, hw⟩ := lk
  obtain ⟨c1, c2, c3, c4, c5, t0, t1, t3⟩ := clsU_ok ci C T N hc
  obtain ⟨i, hi, hi2⟩ := live_ix hp E h
  rw [celU_obj c5] at hi2
  have e8 := obj_set (E := E) (h := h) (h' := hsL h p0 kk x) (v := cv E (vL x)) c5 hi (fun q hq => celE_congr rfl (hsL_other hq)) (by unfold gv; rw [hf]; simp [hsL]) (fun j hj => by unfold gv; simp [hsL, hj])
  refine va_put (D := E.1) (cl := clsU) (tys := tysU E) (C := C) (T := T) (N := N) (ty := cty ci kk) (v := cv E (vL x)) F.1 F.2.1 F.2.2.2.2.1 c1 (cty ci) c2 c3 F.2.2.2.1 F.2.2.2.2.2.1.1 hR.1 hR.2 hS i hi2 hc kk hk (F.2.2.2.2.1 _ hw) (fun _ z => z) (pl C T N hc) (c2 kk hk) (by rw [t3 kk hk hf]; rfl) (by rw [t3 kk hk hf]; rfl) (by simp; omega) d (fun H1 locs1 hP1 hD1 hS1 => ?_)
  rw [e8] at hP1 hD1
  exact k p l e R s m args below meth c cells slots E QQ F K H1 locs1 LS ⟨hP1, hD1⟩ hS1 hL
theorem Rn.iald {X : XS} {M : MD} {pc n : Nat} {ls : List (Option AV)} {st : List AV} {h : Hp} {Q : Option AV → Hp → Prop} {len : Nat} {p0 : List Nat} {i : Int32} {v : Int32} (d : decode M.2.1 pc = .ok (.iaload, 1)) (hn : pc + 1 = n) (hp : Liv p0 8 len) (hi : vp_in i len) (hv : h.1 p0 i.toNatClampNeg = v) (k : Rn X M n ls (vI v :: st) h Q) : Rn X M pc ls (vI i :: vR p0 :: st) h Q := by
  subst hn; subst hv
  intro p l e R s m args below meth c cells slots E QQ F K H locs LS hR hS hL
  obtain ⟨j, hj, hj2⟩ := live_ix hp E h
  exact va_iald (D := E.1) (cl := clsU) (tys := tysU E) F.1 F.2.1 F.2.2.2.2.2.1.1 hR.1 j 0 hj2 rfl hi d (k p l e R s m args below meth c cells slots E QQ F K H locs LS hR hS hL)
theorem Rn.zald {X : XS} {M : MD} {pc n : Nat} {ls : List (Option AV)} {st : List AV} {h : Hp} {Q : Option AV → Hp → Prop} {len : Nat} {p0 : List Nat} {i : Int32} {v : Int32} (d : decode M.2.1 pc = .ok (.baload, 1)) (hn : pc + 1 = n) (hp : Liv p0 9 len) (hi : vp_in i len) (hv : h.1 p0 i.toNatClampNeg = v) (k : Rn X M n ls (vI v :: st) h Q) : Rn X M pc ls (vI i :: vR p0 :: st) h Q := by
  subst hn; subst hv
  intro p l e R s m args below meth c cells slots E QQ F K H locs LS hR hS hL
  obtain ⟨j, hj, hj2⟩ := live_ix hp E h
  exact va_zald (D := E.1) (cl := clsU) (tys := tysU E) F.1 F.2.1 F.2.2.2.2.2.1.1 hR.1 j 1 hj2 rfl hi d (k p l e R s m args below meth c cells slots E QQ F K H locs LS hR hS hL)
theorem Rn.iast {X : XS} {M : MD} {pc n : Nat} {ls : List (Option AV)} {st : List AV} {h : Hp} {Q : Option AV → Hp → Prop} {len : Nat} {p0 : List Nat} {i : Int32} {x : Int32} (d : decode M.2.1 pc = .ok (.iastore, 1)) (hn : pc + 1 = n) (hp : Liv p0 8 len) (hi : vp_in i len) (k : Rn X M n ls st (hsI h p0 i.toNatClampNeg x) Q) : Rn X M pc ls (vI x :: vI i :: vR p0 :: st) h Q := by
  subst hn
  intro p l e R s m args below meth c cells slots E QQ F K H locs LS hR hS hL
  obtain ⟨j, hj, hj2⟩ := live_ix hp E h
  refine va_iast (D := E.1) (cl := clsU) (tys := tysU E) F.1 F.2.1 F.2.2.2.2.2.1.1 hR.1 hR.2 hS j 0 hj2 rfl hi d (fun H1 locs1 hP1 hD1 hS1 => ?_)
  have hu : upd (h.1 p0) i.toNatClampNeg x = (hsI h p0 i.toNatClampNeg x).1 p0 := by
    funext a
    simp [upd, hsI]
  have e8 := live_set (E := E) (h := h) (h' := hsI h p0 i.toNatClampNeg x) hj (fun q hq => celE_congr (hsI_other hq) rfl)
  rw [hu] at hP1 hD1
  rw [show celU E (hsI h p0 i.toNatClampNeg x) (p0, 8, len) = (EU.ad E p0, .inl (E.2.1.1, len, .inl ((hsI h p0 i.toNatClampNeg x).1 p0))) from rfl] at e8
  rw [e8] at hP1 hD1
  exact k p l e R s m args below meth c cells slots E QQ F K H1 locs1 LS ⟨hP1, hD1⟩ hS1 hL
theorem Rn.zast {X : XS} {M : MD} {pc n : Nat} {ls : List (Option AV)} {st : List AV} {h : Hp} {Q : Option AV → Hp → Prop} {len : Nat} {p0 : List Nat} {i : Int32} {x y : Int32} (d : decode M.2.1 pc = .ok (.bastore, 1)) (hn : pc + 1 = n) (hp : Liv p0 9 len) (hi : vp_in i len) (hx : vp_nar .boolean x = y) (k : Rn X M n ls st (hsI h p0 i.toNatClampNeg y) Q) : Rn X M pc ls (vI x :: vI i :: vR p0 :: st) h Q := by
  subst hn; subst hx
  intro p l e R s m args below meth c cells slots E QQ F K H locs LS hR hS hL
  obtain ⟨j, hj, hj2⟩ := live_ix hp E h
  refine va_zast (D := E.1) (cl := clsU) (tys := tysU E) F.1 F.2.1 F.2.2.2.2.2.1.1 hR.1 hR.2 hS j 1 hj2 rfl hi d (fun H1 locs1 hP1 hD1 hS1 => ?_)
  have hu : upd (h.1 p0) i.toNatClampNeg (vp_nar .boolean x) = (hsI h p0 i.toNatClampNeg (vp_nar .boolean x)).1 p0 := by
    funext a
    simp [upd, hsI]
  have e8 := live_set (E := E) (h := h) (h' := hsI h p0 i.toNatClampNeg (vp_nar .boolean x)) hj (fun q hq => celE_congr (hsI_other hq) rfl)
  rw [hu] at hP1 hD1
  rw [show celU E (hsI h p0 i.toNatClampNeg (vp_nar .boolean x)) (p0, 9, len) = (EU.ad E p0, .inl (E.2.1.2.1, len, .inl ((hsI h p0 i.toNatClampNeg (vp_nar .boolean x)).1 p0))) from rfl] at e8
  rw [e8] at hP1 hD1
  exact k p l e R s m args below meth c cells slots E QQ F K H1 locs1 LS ⟨hP1, hD1⟩ hS1 hL
theorem Rn.aald {X : XS} {M : MD} {pc n : Nat} {ls : List (Option AV)} {st : List AV} {h : Hp} {Q : Option AV → Hp → Prop} {len : Nat} {p0 : List Nat} {i : Int32} (d : decode M.2.1 pc = .ok (.aaload, 1)) (hn : pc + 1 = n) (hp : Liv p0 10 len) (hi : vp_in i len) (k : Rn X M n ls (vR (i.toNatClampNeg :: p0) :: st) h Q) : Rn X M pc ls (vI i :: vR p0 :: st) h Q := by
  subst hn
  intro p l e R s m args below meth c cells slots E QQ F K H locs LS hR hS hL
  obtain ⟨j, hj, hj2⟩ := live_ix hp E h
  exact va_aldq (D := E.1) (cl := clsU) (tys := tysU E) F.1 F.2.1 F.2.2.2.2.2.1.1 hR.1 j 2 hj2 rfl hi d (k p l e R s m args below meth c cells slots E QQ F K H locs LS hR hS hL)
theorem Rn.alen8 {X : XS} {M : MD} {pc n : Nat} {ls : List (Option AV)} {st : List AV} {h : Hp} {Q : Option AV → Hp → Prop} {len : Nat} {p0 : List Nat} {v : Int32} (d : decode M.2.1 pc = .ok (.arraylength, 1)) (hn : pc + 1 = n) (hp : Liv p0 8 len) (hv : Int32.ofNat len = v) (k : Rn X M n ls (vI v :: st) h Q) : Rn X M pc ls (vR p0 :: st) h Q := by
  subst hn
  intro p l e R s m args below meth c cells slots E QQ F K H locs LS hR hS hL
  obtain ⟨j, hj, hj2⟩ := live_ix hp E h
  exact va_alen (D := E.1) (cl := clsU) (tys := tysU E) F.1 F.2.1 F.2.2.2.2.2.1.1 hR.1 j 0 hj2 rfl hv d (k p l e R s m args below meth c cells slots E QQ F K H locs LS hR hS hL)
theorem Rn.alen9 {X : XS} {M : MD} {pc n : Nat} {ls : List (Option AV)} {st : List AV} {h : Hp} {Q : Option AV → Hp → Prop} {len : Nat} {p0 : List Nat} {v : Int32} (d : decode M.2.1 pc = .ok (.arraylength, 1)) (hn : pc + 1 = n) (hp : Liv p0 9 len) (hv : Int32.ofNat len = v) (k : Rn X M n ls (vI v :: st) h Q) : Rn X M pc ls (vR p0 :: st) h Q := by
  subst hn
  intro p l e R s m args below meth c cells slots E QQ F K H locs LS hR hS hL
  obtain ⟨j, hj, hj2⟩ := live_ix hp E h
  exact va_alen (D := E.1) (cl := clsU) (tys := tysU E) F.1 F.2.1 F.2.2.2.2.2.1.1 hR.1 j 1 hj2 rfl hv d (k p l e R s m args below meth c cells slots E QQ F K H locs LS hR hS hL)
theorem Rn.alen10 {X : XS} {M : MD} {pc n : Nat} {ls : List (Option AV)} {st : List AV} {h : Hp} {Q : Option AV → Hp → Prop} {len : Nat} {p0 : List Nat} {v : Int32} (d : decode M.2.1 pc = .ok (.arraylength, 1)) (hn : pc + 1 = n) (hp : Liv p0 10 len) (hv : Int32.ofNat len = v) (k : Rn X M n ls (vI v :: st) h Q) : Rn X M pc ls (vR p0 :: st) h Q := by
  subst hn
  intro p l e R s m args below meth c cells slots E QQ F K H locs LS hR hS hL
  obtain ⟨j, hj, hj2⟩ := live_ix hp E h
  exact va_alen (D := E.1) (cl := clsU) (tys := tysU E) F.1 F.2.1 F.2.2.2.2.2.1.1 hR.1 j 2 hj2 rfl hv d (k p l e R s m args below meth c cells slots E QQ F K H locs LS hR hS hL)
theorem Rn.sld {X : XS} {M : MD} {pc n : Nat} {ls : List (Option AV)} {st : List AV} {h : Hp} {Q : Option AV → Hp → Prop} {i : Int32} (d : decode M.2.1 pc = .ok (.iaload, 1)) (hn : pc + 1 = n) (hi : vp_in i X.1) (k : Rn X M n ls (vI (X.2 i.toNatClampNeg) :: st) h Q) : Rn X M pc ls (vI i :: vR [2] :: st) h Q := by
  subst hn
  intro p l e R s m args below meth c cells slots E QQ F K H locs LS hR hS hL
  obtain ⟨x1, x2, x3⟩ := F.2.2.2.2.2.1.2.1
  exact va_sld F.1 F.2.1 x1 x2 x3 hS hi d (k p l e R s m args below meth c cells slots E QQ F K H locs LS hR hS hL)
theorem Rn.slen {X : XS} {M : MD} {pc n : Nat} {ls : List (Option AV)} {st : List AV} {h : Hp} {Q : Option AV → Hp → Prop} (d : decode M.2.1 pc = .ok (.arraylength, 1)) (hn : pc + 1 = n) (k : Rn X M n ls (vI (Int32.ofNat X.1) :: st) h Q) : Rn X M pc ls (vR [2] :: st) h Q := by
  subst hn
  intro p l e R s m args below meth c cells slots E QQ F K H locs LS hR hS hL
  obtain ⟨x1, x2, x3⟩ := F.2.2.2.2.2.1.2.1
  exact va_slen F.1 F.2.1 x1 x2 x3 hS d (k p l e R s m args below meth c cells slots E QQ F K H locs LS hR hS hL)
theorem callE {p : Program} {l : Launch} {e : Env} {R : Room} {s : State} {m : MethodId} {args : Array Value} {below : List Frame} {meth : Method} {c : Code} {H : Heap} {locs : List Loc} {cells slots : Nat} {QQ : State → Prop} {E : EU} {Q' : Option AV → Hp → Prop} {pc : Nat} {LS : Array Slot} {st0 rest : List Value} {a : Array Value} {H0 : Heap}
    (hr : va_Run p l e R s m args below meth c H locs cells slots 0 0 (F0 m pc LS st0) rest (QcE E Q' a) (EU.A E)) (hS : va_S (EU.A E) H0 H locs)
    (kk : ∀ (v : Option AV) (h' : Hp) (H1 : Heap) (locs1 : List Loc), Q' v h' → RepH E h' H1 → va_S (EU.A E) H0 H1 locs1 → W p l e R s m args below meth c H1 locs1 cells slots QQ (F0 m (pc + 3) LS ((v.map (cv E)).toList ++ rest))) : W p l e R s m args below meth c H locs cells slots QQ (F0 m pc LS st0) := by
  intro T hT X
  obtain ⟨v, st₀, t, T', L, h0, X', hL, e1, e2, ⟨⟨w, h', hv, hq, hb⟩, hz, hk⟩, st⟩ := hr T hT X
  cases hv
  rw [h0] at hz hk
  obtain ⟨t2, a1, b1⟩ := kk w h' T'.heap (locs ++ L) hq (by rw [e1]; exact hb)
    ⟨Nat.le_trans hS.1 (by rw [e1]; exact hz), fun q h1 h2 => by rw [e1, hk q (Nat.lt_of_lt_of_le h1 hS.1) h2]; exact hS.2.1 q h1 h2, fun q hq => by
      rcases List.mem_append.mp hq with h | h
      · exact hS.2.2 q h
      · exact hL q h⟩ T' rfl X'
  exact ⟨t2, st t2 a1, b1⟩
def wsum : List AV → Nat
  | [] => 0
  | v :: vs => (if isLg v then 2 else 1) + wsum vs
theorem wsum_cv (E : EU) : ∀ (st : List AV), ((st.map (cv E)).map fun v => v.category).sum = wsum st
  | [] => rfl
  | v :: vs => by simp only [List.map_cons, List.sum_cons, wsum, cat_cv, wsum_cv E vs]
theorem good_wsM {z : MD} (h : Cond.code z.1 z.2.1 z.2.2.1 z.2.2.2.1 ∈ wsG) : GoodIn wsG (wsM z) := by
  intro w hw
  have hm : w ∈ wsG := by
    rcases List.mem_cons.mp hw with rfl | hw
    · exact h
    · exact hw
  exact ⟨hm, good_of_word (List.mem_filter.mp hm).2⟩
theorem blindU {X : XS} {E : EU} {av : List Value} {h : Hp} : FrameBlind (va_Pc av (fun U => WorldU X E U ∧ RepH E h U.heap)) := by
  intro a U g mk hq
  exact ⟨hq.1, WorldU.go hq.2.1 (va_S.rf (A := EU.A E) (H0 := U.heap)) rfl (State.WarmedH.refl U), hq.2.2⟩
theorem retst (E : EU) (v : Option AV) (st : List AV) : (v.map (cv E)).toList ++ st.map (cv E) = (v.toList ++ st).map (cv E) := by
  cases v <;> rfl
theorem Rn.callV {X : XS} {M : MD} {pc n : Nat} {ls : List (Option AV)} {st : List AV} {h : Hp} {Q : Option AV → Hp → Prop} {z : MD} {idx nn ci n0 : Nat} {p0 : List Nat} {av : List AV} {stk : List AV} {Q' : Option AV → Hp → Prop} {r : vw_C} (d : decode M.2.1 pc = .ok (.invokevirtual idx, 3)) (hn : pc + 3 = n) (lk : MLink M idx z) (mi : MInst z nn) (hp : Liv p0 ci n0) (hc : clsU[ci]? = some r) (hcls : r.1 = z.1.cls) (hlen : av.length = nn) (hst : stk = av.reverse ++ vR p0 :: st) (hw : wsum st ≤ 8) (ev : Ev X z (vR p0 :: av) h Q') (k : ∀ v h', Q' v h' → Rn X M n ls (v.toList ++ st) h' Q) : Rn X M pc ls stk h Q := by
  subst hn; subst hst
  intro p l e R s m args below meth c cells slots E QQ F K H locs LS hR hS hL
  obtain ⟨hx, hb, hml, hown, hts, hW, hfr, hlo, hce, hsl⟩ := id F
  obtain ⟨⟨m1, m2, m3, m4, m5⟩, m6, m7⟩ := mi
  obtain ⟨C, T, N⟩ := r
  obtain ⟨-, -, -, -, c5, -⟩ := clsU_ok ci C T N hc
  obtain ⟨i, hi, hi2⟩ := live_ix hp E h
  rw [celU_obj c5] at hi2
  have hrecv := va_recv hW.1 hR.1 hc hi2
  have cw : CallW R s args M.1.cls z.1.cls idx z.1 z.2.1 z.2.2.1 z.2.2.2.1 (wsM z) (rmM z) 0 0 nn :=
    ⟨callB_of nn hts (good_wsM m1) rfl rfl rfl (hts _ m2) (hts _ lk.1) ⟨m3, m4, m5⟩ ⟨Nat.le_trans lk.2.1 hfr, Nat.le_trans lk.2.2 hlo⟩, hts _ m6, hts _ m7⟩
  refine callE (va_runV (As := av.map (cv E)) (rest := st.map (cv E)) (b := EU.ad E p0) (C := z.1.cls) ⟨hx, hb, hml, hown, hts⟩ (ev l E) cw ⟨blindU, ?_, fun U hU hw' => ⟨rfl, WorldU.go hW hS hU hw', by rw [hU]; exact hR⟩⟩ rfl (by simpa using hlen) hL.1 ?_ (lv_room (by rw [wsum_cv]; exact hw)) d ⟨hce, hsl⟩) hS (fun v h' H1 locs1 hq hR1 hS1 => ?_)
  · rw [← hcls]; exact hrecv
  · show ((av.reverse ++ vR p0 :: st).map (cv E)) = _
    simp [cv]
  · rw [retst]
    exact k v h' hq p l e R s m args below meth c cells slots E QQ F K H1 locs1 LS hR1 hS1 hL
theorem Rn.callS {X : XS} {M : MD} {pc n : Nat} {ls : List (Option AV)} {st : List AV} {h : Hp} {Q : Option AV → Hp → Prop} {z : MD} {idx nn : Nat} {av : List AV} {stk : List AV} {Q' : Option AV → Hp → Prop} (d : decode M.2.1 pc = .ok (.invokestatic idx, 3)) (hn : pc + 3 = n) (lk : MLink M idx z) (mi : MStat z nn) (hlen : av.length = nn) (hst : stk = av.reverse ++ st) (hw : wsum st ≤ 8) (ev : Ev X z av h Q') (k : ∀ v h', Q' v h' → Rn X M n ls (v.toList ++ st) h' Q) : Rn X M pc ls stk h Q := by
  subst hn; subst hst
  intro p l e R s m args below meth c cells slots E QQ F K H locs LS hR hS hL
  obtain ⟨hx, hb, hml, hown, hts, hW, hfr, hlo, hce, hsl⟩ := id F
  obtain ⟨⟨m1, m2, m3, m4, m5⟩, m6⟩ := mi
  have cw : CallB R s args M.1.cls idx z.1 z.2.1 z.2.2.1 z.2.2.2.1 (wsM z) (rmM z) 0 0 nn ∧ (Cond.static z.1).before args s = true :=
    ⟨callB_of nn hts (good_wsM m1) rfl rfl rfl (hts _ m2) (hts _ lk.1) ⟨m3, m4, m5⟩ ⟨Nat.le_trans lk.2.1 hfr, Nat.le_trans lk.2.2 hlo⟩, hts _ m6⟩
  refine callE (va_runS (As := av.map (cv E)) (rest := st.map (cv E)) ⟨hx, hb, hml, hown, hts⟩ (ev l E) cw ⟨blindU, fun U hU hw' => ⟨rfl, WorldU.go hW hS hU hw', by rw [hU]; exact hR⟩⟩ rfl (by simpa using hlen) hL.1 ?_ (lv_room (by rw [wsum_cv]; exact hw)) d ⟨hce, hsl⟩) hS (fun v h' H1 locs1 hq hR1 hS1 => ?_)
  · show ((av.reverse ++ st).map (cv E)) = _
    simp
  · rw [retst]
    exact k v h' hq p l e R s m args below meth c cells slots E QQ F K H1 locs1 LS hR1 hS1 hL
/-- the one static method of a nest mate that is called: isNotIn -/
theorem Rn.callN {X : XS} {M : MD} {pc n : Nat} {ls : List (Option AV)} {st : List AV} {h : Hp} {Q : Option AV → Hp → Prop} {nn : Nat} {av : List AV} {stk : List AV} {Q' : Option AV → Hp → Prop} (d : decode M.2.1 pc = .ok (.invokestatic 107, 3)) (hn : pc + 3 = n) (hM : M.1.cls = "UmbrellaStreet$Text") (lk : MFits M m_Us_isNotIn) (mi : MStat m_Us_isNotIn nn) (hlen : av.length = nn) (hst : stk = av.reverse ++ st) (hw : wsum st ≤ 8) (ev : Ev X m_Us_isNotIn av h Q') (k : ∀ v h', Q' v h' → Rn X M n ls (v.toList ++ st) h' Q) : Rn X M pc ls stk h Q := by
  subst hn; subst hst
  intro p l e R s m args below meth c cells slots E QQ F K H locs LS hR hS hL
  obtain ⟨hx, hb, hml, hown, hts, hW, hfr, hlo, hce, hsl⟩ := id F
  obtain ⟨⟨m1, m2, m3, m4, m5⟩, m6⟩ := mi
  refine callE (va_runSN (As := av.map (cv E)) (rest := st.map (cv E)) (host := "UmbrellaStreet") (index := 107) (own := M.1.cls) ⟨hx, hb, hml, hown, hts⟩ (ev l E) ⟨va_cnB nn hts (good_wsM m1) rfl rfl rfl (by rw [hM]; exact hW.2.2.1) (hts _ m2) ⟨m3, m4, m5⟩ ⟨Nat.le_trans lk.1 hfr, Nat.le_trans lk.2 hlo⟩, hts _ m6, trivial⟩ ⟨blindU, fun U hU hw' => ⟨rfl, WorldU.go hW hS hU hw', by rw [hU]; exact hR⟩⟩ rfl (by simpa using hlen) hL.1 ?_ (lv_room (by rw [wsum_cv]; exact hw)) d ⟨hce, hsl⟩) hS (fun v h' H1 locs1 hq hR1 hS1 => ?_)
  · show ((av.reverse ++ st).map (cv E)) = _
    simp
  · rw [retst]
    exact k v h' hq p l e R s m args below meth c cells slots E QQ F K H1 locs1 LS hR1 hS1 hL
def EvI (X : XS) (M : MD) (av : List AV) (h : Hp) (Q : Int32 → Hp → Prop) : Prop := Ev X M av h (fun v h' => ∃ r, v = some (vI r) ∧ Q r h')
def EvL (X : XS) (M : MD) (av : List AV) (h : Hp) (Q : Int64 → Hp → Prop) : Prop := Ev X M av h (fun v h' => ∃ r, v = some (vL r) ∧ Q r h')
def EvV (X : XS) (M : MD) (av : List AV) (h : Hp) (Q : Hp → Prop) : Prop := Ev X M av h (fun v h' => v = none ∧ Q h')
def EvR (X : XS) (M : MD) (av : List AV) (h : Hp) (Q : Option (List Nat) → Hp → Prop) : Prop := Ev X M av h (fun v h' => ∃ r, v = some (.inr r) ∧ Q r h')
def LLe : List (Option AV) → List (Option AV) → Prop
  | [], _ => True
  | none :: a, _ :: b => LLe a b
  | some x :: a, y :: b => y = some x ∧ LLe a b
  | _ :: _, [] => False
theorem LLe_ok : ∀ {a b : List (Option AV)}, LLe a b → ∀ (k : Nat) (w : AV), a[k]? = some (some w) → b[k]? = some (some w)
  | [], _, _, k, w, h => by simp at h
  | none :: a, y :: b, hl, k, w, h => by
    cases k with
    | zero => simp at h
    | succ k => simpa using LLe_ok (show LLe a b from hl) k w (by simpa using h)
  | some x :: a, y :: b, hl, k, w, h => by
    cases k with
    | zero => rw [show y = some x from hl.1]; simpa using h
    | succ k => simpa using LLe_ok (show LLe a b from hl.2) k w (by simpa using h)
  | none :: a, [], hl, _, _, _ => absurd hl (by simp [LLe])
  | some _ :: a, [], hl, _, _, _ => absurd hl (by simp [LLe])
theorem nar_z {x : Int32} (h : x = 0 ∨ x = 1) : narrow .boolean (.int x) = .int x := by rcases h with rfl | rfl <;> rfl
def IsWk (w : List Nat) : Prop := Liv w 5 0 ∧ Liv (3 :: w) 8 6 ∧ Liv (4 :: w) 9 6 ∧ Liv (5 :: w) 8 6 ∧ Liv (6 :: w) 8 6 ∧ Liv (7 :: w) 8 6
def IsPl (w : List Nat) : Prop := Liv w 1 0 ∧ Liv (2 :: w) 9 48 ∧ Liv (3 :: w) 9 6 ∧ Liv (4 :: w) 8 6 ∧ Liv (5 :: w) 8 6 ∧ Liv (6 :: w) 8 6 ∧ Liv (7 :: w) 8 6 ∧ Liv (8 :: w) 8 6 ∧ Liv (9 :: w) 8 6 ∧ Liv (10 :: w) 8 60
theorem IsWk.s {w : List Nat} (h : IsWk w) : Liv w 5 0 := h.1
theorem IsWk.c3 {w : List Nat} (h : IsWk w) : Liv (3 :: w) 8 6 := h.2.1
theorem IsWk.c4 {w : List Nat} (h : IsWk w) : Liv (4 :: w) 9 6 := h.2.2.1
theorem IsWk.c5 {w : List Nat} (h : IsWk w) : Liv (5 :: w) 8 6 := h.2.2.2.1
theorem IsWk.c6 {w : List Nat} (h : IsWk w) : Liv (6 :: w) 8 6 := h.2.2.2.2.1
theorem IsWk.c7 {w : List Nat} (h : IsWk w) : Liv (7 :: w) 8 6 := h.2.2.2.2.2
theorem IsPl.s {w : List Nat} (h : IsPl w) : Liv w 1 0 := h.1
theorem IsPl.c2 {w : List Nat} (h : IsPl w) : Liv (2 :: w) 9 48 := h.2.1
theorem IsPl.c3 {w : List Nat} (h : IsPl w) : Liv (3 :: w) 9 6 := h.2.2.1
theorem IsPl.c4 {w : List Nat} (h : IsPl w) : Liv (4 :: w) 8 6 := h.2.2.2.1
theorem IsPl.c5 {w : List Nat} (h : IsPl w) : Liv (5 :: w) 8 6 := h.2.2.2.2.1
theorem IsPl.c6 {w : List Nat} (h : IsPl w) : Liv (6 :: w) 8 6 := h.2.2.2.2.2.1
theorem IsPl.c7 {w : List Nat} (h : IsPl w) : Liv (7 :: w) 8 6 := h.2.2.2.2.2.2.1
theorem IsPl.c8 {w : List Nat} (h : IsPl w) : Liv (8 :: w) 8 6 := h.2.2.2.2.2.2.2.1
theorem IsPl.c9 {w : List Nat} (h : IsPl w) : Liv (9 :: w) 8 6 := h.2.2.2.2.2.2.2.2.1
theorem IsPl.c10 {w : List Nat} (h : IsPl w) : Liv (10 :: w) 8 60 := h.2.2.2.2.2.2.2.2.2
theorem mf_Tx_reads : MFits m_Tx_reads m_Us_isNotIn := ⟨Nat.le_of_ble_eq_true rfl, Nat.le_of_ble_eq_true rfl⟩
end
section
theorem d_Wk_clear_0 : decode m_Wk_clear.2.1 0 = .ok (.aload_n 0, 1) := by decide +kernel
theorem d_Wk_clear_1 : decode m_Wk_clear.2.1 1 = .ok (.iconst 0, 1) := by decide +kernel
theorem d_Wk_clear_2 : decode m_Wk_clear.2.1 2 = .ok (.putfield 34, 3) := by decide +kernel
theorem d_Wk_clear_5 : decode m_Wk_clear.2.1 5 = .ok (.aload_n 0, 1) := by decide +kernel
theorem d_Wk_clear_6 : decode m_Wk_clear.2.1 6 = .ok (.iconst 0, 1) := by decide +kernel
theorem d_Wk_clear_7 : decode m_Wk_clear.2.1 7 = .ok (.putfield 38, 3) := by decide +kernel
theorem d_Wk_clear_10 : decode m_Wk_clear.2.1 10 = .ok (.iconst 0, 1) := by decide +kernel
theorem d_Wk_clear_11 : decode m_Wk_clear.2.1 11 = .ok (.istore_n 1, 1) := by decide +kernel
theorem d_Wk_clear_12 : decode m_Wk_clear.2.1 12 = .ok (.iload_n 1, 1) := by decide +kernel
theorem d_Wk_clear_13 : decode m_Wk_clear.2.1 13 = .ok (.bipush 6, 2) := by decide +kernel
theorem d_Wk_clear_15 : decode m_Wk_clear.2.1 15 = .ok (.if_icmp .ge 44, 3) := by decide +kernel
theorem d_Wk_clear_18 : decode m_Wk_clear.2.1 18 = .ok (.aload_n 0, 1) := by decide +kernel
theorem d_Wk_clear_19 : decode m_Wk_clear.2.1 19 = .ok (.getfield 9, 3) := by decide +kernel
theorem d_Wk_clear_22 : decode m_Wk_clear.2.1 22 = .ok (.iload_n 1, 1) := by decide +kernel
theorem d_Wk_clear_23 : decode m_Wk_clear.2.1 23 = .ok (.iconst (-1), 1) := by decide +kernel
theorem d_Wk_clear_24 : decode m_Wk_clear.2.1 24 = .ok (.iastore, 1) := by decide +kernel
theorem d_Wk_clear_25 : decode m_Wk_clear.2.1 25 = .ok (.aload_n 0, 1) := by decide +kernel
theorem d_Wk_clear_26 : decode m_Wk_clear.2.1 26 = .ok (.getfield 15, 3) := by decide +kernel
theorem d_Wk_clear_29 : decode m_Wk_clear.2.1 29 = .ok (.iload_n 1, 1) := by decide +kernel
theorem d_Wk_clear_30 : decode m_Wk_clear.2.1 30 = .ok (.iconst 0, 1) := by decide +kernel
theorem d_Wk_clear_31 : decode m_Wk_clear.2.1 31 = .ok (.bastore, 1) := by decide +kernel
theorem d_Wk_clear_32 : decode m_Wk_clear.2.1 32 = .ok (.aload_n 0, 1) := by decide +kernel
theorem d_Wk_clear_33 : decode m_Wk_clear.2.1 33 = .ok (.getfield 19, 3) := by decide +kernel
theorem d_Wk_clear_36 : decode m_Wk_clear.2.1 36 = .ok (.iload_n 1, 1) := by decide +kernel
theorem d_Wk_clear_37 : decode m_Wk_clear.2.1 37 = .ok (.iconst 0, 1) := by decide +kernel
theorem d_Wk_clear_38 : decode m_Wk_clear.2.1 38 = .ok (.iastore, 1) := by decide +kernel
theorem d_Wk_clear_39 : decode m_Wk_clear.2.1 39 = .ok (.aload_n 0, 1) := by decide +kernel
theorem d_Wk_clear_40 : decode m_Wk_clear.2.1 40 = .ok (.getfield 22, 3) := by decide +kernel
theorem d_Wk_clear_43 : decode m_Wk_clear.2.1 43 = .ok (.iload_n 1, 1) := by decide +kernel
theorem d_Wk_clear_44 : decode m_Wk_clear.2.1 44 = .ok (.iconst 0, 1) := by decide +kernel
theorem d_Wk_clear_45 : decode m_Wk_clear.2.1 45 = .ok (.iastore, 1) := by decide +kernel
theorem d_Wk_clear_46 : decode m_Wk_clear.2.1 46 = .ok (.aload_n 0, 1) := by decide +kernel
theorem d_Wk_clear_47 : decode m_Wk_clear.2.1 47 = .ok (.getfield 25, 3) := by decide +kernel
theorem d_Wk_clear_50 : decode m_Wk_clear.2.1 50 = .ok (.iload_n 1, 1) := by decide +kernel
theorem d_Wk_clear_51 : decode m_Wk_clear.2.1 51 = .ok (.iconst 0, 1) := by decide +kernel
theorem d_Wk_clear_52 : decode m_Wk_clear.2.1 52 = .ok (.iastore, 1) := by decide +kernel
theorem d_Wk_clear_53 : decode m_Wk_clear.2.1 53 = .ok (.iinc 1 1, 3) := by decide +kernel
theorem d_Wk_clear_56 : decode m_Wk_clear.2.1 56 = .ok (.goto (-44), 3) := by decide +kernel
theorem d_Wk_clear_59 : decode m_Wk_clear.2.1 59 = .ok (.return_, 1) := by decide +kernel
theorem g_Wk_clear_0 {X : XS} (a0 : List Nat) (h : Hp) (Q : Option AV → Hp → Prop) (w_a0 : IsWk a0) (k : Rn X m_Wk_clear 12 [some (vR a0), some (vI 0)] [] (hsI (hsI h a0 1 0) a0 2 0) Q) : Rn X m_Wk_clear 0 [some (vR a0), none] [] h Q := by
  refine Rn.aload_n (n := 1) (i := 0) d_Wk_clear_0 rfl rfl rfl ?_
  refine Rn.iconst (n := 2) (v := 0) d_Wk_clear_1 rfl (by decide) ?_
  refine Rn.putI (n := 5) d_Wk_clear_2 rfl fl_Wk_34 pl_Wk_1 w_a0.s rfl ?_
  refine Rn.aload_n (n := 6) (i := 0) d_Wk_clear_5 rfl rfl rfl ?_
  refine Rn.iconst (n := 7) (v := 0) d_Wk_clear_6 rfl (by decide) ?_
  refine Rn.putI (n := 10) d_Wk_clear_7 rfl fl_Wk_38 pl_Wk_2 w_a0.s rfl ?_
  refine Rn.iconst (n := 11) (v := 0) d_Wk_clear_10 rfl (by decide) ?_
  refine Rn.istore_n (n := 12) (i := 1) (ls2 := [some (vR a0), some (vI 0)]) d_Wk_clear_11 rfl rfl (Nat.le_of_ble_eq_true rfl) rfl ?_
  exact k
theorem g_Wk_clear_12 {X : XS} (a0 : List Nat) (a1 : Int32) (h : Hp) (Q : Option AV → Hp → Prop) (w_a0 : IsWk a0) (k : ((6 ≤ a1 → Q none h) ∧ (¬ 6 ≤ a1 → (vp_in a1 6 ∧ (vp_in a1 6 ∧ (vp_in a1 6 ∧ (vp_in a1 6 ∧ (vp_in a1 6 ∧ Rn X m_Wk_clear 12 [some (vR a0), some (vI (a1 + 1))] [] (hsI (hsI (hsI (hsI (hsI h (3 :: a0) a1.toNatClampNeg (-1)) (4 :: a0) a1.toNatClampNeg 0) (5 :: a0) a1.toNatClampNeg 0) (6 :: a0) a1.toNatClampNeg 0) (7 :: a0) a1.toNatClampNeg 0) Q)))))))) : Rn X m_Wk_clear 12 [some (vR a0), some (vI a1)] [] h Q := by
  refine Rn.iload_n (n := 13) (i := 1) d_Wk_clear_12 rfl rfl rfl ?_
  refine Rn.bipush (n := 15) (v := 6) d_Wk_clear_13 rfl (by decide) ?_
  refine Rn.icmp_ge (n := 18) (t := 59) d_Wk_clear_15 rfl (by decide) (fun cc => ?_) (fun cc => ?_)
  · have k := k.1 cc
    exact Rn.vret d_Wk_clear_59 rfl k
  · have k := k.2 cc
    refine Rn.aload_n (n := 19) (i := 0) d_Wk_clear_18 rfl rfl rfl ?_
    refine Rn.getf (n := 22) (v := vR (3 :: a0)) d_Wk_clear_19 rfl fl_Wk_9 w_a0.s rfl ?_
    refine Rn.iload_n (n := 23) (i := 1) d_Wk_clear_22 rfl rfl rfl ?_
    refine Rn.iconst (n := 24) (v := (-1)) d_Wk_clear_23 rfl (by decide) ?_
    obtain ⟨b1, k⟩ := k
    refine Rn.iast (n := 25) d_Wk_clear_24 rfl w_a0.c3 b1 ?_
    refine Rn.aload_n (n := 26) (i := 0) d_Wk_clear_25 rfl rfl rfl ?_
    refine Rn.getf (n := 29) (v := vR (4 :: a0)) d_Wk_clear_26 rfl fl_Wk_15 w_a0.s rfl ?_
    refine Rn.iload_n (n := 30) (i := 1) d_Wk_clear_29 rfl rfl rfl ?_
    refine Rn.iconst (n := 31) (v := 0) d_Wk_clear_30 rfl (by decide) ?_
    obtain ⟨b2, k⟩ := k
    refine Rn.zast (n := 32) (y := 0) d_Wk_clear_31 rfl w_a0.c4 b2 rfl ?_
    refine Rn.aload_n (n := 33) (i := 0) d_Wk_clear_32 rfl rfl rfl ?_
    refine Rn.getf (n := 36) (v := vR (5 :: a0)) d_Wk_clear_33 rfl fl_Wk_19 w_a0.s rfl ?_
    refine Rn.iload_n (n := 37) (i := 1) d_Wk_clear_36 rfl rfl rfl ?_
    refine Rn.iconst (n := 38) (v := 0) d_Wk_clear_37 rfl (by decide) ?_
    obtain ⟨b3, k⟩ := k
    refine Rn.iast (n := 39) d_Wk_clear_38 rfl w_a0.c5 b3 ?_
    refine Rn.aload_n (n := 40) (i := 0) d_Wk_clear_39 rfl rfl rfl ?_
    refine Rn.getf (n := 43) (v := vR (6 :: a0)) d_Wk_clear_40 rfl fl_Wk_22 w_a0.s rfl ?_
    refine Rn.iload_n (n := 44) (i := 1) d_Wk_clear_43 rfl rfl rfl ?_
    refine Rn.iconst (n := 45) (v := 0) d_Wk_clear_44 rfl (by decide) ?_
    obtain ⟨b4, k⟩ := k
    refine Rn.iast (n := 46) d_Wk_clear_45 rfl w_a0.c6 b4 ?_
    refine Rn.aload_n (n := 47) (i := 0) d_Wk_clear_46 rfl rfl rfl ?_
    refine Rn.getf (n := 50) (v := vR (7 :: a0)) d_Wk_clear_47 rfl fl_Wk_25 w_a0.s rfl ?_
    refine Rn.iload_n (n := 51) (i := 1) d_Wk_clear_50 rfl rfl rfl ?_
    refine Rn.iconst (n := 52) (v := 0) d_Wk_clear_51 rfl (by decide) ?_
    obtain ⟨b5, k⟩ := k
    refine Rn.iast (n := 53) d_Wk_clear_52 rfl w_a0.c7 b5 ?_
    refine Rn.iinc (n := 56) (i := 1) (v := a1 + 1) (ls2 := [some (vR a0), some (vI (a1 + 1))]) d_Wk_clear_53 rfl rfl rfl (Nat.le_of_ble_eq_true rfl) rfl ?_
    refine Rn.goto (n := 12) d_Wk_clear_56 (by decide) ?_
    exact k
theorem e_Wk_clear {X : XS} (a0 : List Nat) (h : Hp) (Q : Option AV → Hp → Prop) (k : Rn X m_Wk_clear 0 [some (vR a0), none] [] h Q) : Ev X m_Wk_clear [vR a0] h Q := Ev.intro (by decide +kernel) (Nat.le_of_ble_eq_true rfl) (ls := [some (vR a0), none]) rfl k
theorem d_Wk_copyFrom_0 : decode m_Wk_copyFrom.2.1 0 = .ok (.aload_n 0, 1) := by decide +kernel
theorem d_Wk_copyFrom_1 : decode m_Wk_copyFrom.2.1 1 = .ok (.aload_n 1, 1) := by decide +kernel
theorem d_Wk_copyFrom_2 : decode m_Wk_copyFrom.2.1 2 = .ok (.getfield 34, 3) := by decide +kernel
theorem d_Wk_copyFrom_5 : decode m_Wk_copyFrom.2.1 5 = .ok (.putfield 34, 3) := by decide +kernel
theorem d_Wk_copyFrom_8 : decode m_Wk_copyFrom.2.1 8 = .ok (.aload_n 0, 1) := by decide +kernel
theorem d_Wk_copyFrom_9 : decode m_Wk_copyFrom.2.1 9 = .ok (.aload_n 1, 1) := by decide +kernel
theorem d_Wk_copyFrom_10 : decode m_Wk_copyFrom.2.1 10 = .ok (.getfield 38, 3) := by decide +kernel
theorem d_Wk_copyFrom_13 : decode m_Wk_copyFrom.2.1 13 = .ok (.putfield 38, 3) := by decide +kernel
theorem d_Wk_copyFrom_16 : decode m_Wk_copyFrom.2.1 16 = .ok (.iconst 0, 1) := by decide +kernel
theorem d_Wk_copyFrom_17 : decode m_Wk_copyFrom.2.1 17 = .ok (.istore_n 2, 1) := by decide +kernel
theorem d_Wk_copyFrom_18 : decode m_Wk_copyFrom.2.1 18 = .ok (.iload_n 2, 1) := by decide +kernel
theorem d_Wk_copyFrom_19 : decode m_Wk_copyFrom.2.1 19 = .ok (.bipush 6, 2) := by decide +kernel
theorem d_Wk_copyFrom_21 : decode m_Wk_copyFrom.2.1 21 = .ok (.if_icmp .ge 69, 3) := by decide +kernel
theorem d_Wk_copyFrom_24 : decode m_Wk_copyFrom.2.1 24 = .ok (.aload_n 0, 1) := by decide +kernel
theorem d_Wk_copyFrom_25 : decode m_Wk_copyFrom.2.1 25 = .ok (.getfield 9, 3) := by decide +kernel
theorem d_Wk_copyFrom_28 : decode m_Wk_copyFrom.2.1 28 = .ok (.iload_n 2, 1) := by decide +kernel
theorem d_Wk_copyFrom_29 : decode m_Wk_copyFrom.2.1 29 = .ok (.aload_n 1, 1) := by decide +kernel
theorem d_Wk_copyFrom_30 : decode m_Wk_copyFrom.2.1 30 = .ok (.getfield 9, 3) := by decide +kernel
theorem d_Wk_copyFrom_33 : decode m_Wk_copyFrom.2.1 33 = .ok (.iload_n 2, 1) := by decide +kernel
theorem d_Wk_copyFrom_34 : decode m_Wk_copyFrom.2.1 34 = .ok (.iaload, 1) := by decide +kernel
theorem d_Wk_copyFrom_35 : decode m_Wk_copyFrom.2.1 35 = .ok (.iastore, 1) := by decide +kernel
theorem d_Wk_copyFrom_36 : decode m_Wk_copyFrom.2.1 36 = .ok (.aload_n 0, 1) := by decide +kernel
theorem d_Wk_copyFrom_37 : decode m_Wk_copyFrom.2.1 37 = .ok (.getfield 15, 3) := by decide +kernel
theorem d_Wk_copyFrom_40 : decode m_Wk_copyFrom.2.1 40 = .ok (.iload_n 2, 1) := by decide +kernel
theorem d_Wk_copyFrom_41 : decode m_Wk_copyFrom.2.1 41 = .ok (.aload_n 1, 1) := by decide +kernel
theorem d_Wk_copyFrom_42 : decode m_Wk_copyFrom.2.1 42 = .ok (.getfield 15, 3) := by decide +kernel
theorem d_Wk_copyFrom_45 : decode m_Wk_copyFrom.2.1 45 = .ok (.iload_n 2, 1) := by decide +kernel
theorem d_Wk_copyFrom_46 : decode m_Wk_copyFrom.2.1 46 = .ok (.baload, 1) := by decide +kernel
theorem d_Wk_copyFrom_47 : decode m_Wk_copyFrom.2.1 47 = .ok (.bastore, 1) := by decide +kernel
theorem d_Wk_copyFrom_48 : decode m_Wk_copyFrom.2.1 48 = .ok (.aload_n 0, 1) := by decide +kernel
theorem d_Wk_copyFrom_49 : decode m_Wk_copyFrom.2.1 49 = .ok (.getfield 19, 3) := by decide +kernel
theorem d_Wk_copyFrom_52 : decode m_Wk_copyFrom.2.1 52 = .ok (.iload_n 2, 1) := by decide +kernel
theorem d_Wk_copyFrom_53 : decode m_Wk_copyFrom.2.1 53 = .ok (.aload_n 1, 1) := by decide +kernel
theorem d_Wk_copyFrom_54 : decode m_Wk_copyFrom.2.1 54 = .ok (.getfield 19, 3) := by decide +kernel
theorem d_Wk_copyFrom_57 : decode m_Wk_copyFrom.2.1 57 = .ok (.iload_n 2, 1) := by decide +kernel
theorem d_Wk_copyFrom_58 : decode m_Wk_copyFrom.2.1 58 = .ok (.iaload, 1) := by decide +kernel
theorem d_Wk_copyFrom_59 : decode m_Wk_copyFrom.2.1 59 = .ok (.iastore, 1) := by decide +kernel
theorem d_Wk_copyFrom_60 : decode m_Wk_copyFrom.2.1 60 = .ok (.aload_n 0, 1) := by decide +kernel
theorem d_Wk_copyFrom_61 : decode m_Wk_copyFrom.2.1 61 = .ok (.getfield 22, 3) := by decide +kernel
theorem d_Wk_copyFrom_64 : decode m_Wk_copyFrom.2.1 64 = .ok (.iload_n 2, 1) := by decide +kernel
theorem d_Wk_copyFrom_65 : decode m_Wk_copyFrom.2.1 65 = .ok (.aload_n 1, 1) := by decide +kernel
theorem d_Wk_copyFrom_66 : decode m_Wk_copyFrom.2.1 66 = .ok (.getfield 22, 3) := by decide +kernel
theorem d_Wk_copyFrom_69 : decode m_Wk_copyFrom.2.1 69 = .ok (.iload_n 2, 1) := by decide +kernel
theorem d_Wk_copyFrom_70 : decode m_Wk_copyFrom.2.1 70 = .ok (.iaload, 1) := by decide +kernel
theorem d_Wk_copyFrom_71 : decode m_Wk_copyFrom.2.1 71 = .ok (.iastore, 1) := by decide +kernel
theorem d_Wk_copyFrom_72 : decode m_Wk_copyFrom.2.1 72 = .ok (.aload_n 0, 1) := by decide +kernel
theorem d_Wk_copyFrom_73 : decode m_Wk_copyFrom.2.1 73 = .ok (.getfield 25, 3) := by decide +kernel
theorem d_Wk_copyFrom_76 : decode m_Wk_copyFrom.2.1 76 = .ok (.iload_n 2, 1) := by decide +kernel
theorem d_Wk_copyFrom_77 : decode m_Wk_copyFrom.2.1 77 = .ok (.aload_n 1, 1) := by decide +kernel
theorem d_Wk_copyFrom_78 : decode m_Wk_copyFrom.2.1 78 = .ok (.getfield 25, 3) := by decide +kernel
theorem d_Wk_copyFrom_81 : decode m_Wk_copyFrom.2.1 81 = .ok (.iload_n 2, 1) := by decide +kernel
theorem d_Wk_copyFrom_82 : decode m_Wk_copyFrom.2.1 82 = .ok (.iaload, 1) := by decide +kernel
theorem d_Wk_copyFrom_83 : decode m_Wk_copyFrom.2.1 83 = .ok (.iastore, 1) := by decide +kernel
theorem d_Wk_copyFrom_84 : decode m_Wk_copyFrom.2.1 84 = .ok (.iinc 2 1, 3) := by decide +kernel
theorem d_Wk_copyFrom_87 : decode m_Wk_copyFrom.2.1 87 = .ok (.goto (-69), 3) := by decide +kernel
theorem d_Wk_copyFrom_90 : decode m_Wk_copyFrom.2.1 90 = .ok (.return_, 1) := by decide +kernel
theorem g_Wk_copyFrom_0 {X : XS} (a0 : List Nat) (a1 : List Nat) (h : Hp) (Q : Option AV → Hp → Prop) (w_a0 : IsWk a0) (w_a1 : IsWk a1) (k : Rn X m_Wk_copyFrom 18 [some (vR a0), some (vR a1), some (vI 0)] [] (hsI (hsI h a0 1 (h.1 a1 1)) a0 2 ((hsI h a0 1 (h.1 a1 1)).1 a1 2)) Q) : Rn X m_Wk_copyFrom 0 [some (vR a0), some (vR a1), none] [] h Q := by
  refine Rn.aload_n (n := 1) (i := 0) d_Wk_copyFrom_0 rfl rfl rfl ?_
  refine Rn.aload_n (n := 2) (i := 1) d_Wk_copyFrom_1 rfl rfl rfl ?_
  refine Rn.getf (n := 5) (v := vI (h.1 a1 1)) d_Wk_copyFrom_2 rfl fl_Wk_34 w_a1.s rfl ?_
  refine Rn.putI (n := 8) d_Wk_copyFrom_5 rfl fl_Wk_34 pl_Wk_1 w_a0.s rfl ?_
  refine Rn.aload_n (n := 9) (i := 0) d_Wk_copyFrom_8 rfl rfl rfl ?_
  refine Rn.aload_n (n := 10) (i := 1) d_Wk_copyFrom_9 rfl rfl rfl ?_
  refine Rn.getf (n := 13) (v := vI ((hsI h a0 1 (h.1 a1 1)).1 a1 2)) d_Wk_copyFrom_10 rfl fl_Wk_38 w_a1.s rfl ?_
  refine Rn.putI (n := 16) d_Wk_copyFrom_13 rfl fl_Wk_38 pl_Wk_2 w_a0.s rfl ?_
  refine Rn.iconst (n := 17) (v := 0) d_Wk_copyFrom_16 rfl (by decide) ?_
  refine Rn.istore_n (n := 18) (i := 2) (ls2 := [some (vR a0), some (vR a1), some (vI 0)]) d_Wk_copyFrom_17 rfl rfl (Nat.le_of_ble_eq_true rfl) rfl ?_
  exact k
theorem g_Wk_copyFrom_18 {X : XS} (a0 : List Nat) (a1 : List Nat) (a2 : Int32) (h : Hp) (Q : Option AV → Hp → Prop) (w_a0 : IsWk a0) (w_a1 : IsWk a1) (k : ((6 ≤ a2 → Q none h) ∧ (¬ 6 ≤ a2 → (vp_in a2 6 ∧ (vp_in a2 6 ∧ (vp_in a2 6 ∧ (vp_in a2 6 ∧ (vp_in a2 6 ∧ (vp_in a2 6 ∧ (vp_in a2 6 ∧ (vp_in a2 6 ∧ (vp_in a2 6 ∧ (vp_in a2 6 ∧ Rn X m_Wk_copyFrom 18 [some (vR a0), some (vR a1), some (vI (a2 + 1))] [] (hsI (hsI (hsI (hsI (hsI h (3 :: a0) a2.toNatClampNeg (h.1 (3 :: a1) a2.toNatClampNeg)) (4 :: a0) a2.toNatClampNeg (((hsI h (3 :: a0) a2.toNatClampNeg (h.1 (3 :: a1) a2.toNatClampNeg)).1 (4 :: a1) a2.toNatClampNeg) &&& 1)) (5 :: a0) a2.toNatClampNeg ((hsI (hsI h (3 :: a0) a2.toNatClampNeg (h.1 (3 :: a1) a2.toNatClampNeg)) (4 :: a0) a2.toNatClampNeg (((hsI h (3 :: a0) a2.toNatClampNeg (h.1 (3 :: a1) a2.toNatClampNeg)).1 (4 :: a1) a2.toNatClampNeg) &&& 1)).1 (5 :: a1) a2.toNatClampNeg)) (6 :: a0) a2.toNatClampNeg ((hsI (hsI (hsI h (3 :: a0) a2.toNatClampNeg (h.1 (3 :: a1) a2.toNatClampNeg)) (4 :: a0) a2.toNatClampNeg (((hsI h (3 :: a0) a2.toNatClampNeg (h.1 (3 :: a1) a2.toNatClampNeg)).1 (4 :: a1) a2.toNatClampNeg) &&& 1)) (5 :: a0) a2.toNatClampNeg ((hsI (hsI h (3 :: a0) a2.toNatClampNeg (h.1 (3 :: a1) a2.toNatClampNeg)) (4 :: a0) a2.toNatClampNeg (((hsI h (3 :: a0) a2.toNatClampNeg (h.1 (3 :: a1) a2.toNatClampNeg)).1 (4 :: a1) a2.toNatClampNeg) &&& 1)).1 (5 :: a1) a2.toNatClampNeg)).1 (6 :: a1) a2.toNatClampNeg)) (7 :: a0) a2.toNatClampNeg ((hsI (hsI (hsI (hsI h (3 :: a0) a2.toNatClampNeg (h.1 (3 :: a1) a2.toNatClampNeg)) (4 :: a0) a2.toNatClampNeg (((hsI h (3 :: a0) a2.toNatClampNeg (h.1 (3 :: a1) a2.toNatClampNeg)).1 (4 :: a1) a2.toNatClampNeg) &&& 1)) (5 :: a0) a2.toNatClampNeg ((hsI (hsI h (3 :: a0) a2.toNatClampNeg (h.1 (3 :: a1) a2.toNatClampNeg)) (4 :: a0) a2.toNatClampNeg (((hsI h (3 :: a0) a2.toNatClampNeg (h.1 (3 :: a1) a2.toNatClampNeg)).1 (4 :: a1) a2.toNatClampNeg) &&& 1)).1 (5 :: a1) a2.toNatClampNeg)) (6 :: a0) a2.toNatClampNeg ((hsI (hsI (hsI h (3 :: a0) a2.toNatClampNeg (h.1 (3 :: a1) a2.toNatClampNeg)) (4 :: a0) a2.toNatClampNeg (((hsI h (3 :: a0) a2.toNatClampNeg (h.1 (3 :: a1) a2.toNatClampNeg)).1 (4 :: a1) a2.toNatClampNeg) &&& 1)) (5 :: a0) a2.toNatClampNeg ((hsI (hsI h (3 :: a0) a2.toNatClampNeg (h.1 (3 :: a1) a2.toNatClampNeg)) (4 :: a0) a2.toNatClampNeg (((hsI h (3 :: a0) a2.toNatClampNeg (h.1 (3 :: a1) a2.toNatClampNeg)).1 (4 :: a1) a2.toNatClampNeg) &&& 1)).1 (5 :: a1) a2.toNatClampNeg)).1 (6 :: a1) a2.toNatClampNeg)).1 (7 :: a1) a2.toNatClampNeg)) Q))))))))))))) : Rn X m_Wk_copyFrom 18 [some (vR a0), some (vR a1), some (vI a2)] [] h Q := by
  refine Rn.iload_n (n := 19) (i := 2) d_Wk_copyFrom_18 rfl rfl rfl ?_
  refine Rn.bipush (n := 21) (v := 6) d_Wk_copyFrom_19 rfl (by decide) ?_
  refine Rn.icmp_ge (n := 24) (t := 90) d_Wk_copyFrom_21 rfl (by decide) (fun cc => ?_) (fun cc => ?_)
  · have k := k.1 cc
    exact Rn.vret d_Wk_copyFrom_90 rfl k
  · have k := k.2 cc
    refine Rn.aload_n (n := 25) (i := 0) d_Wk_copyFrom_24 rfl rfl rfl ?_
    refine Rn.getf (n := 28) (v := vR (3 :: a0)) d_Wk_copyFrom_25 rfl fl_Wk_9 w_a0.s rfl ?_
    refine Rn.iload_n (n := 29) (i := 2) d_Wk_copyFrom_28 rfl rfl rfl ?_
    refine Rn.aload_n (n := 30) (i := 1) d_Wk_copyFrom_29 rfl rfl rfl ?_
    refine Rn.getf (n := 33) (v := vR (3 :: a1)) d_Wk_copyFrom_30 rfl fl_Wk_9 w_a1.s rfl ?_
    refine Rn.iload_n (n := 34) (i := 2) d_Wk_copyFrom_33 rfl rfl rfl ?_
    obtain ⟨b1, k⟩ := k
    refine Rn.iald (n := 35) (v := h.1 (3 :: a1) a2.toNatClampNeg) d_Wk_copyFrom_34 rfl w_a1.c3 b1 rfl ?_
    obtain ⟨b2, k⟩ := k
    refine Rn.iast (n := 36) d_Wk_copyFrom_35 rfl w_a0.c3 b2 ?_
    refine Rn.aload_n (n := 37) (i := 0) d_Wk_copyFrom_36 rfl rfl rfl ?_
    refine Rn.getf (n := 40) (v := vR (4 :: a0)) d_Wk_copyFrom_37 rfl fl_Wk_15 w_a0.s rfl ?_
    refine Rn.iload_n (n := 41) (i := 2) d_Wk_copyFrom_40 rfl rfl rfl ?_
    refine Rn.aload_n (n := 42) (i := 1) d_Wk_copyFrom_41 rfl rfl rfl ?_
    refine Rn.getf (n := 45) (v := vR (4 :: a1)) d_Wk_copyFrom_42 rfl fl_Wk_15 w_a1.s rfl ?_
    refine Rn.iload_n (n := 46) (i := 2) d_Wk_copyFrom_45 rfl rfl rfl ?_
    obtain ⟨b3, k⟩ := k
    refine Rn.zald (n := 47) (v := (hsI h (3 :: a0) a2.toNatClampNeg (h.1 (3 :: a1) a2.toNatClampNeg)).1 (4 :: a1) a2.toNatClampNeg) d_Wk_copyFrom_46 rfl w_a1.c4 b3 rfl ?_
    obtain ⟨b4, k⟩ := k
    refine Rn.zast (n := 48) (y := ((hsI h (3 :: a0) a2.toNatClampNeg (h.1 (3 :: a1) a2.toNatClampNeg)).1 (4 :: a1) a2.toNatClampNeg) &&& 1) d_Wk_copyFrom_47 rfl w_a0.c4 b4 rfl ?_
    refine Rn.aload_n (n := 49) (i := 0) d_Wk_copyFrom_48 rfl rfl rfl ?_
    refine Rn.getf (n := 52) (v := vR (5 :: a0)) d_Wk_copyFrom_49 rfl fl_Wk_19 w_a0.s rfl ?_
    refine Rn.iload_n (n := 53) (i := 2) d_Wk_copyFrom_52 rfl rfl rfl ?_
    refine Rn.aload_n (n := 54) (i := 1) d_Wk_copyFrom_53 rfl rfl rfl ?_
    refine Rn.getf (n := 57) (v := vR (5 :: a1)) d_Wk_copyFrom_54 rfl fl_Wk_19 w_a1.s rfl ?_
    refine Rn.iload_n (n := 58) (i := 2) d_Wk_copyFrom_57 rfl rfl rfl ?_
    obtain ⟨b5, k⟩ := k
    refine Rn.iald (n := 59) (v := (hsI (hsI h (3 :: a0) a2.toNatClampNeg (h.1 (3 :: a1) a2.toNatClampNeg)) (4 :: a0) a2.toNatClampNeg (((hsI h (3 :: a0) a2.toNatClampNeg (h.1 (3 :: a1) a2.toNatClampNeg)).1 (4 :: a1) a2.toNatClampNeg) &&& 1)).1 (5 :: a1) a2.toNatClampNeg) d_Wk_copyFrom_58 rfl w_a1.c5 b5 rfl ?_
    obtain ⟨b6, k⟩ := k
    refine Rn.iast (n := 60) d_Wk_copyFrom_59 rfl w_a0.c5 b6 ?_
    refine Rn.aload_n (n := 61) (i := 0) d_Wk_copyFrom_60 rfl rfl rfl ?_
    refine Rn.getf (n := 64) (v := vR (6 :: a0)) d_Wk_copyFrom_61 rfl fl_Wk_22 w_a0.s rfl ?_
    refine Rn.iload_n (n := 65) (i := 2) d_Wk_copyFrom_64 rfl rfl rfl ?_
    refine Rn.aload_n (n := 66) (i := 1) d_Wk_copyFrom_65 rfl rfl rfl ?_
    refine Rn.getf (n := 69) (v := vR (6 :: a1)) d_Wk_copyFrom_66 rfl fl_Wk_22 w_a1.s rfl ?_
    refine Rn.iload_n (n := 70) (i := 2) d_Wk_copyFrom_69 rfl rfl rfl ?_
    obtain ⟨b7, k⟩ := k
    refine Rn.iald (n := 71) (v := (hsI (hsI (hsI h (3 :: a0) a2.toNatClampNeg (h.1 (3 :: a1) a2.toNatClampNeg)) (4 :: a0) a2.toNatClampNeg (((hsI h (3 :: a0) a2.toNatClampNeg (h.1 (3 :: a1) a2.toNatClampNeg)).1 (4 :: a1) a2.toNatClampNeg) &&& 1)) (5 :: a0) a2.toNatClampNeg ((hsI (hsI h (3 :: a0) a2.toNatClampNeg (h.1 (3 :: a1) a2.toNatClampNeg)) (4 :: a0) a2.toNatClampNeg (((hsI h (3 :: a0) a2.toNatClampNeg (h.1 (3 :: a1) a2.toNatClampNeg)).1 (4 :: a1) a2.toNatClampNeg) &&& 1)).1 (5 :: a1) a2.toNatClampNeg)).1 (6 :: a1) a2.toNatClampNeg) d_Wk_copyFrom_70 rfl w_a1.c6 b7 rfl ?_
    obtain ⟨b8, k⟩ := k
    refine Rn.iast (n := 72) d_Wk_copyFrom_71 rfl w_a0.c6 b8 ?_
    refine Rn.aload_n (n := 73) (i := 0) d_Wk_copyFrom_72 rfl rfl rfl ?_
    refine Rn.getf (n := 76) (v := vR (7 :: a0)) d_Wk_copyFrom_73 rfl fl_Wk_25 w_a0.s rfl ?_
    refine Rn.iload_n (n := 77) (i := 2) d_Wk_copyFrom_76 rfl rfl rfl ?_
    refine Rn.aload_n (n := 78) (i := 1) d_Wk_copyFrom_77 rfl rfl rfl ?_
    refine Rn.getf (n := 81) (v := vR (7 :: a1)) d_Wk_copyFrom_78 rfl fl_Wk_25 w_a1.s rfl ?_
    refine Rn.iload_n (n := 82) (i := 2) d_Wk_copyFrom_81 rfl rfl rfl ?_
    obtain ⟨b9, k⟩ := k
    refine Rn.iald (n := 83) (v := (hsI (hsI (hsI (hsI h (3 :: a0) a2.toNatClampNeg (h.1 (3 :: a1) a2.toNatClampNeg)) (4 :: a0) a2.toNatClampNeg (((hsI h (3 :: a0) a2.toNatClampNeg (h.1 (3 :: a1) a2.toNatClampNeg)).1 (4 :: a1) a2.toNatClampNeg) &&& 1)) (5 :: a0) a2.toNatClampNeg ((hsI (hsI h (3 :: a0) a2.toNatClampNeg (h.1 (3 :: a1) a2.toNatClampNeg)) (4 :: a0) a2.toNatClampNeg (((hsI h (3 :: a0) a2.toNatClampNeg (h.1 (3 :: a1) a2.toNatClampNeg)).1 (4 :: a1) a2.toNatClampNeg) &&& 1)).1 (5 :: a1) a2.toNatClampNeg)) (6 :: a0) a2.toNatClampNeg ((hsI (hsI (hsI h (3 :: a0) a2.toNatClampNeg (h.1 (3 :: a1) a2.toNatClampNeg)) (4 :: a0) a2.toNatClampNeg (((hsI h (3 :: a0) a2.toNatClampNeg (h.1 (3 :: a1) a2.toNatClampNeg)).1 (4 :: a1) a2.toNatClampNeg) &&& 1)) (5 :: a0) a2.toNatClampNeg ((hsI (hsI h (3 :: a0) a2.toNatClampNeg (h.1 (3 :: a1) a2.toNatClampNeg)) (4 :: a0) a2.toNatClampNeg (((hsI h (3 :: a0) a2.toNatClampNeg (h.1 (3 :: a1) a2.toNatClampNeg)).1 (4 :: a1) a2.toNatClampNeg) &&& 1)).1 (5 :: a1) a2.toNatClampNeg)).1 (6 :: a1) a2.toNatClampNeg)).1 (7 :: a1) a2.toNatClampNeg) d_Wk_copyFrom_82 rfl w_a1.c7 b9 rfl ?_
    obtain ⟨b10, k⟩ := k
    refine Rn.iast (n := 84) d_Wk_copyFrom_83 rfl w_a0.c7 b10 ?_
    refine Rn.iinc (n := 87) (i := 2) (v := a2 + 1) (ls2 := [some (vR a0), some (vR a1), some (vI (a2 + 1))]) d_Wk_copyFrom_84 rfl rfl rfl (Nat.le_of_ble_eq_true rfl) rfl ?_
    refine Rn.goto (n := 18) d_Wk_copyFrom_87 (by decide) ?_
    exact k
theorem e_Wk_copyFrom {X : XS} (a0 : List Nat) (a1 : List Nat) (h : Hp) (Q : Option AV → Hp → Prop) (k : Rn X m_Wk_copyFrom 0 [some (vR a0), some (vR a1), none] [] h Q) : Ev X m_Wk_copyFrom [vR a0, vR a1] h Q := Ev.intro (by decide +kernel) (Nat.le_of_ble_eq_true rfl) (ls := [some (vR a0), some (vR a1), none]) rfl k
theorem d_Wk_whoIsAt_0 : decode m_Wk_whoIsAt.2.1 0 = .ok (.iconst 0, 1) := by decide +kernel
theorem d_Wk_whoIsAt_1 : decode m_Wk_whoIsAt.2.1 1 = .ok (.istore_n 2, 1) := by decide +kernel
theorem d_Wk_whoIsAt_2 : decode m_Wk_whoIsAt.2.1 2 = .ok (.iload_n 2, 1) := by decide +kernel
theorem d_Wk_whoIsAt_3 : decode m_Wk_whoIsAt.2.1 3 = .ok (.bipush 6, 2) := by decide +kernel
theorem d_Wk_whoIsAt_5 : decode m_Wk_whoIsAt.2.1 5 = .ok (.if_icmp .ge 26, 3) := by decide +kernel
theorem d_Wk_whoIsAt_8 : decode m_Wk_whoIsAt.2.1 8 = .ok (.aload_n 0, 1) := by decide +kernel
theorem d_Wk_whoIsAt_9 : decode m_Wk_whoIsAt.2.1 9 = .ok (.getfield 9, 3) := by decide +kernel
theorem d_Wk_whoIsAt_12 : decode m_Wk_whoIsAt.2.1 12 = .ok (.iload_n 2, 1) := by decide +kernel
theorem d_Wk_whoIsAt_13 : decode m_Wk_whoIsAt.2.1 13 = .ok (.iaload, 1) := by decide +kernel
theorem d_Wk_whoIsAt_14 : decode m_Wk_whoIsAt.2.1 14 = .ok (.iload_n 1, 1) := by decide +kernel
theorem d_Wk_whoIsAt_15 : decode m_Wk_whoIsAt.2.1 15 = .ok (.if_icmp .ne 10, 3) := by decide +kernel
theorem d_Wk_whoIsAt_18 : decode m_Wk_whoIsAt.2.1 18 = .ok (.iload_n 1, 1) := by decide +kernel
theorem d_Wk_whoIsAt_19 : decode m_Wk_whoIsAt.2.1 19 = .ok (.iconst (-1), 1) := by decide +kernel
theorem d_Wk_whoIsAt_20 : decode m_Wk_whoIsAt.2.1 20 = .ok (.if_icmp .eq 5, 3) := by decide +kernel
theorem d_Wk_whoIsAt_23 : decode m_Wk_whoIsAt.2.1 23 = .ok (.iload_n 2, 1) := by decide +kernel
theorem d_Wk_whoIsAt_24 : decode m_Wk_whoIsAt.2.1 24 = .ok (.ireturn, 1) := by decide +kernel
theorem d_Wk_whoIsAt_25 : decode m_Wk_whoIsAt.2.1 25 = .ok (.iinc 2 1, 3) := by decide +kernel
theorem d_Wk_whoIsAt_28 : decode m_Wk_whoIsAt.2.1 28 = .ok (.goto (-26), 3) := by decide +kernel
theorem d_Wk_whoIsAt_31 : decode m_Wk_whoIsAt.2.1 31 = .ok (.iconst (-1), 1) := by decide +kernel
theorem d_Wk_whoIsAt_32 : decode m_Wk_whoIsAt.2.1 32 = .ok (.ireturn, 1) := by decide +kernel
theorem g_Wk_whoIsAt_0 {X : XS} (a0 : List Nat) (a1 : Int32) (h : Hp) (Q : Option AV → Hp → Prop) (w_a0 : IsWk a0) (k : Rn X m_Wk_whoIsAt 2 [some (vR a0), some (vI a1), some (vI 0)] [] h Q) : Rn X m_Wk_whoIsAt 0 [some (vR a0), some (vI a1), none] [] h Q := by
  refine Rn.iconst (n := 1) (v := 0) d_Wk_whoIsAt_0 rfl (by decide) ?_
  refine Rn.istore_n (n := 2) (i := 2) (ls2 := [some (vR a0), some (vI a1), some (vI 0)]) d_Wk_whoIsAt_1 rfl rfl (Nat.le_of_ble_eq_true rfl) rfl ?_
  exact k
theorem g_Wk_whoIsAt_2 {X : XS} (a0 : List Nat) (a1 : Int32) (a2 : Int32) (h : Hp) (Q : Option AV → Hp → Prop) (w_a0 : IsWk a0) (k : ((6 ≤ a2 → Q (some (vI (-1))) h) ∧ (¬ 6 ≤ a2 → (vp_in a2 6 ∧ ((¬ (h.1 (3 :: a0) a2.toNatClampNeg) = a1 → Rn X m_Wk_whoIsAt 2 [some (vR a0), some (vI a1), some (vI (a2 + 1))] [] h Q) ∧ ((h.1 (3 :: a0) a2.toNatClampNeg) = a1 → ((a1 = (-1) → Rn X m_Wk_whoIsAt 2 [some (vR a0), some (vI a1), some (vI (a2 + 1))] [] h Q) ∧ (¬ a1 = (-1) → Q (some (vI a2)) h)))))))) : Rn X m_Wk_whoIsAt 2 [some (vR a0), some (vI a1), some (vI a2)] [] h Q := by
  refine Rn.iload_n (n := 3) (i := 2) d_Wk_whoIsAt_2 rfl rfl rfl ?_
  refine Rn.bipush (n := 5) (v := 6) d_Wk_whoIsAt_3 rfl (by decide) ?_
  refine Rn.icmp_ge (n := 8) (t := 31) d_Wk_whoIsAt_5 rfl (by decide) (fun cc => ?_) (fun cc => ?_)
  · have k := k.1 cc
    refine Rn.iconst (n := 32) (v := (-1)) d_Wk_whoIsAt_31 rfl (by decide) ?_
    exact Rn.iret d_Wk_whoIsAt_32 rfl rfl k
  · have k := k.2 cc
    refine Rn.aload_n (n := 9) (i := 0) d_Wk_whoIsAt_8 rfl rfl rfl ?_
    refine Rn.getf (n := 12) (v := vR (3 :: a0)) d_Wk_whoIsAt_9 rfl fl_Wk_9 w_a0.s rfl ?_
    refine Rn.iload_n (n := 13) (i := 2) d_Wk_whoIsAt_12 rfl rfl rfl ?_
    obtain ⟨b1, k⟩ := k
    refine Rn.iald (n := 14) (v := h.1 (3 :: a0) a2.toNatClampNeg) d_Wk_whoIsAt_13 rfl w_a0.c3 b1 rfl ?_
    refine Rn.iload_n (n := 15) (i := 1) d_Wk_whoIsAt_14 rfl rfl rfl ?_
    refine Rn.icmp_ne (n := 18) (t := 25) d_Wk_whoIsAt_15 rfl (by decide) (fun cc => ?_) (fun cc => ?_)
    · have k := k.1 cc
      refine Rn.iinc (n := 28) (i := 2) (v := a2 + 1) (ls2 := [some (vR a0), some (vI a1), some (vI (a2 + 1))]) d_Wk_whoIsAt_25 rfl rfl rfl (Nat.le_of_ble_eq_true rfl) rfl ?_
      refine Rn.goto (n := 2) d_Wk_whoIsAt_28 (by decide) ?_
      exact k
    · have k := k.2 cc
      refine Rn.iload_n (n := 19) (i := 1) d_Wk_whoIsAt_18 rfl rfl rfl ?_
      refine Rn.iconst (n := 20) (v := (-1)) d_Wk_whoIsAt_19 rfl (by decide) ?_
      refine Rn.icmp_eq (n := 23) (t := 25) d_Wk_whoIsAt_20 rfl (by decide) (fun cc => ?_) (fun cc => ?_)
      · have k := k.1 cc
        refine Rn.iinc (n := 28) (i := 2) (v := a2 + 1) (ls2 := [some (vR a0), some (vI a1), some (vI (a2 + 1))]) d_Wk_whoIsAt_25 rfl rfl rfl (Nat.le_of_ble_eq_true rfl) rfl ?_
        refine Rn.goto (n := 2) d_Wk_whoIsAt_28 (by decide) ?_
        exact k
      · have k := k.2 cc
        refine Rn.iload_n (n := 24) (i := 2) d_Wk_whoIsAt_23 rfl rfl rfl ?_
        exact Rn.iret d_Wk_whoIsAt_24 rfl rfl k
theorem e_Wk_whoIsAt {X : XS} (a0 : List Nat) (a1 : Int32) (h : Hp) (Q : Option AV → Hp → Prop) (k : Rn X m_Wk_whoIsAt 0 [some (vR a0), some (vI a1), none] [] h Q) : Ev X m_Wk_whoIsAt [vR a0, vI a1] h Q := Ev.intro (by decide +kernel) (Nat.le_of_ble_eq_true rfl) (ls := [some (vR a0), some (vI a1), none]) rfl k
theorem d_Wk_onStreet_0 : decode m_Wk_onStreet.2.1 0 = .ok (.iconst 0, 1) := by decide +kernel
theorem d_Wk_onStreet_1 : decode m_Wk_onStreet.2.1 1 = .ok (.istore_n 1, 1) := by decide +kernel
theorem d_Wk_onStreet_2 : decode m_Wk_onStreet.2.1 2 = .ok (.iconst 0, 1) := by decide +kernel
theorem d_Wk_onStreet_3 : decode m_Wk_onStreet.2.1 3 = .ok (.istore_n 2, 1) := by decide +kernel
theorem d_Wk_onStreet_4 : decode m_Wk_onStreet.2.1 4 = .ok (.iload_n 2, 1) := by decide +kernel
theorem d_Wk_onStreet_5 : decode m_Wk_onStreet.2.1 5 = .ok (.bipush 6, 2) := by decide +kernel
theorem d_Wk_onStreet_7 : decode m_Wk_onStreet.2.1 7 = .ok (.if_icmp .ge 25, 3) := by decide +kernel
theorem d_Wk_onStreet_10 : decode m_Wk_onStreet.2.1 10 = .ok (.iload_n 1, 1) := by decide +kernel
theorem d_Wk_onStreet_11 : decode m_Wk_onStreet.2.1 11 = .ok (.aload_n 0, 1) := by decide +kernel
theorem d_Wk_onStreet_12 : decode m_Wk_onStreet.2.1 12 = .ok (.iload_n 2, 1) := by decide +kernel
theorem d_Wk_onStreet_13 : decode m_Wk_onStreet.2.1 13 = .ok (.invokevirtual 41, 3) := by decide +kernel
theorem d_Wk_onStreet_16 : decode m_Wk_onStreet.2.1 16 = .ok (.ifCond .eq 7, 3) := by decide +kernel
theorem d_Wk_onStreet_19 : decode m_Wk_onStreet.2.1 19 = .ok (.iconst 1, 1) := by decide +kernel
theorem d_Wk_onStreet_20 : decode m_Wk_onStreet.2.1 20 = .ok (.goto 4, 3) := by decide +kernel
theorem d_Wk_onStreet_23 : decode m_Wk_onStreet.2.1 23 = .ok (.iconst 0, 1) := by decide +kernel
theorem d_Wk_onStreet_24 : decode m_Wk_onStreet.2.1 24 = .ok (.iadd, 1) := by decide +kernel
theorem d_Wk_onStreet_25 : decode m_Wk_onStreet.2.1 25 = .ok (.istore_n 1, 1) := by decide +kernel
theorem d_Wk_onStreet_26 : decode m_Wk_onStreet.2.1 26 = .ok (.iinc 2 1, 3) := by decide +kernel
theorem d_Wk_onStreet_29 : decode m_Wk_onStreet.2.1 29 = .ok (.goto (-25), 3) := by decide +kernel
theorem d_Wk_onStreet_32 : decode m_Wk_onStreet.2.1 32 = .ok (.iload_n 1, 1) := by decide +kernel
theorem d_Wk_onStreet_33 : decode m_Wk_onStreet.2.1 33 = .ok (.ireturn, 1) := by decide +kernel
theorem g_Wk_onStreet_0 {X : XS} (a0 : List Nat) (h : Hp) (Q : Option AV → Hp → Prop) (w_a0 : IsWk a0) (k : Rn X m_Wk_onStreet 4 [some (vR a0), some (vI 0), some (vI 0)] [] h Q) : Rn X m_Wk_onStreet 0 [some (vR a0), none, none] [] h Q := by
  refine Rn.iconst (n := 1) (v := 0) d_Wk_onStreet_0 rfl (by decide) ?_
  refine Rn.istore_n (n := 2) (i := 1) (ls2 := [some (vR a0), some (vI 0), none]) d_Wk_onStreet_1 rfl rfl (Nat.le_of_ble_eq_true rfl) rfl ?_
  refine Rn.iconst (n := 3) (v := 0) d_Wk_onStreet_2 rfl (by decide) ?_
  refine Rn.istore_n (n := 4) (i := 2) (ls2 := [some (vR a0), some (vI 0), some (vI 0)]) d_Wk_onStreet_3 rfl rfl (Nat.le_of_ble_eq_true rfl) rfl ?_
  exact k
theorem g_Wk_onStreet_4 {X : XS} (a0 : List Nat) (a1 : Int32) (a2 : Int32) (h : Hp) (Q : Option AV → Hp → Prop) (w_a0 : IsWk a0) (k : ((6 ≤ a2 → Q (some (vI a1)) h) ∧ (¬ 6 ≤ a2 → (∃ Q'4, EvI X m_Wk_isOn [vR a0, vI a2] h Q'4 ∧ ∀ (r5 : Int32) (h3 : Hp), Q'4 r5 h3 → ((r5 = 0 → Rn X m_Wk_onStreet 4 [some (vR a0), some (vI (a1 + 0)), some (vI (a2 + 1))] [] h3 Q) ∧ (¬ r5 = 0 → Rn X m_Wk_onStreet 4 [some (vR a0), some (vI (a1 + 1)), some (vI (a2 + 1))] [] h3 Q)))))) : Rn X m_Wk_onStreet 4 [some (vR a0), some (vI a1), some (vI a2)] [] h Q := by
  refine Rn.iload_n (n := 5) (i := 2) d_Wk_onStreet_4 rfl rfl rfl ?_
  refine Rn.bipush (n := 7) (v := 6) d_Wk_onStreet_5 rfl (by decide) ?_
  refine Rn.icmp_ge (n := 10) (t := 32) d_Wk_onStreet_7 rfl (by decide) (fun cc => ?_) (fun cc => ?_)
  · have k := k.1 cc
    refine Rn.iload_n (n := 33) (i := 1) d_Wk_onStreet_32 rfl rfl rfl ?_
    exact Rn.iret d_Wk_onStreet_33 rfl rfl k
  · have k := k.2 cc
    refine Rn.iload_n (n := 11) (i := 1) d_Wk_onStreet_10 rfl rfl rfl ?_
    refine Rn.aload_n (n := 12) (i := 0) d_Wk_onStreet_11 rfl rfl rfl ?_
    refine Rn.iload_n (n := 13) (i := 2) d_Wk_onStreet_12 rfl rfl rfl ?_
    obtain ⟨Q'4, ev1, k⟩ := k
    refine Rn.callV (n := 16) (av := [vI a2]) d_Wk_onStreet_13 rfl ml_Wk_onStreet_41 mi_Wk_isOn w_a0.s rfl rfl rfl rfl (Nat.le_of_ble_eq_true rfl) ev1 (fun v h3 hq => ?_)
    obtain ⟨r5, rfl, hq⟩ := hq
    have k := k r5 h3 hq
    show Rn X m_Wk_onStreet 16 [some (vR a0), some (vI a1), some (vI a2)] [vI r5, vI a1] h3 Q
    refine Rn.if_eq (n := 19) (t := 23) d_Wk_onStreet_16 rfl (by decide) (fun cc => ?_) (fun cc => ?_)
    · have k := k.1 cc
      refine Rn.iconst (n := 24) (v := 0) d_Wk_onStreet_23 rfl (by decide) ?_
      refine Rn.iadd (n := 25) d_Wk_onStreet_24 rfl ?_
      refine Rn.istore_n (n := 26) (i := 1) (ls2 := [some (vR a0), some (vI (a1 + 0)), some (vI a2)]) d_Wk_onStreet_25 rfl rfl (Nat.le_of_ble_eq_true rfl) rfl ?_
      refine Rn.iinc (n := 29) (i := 2) (v := a2 + 1) (ls2 := [some (vR a0), some (vI (a1 + 0)), some (vI (a2 + 1))]) d_Wk_onStreet_26 rfl rfl rfl (Nat.le_of_ble_eq_true rfl) rfl ?_
      refine Rn.goto (n := 4) d_Wk_onStreet_29 (by decide) ?_
      exact k
    · have k := k.2 cc
      refine Rn.iconst (n := 20) (v := 1) d_Wk_onStreet_19 rfl (by decide) ?_
      refine Rn.goto (n := 24) d_Wk_onStreet_20 (by decide) ?_
      refine Rn.iadd (n := 25) d_Wk_onStreet_24 rfl ?_
      refine Rn.istore_n (n := 26) (i := 1) (ls2 := [some (vR a0), some (vI (a1 + 1)), some (vI a2)]) d_Wk_onStreet_25 rfl rfl (Nat.le_of_ble_eq_true rfl) rfl ?_
      refine Rn.iinc (n := 29) (i := 2) (v := a2 + 1) (ls2 := [some (vR a0), some (vI (a1 + 1)), some (vI (a2 + 1))]) d_Wk_onStreet_26 rfl rfl rfl (Nat.le_of_ble_eq_true rfl) rfl ?_
      refine Rn.goto (n := 4) d_Wk_onStreet_29 (by decide) ?_
      exact k
theorem e_Wk_onStreet {X : XS} (a0 : List Nat) (h : Hp) (Q : Option AV → Hp → Prop) (k : Rn X m_Wk_onStreet 0 [some (vR a0), none, none] [] h Q) : Ev X m_Wk_onStreet [vR a0] h Q := Ev.intro (by decide +kernel) (Nat.le_of_ble_eq_true rfl) (ls := [some (vR a0), none, none]) rfl k
theorem d_Wk_isOver_0 : decode m_Wk_isOver.2.1 0 = .ok (.iconst 0, 1) := by decide +kernel
theorem d_Wk_isOver_1 : decode m_Wk_isOver.2.1 1 = .ok (.istore_n 2, 1) := by decide +kernel
theorem d_Wk_isOver_2 : decode m_Wk_isOver.2.1 2 = .ok (.iload_n 2, 1) := by decide +kernel
theorem d_Wk_isOver_3 : decode m_Wk_isOver.2.1 3 = .ok (.bipush 6, 2) := by decide +kernel
theorem d_Wk_isOver_5 : decode m_Wk_isOver.2.1 5 = .ok (.if_icmp .ge 29, 3) := by decide +kernel
theorem d_Wk_isOver_8 : decode m_Wk_isOver.2.1 8 = .ok (.aload_n 1, 1) := by decide +kernel
theorem d_Wk_isOver_9 : decode m_Wk_isOver.2.1 9 = .ok (.getfield 45, 3) := by decide +kernel
theorem d_Wk_isOver_12 : decode m_Wk_isOver.2.1 12 = .ok (.iload_n 2, 1) := by decide +kernel
theorem d_Wk_isOver_13 : decode m_Wk_isOver.2.1 13 = .ok (.baload, 1) := by decide +kernel
theorem d_Wk_isOver_14 : decode m_Wk_isOver.2.1 14 = .ok (.ifCond .eq 14, 3) := by decide +kernel
theorem d_Wk_isOver_17 : decode m_Wk_isOver.2.1 17 = .ok (.aload_n 0, 1) := by decide +kernel
theorem d_Wk_isOver_18 : decode m_Wk_isOver.2.1 18 = .ok (.getfield 15, 3) := by decide +kernel
theorem d_Wk_isOver_21 : decode m_Wk_isOver.2.1 21 = .ok (.iload_n 2, 1) := by decide +kernel
theorem d_Wk_isOver_22 : decode m_Wk_isOver.2.1 22 = .ok (.baload, 1) := by decide +kernel
theorem d_Wk_isOver_23 : decode m_Wk_isOver.2.1 23 = .ok (.ifCond .ne 5, 3) := by decide +kernel
theorem d_Wk_isOver_26 : decode m_Wk_isOver.2.1 26 = .ok (.iconst 0, 1) := by decide +kernel
theorem d_Wk_isOver_27 : decode m_Wk_isOver.2.1 27 = .ok (.ireturn, 1) := by decide +kernel
theorem d_Wk_isOver_28 : decode m_Wk_isOver.2.1 28 = .ok (.iinc 2 1, 3) := by decide +kernel
theorem d_Wk_isOver_31 : decode m_Wk_isOver.2.1 31 = .ok (.goto (-29), 3) := by decide +kernel
theorem d_Wk_isOver_34 : decode m_Wk_isOver.2.1 34 = .ok (.iconst 1, 1) := by decide +kernel
theorem d_Wk_isOver_35 : decode m_Wk_isOver.2.1 35 = .ok (.ireturn, 1) := by decide +kernel
theorem g_Wk_isOver_0 {X : XS} (a0 : List Nat) (a1 : List Nat) (h : Hp) (Q : Option AV → Hp → Prop) (w_a0 : IsWk a0) (w_a1 : IsPl a1) (k : Rn X m_Wk_isOver 2 [some (vR a0), some (vR a1), some (vI 0)] [] h Q) : Rn X m_Wk_isOver 0 [some (vR a0), some (vR a1), none] [] h Q := by
  refine Rn.iconst (n := 1) (v := 0) d_Wk_isOver_0 rfl (by decide) ?_
  refine Rn.istore_n (n := 2) (i := 2) (ls2 := [some (vR a0), some (vR a1), some (vI 0)]) d_Wk_isOver_1 rfl rfl (Nat.le_of_ble_eq_true rfl) rfl ?_
  exact k
theorem g_Wk_isOver_2 {X : XS} (a0 : List Nat) (a1 : List Nat) (a2 : Int32) (h : Hp) (Q : Option AV → Hp → Prop) (w_a0 : IsWk a0) (w_a1 : IsPl a1) (k : ((6 ≤ a2 → Q (some (vI 1)) h) ∧ (¬ 6 ≤ a2 → (vp_in a2 6 ∧ (((h.1 (3 :: a1) a2.toNatClampNeg) = 0 → Rn X m_Wk_isOver 2 [some (vR a0), some (vR a1), some (vI (a2 + 1))] [] h Q) ∧ (¬ (h.1 (3 :: a1) a2.toNatClampNeg) = 0 → (vp_in a2 6 ∧ ((¬ (h.1 (4 :: a0) a2.toNatClampNeg) = 0 → Rn X m_Wk_isOver 2 [some (vR a0), some (vR a1), some (vI (a2 + 1))] [] h Q) ∧ ((h.1 (4 :: a0) a2.toNatClampNeg) = 0 → Q (some (vI 0)) h))))))))) : Rn X m_Wk_isOver 2 [some (vR a0), some (vR a1), some (vI a2)] [] h Q := by
  refine Rn.iload_n (n := 3) (i := 2) d_Wk_isOver_2 rfl rfl rfl ?_
  refine Rn.bipush (n := 5) (v := 6) d_Wk_isOver_3 rfl (by decide) ?_
  refine Rn.icmp_ge (n := 8) (t := 34) d_Wk_isOver_5 rfl (by decide) (fun cc => ?_) (fun cc => ?_)
  · have k := k.1 cc
    refine Rn.iconst (n := 35) (v := 1) d_Wk_isOver_34 rfl (by decide) ?_
    exact Rn.iret d_Wk_isOver_35 rfl rfl k
  · have k := k.2 cc
    refine Rn.aload_n (n := 9) (i := 1) d_Wk_isOver_8 rfl rfl rfl ?_
    refine Rn.getf (n := 12) (v := vR (3 :: a1)) d_Wk_isOver_9 rfl fl_Wk_45 w_a1.s rfl ?_
    refine Rn.iload_n (n := 13) (i := 2) d_Wk_isOver_12 rfl rfl rfl ?_
    obtain ⟨b1, k⟩ := k
    refine Rn.zald (n := 14) (v := h.1 (3 :: a1) a2.toNatClampNeg) d_Wk_isOver_13 rfl w_a1.c3 b1 rfl ?_
    refine Rn.if_eq (n := 17) (t := 28) d_Wk_isOver_14 rfl (by decide) (fun cc => ?_) (fun cc => ?_)
    · have k := k.1 cc
      refine Rn.iinc (n := 31) (i := 2) (v := a2 + 1) (ls2 := [some (vR a0), some (vR a1), some (vI (a2 + 1))]) d_Wk_isOver_28 rfl rfl rfl (Nat.le_of_ble_eq_true rfl) rfl ?_
      refine Rn.goto (n := 2) d_Wk_isOver_31 (by decide) ?_
      exact k
    · have k := k.2 cc
      refine Rn.aload_n (n := 18) (i := 0) d_Wk_isOver_17 rfl rfl rfl ?_
      refine Rn.getf (n := 21) (v := vR (4 :: a0)) d_Wk_isOver_18 rfl fl_Wk_15 w_a0.s rfl ?_
      refine Rn.iload_n (n := 22) (i := 2) d_Wk_isOver_21 rfl rfl rfl ?_
      obtain ⟨b2, k⟩ := k
      refine Rn.zald (n := 23) (v := h.1 (4 :: a0) a2.toNatClampNeg) d_Wk_isOver_22 rfl w_a0.c4 b2 rfl ?_
      refine Rn.if_ne (n := 26) (t := 28) d_Wk_isOver_23 rfl (by decide) (fun cc => ?_) (fun cc => ?_)
      · have k := k.1 cc
        refine Rn.iinc (n := 31) (i := 2) (v := a2 + 1) (ls2 := [some (vR a0), some (vR a1), some (vI (a2 + 1))]) d_Wk_isOver_28 rfl rfl rfl (Nat.le_of_ble_eq_true rfl) rfl ?_
        refine Rn.goto (n := 2) d_Wk_isOver_31 (by decide) ?_
        exact k
      · have k := k.2 cc
        refine Rn.iconst (n := 27) (v := 0) d_Wk_isOver_26 rfl (by decide) ?_
        exact Rn.iret d_Wk_isOver_27 rfl rfl k
theorem e_Wk_isOver {X : XS} (a0 : List Nat) (a1 : List Nat) (h : Hp) (Q : Option AV → Hp → Prop) (k : Rn X m_Wk_isOver 0 [some (vR a0), some (vR a1), none] [] h Q) : Ev X m_Wk_isOver [vR a0, vR a1] h Q := Ev.intro (by decide +kernel) (Nat.le_of_ble_eq_true rfl) (ls := [some (vR a0), some (vR a1), none]) rfl k
theorem d_Wk_tick_0 : decode m_Wk_tick.2.1 0 = .ok (.aload_n 0, 1) := by decide +kernel
theorem d_Wk_tick_1 : decode m_Wk_tick.2.1 1 = .ok (.getfield 34, 3) := by decide +kernel
theorem d_Wk_tick_4 : decode m_Wk_tick.2.1 4 = .ok (.bipush 60, 2) := by decide +kernel
theorem d_Wk_tick_6 : decode m_Wk_tick.2.1 6 = .ok (.if_icmp .lt 4, 3) := by decide +kernel
theorem d_Wk_tick_9 : decode m_Wk_tick.2.1 9 = .ok (.return_, 1) := by decide +kernel
theorem d_Wk_tick_10 : decode m_Wk_tick.2.1 10 = .ok (.iconst 0, 1) := by decide +kernel
theorem d_Wk_tick_11 : decode m_Wk_tick.2.1 11 = .ok (.istore_n 2, 1) := by decide +kernel
theorem d_Wk_tick_12 : decode m_Wk_tick.2.1 12 = .ok (.iload_n 2, 1) := by decide +kernel
theorem d_Wk_tick_13 : decode m_Wk_tick.2.1 13 = .ok (.bipush 6, 2) := by decide +kernel
theorem d_Wk_tick_15 : decode m_Wk_tick.2.1 15 = .ok (.if_icmp .ge 23, 3) := by decide +kernel
theorem d_Wk_tick_18 : decode m_Wk_tick.2.1 18 = .ok (.aload_n 0, 1) := by decide +kernel
theorem d_Wk_tick_19 : decode m_Wk_tick.2.1 19 = .ok (.iload_n 2, 1) := by decide +kernel
theorem d_Wk_tick_20 : decode m_Wk_tick.2.1 20 = .ok (.invokevirtual 41, 3) := by decide +kernel
theorem d_Wk_tick_23 : decode m_Wk_tick.2.1 23 = .ok (.ifCond .eq 9, 3) := by decide +kernel
theorem d_Wk_tick_26 : decode m_Wk_tick.2.1 26 = .ok (.aload_n 0, 1) := by decide +kernel
theorem d_Wk_tick_27 : decode m_Wk_tick.2.1 27 = .ok (.aload_n 1, 1) := by decide +kernel
theorem d_Wk_tick_28 : decode m_Wk_tick.2.1 28 = .ok (.iload_n 2, 1) := by decide +kernel
theorem d_Wk_tick_29 : decode m_Wk_tick.2.1 29 = .ok (.invokevirtual 50, 3) := by decide +kernel
theorem d_Wk_tick_32 : decode m_Wk_tick.2.1 32 = .ok (.iinc 2 1, 3) := by decide +kernel
theorem d_Wk_tick_35 : decode m_Wk_tick.2.1 35 = .ok (.goto (-23), 3) := by decide +kernel
theorem d_Wk_tick_38 : decode m_Wk_tick.2.1 38 = .ok (.iconst 0, 1) := by decide +kernel
theorem d_Wk_tick_39 : decode m_Wk_tick.2.1 39 = .ok (.istore_n 2, 1) := by decide +kernel
theorem d_Wk_tick_40 : decode m_Wk_tick.2.1 40 = .ok (.iload_n 2, 1) := by decide +kernel
theorem d_Wk_tick_41 : decode m_Wk_tick.2.1 41 = .ok (.bipush 6, 2) := by decide +kernel
theorem d_Wk_tick_43 : decode m_Wk_tick.2.1 43 = .ok (.if_icmp .ge 54, 3) := by decide +kernel
theorem d_Wk_tick_46 : decode m_Wk_tick.2.1 46 = .ok (.aload_n 1, 1) := by decide +kernel
theorem d_Wk_tick_47 : decode m_Wk_tick.2.1 47 = .ok (.getfield 45, 3) := by decide +kernel
theorem d_Wk_tick_50 : decode m_Wk_tick.2.1 50 = .ok (.iload_n 2, 1) := by decide +kernel
theorem d_Wk_tick_51 : decode m_Wk_tick.2.1 51 = .ok (.baload, 1) := by decide +kernel
theorem d_Wk_tick_52 : decode m_Wk_tick.2.1 52 = .ok (.ifCond .eq 39, 3) := by decide +kernel
theorem d_Wk_tick_55 : decode m_Wk_tick.2.1 55 = .ok (.aload_n 1, 1) := by decide +kernel
theorem d_Wk_tick_56 : decode m_Wk_tick.2.1 56 = .ok (.getfield 54, 3) := by decide +kernel
theorem d_Wk_tick_59 : decode m_Wk_tick.2.1 59 = .ok (.iload_n 2, 1) := by decide +kernel
theorem d_Wk_tick_60 : decode m_Wk_tick.2.1 60 = .ok (.iaload, 1) := by decide +kernel
theorem d_Wk_tick_61 : decode m_Wk_tick.2.1 61 = .ok (.aload_n 0, 1) := by decide +kernel
theorem d_Wk_tick_62 : decode m_Wk_tick.2.1 62 = .ok (.getfield 34, 3) := by decide +kernel
theorem d_Wk_tick_65 : decode m_Wk_tick.2.1 65 = .ok (.if_icmp .gt 26, 3) := by decide +kernel
theorem d_Wk_tick_68 : decode m_Wk_tick.2.1 68 = .ok (.aload_n 0, 1) := by decide +kernel
theorem d_Wk_tick_69 : decode m_Wk_tick.2.1 69 = .ok (.iload_n 2, 1) := by decide +kernel
theorem d_Wk_tick_70 : decode m_Wk_tick.2.1 70 = .ok (.invokevirtual 41, 3) := by decide +kernel
theorem d_Wk_tick_73 : decode m_Wk_tick.2.1 73 = .ok (.ifCond .ne 18, 3) := by decide +kernel
theorem d_Wk_tick_76 : decode m_Wk_tick.2.1 76 = .ok (.aload_n 0, 1) := by decide +kernel
theorem d_Wk_tick_77 : decode m_Wk_tick.2.1 77 = .ok (.getfield 15, 3) := by decide +kernel
theorem d_Wk_tick_80 : decode m_Wk_tick.2.1 80 = .ok (.iload_n 2, 1) := by decide +kernel
theorem d_Wk_tick_81 : decode m_Wk_tick.2.1 81 = .ok (.baload, 1) := by decide +kernel
theorem d_Wk_tick_82 : decode m_Wk_tick.2.1 82 = .ok (.ifCond .ne 9, 3) := by decide +kernel
theorem d_Wk_tick_85 : decode m_Wk_tick.2.1 85 = .ok (.aload_n 0, 1) := by decide +kernel
theorem d_Wk_tick_86 : decode m_Wk_tick.2.1 86 = .ok (.aload_n 1, 1) := by decide +kernel
theorem d_Wk_tick_87 : decode m_Wk_tick.2.1 87 = .ok (.iload_n 2, 1) := by decide +kernel
theorem d_Wk_tick_88 : decode m_Wk_tick.2.1 88 = .ok (.invokevirtual 57, 3) := by decide +kernel
theorem d_Wk_tick_91 : decode m_Wk_tick.2.1 91 = .ok (.iinc 2 1, 3) := by decide +kernel
theorem d_Wk_tick_94 : decode m_Wk_tick.2.1 94 = .ok (.goto (-54), 3) := by decide +kernel
theorem d_Wk_tick_97 : decode m_Wk_tick.2.1 97 = .ok (.aload_n 0, 1) := by decide +kernel
theorem d_Wk_tick_98 : decode m_Wk_tick.2.1 98 = .ok (.aload_n 1, 1) := by decide +kernel
theorem d_Wk_tick_99 : decode m_Wk_tick.2.1 99 = .ok (.invokevirtual 60, 3) := by decide +kernel
theorem d_Wk_tick_102 : decode m_Wk_tick.2.1 102 = .ok (.aload_n 0, 1) := by decide +kernel
theorem d_Wk_tick_103 : decode m_Wk_tick.2.1 103 = .ok (.aload_n 1, 1) := by decide +kernel
theorem d_Wk_tick_104 : decode m_Wk_tick.2.1 104 = .ok (.invokevirtual 64, 3) := by decide +kernel
theorem d_Wk_tick_107 : decode m_Wk_tick.2.1 107 = .ok (.aload_n 0, 1) := by decide +kernel
theorem d_Wk_tick_108 : decode m_Wk_tick.2.1 108 = .ok (.dup, 1) := by decide +kernel
theorem d_Wk_tick_109 : decode m_Wk_tick.2.1 109 = .ok (.getfield 34, 3) := by decide +kernel
theorem d_Wk_tick_112 : decode m_Wk_tick.2.1 112 = .ok (.iconst 1, 1) := by decide +kernel
theorem d_Wk_tick_113 : decode m_Wk_tick.2.1 113 = .ok (.iadd, 1) := by decide +kernel
theorem d_Wk_tick_114 : decode m_Wk_tick.2.1 114 = .ok (.putfield 34, 3) := by decide +kernel
theorem d_Wk_tick_117 : decode m_Wk_tick.2.1 117 = .ok (.return_, 1) := by decide +kernel
theorem g_Wk_tick_0 {X : XS} (a0 : List Nat) (a1 : List Nat) (h : Hp) (Q : Option AV → Hp → Prop) (w_a0 : IsWk a0) (w_a1 : IsPl a1) (k : (((h.1 a0 1) < 60 → Rn X m_Wk_tick 12 [some (vR a0), some (vR a1), some (vI 0)] [] h Q) ∧ (¬ (h.1 a0 1) < 60 → Q none h))) : Rn X m_Wk_tick 0 [some (vR a0), some (vR a1), none] [] h Q := by
  refine Rn.aload_n (n := 1) (i := 0) d_Wk_tick_0 rfl rfl rfl ?_
  refine Rn.getf (n := 4) (v := vI (h.1 a0 1)) d_Wk_tick_1 rfl fl_Wk_34 w_a0.s rfl ?_
  refine Rn.bipush (n := 6) (v := 60) d_Wk_tick_4 rfl (by decide) ?_
  refine Rn.icmp_lt (n := 9) (t := 10) d_Wk_tick_6 rfl (by decide) (fun cc => ?_) (fun cc => ?_)
  · have k := k.1 cc
    refine Rn.iconst (n := 11) (v := 0) d_Wk_tick_10 rfl (by decide) ?_
    refine Rn.istore_n (n := 12) (i := 2) (ls2 := [some (vR a0), some (vR a1), some (vI 0)]) d_Wk_tick_11 rfl rfl (Nat.le_of_ble_eq_true rfl) rfl ?_
    exact k
  · have k := k.2 cc
    exact Rn.vret d_Wk_tick_9 rfl k
theorem g_Wk_tick_12 {X : XS} (a0 : List Nat) (a1 : List Nat) (a2 : Int32) (h : Hp) (Q : Option AV → Hp → Prop) (w_a0 : IsWk a0) (w_a1 : IsPl a1) (k : ((6 ≤ a2 → Rn X m_Wk_tick 40 [some (vR a0), some (vR a1), some (vI 0)] [] h Q) ∧ (¬ 6 ≤ a2 → (∃ Q'4, EvI X m_Wk_isOn [vR a0, vI a2] h Q'4 ∧ ∀ (r5 : Int32) (h3 : Hp), Q'4 r5 h3 → ((r5 = 0 → Rn X m_Wk_tick 12 [some (vR a0), some (vR a1), some (vI (a2 + 1))] [] h3 Q) ∧ (¬ r5 = 0 → (∃ Q'9, EvV X m_Wk_move [vR a0, vR a1, vI a2] h3 Q'9 ∧ ∀ (h8 : Hp), Q'9 h8 → Rn X m_Wk_tick 12 [some (vR a0), some (vR a1), some (vI (a2 + 1))] [] h8 Q))))))) : Rn X m_Wk_tick 12 [some (vR a0), some (vR a1), some (vI a2)] [] h Q := by
  refine Rn.iload_n (n := 13) (i := 2) d_Wk_tick_12 rfl rfl rfl ?_
  refine Rn.bipush (n := 15) (v := 6) d_Wk_tick_13 rfl (by decide) ?_
  refine Rn.icmp_ge (n := 18) (t := 38) d_Wk_tick_15 rfl (by decide) (fun cc => ?_) (fun cc => ?_)
  · have k := k.1 cc
    refine Rn.iconst (n := 39) (v := 0) d_Wk_tick_38 rfl (by decide) ?_
    refine Rn.istore_n (n := 40) (i := 2) (ls2 := [some (vR a0), some (vR a1), some (vI 0)]) d_Wk_tick_39 rfl rfl (Nat.le_of_ble_eq_true rfl) rfl ?_
    exact k
  · have k := k.2 cc
    refine Rn.aload_n (n := 19) (i := 0) d_Wk_tick_18 rfl rfl rfl ?_
    refine Rn.iload_n (n := 20) (i := 2) d_Wk_tick_19 rfl rfl rfl ?_
    obtain ⟨Q'4, ev1, k⟩ := k
    refine Rn.callV (n := 23) (av := [vI a2]) d_Wk_tick_20 rfl ml_Wk_tick_41 mi_Wk_isOn w_a0.s rfl rfl rfl rfl (Nat.le_of_ble_eq_true rfl) ev1 (fun v h3 hq => ?_)
    obtain ⟨r5, rfl, hq⟩ := hq
    have k := k r5 h3 hq
    show Rn X m_Wk_tick 23 [some (vR a0), some (vR a1), some (vI a2)] [vI r5] h3 Q
    refine Rn.if_eq (n := 26) (t := 32) d_Wk_tick_23 rfl (by decide) (fun cc => ?_) (fun cc => ?_)
    · have k := k.1 cc
      refine Rn.iinc (n := 35) (i := 2) (v := a2 + 1) (ls2 := [some (vR a0), some (vR a1), some (vI (a2 + 1))]) d_Wk_tick_32 rfl rfl rfl (Nat.le_of_ble_eq_true rfl) rfl ?_
      refine Rn.goto (n := 12) d_Wk_tick_35 (by decide) ?_
      exact k
    · have k := k.2 cc
      refine Rn.aload_n (n := 27) (i := 0) d_Wk_tick_26 rfl rfl rfl ?_
      refine Rn.aload_n (n := 28) (i := 1) d_Wk_tick_27 rfl rfl rfl ?_
      refine Rn.iload_n (n := 29) (i := 2) d_Wk_tick_28 rfl rfl rfl ?_
      obtain ⟨Q'9, ev6, k⟩ := k
      refine Rn.callV (n := 32) (av := [vR a1, vI a2]) d_Wk_tick_29 rfl ml_Wk_tick_50 mi_Wk_move w_a0.s rfl rfl rfl rfl (Nat.le_of_ble_eq_true rfl) ev6 (fun v h8 hq => ?_)
      obtain ⟨rfl, hq⟩ := hq
      have k := k h8 hq
      show Rn X m_Wk_tick 32 [some (vR a0), some (vR a1), some (vI a2)] [] h8 Q
      refine Rn.iinc (n := 35) (i := 2) (v := a2 + 1) (ls2 := [some (vR a0), some (vR a1), some (vI (a2 + 1))]) d_Wk_tick_32 rfl rfl rfl (Nat.le_of_ble_eq_true rfl) rfl ?_
      refine Rn.goto (n := 12) d_Wk_tick_35 (by decide) ?_
      exact k
theorem g_Wk_tick_40 {X : XS} (a0 : List Nat) (a1 : List Nat) (a2 : Int32) (h : Hp) (Q : Option AV → Hp → Prop) (w_a0 : IsWk a0) (w_a1 : IsPl a1) (k : ((6 ≤ a2 → (∃ Q'4, EvV X m_Wk_poke [vR a0, vR a1] h Q'4 ∧ ∀ (h3 : Hp), Q'4 h3 → (∃ Q'8, EvV X m_Wk_rain [vR a0, vR a1] h3 Q'8 ∧ ∀ (h7 : Hp), Q'8 h7 → Q none (hsI h7 a0 1 ((h7.1 a0 1) + 1))))) ∧ (¬ 6 ≤ a2 → (vp_in a2 6 ∧ (((h.1 (3 :: a1) a2.toNatClampNeg) = 0 → Rn X m_Wk_tick 40 [some (vR a0), some (vR a1), some (vI (a2 + 1))] [] h Q) ∧ (¬ (h.1 (3 :: a1) a2.toNatClampNeg) = 0 → (vp_in a2 6 ∧ (((h.1 a0 1) < (h.1 (6 :: a1) a2.toNatClampNeg) → Rn X m_Wk_tick 40 [some (vR a0), some (vR a1), some (vI (a2 + 1))] [] h Q) ∧ (¬ (h.1 a0 1) < (h.1 (6 :: a1) a2.toNatClampNeg) → (∃ Q'14, EvI X m_Wk_isOn [vR a0, vI a2] h Q'14 ∧ ∀ (r15 : Int32) (h13 : Hp), Q'14 r15 h13 → ((¬ r15 = 0 → Rn X m_Wk_tick 40 [some (vR a0), some (vR a1), some (vI (a2 + 1))] [] h13 Q) ∧ (r15 = 0 → (vp_in a2 6 ∧ ((¬ (h13.1 (4 :: a0) a2.toNatClampNeg) = 0 → Rn X m_Wk_tick 40 [some (vR a0), some (vR a1), some (vI (a2 + 1))] [] h13 Q) ∧ ((h13.1 (4 :: a0) a2.toNatClampNeg) = 0 → (∃ Q'20, EvV X m_Wk_come [vR a0, vR a1, vI a2] h13 Q'20 ∧ ∀ (h19 : Hp), Q'20 h19 → Rn X m_Wk_tick 40 [some (vR a0), some (vR a1), some (vI (a2 + 1))] [] h19 Q)))))))))))))))) : Rn X m_Wk_tick 40 [some (vR a0), some (vR a1), some (vI a2)] [] h Q := by
  refine Rn.iload_n (n := 41) (i := 2) d_Wk_tick_40 rfl rfl rfl ?_
  refine Rn.bipush (n := 43) (v := 6) d_Wk_tick_41 rfl (by decide) ?_
  refine Rn.icmp_ge (n := 46) (t := 97) d_Wk_tick_43 rfl (by decide) (fun cc => ?_) (fun cc => ?_)
  · have k := k.1 cc
    refine Rn.aload_n (n := 98) (i := 0) d_Wk_tick_97 rfl rfl rfl ?_
    refine Rn.aload_n (n := 99) (i := 1) d_Wk_tick_98 rfl rfl rfl ?_
    obtain ⟨Q'4, ev1, k⟩ := k
    refine Rn.callV (n := 102) (av := [vR a1]) d_Wk_tick_99 rfl ml_Wk_tick_60 mi_Wk_poke w_a0.s rfl rfl rfl rfl (Nat.le_of_ble_eq_true rfl) ev1 (fun v h3 hq => ?_)
    obtain ⟨rfl, hq⟩ := hq
    have k := k h3 hq
    show Rn X m_Wk_tick 102 [some (vR a0), some (vR a1), some (vI a2)] [] h3 Q
    refine Rn.aload_n (n := 103) (i := 0) d_Wk_tick_102 rfl rfl rfl ?_
    refine Rn.aload_n (n := 104) (i := 1) d_Wk_tick_103 rfl rfl rfl ?_
    obtain ⟨Q'8, ev5, k⟩ := k
    refine Rn.callV (n := 107) (av := [vR a1]) d_Wk_tick_104 rfl ml_Wk_tick_64 mi_Wk_rain w_a0.s rfl rfl rfl rfl (Nat.le_of_ble_eq_true rfl) ev5 (fun v h7 hq => ?_)
    obtain ⟨rfl, hq⟩ := hq
    have k := k h7 hq
    show Rn X m_Wk_tick 107 [some (vR a0), some (vR a1), some (vI a2)] [] h7 Q
    refine Rn.aload_n (n := 108) (i := 0) d_Wk_tick_107 rfl rfl rfl ?_
    refine Rn.dup (n := 109) d_Wk_tick_108 rfl rfl ?_
    refine Rn.getf (n := 112) (v := vI (h7.1 a0 1)) d_Wk_tick_109 rfl fl_Wk_34 w_a0.s rfl ?_
    refine Rn.iconst (n := 113) (v := 1) d_Wk_tick_112 rfl (by decide) ?_
    refine Rn.iadd (n := 114) d_Wk_tick_113 rfl ?_
    refine Rn.putI (n := 117) d_Wk_tick_114 rfl fl_Wk_34 pl_Wk_1 w_a0.s rfl ?_
    exact Rn.vret d_Wk_tick_117 rfl k
  · have k := k.2 cc
    refine Rn.aload_n (n := 47) (i := 1) d_Wk_tick_46 rfl rfl rfl ?_
    refine Rn.getf (n := 50) (v := vR (3 :: a1)) d_Wk_tick_47 rfl fl_Wk_45 w_a1.s rfl ?_
    refine Rn.iload_n (n := 51) (i := 2) d_Wk_tick_50 rfl rfl rfl ?_
    obtain ⟨b9, k⟩ := k
    refine Rn.zald (n := 52) (v := h.1 (3 :: a1) a2.toNatClampNeg) d_Wk_tick_51 rfl w_a1.c3 b9 rfl ?_
    refine Rn.if_eq (n := 55) (t := 91) d_Wk_tick_52 rfl (by decide) (fun cc => ?_) (fun cc => ?_)
    · have k := k.1 cc
      refine Rn.iinc (n := 94) (i := 2) (v := a2 + 1) (ls2 := [some (vR a0), some (vR a1), some (vI (a2 + 1))]) d_Wk_tick_91 rfl rfl rfl (Nat.le_of_ble_eq_true rfl) rfl ?_
      refine Rn.goto (n := 40) d_Wk_tick_94 (by decide) ?_
      exact k
    · have k := k.2 cc
      refine Rn.aload_n (n := 56) (i := 1) d_Wk_tick_55 rfl rfl rfl ?_
      refine Rn.getf (n := 59) (v := vR (6 :: a1)) d_Wk_tick_56 rfl fl_Wk_54 w_a1.s rfl ?_
      refine Rn.iload_n (n := 60) (i := 2) d_Wk_tick_59 rfl rfl rfl ?_
      obtain ⟨b10, k⟩ := k
      refine Rn.iald (n := 61) (v := h.1 (6 :: a1) a2.toNatClampNeg) d_Wk_tick_60 rfl w_a1.c6 b10 rfl ?_
      refine Rn.aload_n (n := 62) (i := 0) d_Wk_tick_61 rfl rfl rfl ?_
      refine Rn.getf (n := 65) (v := vI (h.1 a0 1)) d_Wk_tick_62 rfl fl_Wk_34 w_a0.s rfl ?_
      refine Rn.icmp_gt (n := 68) (t := 91) d_Wk_tick_65 rfl (by decide) (fun cc => ?_) (fun cc => ?_)
      · have k := k.1 cc
        refine Rn.iinc (n := 94) (i := 2) (v := a2 + 1) (ls2 := [some (vR a0), some (vR a1), some (vI (a2 + 1))]) d_Wk_tick_91 rfl rfl rfl (Nat.le_of_ble_eq_true rfl) rfl ?_
        refine Rn.goto (n := 40) d_Wk_tick_94 (by decide) ?_
        exact k
      · have k := k.2 cc
        refine Rn.aload_n (n := 69) (i := 0) d_Wk_tick_68 rfl rfl rfl ?_
        refine Rn.iload_n (n := 70) (i := 2) d_Wk_tick_69 rfl rfl rfl ?_
        obtain ⟨Q'14, ev11, k⟩ := k
        refine Rn.callV (n := 73) (av := [vI a2]) d_Wk_tick_70 rfl ml_Wk_tick_41 mi_Wk_isOn w_a0.s rfl rfl rfl rfl (Nat.le_of_ble_eq_true rfl) ev11 (fun v h13 hq => ?_)
        obtain ⟨r15, rfl, hq⟩ := hq
        have k := k r15 h13 hq
        show Rn X m_Wk_tick 73 [some (vR a0), some (vR a1), some (vI a2)] [vI r15] h13 Q
        refine Rn.if_ne (n := 76) (t := 91) d_Wk_tick_73 rfl (by decide) (fun cc => ?_) (fun cc => ?_)
        · have k := k.1 cc
          refine Rn.iinc (n := 94) (i := 2) (v := a2 + 1) (ls2 := [some (vR a0), some (vR a1), some (vI (a2 + 1))]) d_Wk_tick_91 rfl rfl rfl (Nat.le_of_ble_eq_true rfl) rfl ?_
          refine Rn.goto (n := 40) d_Wk_tick_94 (by decide) ?_
          exact k
        · have k := k.2 cc
          refine Rn.aload_n (n := 77) (i := 0) d_Wk_tick_76 rfl rfl rfl ?_
          refine Rn.getf (n := 80) (v := vR (4 :: a0)) d_Wk_tick_77 rfl fl_Wk_15 w_a0.s rfl ?_
          refine Rn.iload_n (n := 81) (i := 2) d_Wk_tick_80 rfl rfl rfl ?_
          obtain ⟨b16, k⟩ := k
          refine Rn.zald (n := 82) (v := h13.1 (4 :: a0) a2.toNatClampNeg) d_Wk_tick_81 rfl w_a0.c4 b16 rfl ?_
          refine Rn.if_ne (n := 85) (t := 91) d_Wk_tick_82 rfl (by decide) (fun cc => ?_) (fun cc => ?_)
          · have k := k.1 cc
            refine Rn.iinc (n := 94) (i := 2) (v := a2 + 1) (ls2 := [some (vR a0), some (vR a1), some (vI (a2 + 1))]) d_Wk_tick_91 rfl rfl rfl (Nat.le_of_ble_eq_true rfl) rfl ?_
            refine Rn.goto (n := 40) d_Wk_tick_94 (by decide) ?_
            exact k
          · have k := k.2 cc
            refine Rn.aload_n (n := 86) (i := 0) d_Wk_tick_85 rfl rfl rfl ?_
            refine Rn.aload_n (n := 87) (i := 1) d_Wk_tick_86 rfl rfl rfl ?_
            refine Rn.iload_n (n := 88) (i := 2) d_Wk_tick_87 rfl rfl rfl ?_
            obtain ⟨Q'20, ev17, k⟩ := k
            refine Rn.callV (n := 91) (av := [vR a1, vI a2]) d_Wk_tick_88 rfl ml_Wk_tick_57 mi_Wk_come w_a0.s rfl rfl rfl rfl (Nat.le_of_ble_eq_true rfl) ev17 (fun v h19 hq => ?_)
            obtain ⟨rfl, hq⟩ := hq
            have k := k h19 hq
            show Rn X m_Wk_tick 91 [some (vR a0), some (vR a1), some (vI a2)] [] h19 Q
            refine Rn.iinc (n := 94) (i := 2) (v := a2 + 1) (ls2 := [some (vR a0), some (vR a1), some (vI (a2 + 1))]) d_Wk_tick_91 rfl rfl rfl (Nat.le_of_ble_eq_true rfl) rfl ?_
            refine Rn.goto (n := 40) d_Wk_tick_94 (by decide) ?_
            exact k
theorem e_Wk_tick {X : XS} (a0 : List Nat) (a1 : List Nat) (h : Hp) (Q : Option AV → Hp → Prop) (k : Rn X m_Wk_tick 0 [some (vR a0), some (vR a1), none] [] h Q) : Ev X m_Wk_tick [vR a0, vR a1] h Q := Ev.intro (by decide +kernel) (Nat.le_of_ble_eq_true rfl) (ls := [some (vR a0), some (vR a1), none]) rfl k
theorem d_Wk_isOn_0 : decode m_Wk_isOn.2.1 0 = .ok (.iload_n 1, 1) := by decide +kernel
theorem d_Wk_isOn_1 : decode m_Wk_isOn.2.1 1 = .ok (.ifCond .lt 23, 3) := by decide +kernel
theorem d_Wk_isOn_4 : decode m_Wk_isOn.2.1 4 = .ok (.iload_n 1, 1) := by decide +kernel
theorem d_Wk_isOn_5 : decode m_Wk_isOn.2.1 5 = .ok (.bipush 6, 2) := by decide +kernel
theorem d_Wk_isOn_7 : decode m_Wk_isOn.2.1 7 = .ok (.if_icmp .ge 17, 3) := by decide +kernel
theorem d_Wk_isOn_10 : decode m_Wk_isOn.2.1 10 = .ok (.aload_n 0, 1) := by decide +kernel
theorem d_Wk_isOn_11 : decode m_Wk_isOn.2.1 11 = .ok (.getfield 9, 3) := by decide +kernel
theorem d_Wk_isOn_14 : decode m_Wk_isOn.2.1 14 = .ok (.iload_n 1, 1) := by decide +kernel
theorem d_Wk_isOn_15 : decode m_Wk_isOn.2.1 15 = .ok (.iaload, 1) := by decide +kernel
theorem d_Wk_isOn_16 : decode m_Wk_isOn.2.1 16 = .ok (.iconst (-1), 1) := by decide +kernel
theorem d_Wk_isOn_17 : decode m_Wk_isOn.2.1 17 = .ok (.if_icmp .eq 7, 3) := by decide +kernel
theorem d_Wk_isOn_20 : decode m_Wk_isOn.2.1 20 = .ok (.iconst 1, 1) := by decide +kernel
theorem d_Wk_isOn_21 : decode m_Wk_isOn.2.1 21 = .ok (.goto 4, 3) := by decide +kernel
theorem d_Wk_isOn_24 : decode m_Wk_isOn.2.1 24 = .ok (.iconst 0, 1) := by decide +kernel
theorem d_Wk_isOn_25 : decode m_Wk_isOn.2.1 25 = .ok (.ireturn, 1) := by decide +kernel
theorem g_Wk_isOn_0 {X : XS} (a0 : List Nat) (a1 : Int32) (h : Hp) (Q : Option AV → Hp → Prop) (w_a0 : IsWk a0) (k : ((a1 < 0 → Q (some (vI 0)) h) ∧ (¬ a1 < 0 → ((6 ≤ a1 → Q (some (vI 0)) h) ∧ (¬ 6 ≤ a1 → (vp_in a1 6 ∧ (((h.1 (3 :: a0) a1.toNatClampNeg) = (-1) → Q (some (vI 0)) h) ∧ (¬ (h.1 (3 :: a0) a1.toNatClampNeg) = (-1) → Q (some (vI 1)) h)))))))) : Rn X m_Wk_isOn 0 [some (vR a0), some (vI a1)] [] h Q := by
  refine Rn.iload_n (n := 1) (i := 1) d_Wk_isOn_0 rfl rfl rfl ?_
  refine Rn.if_lt (n := 4) (t := 24) d_Wk_isOn_1 rfl (by decide) (fun cc => ?_) (fun cc => ?_)
  · have k := k.1 cc
    refine Rn.iconst (n := 25) (v := 0) d_Wk_isOn_24 rfl (by decide) ?_
    exact Rn.iret d_Wk_isOn_25 rfl rfl k
  · have k := k.2 cc
    refine Rn.iload_n (n := 5) (i := 1) d_Wk_isOn_4 rfl rfl rfl ?_
    refine Rn.bipush (n := 7) (v := 6) d_Wk_isOn_5 rfl (by decide) ?_
    refine Rn.icmp_ge (n := 10) (t := 24) d_Wk_isOn_7 rfl (by decide) (fun cc => ?_) (fun cc => ?_)
    · have k := k.1 cc
      refine Rn.iconst (n := 25) (v := 0) d_Wk_isOn_24 rfl (by decide) ?_
      exact Rn.iret d_Wk_isOn_25 rfl rfl k
    · have k := k.2 cc
      refine Rn.aload_n (n := 11) (i := 0) d_Wk_isOn_10 rfl rfl rfl ?_
      refine Rn.getf (n := 14) (v := vR (3 :: a0)) d_Wk_isOn_11 rfl fl_Wk_9 w_a0.s rfl ?_
      refine Rn.iload_n (n := 15) (i := 1) d_Wk_isOn_14 rfl rfl rfl ?_
      obtain ⟨b1, k⟩ := k
      refine Rn.iald (n := 16) (v := h.1 (3 :: a0) a1.toNatClampNeg) d_Wk_isOn_15 rfl w_a0.c3 b1 rfl ?_
      refine Rn.iconst (n := 17) (v := (-1)) d_Wk_isOn_16 rfl (by decide) ?_
      refine Rn.icmp_eq (n := 20) (t := 24) d_Wk_isOn_17 rfl (by decide) (fun cc => ?_) (fun cc => ?_)
      · have k := k.1 cc
        refine Rn.iconst (n := 25) (v := 0) d_Wk_isOn_24 rfl (by decide) ?_
        exact Rn.iret d_Wk_isOn_25 rfl rfl k
      · have k := k.2 cc
        refine Rn.iconst (n := 21) (v := 1) d_Wk_isOn_20 rfl (by decide) ?_
        refine Rn.goto (n := 25) d_Wk_isOn_21 (by decide) ?_
        exact Rn.iret d_Wk_isOn_25 rfl rfl k
theorem e_Wk_isOn {X : XS} (a0 : List Nat) (a1 : Int32) (h : Hp) (Q : Option AV → Hp → Prop) (k : Rn X m_Wk_isOn 0 [some (vR a0), some (vI a1)] [] h Q) : Ev X m_Wk_isOn [vR a0, vI a1] h Q := Ev.intro (by decide +kernel) (Nat.le_of_ble_eq_true rfl) (ls := [some (vR a0), some (vI a1)]) rfl k
theorem d_Wk_move_0 : decode m_Wk_move.2.1 0 = .ok (.aload_n 0, 1) := by decide +kernel
theorem d_Wk_move_1 : decode m_Wk_move.2.1 1 = .ok (.getfield 9, 3) := by decide +kernel
theorem d_Wk_move_4 : decode m_Wk_move.2.1 4 = .ok (.iload_n 2, 1) := by decide +kernel
theorem d_Wk_move_5 : decode m_Wk_move.2.1 5 = .ok (.iaload, 1) := by decide +kernel
theorem d_Wk_move_6 : decode m_Wk_move.2.1 6 = .ok (.iconst 4, 1) := by decide +kernel
theorem d_Wk_move_7 : decode m_Wk_move.2.1 7 = .ok (.idiv, 1) := by decide +kernel
theorem d_Wk_move_8 : decode m_Wk_move.2.1 8 = .ok (.istore_n 3, 1) := by decide +kernel
theorem d_Wk_move_9 : decode m_Wk_move.2.1 9 = .ok (.aload_n 0, 1) := by decide +kernel
theorem d_Wk_move_10 : decode m_Wk_move.2.1 10 = .ok (.getfield 9, 3) := by decide +kernel
theorem d_Wk_move_13 : decode m_Wk_move.2.1 13 = .ok (.iload_n 2, 1) := by decide +kernel
theorem d_Wk_move_14 : decode m_Wk_move.2.1 14 = .ok (.iaload, 1) := by decide +kernel
theorem d_Wk_move_15 : decode m_Wk_move.2.1 15 = .ok (.iconst 4, 1) := by decide +kernel
theorem d_Wk_move_16 : decode m_Wk_move.2.1 16 = .ok (.irem, 1) := by decide +kernel
theorem d_Wk_move_17 : decode m_Wk_move.2.1 17 = .ok (.istore 4, 2) := by decide +kernel
theorem d_Wk_move_19 : decode m_Wk_move.2.1 19 = .ok (.aload_n 1, 1) := by decide +kernel
theorem d_Wk_move_20 : decode m_Wk_move.2.1 20 = .ok (.getfield 67, 3) := by decide +kernel
theorem d_Wk_move_23 : decode m_Wk_move.2.1 23 = .ok (.iload_n 2, 1) := by decide +kernel
theorem d_Wk_move_24 : decode m_Wk_move.2.1 24 = .ok (.iaload, 1) := by decide +kernel
theorem d_Wk_move_25 : decode m_Wk_move.2.1 25 = .ok (.ifCond .ne 9, 3) := by decide +kernel
theorem d_Wk_move_28 : decode m_Wk_move.2.1 28 = .ok (.iload_n 3, 1) := by decide +kernel
theorem d_Wk_move_29 : decode m_Wk_move.2.1 29 = .ok (.iconst 1, 1) := by decide +kernel
theorem d_Wk_move_30 : decode m_Wk_move.2.1 30 = .ok (.iadd, 1) := by decide +kernel
theorem d_Wk_move_31 : decode m_Wk_move.2.1 31 = .ok (.goto 6, 3) := by decide +kernel
theorem d_Wk_move_34 : decode m_Wk_move.2.1 34 = .ok (.iload_n 3, 1) := by decide +kernel
theorem d_Wk_move_35 : decode m_Wk_move.2.1 35 = .ok (.iconst 1, 1) := by decide +kernel
theorem d_Wk_move_36 : decode m_Wk_move.2.1 36 = .ok (.isub, 1) := by decide +kernel
theorem d_Wk_move_37 : decode m_Wk_move.2.1 37 = .ok (.istore 5, 2) := by decide +kernel
theorem d_Wk_move_39 : decode m_Wk_move.2.1 39 = .ok (.iconst 4, 1) := by decide +kernel
theorem d_Wk_move_40 : decode m_Wk_move.2.1 40 = .ok (.iload_n 3, 1) := by decide +kernel
theorem d_Wk_move_41 : decode m_Wk_move.2.1 41 = .ok (.imul, 1) := by decide +kernel
theorem d_Wk_move_42 : decode m_Wk_move.2.1 42 = .ok (.aload_n 0, 1) := by decide +kernel
theorem d_Wk_move_43 : decode m_Wk_move.2.1 43 = .ok (.aload_n 1, 1) := by decide +kernel
theorem d_Wk_move_44 : decode m_Wk_move.2.1 44 = .ok (.iload_n 2, 1) := by decide +kernel
theorem d_Wk_move_45 : decode m_Wk_move.2.1 45 = .ok (.iload 4, 2) := by decide +kernel
theorem d_Wk_move_47 : decode m_Wk_move.2.1 47 = .ok (.invokevirtual 70, 3) := by decide +kernel
theorem d_Wk_move_50 : decode m_Wk_move.2.1 50 = .ok (.iadd, 1) := by decide +kernel
theorem d_Wk_move_51 : decode m_Wk_move.2.1 51 = .ok (.istore 6, 2) := by decide +kernel
theorem d_Wk_move_53 : decode m_Wk_move.2.1 53 = .ok (.iload 5, 2) := by decide +kernel
theorem d_Wk_move_55 : decode m_Wk_move.2.1 55 = .ok (.ifCond .lt 12, 3) := by decide +kernel
theorem d_Wk_move_58 : decode m_Wk_move.2.1 58 = .ok (.iload 5, 2) := by decide +kernel
theorem d_Wk_move_60 : decode m_Wk_move.2.1 60 = .ok (.aload_n 1, 1) := by decide +kernel
theorem d_Wk_move_61 : decode m_Wk_move.2.1 61 = .ok (.getfield 74, 3) := by decide +kernel
theorem d_Wk_move_64 : decode m_Wk_move.2.1 64 = .ok (.if_icmp .lt 20, 3) := by decide +kernel
theorem d_Wk_move_67 : decode m_Wk_move.2.1 67 = .ok (.aload_n 0, 1) := by decide +kernel
theorem d_Wk_move_68 : decode m_Wk_move.2.1 68 = .ok (.getfield 15, 3) := by decide +kernel
theorem d_Wk_move_71 : decode m_Wk_move.2.1 71 = .ok (.iload_n 2, 1) := by decide +kernel
theorem d_Wk_move_72 : decode m_Wk_move.2.1 72 = .ok (.iconst 1, 1) := by decide +kernel
theorem d_Wk_move_73 : decode m_Wk_move.2.1 73 = .ok (.bastore, 1) := by decide +kernel
theorem d_Wk_move_74 : decode m_Wk_move.2.1 74 = .ok (.aload_n 0, 1) := by decide +kernel
theorem d_Wk_move_75 : decode m_Wk_move.2.1 75 = .ok (.getfield 9, 3) := by decide +kernel
theorem d_Wk_move_78 : decode m_Wk_move.2.1 78 = .ok (.iload_n 2, 1) := by decide +kernel
theorem d_Wk_move_79 : decode m_Wk_move.2.1 79 = .ok (.iconst (-1), 1) := by decide +kernel
theorem d_Wk_move_80 : decode m_Wk_move.2.1 80 = .ok (.iastore, 1) := by decide +kernel
theorem d_Wk_move_81 : decode m_Wk_move.2.1 81 = .ok (.goto 77, 3) := by decide +kernel
theorem d_Wk_move_84 : decode m_Wk_move.2.1 84 = .ok (.aload_n 0, 1) := by decide +kernel
theorem d_Wk_move_85 : decode m_Wk_move.2.1 85 = .ok (.iconst 4, 1) := by decide +kernel
theorem d_Wk_move_86 : decode m_Wk_move.2.1 86 = .ok (.iload 5, 2) := by decide +kernel
theorem d_Wk_move_88 : decode m_Wk_move.2.1 88 = .ok (.imul, 1) := by decide +kernel
theorem d_Wk_move_89 : decode m_Wk_move.2.1 89 = .ok (.iload 4, 2) := by decide +kernel
theorem d_Wk_move_91 : decode m_Wk_move.2.1 91 = .ok (.iadd, 1) := by decide +kernel
theorem d_Wk_move_92 : decode m_Wk_move.2.1 92 = .ok (.invokevirtual 77, 3) := by decide +kernel
theorem d_Wk_move_95 : decode m_Wk_move.2.1 95 = .ok (.iconst (-1), 1) := by decide +kernel
theorem d_Wk_move_96 : decode m_Wk_move.2.1 96 = .ok (.if_icmp .ne 19, 3) := by decide +kernel
theorem d_Wk_move_99 : decode m_Wk_move.2.1 99 = .ok (.aload_n 0, 1) := by decide +kernel
theorem d_Wk_move_100 : decode m_Wk_move.2.1 100 = .ok (.getfield 9, 3) := by decide +kernel
theorem d_Wk_move_103 : decode m_Wk_move.2.1 103 = .ok (.iload_n 2, 1) := by decide +kernel
theorem d_Wk_move_104 : decode m_Wk_move.2.1 104 = .ok (.iconst 4, 1) := by decide +kernel
theorem d_Wk_move_105 : decode m_Wk_move.2.1 105 = .ok (.iload 5, 2) := by decide +kernel
theorem d_Wk_move_107 : decode m_Wk_move.2.1 107 = .ok (.imul, 1) := by decide +kernel
theorem d_Wk_move_108 : decode m_Wk_move.2.1 108 = .ok (.iload 4, 2) := by decide +kernel
theorem d_Wk_move_110 : decode m_Wk_move.2.1 110 = .ok (.iadd, 1) := by decide +kernel
theorem d_Wk_move_111 : decode m_Wk_move.2.1 111 = .ok (.iastore, 1) := by decide +kernel
theorem d_Wk_move_112 : decode m_Wk_move.2.1 112 = .ok (.goto 46, 3) := by decide +kernel
theorem d_Wk_move_115 : decode m_Wk_move.2.1 115 = .ok (.aload_n 0, 1) := by decide +kernel
theorem d_Wk_move_116 : decode m_Wk_move.2.1 116 = .ok (.aload_n 1, 1) := by decide +kernel
theorem d_Wk_move_117 : decode m_Wk_move.2.1 117 = .ok (.iload_n 2, 1) := by decide +kernel
theorem d_Wk_move_118 : decode m_Wk_move.2.1 118 = .ok (.iload 4, 2) := by decide +kernel
theorem d_Wk_move_120 : decode m_Wk_move.2.1 120 = .ok (.invokevirtual 70, 3) := by decide +kernel
theorem d_Wk_move_123 : decode m_Wk_move.2.1 123 = .ok (.iconst (-1), 1) := by decide +kernel
theorem d_Wk_move_124 : decode m_Wk_move.2.1 124 = .ok (.if_icmp .eq 24, 3) := by decide +kernel
theorem d_Wk_move_127 : decode m_Wk_move.2.1 127 = .ok (.aload_n 0, 1) := by decide +kernel
theorem d_Wk_move_128 : decode m_Wk_move.2.1 128 = .ok (.iload 6, 2) := by decide +kernel
theorem d_Wk_move_130 : decode m_Wk_move.2.1 130 = .ok (.invokevirtual 77, 3) := by decide +kernel
theorem d_Wk_move_133 : decode m_Wk_move.2.1 133 = .ok (.iconst (-1), 1) := by decide +kernel
theorem d_Wk_move_134 : decode m_Wk_move.2.1 134 = .ok (.if_icmp .ne 14, 3) := by decide +kernel
theorem d_Wk_move_137 : decode m_Wk_move.2.1 137 = .ok (.aload_n 0, 1) := by decide +kernel
theorem d_Wk_move_138 : decode m_Wk_move.2.1 138 = .ok (.getfield 9, 3) := by decide +kernel
theorem d_Wk_move_141 : decode m_Wk_move.2.1 141 = .ok (.iload_n 2, 1) := by decide +kernel
theorem d_Wk_move_142 : decode m_Wk_move.2.1 142 = .ok (.iload 6, 2) := by decide +kernel
theorem d_Wk_move_144 : decode m_Wk_move.2.1 144 = .ok (.iastore, 1) := by decide +kernel
theorem d_Wk_move_145 : decode m_Wk_move.2.1 145 = .ok (.goto 13, 3) := by decide +kernel
theorem d_Wk_move_148 : decode m_Wk_move.2.1 148 = .ok (.aload_n 0, 1) := by decide +kernel
theorem d_Wk_move_149 : decode m_Wk_move.2.1 149 = .ok (.getfield 25, 3) := by decide +kernel
theorem d_Wk_move_152 : decode m_Wk_move.2.1 152 = .ok (.iload_n 2, 1) := by decide +kernel
theorem d_Wk_move_153 : decode m_Wk_move.2.1 153 = .ok (.dup2, 1) := by decide +kernel
theorem d_Wk_move_154 : decode m_Wk_move.2.1 154 = .ok (.iaload, 1) := by decide +kernel
theorem d_Wk_move_155 : decode m_Wk_move.2.1 155 = .ok (.iconst 1, 1) := by decide +kernel
theorem d_Wk_move_156 : decode m_Wk_move.2.1 156 = .ok (.iadd, 1) := by decide +kernel
theorem d_Wk_move_157 : decode m_Wk_move.2.1 157 = .ok (.iastore, 1) := by decide +kernel
theorem d_Wk_move_158 : decode m_Wk_move.2.1 158 = .ok (.return_, 1) := by decide +kernel
theorem g_Wk_move_0 {X : XS} (a0 : List Nat) (a1 : List Nat) (a2 : Int32) (h : Hp) (Q : Option AV → Hp → Prop) (w_a0 : IsWk a0) (w_a1 : IsPl a1) (k : (vp_in a2 6 ∧ (vp_in a2 6 ∧ (vp_in a2 6 ∧ ((¬ (h.1 (5 :: a1) a2.toNatClampNeg) = 0 → Rn X m_Wk_move 37 [some (vR a0), some (vR a1), some (vI a2), some (vI ((h.1 (3 :: a0) a2.toNatClampNeg) / 4)), some (vI (iR (h.1 (3 :: a0) a2.toNatClampNeg) 4)), none, none] [vI (((h.1 (3 :: a0) a2.toNatClampNeg) / 4) - 1)] h Q) ∧ ((h.1 (5 :: a1) a2.toNatClampNeg) = 0 → Rn X m_Wk_move 37 [some (vR a0), some (vR a1), some (vI a2), some (vI ((h.1 (3 :: a0) a2.toNatClampNeg) / 4)), some (vI (iR (h.1 (3 :: a0) a2.toNatClampNeg) 4)), none, none] [vI (((h.1 (3 :: a0) a2.toNatClampNeg) / 4) + 1)] h Q)))))) : Rn X m_Wk_move 0 [some (vR a0), some (vR a1), some (vI a2), none, none, none, none] [] h Q := by
  refine Rn.aload_n (n := 1) (i := 0) d_Wk_move_0 rfl rfl rfl ?_
  refine Rn.getf (n := 4) (v := vR (3 :: a0)) d_Wk_move_1 rfl fl_Wk_9 w_a0.s rfl ?_
  refine Rn.iload_n (n := 5) (i := 2) d_Wk_move_4 rfl rfl rfl ?_
  obtain ⟨b1, k⟩ := k
  refine Rn.iald (n := 6) (v := h.1 (3 :: a0) a2.toNatClampNeg) d_Wk_move_5 rfl w_a0.c3 b1 rfl ?_
  refine Rn.iconst (n := 7) (v := 4) d_Wk_move_6 rfl (by decide) ?_
  refine Rn.idiv (n := 8) d_Wk_move_7 rfl (by decide) ?_
  refine Rn.istore_n (n := 9) (i := 3) (ls2 := [some (vR a0), some (vR a1), some (vI a2), some (vI ((h.1 (3 :: a0) a2.toNatClampNeg) / 4)), none, none, none]) d_Wk_move_8 rfl rfl (Nat.le_of_ble_eq_true rfl) rfl ?_
  refine Rn.aload_n (n := 10) (i := 0) d_Wk_move_9 rfl rfl rfl ?_
  refine Rn.getf (n := 13) (v := vR (3 :: a0)) d_Wk_move_10 rfl fl_Wk_9 w_a0.s rfl ?_
  refine Rn.iload_n (n := 14) (i := 2) d_Wk_move_13 rfl rfl rfl ?_
  obtain ⟨b2, k⟩ := k
  refine Rn.iald (n := 15) (v := h.1 (3 :: a0) a2.toNatClampNeg) d_Wk_move_14 rfl w_a0.c3 b2 rfl ?_
  refine Rn.iconst (n := 16) (v := 4) d_Wk_move_15 rfl (by decide) ?_
  refine Rn.irem (n := 17) d_Wk_move_16 rfl (by decide) ?_
  refine Rn.istore (n := 19) (i := 4) (ls2 := [some (vR a0), some (vR a1), some (vI a2), some (vI ((h.1 (3 :: a0) a2.toNatClampNeg) / 4)), some (vI (iR (h.1 (3 :: a0) a2.toNatClampNeg) 4)), none, none]) d_Wk_move_17 rfl (Nat.le_of_ble_eq_true rfl) rfl ?_
  refine Rn.aload_n (n := 20) (i := 1) d_Wk_move_19 rfl rfl rfl ?_
  refine Rn.getf (n := 23) (v := vR (5 :: a1)) d_Wk_move_20 rfl fl_Wk_67 w_a1.s rfl ?_
  refine Rn.iload_n (n := 24) (i := 2) d_Wk_move_23 rfl rfl rfl ?_
  obtain ⟨b3, k⟩ := k
  refine Rn.iald (n := 25) (v := h.1 (5 :: a1) a2.toNatClampNeg) d_Wk_move_24 rfl w_a1.c5 b3 rfl ?_
  refine Rn.if_ne (n := 28) (t := 34) d_Wk_move_25 rfl (by decide) (fun cc => ?_) (fun cc => ?_)
  · have k := k.1 cc
    refine Rn.iload_n (n := 35) (i := 3) d_Wk_move_34 rfl rfl rfl ?_
    refine Rn.iconst (n := 36) (v := 1) d_Wk_move_35 rfl (by decide) ?_
    refine Rn.isub (n := 37) d_Wk_move_36 rfl ?_
    exact k
  · have k := k.2 cc
    refine Rn.iload_n (n := 29) (i := 3) d_Wk_move_28 rfl rfl rfl ?_
    refine Rn.iconst (n := 30) (v := 1) d_Wk_move_29 rfl (by decide) ?_
    refine Rn.iadd (n := 31) d_Wk_move_30 rfl ?_
    refine Rn.goto (n := 37) d_Wk_move_31 (by decide) ?_
    exact k
theorem g_Wk_move_37 {X : XS} (a0 : List Nat) (a1 : List Nat) (a2 : Int32) (a3 : Int32) (a4 : Int32) (s0 : Int32) (h : Hp) (Q : Option AV → Hp → Prop) (w_a0 : IsWk a0) (w_a1 : IsPl a1) (k : (∃ Q'4, EvI X m_Wk_laneBeside [vR a0, vR a1, vI a2, vI a4] h Q'4 ∧ ∀ (r5 : Int32) (h3 : Hp), Q'4 r5 h3 → ((s0 < 0 → (vp_in a2 6 ∧ (vp_in a2 6 ∧ Q none (hsI (hsI h3 (4 :: a0) a2.toNatClampNeg 1) (3 :: a0) a2.toNatClampNeg (-1))))) ∧ (¬ s0 < 0 → ((s0 < (h3.1 a1 1) → (∃ Q'11, EvI X m_Wk_whoIsAt [vR a0, vI ((4 * s0) + a4)] h3 Q'11 ∧ ∀ (r12 : Int32) (h10 : Hp), Q'11 r12 h10 → ((¬ r12 = (-1) → (∃ Q'16, EvI X m_Wk_laneBeside [vR a0, vR a1, vI a2, vI a4] h10 Q'16 ∧ ∀ (r17 : Int32) (h15 : Hp), Q'16 r17 h15 → ((r17 = (-1) → (vp_in a2 6 ∧ (vp_in a2 6 ∧ Q none (hsI h15 (7 :: a0) a2.toNatClampNeg ((h15.1 (7 :: a0) a2.toNatClampNeg) + 1))))) ∧ (¬ r17 = (-1) → (∃ Q'23, EvI X m_Wk_whoIsAt [vR a0, vI ((4 * a3) + r5)] h15 Q'23 ∧ ∀ (r24 : Int32) (h22 : Hp), Q'23 r24 h22 → ((¬ r24 = (-1) → (vp_in a2 6 ∧ (vp_in a2 6 ∧ Q none (hsI h22 (7 :: a0) a2.toNatClampNeg ((h22.1 (7 :: a0) a2.toNatClampNeg) + 1))))) ∧ (r24 = (-1) → (vp_in a2 6 ∧ Q none (hsI h22 (3 :: a0) a2.toNatClampNeg ((4 * a3) + r5)))))))))) ∧ (r12 = (-1) → (vp_in a2 6 ∧ Q none (hsI h10 (3 :: a0) a2.toNatClampNeg ((4 * s0) + a4))))))) ∧ (¬ s0 < (h3.1 a1 1) → (vp_in a2 6 ∧ (vp_in a2 6 ∧ Q none (hsI (hsI h3 (4 :: a0) a2.toNatClampNeg 1) (3 :: a0) a2.toNatClampNeg (-1)))))))))) : Rn X m_Wk_move 37 [some (vR a0), some (vR a1), some (vI a2), some (vI a3), some (vI a4), none, none] [vI s0] h Q := by
  refine Rn.istore (n := 39) (i := 5) (ls2 := [some (vR a0), some (vR a1), some (vI a2), some (vI a3), some (vI a4), some (vI s0), none]) d_Wk_move_37 rfl (Nat.le_of_ble_eq_true rfl) rfl ?_
  refine Rn.iconst (n := 40) (v := 4) d_Wk_move_39 rfl (by decide) ?_
  refine Rn.iload_n (n := 41) (i := 3) d_Wk_move_40 rfl rfl rfl ?_
  refine Rn.imul (n := 42) d_Wk_move_41 rfl ?_
  refine Rn.aload_n (n := 43) (i := 0) d_Wk_move_42 rfl rfl rfl ?_
  refine Rn.aload_n (n := 44) (i := 1) d_Wk_move_43 rfl rfl rfl ?_
  refine Rn.iload_n (n := 45) (i := 2) d_Wk_move_44 rfl rfl rfl ?_
  refine Rn.iload (n := 47) (i := 4) d_Wk_move_45 rfl rfl ?_
  obtain ⟨Q'4, ev1, k⟩ := k
  refine Rn.callV (n := 50) (av := [vR a1, vI a2, vI a4]) d_Wk_move_47 rfl ml_Wk_move_70 mi_Wk_laneBeside w_a0.s rfl rfl rfl rfl (Nat.le_of_ble_eq_true rfl) ev1 (fun v h3 hq => ?_)
  obtain ⟨r5, rfl, hq⟩ := hq
  have k := k r5 h3 hq
  show Rn X m_Wk_move 50 [some (vR a0), some (vR a1), some (vI a2), some (vI a3), some (vI a4), some (vI s0), none] [vI r5, vI (4 * a3)] h3 Q
  refine Rn.iadd (n := 51) d_Wk_move_50 rfl ?_
  refine Rn.istore (n := 53) (i := 6) (ls2 := [some (vR a0), some (vR a1), some (vI a2), some (vI a3), some (vI a4), some (vI s0), some (vI ((4 * a3) + r5))]) d_Wk_move_51 rfl (Nat.le_of_ble_eq_true rfl) rfl ?_
  refine Rn.iload (n := 55) (i := 5) d_Wk_move_53 rfl rfl ?_
  refine Rn.if_lt (n := 58) (t := 67) d_Wk_move_55 rfl (by decide) (fun cc => ?_) (fun cc => ?_)
  · have k := k.1 cc
    refine Rn.aload_n (n := 68) (i := 0) d_Wk_move_67 rfl rfl rfl ?_
    refine Rn.getf (n := 71) (v := vR (4 :: a0)) d_Wk_move_68 rfl fl_Wk_15 w_a0.s rfl ?_
    refine Rn.iload_n (n := 72) (i := 2) d_Wk_move_71 rfl rfl rfl ?_
    refine Rn.iconst (n := 73) (v := 1) d_Wk_move_72 rfl (by decide) ?_
    obtain ⟨b6, k⟩ := k
    refine Rn.zast (n := 74) (y := 1) d_Wk_move_73 rfl w_a0.c4 b6 rfl ?_
    refine Rn.aload_n (n := 75) (i := 0) d_Wk_move_74 rfl rfl rfl ?_
    refine Rn.getf (n := 78) (v := vR (3 :: a0)) d_Wk_move_75 rfl fl_Wk_9 w_a0.s rfl ?_
    refine Rn.iload_n (n := 79) (i := 2) d_Wk_move_78 rfl rfl rfl ?_
    refine Rn.iconst (n := 80) (v := (-1)) d_Wk_move_79 rfl (by decide) ?_
    obtain ⟨b7, k⟩ := k
    refine Rn.iast (n := 81) d_Wk_move_80 rfl w_a0.c3 b7 ?_
    refine Rn.goto (n := 158) d_Wk_move_81 (by decide) ?_
    exact Rn.vret d_Wk_move_158 rfl k
  · have k := k.2 cc
    refine Rn.iload (n := 60) (i := 5) d_Wk_move_58 rfl rfl ?_
    refine Rn.aload_n (n := 61) (i := 1) d_Wk_move_60 rfl rfl rfl ?_
    refine Rn.getf (n := 64) (v := vI (h3.1 a1 1)) d_Wk_move_61 rfl fl_Wk_74 w_a1.s rfl ?_
    refine Rn.icmp_lt (n := 67) (t := 84) d_Wk_move_64 rfl (by decide) (fun cc => ?_) (fun cc => ?_)
    · have k := k.1 cc
      refine Rn.aload_n (n := 85) (i := 0) d_Wk_move_84 rfl rfl rfl ?_
      refine Rn.iconst (n := 86) (v := 4) d_Wk_move_85 rfl (by decide) ?_
      refine Rn.iload (n := 88) (i := 5) d_Wk_move_86 rfl rfl ?_
      refine Rn.imul (n := 89) d_Wk_move_88 rfl ?_
      refine Rn.iload (n := 91) (i := 4) d_Wk_move_89 rfl rfl ?_
      refine Rn.iadd (n := 92) d_Wk_move_91 rfl ?_
      obtain ⟨Q'11, ev8, k⟩ := k
      refine Rn.callV (n := 95) (av := [vI ((4 * s0) + a4)]) d_Wk_move_92 rfl ml_Wk_move_77 mi_Wk_whoIsAt w_a0.s rfl rfl rfl rfl (Nat.le_of_ble_eq_true rfl) ev8 (fun v h10 hq => ?_)
      obtain ⟨r12, rfl, hq⟩ := hq
      have k := k r12 h10 hq
      show Rn X m_Wk_move 95 [some (vR a0), some (vR a1), some (vI a2), some (vI a3), some (vI a4), some (vI s0), some (vI ((4 * a3) + r5))] [vI r12] h10 Q
      refine Rn.iconst (n := 96) (v := (-1)) d_Wk_move_95 rfl (by decide) ?_
      refine Rn.icmp_ne (n := 99) (t := 115) d_Wk_move_96 rfl (by decide) (fun cc => ?_) (fun cc => ?_)
      · have k := k.1 cc
        refine Rn.aload_n (n := 116) (i := 0) d_Wk_move_115 rfl rfl rfl ?_
        refine Rn.aload_n (n := 117) (i := 1) d_Wk_move_116 rfl rfl rfl ?_
        refine Rn.iload_n (n := 118) (i := 2) d_Wk_move_117 rfl rfl rfl ?_
        refine Rn.iload (n := 120) (i := 4) d_Wk_move_118 rfl rfl ?_
        obtain ⟨Q'16, ev13, k⟩ := k
        refine Rn.callV (n := 123) (av := [vR a1, vI a2, vI a4]) d_Wk_move_120 rfl ml_Wk_move_70 mi_Wk_laneBeside w_a0.s rfl rfl rfl rfl (Nat.le_of_ble_eq_true rfl) ev13 (fun v h15 hq => ?_)
        obtain ⟨r17, rfl, hq⟩ := hq
        have k := k r17 h15 hq
        show Rn X m_Wk_move 123 [some (vR a0), some (vR a1), some (vI a2), some (vI a3), some (vI a4), some (vI s0), some (vI ((4 * a3) + r5))] [vI r17] h15 Q
        refine Rn.iconst (n := 124) (v := (-1)) d_Wk_move_123 rfl (by decide) ?_
        refine Rn.icmp_eq (n := 127) (t := 148) d_Wk_move_124 rfl (by decide) (fun cc => ?_) (fun cc => ?_)
        · have k := k.1 cc
          refine Rn.aload_n (n := 149) (i := 0) d_Wk_move_148 rfl rfl rfl ?_
          refine Rn.getf (n := 152) (v := vR (7 :: a0)) d_Wk_move_149 rfl fl_Wk_25 w_a0.s rfl ?_
          refine Rn.iload_n (n := 153) (i := 2) d_Wk_move_152 rfl rfl rfl ?_
          refine Rn.dup2 (n := 154) d_Wk_move_153 rfl rfl rfl ?_
          obtain ⟨b18, k⟩ := k
          refine Rn.iald (n := 155) (v := h15.1 (7 :: a0) a2.toNatClampNeg) d_Wk_move_154 rfl w_a0.c7 b18 rfl ?_
          refine Rn.iconst (n := 156) (v := 1) d_Wk_move_155 rfl (by decide) ?_
          refine Rn.iadd (n := 157) d_Wk_move_156 rfl ?_
          obtain ⟨b19, k⟩ := k
          refine Rn.iast (n := 158) d_Wk_move_157 rfl w_a0.c7 b19 ?_
          exact Rn.vret d_Wk_move_158 rfl k
        · have k := k.2 cc
          refine Rn.aload_n (n := 128) (i := 0) d_Wk_move_127 rfl rfl rfl ?_
          refine Rn.iload (n := 130) (i := 6) d_Wk_move_128 rfl rfl ?_
          obtain ⟨Q'23, ev20, k⟩ := k
          refine Rn.callV (n := 133) (av := [vI ((4 * a3) + r5)]) d_Wk_move_130 rfl ml_Wk_move_77 mi_Wk_whoIsAt w_a0.s rfl rfl rfl rfl (Nat.le_of_ble_eq_true rfl) ev20 (fun v h22 hq => ?_)
          obtain ⟨r24, rfl, hq⟩ := hq
          have k := k r24 h22 hq
          show Rn X m_Wk_move 133 [some (vR a0), some (vR a1), some (vI a2), some (vI a3), some (vI a4), some (vI s0), some (vI ((4 * a3) + r5))] [vI r24] h22 Q
          refine Rn.iconst (n := 134) (v := (-1)) d_Wk_move_133 rfl (by decide) ?_
          refine Rn.icmp_ne (n := 137) (t := 148) d_Wk_move_134 rfl (by decide) (fun cc => ?_) (fun cc => ?_)
          · have k := k.1 cc
            refine Rn.aload_n (n := 149) (i := 0) d_Wk_move_148 rfl rfl rfl ?_
            refine Rn.getf (n := 152) (v := vR (7 :: a0)) d_Wk_move_149 rfl fl_Wk_25 w_a0.s rfl ?_
            refine Rn.iload_n (n := 153) (i := 2) d_Wk_move_152 rfl rfl rfl ?_
            refine Rn.dup2 (n := 154) d_Wk_move_153 rfl rfl rfl ?_
            obtain ⟨b25, k⟩ := k
            refine Rn.iald (n := 155) (v := h22.1 (7 :: a0) a2.toNatClampNeg) d_Wk_move_154 rfl w_a0.c7 b25 rfl ?_
            refine Rn.iconst (n := 156) (v := 1) d_Wk_move_155 rfl (by decide) ?_
            refine Rn.iadd (n := 157) d_Wk_move_156 rfl ?_
            obtain ⟨b26, k⟩ := k
            refine Rn.iast (n := 158) d_Wk_move_157 rfl w_a0.c7 b26 ?_
            exact Rn.vret d_Wk_move_158 rfl k
          · have k := k.2 cc
            refine Rn.aload_n (n := 138) (i := 0) d_Wk_move_137 rfl rfl rfl ?_
            refine Rn.getf (n := 141) (v := vR (3 :: a0)) d_Wk_move_138 rfl fl_Wk_9 w_a0.s rfl ?_
            refine Rn.iload_n (n := 142) (i := 2) d_Wk_move_141 rfl rfl rfl ?_
            refine Rn.iload (n := 144) (i := 6) d_Wk_move_142 rfl rfl ?_
            obtain ⟨b27, k⟩ := k
            refine Rn.iast (n := 145) d_Wk_move_144 rfl w_a0.c3 b27 ?_
            refine Rn.goto (n := 158) d_Wk_move_145 (by decide) ?_
            exact Rn.vret d_Wk_move_158 rfl k
      · have k := k.2 cc
        refine Rn.aload_n (n := 100) (i := 0) d_Wk_move_99 rfl rfl rfl ?_
        refine Rn.getf (n := 103) (v := vR (3 :: a0)) d_Wk_move_100 rfl fl_Wk_9 w_a0.s rfl ?_
        refine Rn.iload_n (n := 104) (i := 2) d_Wk_move_103 rfl rfl rfl ?_
        refine Rn.iconst (n := 105) (v := 4) d_Wk_move_104 rfl (by decide) ?_
        refine Rn.iload (n := 107) (i := 5) d_Wk_move_105 rfl rfl ?_
        refine Rn.imul (n := 108) d_Wk_move_107 rfl ?_
        refine Rn.iload (n := 110) (i := 4) d_Wk_move_108 rfl rfl ?_
        refine Rn.iadd (n := 111) d_Wk_move_110 rfl ?_
        obtain ⟨b28, k⟩ := k
        refine Rn.iast (n := 112) d_Wk_move_111 rfl w_a0.c3 b28 ?_
        refine Rn.goto (n := 158) d_Wk_move_112 (by decide) ?_
        exact Rn.vret d_Wk_move_158 rfl k
    · have k := k.2 cc
      refine Rn.aload_n (n := 68) (i := 0) d_Wk_move_67 rfl rfl rfl ?_
      refine Rn.getf (n := 71) (v := vR (4 :: a0)) d_Wk_move_68 rfl fl_Wk_15 w_a0.s rfl ?_
      refine Rn.iload_n (n := 72) (i := 2) d_Wk_move_71 rfl rfl rfl ?_
      refine Rn.iconst (n := 73) (v := 1) d_Wk_move_72 rfl (by decide) ?_
      obtain ⟨b29, k⟩ := k
      refine Rn.zast (n := 74) (y := 1) d_Wk_move_73 rfl w_a0.c4 b29 rfl ?_
      refine Rn.aload_n (n := 75) (i := 0) d_Wk_move_74 rfl rfl rfl ?_
      refine Rn.getf (n := 78) (v := vR (3 :: a0)) d_Wk_move_75 rfl fl_Wk_9 w_a0.s rfl ?_
      refine Rn.iload_n (n := 79) (i := 2) d_Wk_move_78 rfl rfl rfl ?_
      refine Rn.iconst (n := 80) (v := (-1)) d_Wk_move_79 rfl (by decide) ?_
      obtain ⟨b30, k⟩ := k
      refine Rn.iast (n := 81) d_Wk_move_80 rfl w_a0.c3 b30 ?_
      refine Rn.goto (n := 158) d_Wk_move_81 (by decide) ?_
      exact Rn.vret d_Wk_move_158 rfl k
theorem e_Wk_move {X : XS} (a0 : List Nat) (a1 : List Nat) (a2 : Int32) (h : Hp) (Q : Option AV → Hp → Prop) (k : Rn X m_Wk_move 0 [some (vR a0), some (vR a1), some (vI a2), none, none, none, none] [] h Q) : Ev X m_Wk_move [vR a0, vR a1, vI a2] h Q := Ev.intro (by decide +kernel) (Nat.le_of_ble_eq_true rfl) (ls := [some (vR a0), some (vR a1), some (vI a2), none, none, none, none]) rfl k
theorem d_Wk_laneBeside_0 : decode m_Wk_laneBeside.2.1 0 = .ok (.aload_n 1, 1) := by decide +kernel
theorem d_Wk_laneBeside_1 : decode m_Wk_laneBeside.2.1 1 = .ok (.getfield 81, 3) := by decide +kernel
theorem d_Wk_laneBeside_4 : decode m_Wk_laneBeside.2.1 4 = .ok (.iload_n 2, 1) := by decide +kernel
theorem d_Wk_laneBeside_5 : decode m_Wk_laneBeside.2.1 5 = .ok (.iaload, 1) := by decide +kernel
theorem d_Wk_laneBeside_6 : decode m_Wk_laneBeside.2.1 6 = .ok (.iconst 1, 1) := by decide +kernel
theorem d_Wk_laneBeside_7 : decode m_Wk_laneBeside.2.1 7 = .ok (.if_icmp .eq 15, 3) := by decide +kernel
theorem d_Wk_laneBeside_10 : decode m_Wk_laneBeside.2.1 10 = .ok (.aload_n 1, 1) := by decide +kernel
theorem d_Wk_laneBeside_11 : decode m_Wk_laneBeside.2.1 11 = .ok (.getfield 81, 3) := by decide +kernel
theorem d_Wk_laneBeside_14 : decode m_Wk_laneBeside.2.1 14 = .ok (.iload_n 2, 1) := by decide +kernel
theorem d_Wk_laneBeside_15 : decode m_Wk_laneBeside.2.1 15 = .ok (.iaload, 1) := by decide +kernel
theorem d_Wk_laneBeside_16 : decode m_Wk_laneBeside.2.1 16 = .ok (.iconst 2, 1) := by decide +kernel
theorem d_Wk_laneBeside_17 : decode m_Wk_laneBeside.2.1 17 = .ok (.if_icmp .eq 5, 3) := by decide +kernel
theorem d_Wk_laneBeside_20 : decode m_Wk_laneBeside.2.1 20 = .ok (.iconst (-1), 1) := by decide +kernel
theorem d_Wk_laneBeside_21 : decode m_Wk_laneBeside.2.1 21 = .ok (.ireturn, 1) := by decide +kernel
theorem d_Wk_laneBeside_22 : decode m_Wk_laneBeside.2.1 22 = .ok (.aload_n 1, 1) := by decide +kernel
theorem d_Wk_laneBeside_23 : decode m_Wk_laneBeside.2.1 23 = .ok (.getfield 81, 3) := by decide +kernel
theorem d_Wk_laneBeside_26 : decode m_Wk_laneBeside.2.1 26 = .ok (.iload_n 2, 1) := by decide +kernel
theorem d_Wk_laneBeside_27 : decode m_Wk_laneBeside.2.1 27 = .ok (.iaload, 1) := by decide +kernel
theorem d_Wk_laneBeside_28 : decode m_Wk_laneBeside.2.1 28 = .ok (.iconst 1, 1) := by decide +kernel
theorem d_Wk_laneBeside_29 : decode m_Wk_laneBeside.2.1 29 = .ok (.if_icmp .ne 7, 3) := by decide +kernel
theorem d_Wk_laneBeside_32 : decode m_Wk_laneBeside.2.1 32 = .ok (.iconst 1, 1) := by decide +kernel
theorem d_Wk_laneBeside_33 : decode m_Wk_laneBeside.2.1 33 = .ok (.goto 4, 3) := by decide +kernel
theorem d_Wk_laneBeside_36 : decode m_Wk_laneBeside.2.1 36 = .ok (.iconst 0, 1) := by decide +kernel
theorem d_Wk_laneBeside_37 : decode m_Wk_laneBeside.2.1 37 = .ok (.aload_n 1, 1) := by decide +kernel
theorem d_Wk_laneBeside_38 : decode m_Wk_laneBeside.2.1 38 = .ok (.getfield 67, 3) := by decide +kernel
theorem d_Wk_laneBeside_41 : decode m_Wk_laneBeside.2.1 41 = .ok (.iload_n 2, 1) := by decide +kernel
theorem d_Wk_laneBeside_42 : decode m_Wk_laneBeside.2.1 42 = .ok (.iaload, 1) := by decide +kernel
theorem d_Wk_laneBeside_43 : decode m_Wk_laneBeside.2.1 43 = .ok (.ifCond .ne 7, 3) := by decide +kernel
theorem d_Wk_laneBeside_46 : decode m_Wk_laneBeside.2.1 46 = .ok (.iconst 1, 1) := by decide +kernel
theorem d_Wk_laneBeside_47 : decode m_Wk_laneBeside.2.1 47 = .ok (.goto 4, 3) := by decide +kernel
theorem d_Wk_laneBeside_50 : decode m_Wk_laneBeside.2.1 50 = .ok (.iconst 0, 1) := by decide +kernel
theorem d_Wk_laneBeside_51 : decode m_Wk_laneBeside.2.1 51 = .ok (.if_icmp .ne 7, 3) := by decide +kernel
theorem d_Wk_laneBeside_54 : decode m_Wk_laneBeside.2.1 54 = .ok (.iconst 1, 1) := by decide +kernel
theorem d_Wk_laneBeside_55 : decode m_Wk_laneBeside.2.1 55 = .ok (.goto 4, 3) := by decide +kernel
theorem d_Wk_laneBeside_58 : decode m_Wk_laneBeside.2.1 58 = .ok (.iconst 0, 1) := by decide +kernel
theorem d_Wk_laneBeside_59 : decode m_Wk_laneBeside.2.1 59 = .ok (.istore 4, 2) := by decide +kernel
theorem d_Wk_laneBeside_61 : decode m_Wk_laneBeside.2.1 61 = .ok (.iload 4, 2) := by decide +kernel
theorem d_Wk_laneBeside_63 : decode m_Wk_laneBeside.2.1 63 = .ok (.ifCond .eq 9, 3) := by decide +kernel
theorem d_Wk_laneBeside_66 : decode m_Wk_laneBeside.2.1 66 = .ok (.iload_n 3, 1) := by decide +kernel
theorem d_Wk_laneBeside_67 : decode m_Wk_laneBeside.2.1 67 = .ok (.iconst 1, 1) := by decide +kernel
theorem d_Wk_laneBeside_68 : decode m_Wk_laneBeside.2.1 68 = .ok (.isub, 1) := by decide +kernel
theorem d_Wk_laneBeside_69 : decode m_Wk_laneBeside.2.1 69 = .ok (.goto 6, 3) := by decide +kernel
theorem d_Wk_laneBeside_72 : decode m_Wk_laneBeside.2.1 72 = .ok (.iload_n 3, 1) := by decide +kernel
theorem d_Wk_laneBeside_73 : decode m_Wk_laneBeside.2.1 73 = .ok (.iconst 1, 1) := by decide +kernel
theorem d_Wk_laneBeside_74 : decode m_Wk_laneBeside.2.1 74 = .ok (.iadd, 1) := by decide +kernel
theorem d_Wk_laneBeside_75 : decode m_Wk_laneBeside.2.1 75 = .ok (.istore 5, 2) := by decide +kernel
theorem d_Wk_laneBeside_77 : decode m_Wk_laneBeside.2.1 77 = .ok (.iload 5, 2) := by decide +kernel
theorem d_Wk_laneBeside_79 : decode m_Wk_laneBeside.2.1 79 = .ok (.ifCond .lt 17, 3) := by decide +kernel
theorem d_Wk_laneBeside_82 : decode m_Wk_laneBeside.2.1 82 = .ok (.iload 5, 2) := by decide +kernel
theorem d_Wk_laneBeside_84 : decode m_Wk_laneBeside.2.1 84 = .ok (.aload_n 1, 1) := by decide +kernel
theorem d_Wk_laneBeside_85 : decode m_Wk_laneBeside.2.1 85 = .ok (.getfield 84, 3) := by decide +kernel
theorem d_Wk_laneBeside_88 : decode m_Wk_laneBeside.2.1 88 = .ok (.if_icmp .ge 8, 3) := by decide +kernel
theorem d_Wk_laneBeside_91 : decode m_Wk_laneBeside.2.1 91 = .ok (.iload 5, 2) := by decide +kernel
theorem d_Wk_laneBeside_93 : decode m_Wk_laneBeside.2.1 93 = .ok (.goto 4, 3) := by decide +kernel
theorem d_Wk_laneBeside_96 : decode m_Wk_laneBeside.2.1 96 = .ok (.iconst (-1), 1) := by decide +kernel
theorem d_Wk_laneBeside_97 : decode m_Wk_laneBeside.2.1 97 = .ok (.ireturn, 1) := by decide +kernel
theorem g_Wk_laneBeside_0 {X : XS} (a0 : List Nat) (a1 : List Nat) (a2 : Int32) (a3 : Int32) (h : Hp) (Q : Option AV → Hp → Prop) (w_a0 : IsWk a0) (w_a1 : IsPl a1) (k : (vp_in a2 6 ∧ (((h.1 (9 :: a1) a2.toNatClampNeg) = 1 → Rn X m_Wk_laneBeside 22 [some (vR a0), some (vR a1), some (vI a2), some (vI a3), none, none] [] h Q) ∧ (¬ (h.1 (9 :: a1) a2.toNatClampNeg) = 1 → (vp_in a2 6 ∧ (((h.1 (9 :: a1) a2.toNatClampNeg) = 2 → Rn X m_Wk_laneBeside 22 [some (vR a0), some (vR a1), some (vI a2), some (vI a3), none, none] [] h Q) ∧ (¬ (h.1 (9 :: a1) a2.toNatClampNeg) = 2 → Q (some (vI (-1))) h))))))) : Rn X m_Wk_laneBeside 0 [some (vR a0), some (vR a1), some (vI a2), some (vI a3), none, none] [] h Q := by
  refine Rn.aload_n (n := 1) (i := 1) d_Wk_laneBeside_0 rfl rfl rfl ?_
  refine Rn.getf (n := 4) (v := vR (9 :: a1)) d_Wk_laneBeside_1 rfl fl_Wk_81 w_a1.s rfl ?_
  refine Rn.iload_n (n := 5) (i := 2) d_Wk_laneBeside_4 rfl rfl rfl ?_
  obtain ⟨b1, k⟩ := k
  refine Rn.iald (n := 6) (v := h.1 (9 :: a1) a2.toNatClampNeg) d_Wk_laneBeside_5 rfl w_a1.c9 b1 rfl ?_
  refine Rn.iconst (n := 7) (v := 1) d_Wk_laneBeside_6 rfl (by decide) ?_
  refine Rn.icmp_eq (n := 10) (t := 22) d_Wk_laneBeside_7 rfl (by decide) (fun cc => ?_) (fun cc => ?_)
  · have k := k.1 cc
    exact k
  · have k := k.2 cc
    refine Rn.aload_n (n := 11) (i := 1) d_Wk_laneBeside_10 rfl rfl rfl ?_
    refine Rn.getf (n := 14) (v := vR (9 :: a1)) d_Wk_laneBeside_11 rfl fl_Wk_81 w_a1.s rfl ?_
    refine Rn.iload_n (n := 15) (i := 2) d_Wk_laneBeside_14 rfl rfl rfl ?_
    obtain ⟨b2, k⟩ := k
    refine Rn.iald (n := 16) (v := h.1 (9 :: a1) a2.toNatClampNeg) d_Wk_laneBeside_15 rfl w_a1.c9 b2 rfl ?_
    refine Rn.iconst (n := 17) (v := 2) d_Wk_laneBeside_16 rfl (by decide) ?_
    refine Rn.icmp_eq (n := 20) (t := 22) d_Wk_laneBeside_17 rfl (by decide) (fun cc => ?_) (fun cc => ?_)
    · have k := k.1 cc
      exact k
    · have k := k.2 cc
      refine Rn.iconst (n := 21) (v := (-1)) d_Wk_laneBeside_20 rfl (by decide) ?_
      exact Rn.iret d_Wk_laneBeside_21 rfl rfl k
theorem g_Wk_laneBeside_22 {X : XS} (a0 : List Nat) (a1 : List Nat) (a2 : Int32) (a3 : Int32) (h : Hp) (Q : Option AV → Hp → Prop) (w_a0 : IsWk a0) (w_a1 : IsPl a1) (k : (vp_in a2 6 ∧ ((¬ (h.1 (9 :: a1) a2.toNatClampNeg) = 1 → Rn X m_Wk_laneBeside 37 [some (vR a0), some (vR a1), some (vI a2), some (vI a3), none, none] [vI 0] h Q) ∧ ((h.1 (9 :: a1) a2.toNatClampNeg) = 1 → Rn X m_Wk_laneBeside 37 [some (vR a0), some (vR a1), some (vI a2), some (vI a3), none, none] [vI 1] h Q)))) : Rn X m_Wk_laneBeside 22 [some (vR a0), some (vR a1), some (vI a2), some (vI a3), none, none] [] h Q := by
  refine Rn.aload_n (n := 23) (i := 1) d_Wk_laneBeside_22 rfl rfl rfl ?_
  refine Rn.getf (n := 26) (v := vR (9 :: a1)) d_Wk_laneBeside_23 rfl fl_Wk_81 w_a1.s rfl ?_
  refine Rn.iload_n (n := 27) (i := 2) d_Wk_laneBeside_26 rfl rfl rfl ?_
  obtain ⟨b1, k⟩ := k
  refine Rn.iald (n := 28) (v := h.1 (9 :: a1) a2.toNatClampNeg) d_Wk_laneBeside_27 rfl w_a1.c9 b1 rfl ?_
  refine Rn.iconst (n := 29) (v := 1) d_Wk_laneBeside_28 rfl (by decide) ?_
  refine Rn.icmp_ne (n := 32) (t := 36) d_Wk_laneBeside_29 rfl (by decide) (fun cc => ?_) (fun cc => ?_)
  · have k := k.1 cc
    refine Rn.iconst (n := 37) (v := 0) d_Wk_laneBeside_36 rfl (by decide) ?_
    exact k
  · have k := k.2 cc
    refine Rn.iconst (n := 33) (v := 1) d_Wk_laneBeside_32 rfl (by decide) ?_
    refine Rn.goto (n := 37) d_Wk_laneBeside_33 (by decide) ?_
    exact k
theorem g_Wk_laneBeside_37 {X : XS} (a0 : List Nat) (a1 : List Nat) (a2 : Int32) (a3 : Int32) (s0 : Int32) (h : Hp) (Q : Option AV → Hp → Prop) (w_a0 : IsWk a0) (w_a1 : IsPl a1) (k : (vp_in a2 6 ∧ ((¬ (h.1 (5 :: a1) a2.toNatClampNeg) = 0 → Rn X m_Wk_laneBeside 51 [some (vR a0), some (vR a1), some (vI a2), some (vI a3), none, none] [vI 0, vI s0] h Q) ∧ ((h.1 (5 :: a1) a2.toNatClampNeg) = 0 → Rn X m_Wk_laneBeside 51 [some (vR a0), some (vR a1), some (vI a2), some (vI a3), none, none] [vI 1, vI s0] h Q)))) : Rn X m_Wk_laneBeside 37 [some (vR a0), some (vR a1), some (vI a2), some (vI a3), none, none] [vI s0] h Q := by
  refine Rn.aload_n (n := 38) (i := 1) d_Wk_laneBeside_37 rfl rfl rfl ?_
  refine Rn.getf (n := 41) (v := vR (5 :: a1)) d_Wk_laneBeside_38 rfl fl_Wk_67 w_a1.s rfl ?_
  refine Rn.iload_n (n := 42) (i := 2) d_Wk_laneBeside_41 rfl rfl rfl ?_
  obtain ⟨b1, k⟩ := k
  refine Rn.iald (n := 43) (v := h.1 (5 :: a1) a2.toNatClampNeg) d_Wk_laneBeside_42 rfl w_a1.c5 b1 rfl ?_
  refine Rn.if_ne (n := 46) (t := 50) d_Wk_laneBeside_43 rfl (by decide) (fun cc => ?_) (fun cc => ?_)
  · have k := k.1 cc
    refine Rn.iconst (n := 51) (v := 0) d_Wk_laneBeside_50 rfl (by decide) ?_
    exact k
  · have k := k.2 cc
    refine Rn.iconst (n := 47) (v := 1) d_Wk_laneBeside_46 rfl (by decide) ?_
    refine Rn.goto (n := 51) d_Wk_laneBeside_47 (by decide) ?_
    exact k
theorem g_Wk_laneBeside_51 {X : XS} (a0 : List Nat) (a1 : List Nat) (a2 : Int32) (a3 : Int32) (s0 : Int32) (s1 : Int32) (h : Hp) (Q : Option AV → Hp → Prop) (w_a0 : IsWk a0) (w_a1 : IsPl a1) (k : ((¬ s1 = s0 → Rn X m_Wk_laneBeside 59 [some (vR a0), some (vR a1), some (vI a2), some (vI a3), none, none] [vI 0] h Q) ∧ (s1 = s0 → Rn X m_Wk_laneBeside 59 [some (vR a0), some (vR a1), some (vI a2), some (vI a3), none, none] [vI 1] h Q))) : Rn X m_Wk_laneBeside 51 [some (vR a0), some (vR a1), some (vI a2), some (vI a3), none, none] [vI s0, vI s1] h Q := by
  refine Rn.icmp_ne (n := 54) (t := 58) d_Wk_laneBeside_51 rfl (by decide) (fun cc => ?_) (fun cc => ?_)
  · have k := k.1 cc
    refine Rn.iconst (n := 59) (v := 0) d_Wk_laneBeside_58 rfl (by decide) ?_
    exact k
  · have k := k.2 cc
    refine Rn.iconst (n := 55) (v := 1) d_Wk_laneBeside_54 rfl (by decide) ?_
    refine Rn.goto (n := 59) d_Wk_laneBeside_55 (by decide) ?_
    exact k
theorem g_Wk_laneBeside_59 {X : XS} (a0 : List Nat) (a1 : List Nat) (a2 : Int32) (a3 : Int32) (s0 : Int32) (h : Hp) (Q : Option AV → Hp → Prop) (w_a0 : IsWk a0) (w_a1 : IsPl a1) (k : ((s0 = 0 → Rn X m_Wk_laneBeside 75 [some (vR a0), some (vR a1), some (vI a2), some (vI a3), some (vI s0), none] [vI (a3 + 1)] h Q) ∧ (¬ s0 = 0 → Rn X m_Wk_laneBeside 75 [some (vR a0), some (vR a1), some (vI a2), some (vI a3), some (vI s0), none] [vI (a3 - 1)] h Q))) : Rn X m_Wk_laneBeside 59 [some (vR a0), some (vR a1), some (vI a2), some (vI a3), none, none] [vI s0] h Q := by
  refine Rn.istore (n := 61) (i := 4) (ls2 := [some (vR a0), some (vR a1), some (vI a2), some (vI a3), some (vI s0), none]) d_Wk_laneBeside_59 rfl (Nat.le_of_ble_eq_true rfl) rfl ?_
  refine Rn.iload (n := 63) (i := 4) d_Wk_laneBeside_61 rfl rfl ?_
  refine Rn.if_eq (n := 66) (t := 72) d_Wk_laneBeside_63 rfl (by decide) (fun cc => ?_) (fun cc => ?_)
  · have k := k.1 cc
    refine Rn.iload_n (n := 73) (i := 3) d_Wk_laneBeside_72 rfl rfl rfl ?_
    refine Rn.iconst (n := 74) (v := 1) d_Wk_laneBeside_73 rfl (by decide) ?_
    refine Rn.iadd (n := 75) d_Wk_laneBeside_74 rfl ?_
    exact k
  · have k := k.2 cc
    refine Rn.iload_n (n := 67) (i := 3) d_Wk_laneBeside_66 rfl rfl rfl ?_
    refine Rn.iconst (n := 68) (v := 1) d_Wk_laneBeside_67 rfl (by decide) ?_
    refine Rn.isub (n := 69) d_Wk_laneBeside_68 rfl ?_
    refine Rn.goto (n := 75) d_Wk_laneBeside_69 (by decide) ?_
    exact k
theorem g_Wk_laneBeside_75 {X : XS} (a0 : List Nat) (a1 : List Nat) (a2 : Int32) (a3 : Int32) (a4 : Int32) (s0 : Int32) (h : Hp) (Q : Option AV → Hp → Prop) (w_a0 : IsWk a0) (w_a1 : IsPl a1) (k : ((s0 < 0 → Q (some (vI (-1))) h) ∧ (¬ s0 < 0 → (((h.1 a1 0) ≤ s0 → Q (some (vI (-1))) h) ∧ (¬ (h.1 a1 0) ≤ s0 → Q (some (vI s0)) h))))) : Rn X m_Wk_laneBeside 75 [some (vR a0), some (vR a1), some (vI a2), some (vI a3), some (vI a4), none] [vI s0] h Q := by
  refine Rn.istore (n := 77) (i := 5) (ls2 := [some (vR a0), some (vR a1), some (vI a2), some (vI a3), some (vI a4), some (vI s0)]) d_Wk_laneBeside_75 rfl (Nat.le_of_ble_eq_true rfl) rfl ?_
  refine Rn.iload (n := 79) (i := 5) d_Wk_laneBeside_77 rfl rfl ?_
  refine Rn.if_lt (n := 82) (t := 96) d_Wk_laneBeside_79 rfl (by decide) (fun cc => ?_) (fun cc => ?_)
  · have k := k.1 cc
    refine Rn.iconst (n := 97) (v := (-1)) d_Wk_laneBeside_96 rfl (by decide) ?_
    exact Rn.iret d_Wk_laneBeside_97 rfl rfl k
  · have k := k.2 cc
    refine Rn.iload (n := 84) (i := 5) d_Wk_laneBeside_82 rfl rfl ?_
    refine Rn.aload_n (n := 85) (i := 1) d_Wk_laneBeside_84 rfl rfl rfl ?_
    refine Rn.getf (n := 88) (v := vI (h.1 a1 0)) d_Wk_laneBeside_85 rfl fl_Wk_84 w_a1.s rfl ?_
    refine Rn.icmp_ge (n := 91) (t := 96) d_Wk_laneBeside_88 rfl (by decide) (fun cc => ?_) (fun cc => ?_)
    · have k := k.1 cc
      refine Rn.iconst (n := 97) (v := (-1)) d_Wk_laneBeside_96 rfl (by decide) ?_
      exact Rn.iret d_Wk_laneBeside_97 rfl rfl k
    · have k := k.2 cc
      refine Rn.iload (n := 93) (i := 5) d_Wk_laneBeside_91 rfl rfl ?_
      refine Rn.goto (n := 97) d_Wk_laneBeside_93 (by decide) ?_
      exact Rn.iret d_Wk_laneBeside_97 rfl rfl k
theorem e_Wk_laneBeside {X : XS} (a0 : List Nat) (a1 : List Nat) (a2 : Int32) (a3 : Int32) (h : Hp) (Q : Option AV → Hp → Prop) (k : Rn X m_Wk_laneBeside 0 [some (vR a0), some (vR a1), some (vI a2), some (vI a3), none, none] [] h Q) : Ev X m_Wk_laneBeside [vR a0, vR a1, vI a2, vI a3] h Q := Ev.intro (by decide +kernel) (Nat.le_of_ble_eq_true rfl) (ls := [some (vR a0), some (vR a1), some (vI a2), some (vI a3), none, none]) rfl k
theorem d_Wk_come_0 : decode m_Wk_come.2.1 0 = .ok (.aload_n 1, 1) := by decide +kernel
theorem d_Wk_come_1 : decode m_Wk_come.2.1 1 = .ok (.getfield 67, 3) := by decide +kernel
theorem d_Wk_come_4 : decode m_Wk_come.2.1 4 = .ok (.iload_n 2, 1) := by decide +kernel
theorem d_Wk_come_5 : decode m_Wk_come.2.1 5 = .ok (.iaload, 1) := by decide +kernel
theorem d_Wk_come_6 : decode m_Wk_come.2.1 6 = .ok (.ifCond .ne 7, 3) := by decide +kernel
theorem d_Wk_come_9 : decode m_Wk_come.2.1 9 = .ok (.iconst 0, 1) := by decide +kernel
theorem d_Wk_come_10 : decode m_Wk_come.2.1 10 = .ok (.goto 9, 3) := by decide +kernel
theorem d_Wk_come_13 : decode m_Wk_come.2.1 13 = .ok (.aload_n 1, 1) := by decide +kernel
theorem d_Wk_come_14 : decode m_Wk_come.2.1 14 = .ok (.getfield 74, 3) := by decide +kernel
theorem d_Wk_come_17 : decode m_Wk_come.2.1 17 = .ok (.iconst 1, 1) := by decide +kernel
theorem d_Wk_come_18 : decode m_Wk_come.2.1 18 = .ok (.isub, 1) := by decide +kernel
theorem d_Wk_come_19 : decode m_Wk_come.2.1 19 = .ok (.istore_n 3, 1) := by decide +kernel
theorem d_Wk_come_20 : decode m_Wk_come.2.1 20 = .ok (.iconst 4, 1) := by decide +kernel
theorem d_Wk_come_21 : decode m_Wk_come.2.1 21 = .ok (.iload_n 3, 1) := by decide +kernel
theorem d_Wk_come_22 : decode m_Wk_come.2.1 22 = .ok (.imul, 1) := by decide +kernel
theorem d_Wk_come_23 : decode m_Wk_come.2.1 23 = .ok (.aload_n 1, 1) := by decide +kernel
theorem d_Wk_come_24 : decode m_Wk_come.2.1 24 = .ok (.getfield 87, 3) := by decide +kernel
theorem d_Wk_come_27 : decode m_Wk_come.2.1 27 = .ok (.iload_n 2, 1) := by decide +kernel
theorem d_Wk_come_28 : decode m_Wk_come.2.1 28 = .ok (.iaload, 1) := by decide +kernel
theorem d_Wk_come_29 : decode m_Wk_come.2.1 29 = .ok (.iadd, 1) := by decide +kernel
theorem d_Wk_come_30 : decode m_Wk_come.2.1 30 = .ok (.istore 4, 2) := by decide +kernel
theorem d_Wk_come_32 : decode m_Wk_come.2.1 32 = .ok (.aload_n 0, 1) := by decide +kernel
theorem d_Wk_come_33 : decode m_Wk_come.2.1 33 = .ok (.iload 4, 2) := by decide +kernel
theorem d_Wk_come_35 : decode m_Wk_come.2.1 35 = .ok (.invokevirtual 77, 3) := by decide +kernel
theorem d_Wk_come_38 : decode m_Wk_come.2.1 38 = .ok (.iconst (-1), 1) := by decide +kernel
theorem d_Wk_come_39 : decode m_Wk_come.2.1 39 = .ok (.if_icmp .ne 11, 3) := by decide +kernel
theorem d_Wk_come_42 : decode m_Wk_come.2.1 42 = .ok (.aload_n 0, 1) := by decide +kernel
theorem d_Wk_come_43 : decode m_Wk_come.2.1 43 = .ok (.getfield 9, 3) := by decide +kernel
theorem d_Wk_come_46 : decode m_Wk_come.2.1 46 = .ok (.iload_n 2, 1) := by decide +kernel
theorem d_Wk_come_47 : decode m_Wk_come.2.1 47 = .ok (.iload 4, 2) := by decide +kernel
theorem d_Wk_come_49 : decode m_Wk_come.2.1 49 = .ok (.iastore, 1) := by decide +kernel
theorem d_Wk_come_50 : decode m_Wk_come.2.1 50 = .ok (.return_, 1) := by decide +kernel
theorem g_Wk_come_0 {X : XS} (a0 : List Nat) (a1 : List Nat) (a2 : Int32) (h : Hp) (Q : Option AV → Hp → Prop) (w_a0 : IsWk a0) (w_a1 : IsPl a1) (k : (vp_in a2 6 ∧ ((¬ (h.1 (5 :: a1) a2.toNatClampNeg) = 0 → Rn X m_Wk_come 19 [some (vR a0), some (vR a1), some (vI a2), none, none] [vI ((h.1 a1 1) - 1)] h Q) ∧ ((h.1 (5 :: a1) a2.toNatClampNeg) = 0 → Rn X m_Wk_come 19 [some (vR a0), some (vR a1), some (vI a2), none, none] [vI 0] h Q)))) : Rn X m_Wk_come 0 [some (vR a0), some (vR a1), some (vI a2), none, none] [] h Q := by
  refine Rn.aload_n (n := 1) (i := 1) d_Wk_come_0 rfl rfl rfl ?_
  refine Rn.getf (n := 4) (v := vR (5 :: a1)) d_Wk_come_1 rfl fl_Wk_67 w_a1.s rfl ?_
  refine Rn.iload_n (n := 5) (i := 2) d_Wk_come_4 rfl rfl rfl ?_
  obtain ⟨b1, k⟩ := k
  refine Rn.iald (n := 6) (v := h.1 (5 :: a1) a2.toNatClampNeg) d_Wk_come_5 rfl w_a1.c5 b1 rfl ?_
  refine Rn.if_ne (n := 9) (t := 13) d_Wk_come_6 rfl (by decide) (fun cc => ?_) (fun cc => ?_)
  · have k := k.1 cc
    refine Rn.aload_n (n := 14) (i := 1) d_Wk_come_13 rfl rfl rfl ?_
    refine Rn.getf (n := 17) (v := vI (h.1 a1 1)) d_Wk_come_14 rfl fl_Wk_74 w_a1.s rfl ?_
    refine Rn.iconst (n := 18) (v := 1) d_Wk_come_17 rfl (by decide) ?_
    refine Rn.isub (n := 19) d_Wk_come_18 rfl ?_
    exact k
  · have k := k.2 cc
    refine Rn.iconst (n := 10) (v := 0) d_Wk_come_9 rfl (by decide) ?_
    refine Rn.goto (n := 19) d_Wk_come_10 (by decide) ?_
    exact k
theorem g_Wk_come_19 {X : XS} (a0 : List Nat) (a1 : List Nat) (a2 : Int32) (s0 : Int32) (h : Hp) (Q : Option AV → Hp → Prop) (w_a0 : IsWk a0) (w_a1 : IsPl a1) (k : (vp_in a2 6 ∧ (∃ Q'5, EvI X m_Wk_whoIsAt [vR a0, vI ((4 * s0) + (h.1 (4 :: a1) a2.toNatClampNeg))] h Q'5 ∧ ∀ (r6 : Int32) (h4 : Hp), Q'5 r6 h4 → ((¬ r6 = (-1) → Q none h4) ∧ (r6 = (-1) → (vp_in a2 6 ∧ Q none (hsI h4 (3 :: a0) a2.toNatClampNeg ((4 * s0) + (h.1 (4 :: a1) a2.toNatClampNeg))))))))) : Rn X m_Wk_come 19 [some (vR a0), some (vR a1), some (vI a2), none, none] [vI s0] h Q := by
  refine Rn.istore_n (n := 20) (i := 3) (ls2 := [some (vR a0), some (vR a1), some (vI a2), some (vI s0), none]) d_Wk_come_19 rfl rfl (Nat.le_of_ble_eq_true rfl) rfl ?_
  refine Rn.iconst (n := 21) (v := 4) d_Wk_come_20 rfl (by decide) ?_
  refine Rn.iload_n (n := 22) (i := 3) d_Wk_come_21 rfl rfl rfl ?_
  refine Rn.imul (n := 23) d_Wk_come_22 rfl ?_
  refine Rn.aload_n (n := 24) (i := 1) d_Wk_come_23 rfl rfl rfl ?_
  refine Rn.getf (n := 27) (v := vR (4 :: a1)) d_Wk_come_24 rfl fl_Wk_87 w_a1.s rfl ?_
  refine Rn.iload_n (n := 28) (i := 2) d_Wk_come_27 rfl rfl rfl ?_
  obtain ⟨b1, k⟩ := k
  refine Rn.iald (n := 29) (v := h.1 (4 :: a1) a2.toNatClampNeg) d_Wk_come_28 rfl w_a1.c4 b1 rfl ?_
  refine Rn.iadd (n := 30) d_Wk_come_29 rfl ?_
  refine Rn.istore (n := 32) (i := 4) (ls2 := [some (vR a0), some (vR a1), some (vI a2), some (vI s0), some (vI ((4 * s0) + (h.1 (4 :: a1) a2.toNatClampNeg)))]) d_Wk_come_30 rfl (Nat.le_of_ble_eq_true rfl) rfl ?_
  refine Rn.aload_n (n := 33) (i := 0) d_Wk_come_32 rfl rfl rfl ?_
  refine Rn.iload (n := 35) (i := 4) d_Wk_come_33 rfl rfl ?_
  obtain ⟨Q'5, ev2, k⟩ := k
  refine Rn.callV (n := 38) (av := [vI ((4 * s0) + (h.1 (4 :: a1) a2.toNatClampNeg))]) d_Wk_come_35 rfl ml_Wk_come_77 mi_Wk_whoIsAt w_a0.s rfl rfl rfl rfl (Nat.le_of_ble_eq_true rfl) ev2 (fun v h4 hq => ?_)
  obtain ⟨r6, rfl, hq⟩ := hq
  have k := k r6 h4 hq
  show Rn X m_Wk_come 38 [some (vR a0), some (vR a1), some (vI a2), some (vI s0), some (vI ((4 * s0) + (h.1 (4 :: a1) a2.toNatClampNeg)))] [vI r6] h4 Q
  refine Rn.iconst (n := 39) (v := (-1)) d_Wk_come_38 rfl (by decide) ?_
  refine Rn.icmp_ne (n := 42) (t := 50) d_Wk_come_39 rfl (by decide) (fun cc => ?_) (fun cc => ?_)
  · have k := k.1 cc
    exact Rn.vret d_Wk_come_50 rfl k
  · have k := k.2 cc
    refine Rn.aload_n (n := 43) (i := 0) d_Wk_come_42 rfl rfl rfl ?_
    refine Rn.getf (n := 46) (v := vR (3 :: a0)) d_Wk_come_43 rfl fl_Wk_9 w_a0.s rfl ?_
    refine Rn.iload_n (n := 47) (i := 2) d_Wk_come_46 rfl rfl rfl ?_
    refine Rn.iload (n := 49) (i := 4) d_Wk_come_47 rfl rfl ?_
    obtain ⟨b7, k⟩ := k
    refine Rn.iast (n := 50) d_Wk_come_49 rfl w_a0.c3 b7 ?_
    exact Rn.vret d_Wk_come_50 rfl k
theorem e_Wk_come {X : XS} (a0 : List Nat) (a1 : List Nat) (a2 : Int32) (h : Hp) (Q : Option AV → Hp → Prop) (k : Rn X m_Wk_come 0 [some (vR a0), some (vR a1), some (vI a2), none, none] [] h Q) : Ev X m_Wk_come [vR a0, vR a1, vI a2] h Q := Ev.intro (by decide +kernel) (Nat.le_of_ble_eq_true rfl) (ls := [some (vR a0), some (vR a1), some (vI a2), none, none]) rfl k
theorem d_Wk_poke_0 : decode m_Wk_poke.2.1 0 = .ok (.iconst 0, 1) := by decide +kernel
theorem d_Wk_poke_1 : decode m_Wk_poke.2.1 1 = .ok (.istore_n 2, 1) := by decide +kernel
theorem d_Wk_poke_2 : decode m_Wk_poke.2.1 2 = .ok (.iload_n 2, 1) := by decide +kernel
theorem d_Wk_poke_3 : decode m_Wk_poke.2.1 3 = .ok (.bipush 6, 2) := by decide +kernel
theorem d_Wk_poke_5 : decode m_Wk_poke.2.1 5 = .ok (.if_icmp .ge 78, 3) := by decide +kernel
theorem d_Wk_poke_8 : decode m_Wk_poke.2.1 8 = .ok (.iconst 0, 1) := by decide +kernel
theorem d_Wk_poke_9 : decode m_Wk_poke.2.1 9 = .ok (.istore_n 3, 1) := by decide +kernel
theorem d_Wk_poke_10 : decode m_Wk_poke.2.1 10 = .ok (.iload_n 3, 1) := by decide +kernel
theorem d_Wk_poke_11 : decode m_Wk_poke.2.1 11 = .ok (.iload_n 2, 1) := by decide +kernel
theorem d_Wk_poke_12 : decode m_Wk_poke.2.1 12 = .ok (.if_icmp .ge 65, 3) := by decide +kernel
theorem d_Wk_poke_15 : decode m_Wk_poke.2.1 15 = .ok (.aload_n 0, 1) := by decide +kernel
theorem d_Wk_poke_16 : decode m_Wk_poke.2.1 16 = .ok (.iload_n 3, 1) := by decide +kernel
theorem d_Wk_poke_17 : decode m_Wk_poke.2.1 17 = .ok (.invokevirtual 41, 3) := by decide +kernel
theorem d_Wk_poke_20 : decode m_Wk_poke.2.1 20 = .ok (.ifCond .eq 51, 3) := by decide +kernel
theorem d_Wk_poke_23 : decode m_Wk_poke.2.1 23 = .ok (.aload_n 0, 1) := by decide +kernel
theorem d_Wk_poke_24 : decode m_Wk_poke.2.1 24 = .ok (.iload_n 2, 1) := by decide +kernel
theorem d_Wk_poke_25 : decode m_Wk_poke.2.1 25 = .ok (.invokevirtual 41, 3) := by decide +kernel
theorem d_Wk_poke_28 : decode m_Wk_poke.2.1 28 = .ok (.ifCond .eq 43, 3) := by decide +kernel
theorem d_Wk_poke_31 : decode m_Wk_poke.2.1 31 = .ok (.aload_n 0, 1) := by decide +kernel
theorem d_Wk_poke_32 : decode m_Wk_poke.2.1 32 = .ok (.aload_n 1, 1) := by decide +kernel
theorem d_Wk_poke_33 : decode m_Wk_poke.2.1 33 = .ok (.iload_n 3, 1) := by decide +kernel
theorem d_Wk_poke_34 : decode m_Wk_poke.2.1 34 = .ok (.iload_n 2, 1) := by decide +kernel
theorem d_Wk_poke_35 : decode m_Wk_poke.2.1 35 = .ok (.invokevirtual 90, 3) := by decide +kernel
theorem d_Wk_poke_38 : decode m_Wk_poke.2.1 38 = .ok (.ifCond .eq 33, 3) := by decide +kernel
theorem d_Wk_poke_41 : decode m_Wk_poke.2.1 41 = .ok (.aload_n 0, 1) := by decide +kernel
theorem d_Wk_poke_42 : decode m_Wk_poke.2.1 42 = .ok (.getfield 22, 3) := by decide +kernel
theorem d_Wk_poke_45 : decode m_Wk_poke.2.1 45 = .ok (.iload_n 3, 1) := by decide +kernel
theorem d_Wk_poke_46 : decode m_Wk_poke.2.1 46 = .ok (.dup2, 1) := by decide +kernel
theorem d_Wk_poke_47 : decode m_Wk_poke.2.1 47 = .ok (.iaload, 1) := by decide +kernel
theorem d_Wk_poke_48 : decode m_Wk_poke.2.1 48 = .ok (.iconst 1, 1) := by decide +kernel
theorem d_Wk_poke_49 : decode m_Wk_poke.2.1 49 = .ok (.iadd, 1) := by decide +kernel
theorem d_Wk_poke_50 : decode m_Wk_poke.2.1 50 = .ok (.iastore, 1) := by decide +kernel
theorem d_Wk_poke_51 : decode m_Wk_poke.2.1 51 = .ok (.aload_n 0, 1) := by decide +kernel
theorem d_Wk_poke_52 : decode m_Wk_poke.2.1 52 = .ok (.getfield 22, 3) := by decide +kernel
theorem d_Wk_poke_55 : decode m_Wk_poke.2.1 55 = .ok (.iload_n 2, 1) := by decide +kernel
theorem d_Wk_poke_56 : decode m_Wk_poke.2.1 56 = .ok (.dup2, 1) := by decide +kernel
theorem d_Wk_poke_57 : decode m_Wk_poke.2.1 57 = .ok (.iaload, 1) := by decide +kernel
theorem d_Wk_poke_58 : decode m_Wk_poke.2.1 58 = .ok (.iconst 1, 1) := by decide +kernel
theorem d_Wk_poke_59 : decode m_Wk_poke.2.1 59 = .ok (.iadd, 1) := by decide +kernel
theorem d_Wk_poke_60 : decode m_Wk_poke.2.1 60 = .ok (.iastore, 1) := by decide +kernel
theorem d_Wk_poke_61 : decode m_Wk_poke.2.1 61 = .ok (.aload_n 0, 1) := by decide +kernel
theorem d_Wk_poke_62 : decode m_Wk_poke.2.1 62 = .ok (.dup, 1) := by decide +kernel
theorem d_Wk_poke_63 : decode m_Wk_poke.2.1 63 = .ok (.getfield 38, 3) := by decide +kernel
theorem d_Wk_poke_66 : decode m_Wk_poke.2.1 66 = .ok (.iconst 1, 1) := by decide +kernel
theorem d_Wk_poke_67 : decode m_Wk_poke.2.1 67 = .ok (.iadd, 1) := by decide +kernel
theorem d_Wk_poke_68 : decode m_Wk_poke.2.1 68 = .ok (.putfield 38, 3) := by decide +kernel
theorem d_Wk_poke_71 : decode m_Wk_poke.2.1 71 = .ok (.iinc 3 1, 3) := by decide +kernel
theorem d_Wk_poke_74 : decode m_Wk_poke.2.1 74 = .ok (.goto (-64), 3) := by decide +kernel
theorem d_Wk_poke_77 : decode m_Wk_poke.2.1 77 = .ok (.iinc 2 1, 3) := by decide +kernel
theorem d_Wk_poke_80 : decode m_Wk_poke.2.1 80 = .ok (.goto (-78), 3) := by decide +kernel
theorem d_Wk_poke_83 : decode m_Wk_poke.2.1 83 = .ok (.return_, 1) := by decide +kernel
theorem g_Wk_poke_0 {X : XS} (a0 : List Nat) (a1 : List Nat) (h : Hp) (Q : Option AV → Hp → Prop) (w_a0 : IsWk a0) (w_a1 : IsPl a1) (k : Rn X m_Wk_poke 2 [some (vR a0), some (vR a1), some (vI 0), none] [] h Q) : Rn X m_Wk_poke 0 [some (vR a0), some (vR a1), none, none] [] h Q := by
  refine Rn.iconst (n := 1) (v := 0) d_Wk_poke_0 rfl (by decide) ?_
  refine Rn.istore_n (n := 2) (i := 2) (ls2 := [some (vR a0), some (vR a1), some (vI 0), none]) d_Wk_poke_1 rfl rfl (Nat.le_of_ble_eq_true rfl) rfl ?_
  exact k
theorem g_Wk_poke_2 {X : XS} (a0 : List Nat) (a1 : List Nat) (a2 : Int32) (h : Hp) (Q : Option AV → Hp → Prop) (w_a0 : IsWk a0) (w_a1 : IsPl a1) (k : ((6 ≤ a2 → Q none h) ∧ (¬ 6 ≤ a2 → Rn X m_Wk_poke 10 [some (vR a0), some (vR a1), some (vI a2), some (vI 0)] [] h Q))) : Rn X m_Wk_poke 2 [some (vR a0), some (vR a1), some (vI a2), none] [] h Q := by
  refine Rn.iload_n (n := 3) (i := 2) d_Wk_poke_2 rfl rfl rfl ?_
  refine Rn.bipush (n := 5) (v := 6) d_Wk_poke_3 rfl (by decide) ?_
  refine Rn.icmp_ge (n := 8) (t := 83) d_Wk_poke_5 rfl (by decide) (fun cc => ?_) (fun cc => ?_)
  · have k := k.1 cc
    exact Rn.vret d_Wk_poke_83 rfl k
  · have k := k.2 cc
    refine Rn.iconst (n := 9) (v := 0) d_Wk_poke_8 rfl (by decide) ?_
    refine Rn.istore_n (n := 10) (i := 3) (ls2 := [some (vR a0), some (vR a1), some (vI a2), some (vI 0)]) d_Wk_poke_9 rfl rfl (Nat.le_of_ble_eq_true rfl) rfl ?_
    exact k
theorem g_Wk_poke_10 {X : XS} (a0 : List Nat) (a1 : List Nat) (a2 : Int32) (a3 : Int32) (h : Hp) (Q : Option AV → Hp → Prop) (w_a0 : IsWk a0) (w_a1 : IsPl a1) (k : ((a2 ≤ a3 → Rn X m_Wk_poke 2 [some (vR a0), some (vR a1), some (vI (a2 + 1)), none] [] h Q) ∧ (¬ a2 ≤ a3 → (∃ Q'4, EvI X m_Wk_isOn [vR a0, vI a3] h Q'4 ∧ ∀ (r5 : Int32) (h3 : Hp), Q'4 r5 h3 → ((r5 = 0 → Rn X m_Wk_poke 10 [some (vR a0), some (vR a1), some (vI a2), some (vI (a3 + 1))] [] h3 Q) ∧ (¬ r5 = 0 → (∃ Q'9, EvI X m_Wk_isOn [vR a0, vI a2] h3 Q'9 ∧ ∀ (r10 : Int32) (h8 : Hp), Q'9 r10 h8 → ((r10 = 0 → Rn X m_Wk_poke 10 [some (vR a0), some (vR a1), some (vI a2), some (vI (a3 + 1))] [] h8 Q) ∧ (¬ r10 = 0 → (∃ Q'14, EvI X m_Wk_isPoking [vR a0, vR a1, vI a3, vI a2] h8 Q'14 ∧ ∀ (r15 : Int32) (h13 : Hp), Q'14 r15 h13 → ((r15 = 0 → Rn X m_Wk_poke 10 [some (vR a0), some (vR a1), some (vI a2), some (vI (a3 + 1))] [] h13 Q) ∧ (¬ r15 = 0 → (vp_in a3 6 ∧ (vp_in a3 6 ∧ (vp_in a2 6 ∧ (vp_in a2 6 ∧ Rn X m_Wk_poke 10 [some (vR a0), some (vR a1), some (vI a2), some (vI (a3 + 1))] [] (hsI (hsI (hsI h13 (6 :: a0) a3.toNatClampNeg ((h13.1 (6 :: a0) a3.toNatClampNeg) + 1)) (6 :: a0) a2.toNatClampNeg (((hsI h13 (6 :: a0) a3.toNatClampNeg ((h13.1 (6 :: a0) a3.toNatClampNeg) + 1)).1 (6 :: a0) a2.toNatClampNeg) + 1)) a0 2 (((hsI (hsI h13 (6 :: a0) a3.toNatClampNeg ((h13.1 (6 :: a0) a3.toNatClampNeg) + 1)) (6 :: a0) a2.toNatClampNeg (((hsI h13 (6 :: a0) a3.toNatClampNeg ((h13.1 (6 :: a0) a3.toNatClampNeg) + 1)).1 (6 :: a0) a2.toNatClampNeg) + 1)).1 a0 2) + 1)) Q)))))))))))))))) : Rn X m_Wk_poke 10 [some (vR a0), some (vR a1), some (vI a2), some (vI a3)] [] h Q := by
  refine Rn.iload_n (n := 11) (i := 3) d_Wk_poke_10 rfl rfl rfl ?_
  refine Rn.iload_n (n := 12) (i := 2) d_Wk_poke_11 rfl rfl rfl ?_
  refine Rn.icmp_ge (n := 15) (t := 77) d_Wk_poke_12 rfl (by decide) (fun cc => ?_) (fun cc => ?_)
  · have k := k.1 cc
    refine Rn.iinc (n := 80) (i := 2) (v := a2 + 1) (ls2 := [some (vR a0), some (vR a1), some (vI (a2 + 1)), some (vI a3)]) d_Wk_poke_77 rfl rfl rfl (Nat.le_of_ble_eq_true rfl) rfl ?_
    refine Rn.goto (n := 2) d_Wk_poke_80 (by decide) ?_
    exact Rn.loc [some (vR a0), some (vR a1), some (vI (a2 + 1)), none] (LLe_ok ⟨rfl, ⟨rfl, ⟨rfl, trivial⟩⟩⟩) k
  · have k := k.2 cc
    refine Rn.aload_n (n := 16) (i := 0) d_Wk_poke_15 rfl rfl rfl ?_
    refine Rn.iload_n (n := 17) (i := 3) d_Wk_poke_16 rfl rfl rfl ?_
    obtain ⟨Q'4, ev1, k⟩ := k
    refine Rn.callV (n := 20) (av := [vI a3]) d_Wk_poke_17 rfl ml_Wk_poke_41 mi_Wk_isOn w_a0.s rfl rfl rfl rfl (Nat.le_of_ble_eq_true rfl) ev1 (fun v h3 hq => ?_)
    obtain ⟨r5, rfl, hq⟩ := hq
    have k := k r5 h3 hq
    show Rn X m_Wk_poke 20 [some (vR a0), some (vR a1), some (vI a2), some (vI a3)] [vI r5] h3 Q
    refine Rn.if_eq (n := 23) (t := 71) d_Wk_poke_20 rfl (by decide) (fun cc => ?_) (fun cc => ?_)
    · have k := k.1 cc
      refine Rn.iinc (n := 74) (i := 3) (v := a3 + 1) (ls2 := [some (vR a0), some (vR a1), some (vI a2), some (vI (a3 + 1))]) d_Wk_poke_71 rfl rfl rfl (Nat.le_of_ble_eq_true rfl) rfl ?_
      refine Rn.goto (n := 10) d_Wk_poke_74 (by decide) ?_
      exact k
    · have k := k.2 cc
      refine Rn.aload_n (n := 24) (i := 0) d_Wk_poke_23 rfl rfl rfl ?_
      refine Rn.iload_n (n := 25) (i := 2) d_Wk_poke_24 rfl rfl rfl ?_
      obtain ⟨Q'9, ev6, k⟩ := k
      refine Rn.callV (n := 28) (av := [vI a2]) d_Wk_poke_25 rfl ml_Wk_poke_41 mi_Wk_isOn w_a0.s rfl rfl rfl rfl (Nat.le_of_ble_eq_true rfl) ev6 (fun v h8 hq => ?_)
      obtain ⟨r10, rfl, hq⟩ := hq
      have k := k r10 h8 hq
      show Rn X m_Wk_poke 28 [some (vR a0), some (vR a1), some (vI a2), some (vI a3)] [vI r10] h8 Q
      refine Rn.if_eq (n := 31) (t := 71) d_Wk_poke_28 rfl (by decide) (fun cc => ?_) (fun cc => ?_)
      · have k := k.1 cc
        refine Rn.iinc (n := 74) (i := 3) (v := a3 + 1) (ls2 := [some (vR a0), some (vR a1), some (vI a2), some (vI (a3 + 1))]) d_Wk_poke_71 rfl rfl rfl (Nat.le_of_ble_eq_true rfl) rfl ?_
        refine Rn.goto (n := 10) d_Wk_poke_74 (by decide) ?_
        exact k
      · have k := k.2 cc
        refine Rn.aload_n (n := 32) (i := 0) d_Wk_poke_31 rfl rfl rfl ?_
        refine Rn.aload_n (n := 33) (i := 1) d_Wk_poke_32 rfl rfl rfl ?_
        refine Rn.iload_n (n := 34) (i := 3) d_Wk_poke_33 rfl rfl rfl ?_
        refine Rn.iload_n (n := 35) (i := 2) d_Wk_poke_34 rfl rfl rfl ?_
        obtain ⟨Q'14, ev11, k⟩ := k
        refine Rn.callV (n := 38) (av := [vR a1, vI a3, vI a2]) d_Wk_poke_35 rfl ml_Wk_poke_90 mi_Wk_isPoking w_a0.s rfl rfl rfl rfl (Nat.le_of_ble_eq_true rfl) ev11 (fun v h13 hq => ?_)
        obtain ⟨r15, rfl, hq⟩ := hq
        have k := k r15 h13 hq
        show Rn X m_Wk_poke 38 [some (vR a0), some (vR a1), some (vI a2), some (vI a3)] [vI r15] h13 Q
        refine Rn.if_eq (n := 41) (t := 71) d_Wk_poke_38 rfl (by decide) (fun cc => ?_) (fun cc => ?_)
        · have k := k.1 cc
          refine Rn.iinc (n := 74) (i := 3) (v := a3 + 1) (ls2 := [some (vR a0), some (vR a1), some (vI a2), some (vI (a3 + 1))]) d_Wk_poke_71 rfl rfl rfl (Nat.le_of_ble_eq_true rfl) rfl ?_
          refine Rn.goto (n := 10) d_Wk_poke_74 (by decide) ?_
          exact k
        · have k := k.2 cc
          refine Rn.aload_n (n := 42) (i := 0) d_Wk_poke_41 rfl rfl rfl ?_
          refine Rn.getf (n := 45) (v := vR (6 :: a0)) d_Wk_poke_42 rfl fl_Wk_22 w_a0.s rfl ?_
          refine Rn.iload_n (n := 46) (i := 3) d_Wk_poke_45 rfl rfl rfl ?_
          refine Rn.dup2 (n := 47) d_Wk_poke_46 rfl rfl rfl ?_
          obtain ⟨b16, k⟩ := k
          refine Rn.iald (n := 48) (v := h13.1 (6 :: a0) a3.toNatClampNeg) d_Wk_poke_47 rfl w_a0.c6 b16 rfl ?_
          refine Rn.iconst (n := 49) (v := 1) d_Wk_poke_48 rfl (by decide) ?_
          refine Rn.iadd (n := 50) d_Wk_poke_49 rfl ?_
          obtain ⟨b17, k⟩ := k
          refine Rn.iast (n := 51) d_Wk_poke_50 rfl w_a0.c6 b17 ?_
          refine Rn.aload_n (n := 52) (i := 0) d_Wk_poke_51 rfl rfl rfl ?_
          refine Rn.getf (n := 55) (v := vR (6 :: a0)) d_Wk_poke_52 rfl fl_Wk_22 w_a0.s rfl ?_
          refine Rn.iload_n (n := 56) (i := 2) d_Wk_poke_55 rfl rfl rfl ?_
          refine Rn.dup2 (n := 57) d_Wk_poke_56 rfl rfl rfl ?_
          obtain ⟨b18, k⟩ := k
          refine Rn.iald (n := 58) (v := (hsI h13 (6 :: a0) a3.toNatClampNeg ((h13.1 (6 :: a0) a3.toNatClampNeg) + 1)).1 (6 :: a0) a2.toNatClampNeg) d_Wk_poke_57 rfl w_a0.c6 b18 rfl ?_
          refine Rn.iconst (n := 59) (v := 1) d_Wk_poke_58 rfl (by decide) ?_
          refine Rn.iadd (n := 60) d_Wk_poke_59 rfl ?_
          obtain ⟨b19, k⟩ := k
          refine Rn.iast (n := 61) d_Wk_poke_60 rfl w_a0.c6 b19 ?_
          refine Rn.aload_n (n := 62) (i := 0) d_Wk_poke_61 rfl rfl rfl ?_
          refine Rn.dup (n := 63) d_Wk_poke_62 rfl rfl ?_
          refine Rn.getf (n := 66) (v := vI ((hsI (hsI h13 (6 :: a0) a3.toNatClampNeg ((h13.1 (6 :: a0) a3.toNatClampNeg) + 1)) (6 :: a0) a2.toNatClampNeg (((hsI h13 (6 :: a0) a3.toNatClampNeg ((h13.1 (6 :: a0) a3.toNatClampNeg) + 1)).1 (6 :: a0) a2.toNatClampNeg) + 1)).1 a0 2)) d_Wk_poke_63 rfl fl_Wk_38 w_a0.s rfl ?_
          refine Rn.iconst (n := 67) (v := 1) d_Wk_poke_66 rfl (by decide) ?_
          refine Rn.iadd (n := 68) d_Wk_poke_67 rfl ?_
          refine Rn.putI (n := 71) d_Wk_poke_68 rfl fl_Wk_38 pl_Wk_2 w_a0.s rfl ?_
          refine Rn.iinc (n := 74) (i := 3) (v := a3 + 1) (ls2 := [some (vR a0), some (vR a1), some (vI a2), some (vI (a3 + 1))]) d_Wk_poke_71 rfl rfl rfl (Nat.le_of_ble_eq_true rfl) rfl ?_
          refine Rn.goto (n := 10) d_Wk_poke_74 (by decide) ?_
          exact k
theorem e_Wk_poke {X : XS} (a0 : List Nat) (a1 : List Nat) (h : Hp) (Q : Option AV → Hp → Prop) (k : Rn X m_Wk_poke 0 [some (vR a0), some (vR a1), none, none] [] h Q) : Ev X m_Wk_poke [vR a0, vR a1] h Q := Ev.intro (by decide +kernel) (Nat.le_of_ble_eq_true rfl) (ls := [some (vR a0), some (vR a1), none, none]) rfl k
theorem d_Wk_isPoking_0 : decode m_Wk_isPoking.2.1 0 = .ok (.aload_n 1, 1) := by decide +kernel
theorem d_Wk_isPoking_1 : decode m_Wk_isPoking.2.1 1 = .ok (.getfield 94, 3) := by decide +kernel
theorem d_Wk_isPoking_4 : decode m_Wk_isPoking.2.1 4 = .ok (.iload_n 2, 1) := by decide +kernel
theorem d_Wk_isPoking_5 : decode m_Wk_isPoking.2.1 5 = .ok (.iaload, 1) := by decide +kernel
theorem d_Wk_isPoking_6 : decode m_Wk_isPoking.2.1 6 = .ok (.ifCond .eq 12, 3) := by decide +kernel
theorem d_Wk_isPoking_9 : decode m_Wk_isPoking.2.1 9 = .ok (.aload_n 1, 1) := by decide +kernel
theorem d_Wk_isPoking_10 : decode m_Wk_isPoking.2.1 10 = .ok (.getfield 94, 3) := by decide +kernel
theorem d_Wk_isPoking_13 : decode m_Wk_isPoking.2.1 13 = .ok (.iload_n 3, 1) := by decide +kernel
theorem d_Wk_isPoking_14 : decode m_Wk_isPoking.2.1 14 = .ok (.iaload, 1) := by decide +kernel
theorem d_Wk_isPoking_15 : decode m_Wk_isPoking.2.1 15 = .ok (.ifCond .ne 5, 3) := by decide +kernel
theorem d_Wk_isPoking_18 : decode m_Wk_isPoking.2.1 18 = .ok (.iconst 0, 1) := by decide +kernel
theorem d_Wk_isPoking_19 : decode m_Wk_isPoking.2.1 19 = .ok (.ireturn, 1) := by decide +kernel
theorem d_Wk_isPoking_20 : decode m_Wk_isPoking.2.1 20 = .ok (.aload_n 1, 1) := by decide +kernel
theorem d_Wk_isPoking_21 : decode m_Wk_isPoking.2.1 21 = .ok (.getfield 97, 3) := by decide +kernel
theorem d_Wk_isPoking_24 : decode m_Wk_isPoking.2.1 24 = .ok (.iload_n 2, 1) := by decide +kernel
theorem d_Wk_isPoking_25 : decode m_Wk_isPoking.2.1 25 = .ok (.iaload, 1) := by decide +kernel
theorem d_Wk_isPoking_26 : decode m_Wk_isPoking.2.1 26 = .ok (.aload_n 1, 1) := by decide +kernel
theorem d_Wk_isPoking_27 : decode m_Wk_isPoking.2.1 27 = .ok (.getfield 97, 3) := by decide +kernel
theorem d_Wk_isPoking_30 : decode m_Wk_isPoking.2.1 30 = .ok (.iload_n 3, 1) := by decide +kernel
theorem d_Wk_isPoking_31 : decode m_Wk_isPoking.2.1 31 = .ok (.iaload, 1) := by decide +kernel
theorem d_Wk_isPoking_32 : decode m_Wk_isPoking.2.1 32 = .ok (.isub, 1) := by decide +kernel
theorem d_Wk_isPoking_33 : decode m_Wk_isPoking.2.1 33 = .ok (.invokestatic 100, 3) := by decide +kernel
theorem d_Wk_isPoking_36 : decode m_Wk_isPoking.2.1 36 = .ok (.iconst 2, 1) := by decide +kernel
theorem d_Wk_isPoking_37 : decode m_Wk_isPoking.2.1 37 = .ok (.if_icmp .ge 41, 3) := by decide +kernel
theorem d_Wk_isPoking_40 : decode m_Wk_isPoking.2.1 40 = .ok (.aload_n 0, 1) := by decide +kernel
theorem d_Wk_isPoking_41 : decode m_Wk_isPoking.2.1 41 = .ok (.iload_n 2, 1) := by decide +kernel
theorem d_Wk_isPoking_42 : decode m_Wk_isPoking.2.1 42 = .ok (.iload_n 3, 1) := by decide +kernel
theorem d_Wk_isPoking_43 : decode m_Wk_isPoking.2.1 43 = .ok (.invokevirtual 105, 3) := by decide +kernel
theorem d_Wk_isPoking_46 : decode m_Wk_isPoking.2.1 46 = .ok (.iconst 1, 1) := by decide +kernel
theorem d_Wk_isPoking_47 : decode m_Wk_isPoking.2.1 47 = .ok (.if_icmp .gt 31, 3) := by decide +kernel
theorem d_Wk_isPoking_50 : decode m_Wk_isPoking.2.1 50 = .ok (.aload_n 0, 1) := by decide +kernel
theorem d_Wk_isPoking_51 : decode m_Wk_isPoking.2.1 51 = .ok (.iload_n 2, 1) := by decide +kernel
theorem d_Wk_isPoking_52 : decode m_Wk_isPoking.2.1 52 = .ok (.iload_n 3, 1) := by decide +kernel
theorem d_Wk_isPoking_53 : decode m_Wk_isPoking.2.1 53 = .ok (.invokevirtual 109, 3) := by decide +kernel
theorem d_Wk_isPoking_56 : decode m_Wk_isPoking.2.1 56 = .ok (.aload_n 1, 1) := by decide +kernel
theorem d_Wk_isPoking_57 : decode m_Wk_isPoking.2.1 57 = .ok (.getfield 94, 3) := by decide +kernel
theorem d_Wk_isPoking_60 : decode m_Wk_isPoking.2.1 60 = .ok (.iload_n 2, 1) := by decide +kernel
theorem d_Wk_isPoking_61 : decode m_Wk_isPoking.2.1 61 = .ok (.iaload, 1) := by decide +kernel
theorem d_Wk_isPoking_62 : decode m_Wk_isPoking.2.1 62 = .ok (.aload_n 1, 1) := by decide +kernel
theorem d_Wk_isPoking_63 : decode m_Wk_isPoking.2.1 63 = .ok (.getfield 94, 3) := by decide +kernel
theorem d_Wk_isPoking_66 : decode m_Wk_isPoking.2.1 66 = .ok (.iload_n 3, 1) := by decide +kernel
theorem d_Wk_isPoking_67 : decode m_Wk_isPoking.2.1 67 = .ok (.iaload, 1) := by decide +kernel
theorem d_Wk_isPoking_68 : decode m_Wk_isPoking.2.1 68 = .ok (.invokestatic 112, 3) := by decide +kernel
theorem d_Wk_isPoking_71 : decode m_Wk_isPoking.2.1 71 = .ok (.if_icmp .gt 7, 3) := by decide +kernel
theorem d_Wk_isPoking_74 : decode m_Wk_isPoking.2.1 74 = .ok (.iconst 1, 1) := by decide +kernel
theorem d_Wk_isPoking_75 : decode m_Wk_isPoking.2.1 75 = .ok (.goto 4, 3) := by decide +kernel
theorem d_Wk_isPoking_78 : decode m_Wk_isPoking.2.1 78 = .ok (.iconst 0, 1) := by decide +kernel
theorem d_Wk_isPoking_79 : decode m_Wk_isPoking.2.1 79 = .ok (.ireturn, 1) := by decide +kernel
theorem g_Wk_isPoking_0 {X : XS} (a0 : List Nat) (a1 : List Nat) (a2 : Int32) (a3 : Int32) (h : Hp) (Q : Option AV → Hp → Prop) (w_a0 : IsWk a0) (w_a1 : IsPl a1) (k : (vp_in a2 6 ∧ (((h.1 (8 :: a1) a2.toNatClampNeg) = 0 → Q (some (vI 0)) h) ∧ (¬ (h.1 (8 :: a1) a2.toNatClampNeg) = 0 → (vp_in a3 6 ∧ ((¬ (h.1 (8 :: a1) a3.toNatClampNeg) = 0 → (vp_in a2 6 ∧ (vp_in a3 6 ∧ (∃ Q'8, EvI X m_Ma_abs [vI ((h.1 (7 :: a1) a2.toNatClampNeg) - (h.1 (7 :: a1) a3.toNatClampNeg))] h Q'8 ∧ ∀ (r9 : Int32) (h7 : Hp), Q'8 r9 h7 → ((2 ≤ r9 → Q (some (vI 0)) h7) ∧ (¬ 2 ≤ r9 → (∃ Q'13, EvI X m_Wk_placesApart [vR a0, vI a2, vI a3] h7 Q'13 ∧ ∀ (r14 : Int32) (h12 : Hp), Q'13 r14 h12 → ((1 < r14 → Q (some (vI 0)) h12) ∧ (¬ 1 < r14 → (∃ Q'18, EvI X m_Wk_lanesApart [vR a0, vI a2, vI a3] h12 Q'18 ∧ ∀ (r19 : Int32) (h17 : Hp), Q'18 r19 h17 → (vp_in a2 6 ∧ (vp_in a3 6 ∧ (∃ Q'25, EvI X m_Ma_max [vI (h17.1 (8 :: a1) a2.toNatClampNeg), vI (h17.1 (8 :: a1) a3.toNatClampNeg)] h17 Q'25 ∧ ∀ (r26 : Int32) (h24 : Hp), Q'25 r26 h24 → ((r26 < r19 → Q (some (vI 0)) h24) ∧ (¬ r26 < r19 → Q (some (vI 1)) h24))))))))))))))) ∧ ((h.1 (8 :: a1) a3.toNatClampNeg) = 0 → Q (some (vI 0)) h))))))) : Rn X m_Wk_isPoking 0 [some (vR a0), some (vR a1), some (vI a2), some (vI a3)] [] h Q := by
  refine Rn.aload_n (n := 1) (i := 1) d_Wk_isPoking_0 rfl rfl rfl ?_
  refine Rn.getf (n := 4) (v := vR (8 :: a1)) d_Wk_isPoking_1 rfl fl_Wk_94 w_a1.s rfl ?_
  refine Rn.iload_n (n := 5) (i := 2) d_Wk_isPoking_4 rfl rfl rfl ?_
  obtain ⟨b1, k⟩ := k
  refine Rn.iald (n := 6) (v := h.1 (8 :: a1) a2.toNatClampNeg) d_Wk_isPoking_5 rfl w_a1.c8 b1 rfl ?_
  refine Rn.if_eq (n := 9) (t := 18) d_Wk_isPoking_6 rfl (by decide) (fun cc => ?_) (fun cc => ?_)
  · have k := k.1 cc
    refine Rn.iconst (n := 19) (v := 0) d_Wk_isPoking_18 rfl (by decide) ?_
    exact Rn.iret d_Wk_isPoking_19 rfl rfl k
  · have k := k.2 cc
    refine Rn.aload_n (n := 10) (i := 1) d_Wk_isPoking_9 rfl rfl rfl ?_
    refine Rn.getf (n := 13) (v := vR (8 :: a1)) d_Wk_isPoking_10 rfl fl_Wk_94 w_a1.s rfl ?_
    refine Rn.iload_n (n := 14) (i := 3) d_Wk_isPoking_13 rfl rfl rfl ?_
    obtain ⟨b2, k⟩ := k
    refine Rn.iald (n := 15) (v := h.1 (8 :: a1) a3.toNatClampNeg) d_Wk_isPoking_14 rfl w_a1.c8 b2 rfl ?_
    refine Rn.if_ne (n := 18) (t := 20) d_Wk_isPoking_15 rfl (by decide) (fun cc => ?_) (fun cc => ?_)
    · have k := k.1 cc
      refine Rn.aload_n (n := 21) (i := 1) d_Wk_isPoking_20 rfl rfl rfl ?_
      refine Rn.getf (n := 24) (v := vR (7 :: a1)) d_Wk_isPoking_21 rfl fl_Wk_97 w_a1.s rfl ?_
      refine Rn.iload_n (n := 25) (i := 2) d_Wk_isPoking_24 rfl rfl rfl ?_
      obtain ⟨b3, k⟩ := k
      refine Rn.iald (n := 26) (v := h.1 (7 :: a1) a2.toNatClampNeg) d_Wk_isPoking_25 rfl w_a1.c7 b3 rfl ?_
      refine Rn.aload_n (n := 27) (i := 1) d_Wk_isPoking_26 rfl rfl rfl ?_
      refine Rn.getf (n := 30) (v := vR (7 :: a1)) d_Wk_isPoking_27 rfl fl_Wk_97 w_a1.s rfl ?_
      refine Rn.iload_n (n := 31) (i := 3) d_Wk_isPoking_30 rfl rfl rfl ?_
      obtain ⟨b4, k⟩ := k
      refine Rn.iald (n := 32) (v := h.1 (7 :: a1) a3.toNatClampNeg) d_Wk_isPoking_31 rfl w_a1.c7 b4 rfl ?_
      refine Rn.isub (n := 33) d_Wk_isPoking_32 rfl ?_
      obtain ⟨Q'8, ev5, k⟩ := k
      refine Rn.callS (n := 36) (av := [vI ((h.1 (7 :: a1) a2.toNatClampNeg) - (h.1 (7 :: a1) a3.toNatClampNeg))]) d_Wk_isPoking_33 rfl ml_Wk_isPoking_100 ms_Ma_abs rfl rfl (Nat.le_of_ble_eq_true rfl) ev5 (fun v h7 hq => ?_)
      obtain ⟨r9, rfl, hq⟩ := hq
      have k := k r9 h7 hq
      show Rn X m_Wk_isPoking 36 [some (vR a0), some (vR a1), some (vI a2), some (vI a3)] [vI r9] h7 Q
      refine Rn.iconst (n := 37) (v := 2) d_Wk_isPoking_36 rfl (by decide) ?_
      refine Rn.icmp_ge (n := 40) (t := 78) d_Wk_isPoking_37 rfl (by decide) (fun cc => ?_) (fun cc => ?_)
      · have k := k.1 cc
        refine Rn.iconst (n := 79) (v := 0) d_Wk_isPoking_78 rfl (by decide) ?_
        exact Rn.iret d_Wk_isPoking_79 rfl rfl k
      · have k := k.2 cc
        refine Rn.aload_n (n := 41) (i := 0) d_Wk_isPoking_40 rfl rfl rfl ?_
        refine Rn.iload_n (n := 42) (i := 2) d_Wk_isPoking_41 rfl rfl rfl ?_
        refine Rn.iload_n (n := 43) (i := 3) d_Wk_isPoking_42 rfl rfl rfl ?_
        obtain ⟨Q'13, ev10, k⟩ := k
        refine Rn.callV (n := 46) (av := [vI a2, vI a3]) d_Wk_isPoking_43 rfl ml_Wk_isPoking_105 mi_Wk_placesApart w_a0.s rfl rfl rfl rfl (Nat.le_of_ble_eq_true rfl) ev10 (fun v h12 hq => ?_)
        obtain ⟨r14, rfl, hq⟩ := hq
        have k := k r14 h12 hq
        show Rn X m_Wk_isPoking 46 [some (vR a0), some (vR a1), some (vI a2), some (vI a3)] [vI r14] h12 Q
        refine Rn.iconst (n := 47) (v := 1) d_Wk_isPoking_46 rfl (by decide) ?_
        refine Rn.icmp_gt (n := 50) (t := 78) d_Wk_isPoking_47 rfl (by decide) (fun cc => ?_) (fun cc => ?_)
        · have k := k.1 cc
          refine Rn.iconst (n := 79) (v := 0) d_Wk_isPoking_78 rfl (by decide) ?_
          exact Rn.iret d_Wk_isPoking_79 rfl rfl k
        · have k := k.2 cc
          refine Rn.aload_n (n := 51) (i := 0) d_Wk_isPoking_50 rfl rfl rfl ?_
          refine Rn.iload_n (n := 52) (i := 2) d_Wk_isPoking_51 rfl rfl rfl ?_
          refine Rn.iload_n (n := 53) (i := 3) d_Wk_isPoking_52 rfl rfl rfl ?_
          obtain ⟨Q'18, ev15, k⟩ := k
          refine Rn.callV (n := 56) (av := [vI a2, vI a3]) d_Wk_isPoking_53 rfl ml_Wk_isPoking_109 mi_Wk_lanesApart w_a0.s rfl rfl rfl rfl (Nat.le_of_ble_eq_true rfl) ev15 (fun v h17 hq => ?_)
          obtain ⟨r19, rfl, hq⟩ := hq
          have k := k r19 h17 hq
          show Rn X m_Wk_isPoking 56 [some (vR a0), some (vR a1), some (vI a2), some (vI a3)] [vI r19] h17 Q
          refine Rn.aload_n (n := 57) (i := 1) d_Wk_isPoking_56 rfl rfl rfl ?_
          refine Rn.getf (n := 60) (v := vR (8 :: a1)) d_Wk_isPoking_57 rfl fl_Wk_94 w_a1.s rfl ?_
          refine Rn.iload_n (n := 61) (i := 2) d_Wk_isPoking_60 rfl rfl rfl ?_
          obtain ⟨b20, k⟩ := k
          refine Rn.iald (n := 62) (v := h17.1 (8 :: a1) a2.toNatClampNeg) d_Wk_isPoking_61 rfl w_a1.c8 b20 rfl ?_
          refine Rn.aload_n (n := 63) (i := 1) d_Wk_isPoking_62 rfl rfl rfl ?_
          refine Rn.getf (n := 66) (v := vR (8 :: a1)) d_Wk_isPoking_63 rfl fl_Wk_94 w_a1.s rfl ?_
          refine Rn.iload_n (n := 67) (i := 3) d_Wk_isPoking_66 rfl rfl rfl ?_
          obtain ⟨b21, k⟩ := k
          refine Rn.iald (n := 68) (v := h17.1 (8 :: a1) a3.toNatClampNeg) d_Wk_isPoking_67 rfl w_a1.c8 b21 rfl ?_
          obtain ⟨Q'25, ev22, k⟩ := k
          refine Rn.callS (n := 71) (av := [vI (h17.1 (8 :: a1) a2.toNatClampNeg), vI (h17.1 (8 :: a1) a3.toNatClampNeg)]) d_Wk_isPoking_68 rfl ml_Wk_isPoking_112 ms_Ma_max rfl rfl (Nat.le_of_ble_eq_true rfl) ev22 (fun v h24 hq => ?_)
          obtain ⟨r26, rfl, hq⟩ := hq
          have k := k r26 h24 hq
          show Rn X m_Wk_isPoking 71 [some (vR a0), some (vR a1), some (vI a2), some (vI a3)] [vI r26, vI r19] h24 Q
          refine Rn.icmp_gt (n := 74) (t := 78) d_Wk_isPoking_71 rfl (by decide) (fun cc => ?_) (fun cc => ?_)
          · have k := k.1 cc
            refine Rn.iconst (n := 79) (v := 0) d_Wk_isPoking_78 rfl (by decide) ?_
            exact Rn.iret d_Wk_isPoking_79 rfl rfl k
          · have k := k.2 cc
            refine Rn.iconst (n := 75) (v := 1) d_Wk_isPoking_74 rfl (by decide) ?_
            refine Rn.goto (n := 79) d_Wk_isPoking_75 (by decide) ?_
            exact Rn.iret d_Wk_isPoking_79 rfl rfl k
    · have k := k.2 cc
      refine Rn.iconst (n := 19) (v := 0) d_Wk_isPoking_18 rfl (by decide) ?_
      exact Rn.iret d_Wk_isPoking_19 rfl rfl k
theorem e_Wk_isPoking {X : XS} (a0 : List Nat) (a1 : List Nat) (a2 : Int32) (a3 : Int32) (h : Hp) (Q : Option AV → Hp → Prop) (k : Rn X m_Wk_isPoking 0 [some (vR a0), some (vR a1), some (vI a2), some (vI a3)] [] h Q) : Ev X m_Wk_isPoking [vR a0, vR a1, vI a2, vI a3] h Q := Ev.intro (by decide +kernel) (Nat.le_of_ble_eq_true rfl) (ls := [some (vR a0), some (vR a1), some (vI a2), some (vI a3)]) rfl k
theorem d_Wk_placesApart_0 : decode m_Wk_placesApart.2.1 0 = .ok (.aload_n 0, 1) := by decide +kernel
theorem d_Wk_placesApart_1 : decode m_Wk_placesApart.2.1 1 = .ok (.getfield 9, 3) := by decide +kernel
theorem d_Wk_placesApart_4 : decode m_Wk_placesApart.2.1 4 = .ok (.iload_n 1, 1) := by decide +kernel
theorem d_Wk_placesApart_5 : decode m_Wk_placesApart.2.1 5 = .ok (.iaload, 1) := by decide +kernel
theorem d_Wk_placesApart_6 : decode m_Wk_placesApart.2.1 6 = .ok (.iconst 4, 1) := by decide +kernel
theorem d_Wk_placesApart_7 : decode m_Wk_placesApart.2.1 7 = .ok (.idiv, 1) := by decide +kernel
theorem d_Wk_placesApart_8 : decode m_Wk_placesApart.2.1 8 = .ok (.aload_n 0, 1) := by decide +kernel
theorem d_Wk_placesApart_9 : decode m_Wk_placesApart.2.1 9 = .ok (.getfield 9, 3) := by decide +kernel
theorem d_Wk_placesApart_12 : decode m_Wk_placesApart.2.1 12 = .ok (.iload_n 2, 1) := by decide +kernel
theorem d_Wk_placesApart_13 : decode m_Wk_placesApart.2.1 13 = .ok (.iaload, 1) := by decide +kernel
theorem d_Wk_placesApart_14 : decode m_Wk_placesApart.2.1 14 = .ok (.iconst 4, 1) := by decide +kernel
theorem d_Wk_placesApart_15 : decode m_Wk_placesApart.2.1 15 = .ok (.idiv, 1) := by decide +kernel
theorem d_Wk_placesApart_16 : decode m_Wk_placesApart.2.1 16 = .ok (.isub, 1) := by decide +kernel
theorem d_Wk_placesApart_17 : decode m_Wk_placesApart.2.1 17 = .ok (.invokestatic 100, 3) := by decide +kernel
theorem d_Wk_placesApart_20 : decode m_Wk_placesApart.2.1 20 = .ok (.ireturn, 1) := by decide +kernel
theorem g_Wk_placesApart_0 {X : XS} (a0 : List Nat) (a1 : Int32) (a2 : Int32) (h : Hp) (Q : Option AV → Hp → Prop) (w_a0 : IsWk a0) (k : (vp_in a1 6 ∧ (vp_in a2 6 ∧ (∃ Q'6, EvI X m_Ma_abs [vI (((h.1 (3 :: a0) a1.toNatClampNeg) / 4) - ((h.1 (3 :: a0) a2.toNatClampNeg) / 4))] h Q'6 ∧ ∀ (r7 : Int32) (h5 : Hp), Q'6 r7 h5 → Q (some (vI r7)) h5)))) : Rn X m_Wk_placesApart 0 [some (vR a0), some (vI a1), some (vI a2)] [] h Q := by
  refine Rn.aload_n (n := 1) (i := 0) d_Wk_placesApart_0 rfl rfl rfl ?_
  refine Rn.getf (n := 4) (v := vR (3 :: a0)) d_Wk_placesApart_1 rfl fl_Wk_9 w_a0.s rfl ?_
  refine Rn.iload_n (n := 5) (i := 1) d_Wk_placesApart_4 rfl rfl rfl ?_
  obtain ⟨b1, k⟩ := k
  refine Rn.iald (n := 6) (v := h.1 (3 :: a0) a1.toNatClampNeg) d_Wk_placesApart_5 rfl w_a0.c3 b1 rfl ?_
  refine Rn.iconst (n := 7) (v := 4) d_Wk_placesApart_6 rfl (by decide) ?_
  refine Rn.idiv (n := 8) d_Wk_placesApart_7 rfl (by decide) ?_
  refine Rn.aload_n (n := 9) (i := 0) d_Wk_placesApart_8 rfl rfl rfl ?_
  refine Rn.getf (n := 12) (v := vR (3 :: a0)) d_Wk_placesApart_9 rfl fl_Wk_9 w_a0.s rfl ?_
  refine Rn.iload_n (n := 13) (i := 2) d_Wk_placesApart_12 rfl rfl rfl ?_
  obtain ⟨b2, k⟩ := k
  refine Rn.iald (n := 14) (v := h.1 (3 :: a0) a2.toNatClampNeg) d_Wk_placesApart_13 rfl w_a0.c3 b2 rfl ?_
  refine Rn.iconst (n := 15) (v := 4) d_Wk_placesApart_14 rfl (by decide) ?_
  refine Rn.idiv (n := 16) d_Wk_placesApart_15 rfl (by decide) ?_
  refine Rn.isub (n := 17) d_Wk_placesApart_16 rfl ?_
  obtain ⟨Q'6, ev3, k⟩ := k
  refine Rn.callS (n := 20) (av := [vI (((h.1 (3 :: a0) a1.toNatClampNeg) / 4) - ((h.1 (3 :: a0) a2.toNatClampNeg) / 4))]) d_Wk_placesApart_17 rfl ml_Wk_placesApart_100 ms_Ma_abs rfl rfl (Nat.le_of_ble_eq_true rfl) ev3 (fun v h5 hq => ?_)
  obtain ⟨r7, rfl, hq⟩ := hq
  have k := k r7 h5 hq
  show Rn X m_Wk_placesApart 20 [some (vR a0), some (vI a1), some (vI a2)] [vI r7] h5 Q
  exact Rn.iret d_Wk_placesApart_20 rfl rfl k
theorem e_Wk_placesApart {X : XS} (a0 : List Nat) (a1 : Int32) (a2 : Int32) (h : Hp) (Q : Option AV → Hp → Prop) (k : Rn X m_Wk_placesApart 0 [some (vR a0), some (vI a1), some (vI a2)] [] h Q) : Ev X m_Wk_placesApart [vR a0, vI a1, vI a2] h Q := Ev.intro (by decide +kernel) (Nat.le_of_ble_eq_true rfl) (ls := [some (vR a0), some (vI a1), some (vI a2)]) rfl k
theorem d_Wk_lanesApart_0 : decode m_Wk_lanesApart.2.1 0 = .ok (.aload_n 0, 1) := by decide +kernel
theorem d_Wk_lanesApart_1 : decode m_Wk_lanesApart.2.1 1 = .ok (.getfield 9, 3) := by decide +kernel
theorem d_Wk_lanesApart_4 : decode m_Wk_lanesApart.2.1 4 = .ok (.iload_n 1, 1) := by decide +kernel
theorem d_Wk_lanesApart_5 : decode m_Wk_lanesApart.2.1 5 = .ok (.iaload, 1) := by decide +kernel
theorem d_Wk_lanesApart_6 : decode m_Wk_lanesApart.2.1 6 = .ok (.iconst 4, 1) := by decide +kernel
theorem d_Wk_lanesApart_7 : decode m_Wk_lanesApart.2.1 7 = .ok (.irem, 1) := by decide +kernel
theorem d_Wk_lanesApart_8 : decode m_Wk_lanesApart.2.1 8 = .ok (.aload_n 0, 1) := by decide +kernel
theorem d_Wk_lanesApart_9 : decode m_Wk_lanesApart.2.1 9 = .ok (.getfield 9, 3) := by decide +kernel
theorem d_Wk_lanesApart_12 : decode m_Wk_lanesApart.2.1 12 = .ok (.iload_n 2, 1) := by decide +kernel
theorem d_Wk_lanesApart_13 : decode m_Wk_lanesApart.2.1 13 = .ok (.iaload, 1) := by decide +kernel
theorem d_Wk_lanesApart_14 : decode m_Wk_lanesApart.2.1 14 = .ok (.iconst 4, 1) := by decide +kernel
theorem d_Wk_lanesApart_15 : decode m_Wk_lanesApart.2.1 15 = .ok (.irem, 1) := by decide +kernel
theorem d_Wk_lanesApart_16 : decode m_Wk_lanesApart.2.1 16 = .ok (.isub, 1) := by decide +kernel
theorem d_Wk_lanesApart_17 : decode m_Wk_lanesApart.2.1 17 = .ok (.invokestatic 100, 3) := by decide +kernel
theorem d_Wk_lanesApart_20 : decode m_Wk_lanesApart.2.1 20 = .ok (.ireturn, 1) := by decide +kernel
theorem g_Wk_lanesApart_0 {X : XS} (a0 : List Nat) (a1 : Int32) (a2 : Int32) (h : Hp) (Q : Option AV → Hp → Prop) (w_a0 : IsWk a0) (k : (vp_in a1 6 ∧ (vp_in a2 6 ∧ (∃ Q'6, EvI X m_Ma_abs [vI ((iR (h.1 (3 :: a0) a1.toNatClampNeg) 4) - (iR (h.1 (3 :: a0) a2.toNatClampNeg) 4))] h Q'6 ∧ ∀ (r7 : Int32) (h5 : Hp), Q'6 r7 h5 → Q (some (vI r7)) h5)))) : Rn X m_Wk_lanesApart 0 [some (vR a0), some (vI a1), some (vI a2)] [] h Q := by
  refine Rn.aload_n (n := 1) (i := 0) d_Wk_lanesApart_0 rfl rfl rfl ?_
  refine Rn.getf (n := 4) (v := vR (3 :: a0)) d_Wk_lanesApart_1 rfl fl_Wk_9 w_a0.s rfl ?_
  refine Rn.iload_n (n := 5) (i := 1) d_Wk_lanesApart_4 rfl rfl rfl ?_
  obtain ⟨b1, k⟩ := k
  refine Rn.iald (n := 6) (v := h.1 (3 :: a0) a1.toNatClampNeg) d_Wk_lanesApart_5 rfl w_a0.c3 b1 rfl ?_
  refine Rn.iconst (n := 7) (v := 4) d_Wk_lanesApart_6 rfl (by decide) ?_
  refine Rn.irem (n := 8) d_Wk_lanesApart_7 rfl (by decide) ?_
  refine Rn.aload_n (n := 9) (i := 0) d_Wk_lanesApart_8 rfl rfl rfl ?_
  refine Rn.getf (n := 12) (v := vR (3 :: a0)) d_Wk_lanesApart_9 rfl fl_Wk_9 w_a0.s rfl ?_
  refine Rn.iload_n (n := 13) (i := 2) d_Wk_lanesApart_12 rfl rfl rfl ?_
  obtain ⟨b2, k⟩ := k
  refine Rn.iald (n := 14) (v := h.1 (3 :: a0) a2.toNatClampNeg) d_Wk_lanesApart_13 rfl w_a0.c3 b2 rfl ?_
  refine Rn.iconst (n := 15) (v := 4) d_Wk_lanesApart_14 rfl (by decide) ?_
  refine Rn.irem (n := 16) d_Wk_lanesApart_15 rfl (by decide) ?_
  refine Rn.isub (n := 17) d_Wk_lanesApart_16 rfl ?_
  obtain ⟨Q'6, ev3, k⟩ := k
  refine Rn.callS (n := 20) (av := [vI ((iR (h.1 (3 :: a0) a1.toNatClampNeg) 4) - (iR (h.1 (3 :: a0) a2.toNatClampNeg) 4))]) d_Wk_lanesApart_17 rfl ml_Wk_lanesApart_100 ms_Ma_abs rfl rfl (Nat.le_of_ble_eq_true rfl) ev3 (fun v h5 hq => ?_)
  obtain ⟨r7, rfl, hq⟩ := hq
  have k := k r7 h5 hq
  show Rn X m_Wk_lanesApart 20 [some (vR a0), some (vI a1), some (vI a2)] [vI r7] h5 Q
  exact Rn.iret d_Wk_lanesApart_20 rfl rfl k
theorem e_Wk_lanesApart {X : XS} (a0 : List Nat) (a1 : Int32) (a2 : Int32) (h : Hp) (Q : Option AV → Hp → Prop) (k : Rn X m_Wk_lanesApart 0 [some (vR a0), some (vI a1), some (vI a2)] [] h Q) : Ev X m_Wk_lanesApart [vR a0, vI a1, vI a2] h Q := Ev.intro (by decide +kernel) (Nat.le_of_ble_eq_true rfl) (ls := [some (vR a0), some (vI a1), some (vI a2)]) rfl k
theorem d_Wk_rain_0 : decode m_Wk_rain.2.1 0 = .ok (.aload_n 1, 1) := by decide +kernel
theorem d_Wk_rain_1 : decode m_Wk_rain.2.1 1 = .ok (.aload_n 0, 1) := by decide +kernel
theorem d_Wk_rain_2 : decode m_Wk_rain.2.1 2 = .ok (.getfield 34, 3) := by decide +kernel
theorem d_Wk_rain_5 : decode m_Wk_rain.2.1 5 = .ok (.invokevirtual 115, 3) := by decide +kernel
theorem d_Wk_rain_8 : decode m_Wk_rain.2.1 8 = .ok (.istore_n 2, 1) := by decide +kernel
theorem d_Wk_rain_9 : decode m_Wk_rain.2.1 9 = .ok (.iconst 0, 1) := by decide +kernel
theorem d_Wk_rain_10 : decode m_Wk_rain.2.1 10 = .ok (.istore_n 3, 1) := by decide +kernel
theorem d_Wk_rain_11 : decode m_Wk_rain.2.1 11 = .ok (.iload_n 3, 1) := by decide +kernel
theorem d_Wk_rain_12 : decode m_Wk_rain.2.1 12 = .ok (.bipush 6, 2) := by decide +kernel
theorem d_Wk_rain_14 : decode m_Wk_rain.2.1 14 = .ok (.if_icmp .ge 71, 3) := by decide +kernel
theorem d_Wk_rain_17 : decode m_Wk_rain.2.1 17 = .ok (.aload_n 0, 1) := by decide +kernel
theorem d_Wk_rain_18 : decode m_Wk_rain.2.1 18 = .ok (.iload_n 3, 1) := by decide +kernel
theorem d_Wk_rain_19 : decode m_Wk_rain.2.1 19 = .ok (.invokevirtual 41, 3) := by decide +kernel
theorem d_Wk_rain_22 : decode m_Wk_rain.2.1 22 = .ok (.ifCond .eq 57, 3) := by decide +kernel
theorem d_Wk_rain_25 : decode m_Wk_rain.2.1 25 = .ok (.aload_n 1, 1) := by decide +kernel
theorem d_Wk_rain_26 : decode m_Wk_rain.2.1 26 = .ok (.aload_n 0, 1) := by decide +kernel
theorem d_Wk_rain_27 : decode m_Wk_rain.2.1 27 = .ok (.getfield 9, 3) := by decide +kernel
theorem d_Wk_rain_30 : decode m_Wk_rain.2.1 30 = .ok (.iload_n 3, 1) := by decide +kernel
theorem d_Wk_rain_31 : decode m_Wk_rain.2.1 31 = .ok (.iaload, 1) := by decide +kernel
theorem d_Wk_rain_32 : decode m_Wk_rain.2.1 32 = .ok (.invokevirtual 118, 3) := by decide +kernel
theorem d_Wk_rain_35 : decode m_Wk_rain.2.1 35 = .ok (.ifCond .eq 6, 3) := by decide +kernel
theorem d_Wk_rain_38 : decode m_Wk_rain.2.1 38 = .ok (.goto 41, 3) := by decide +kernel
theorem d_Wk_rain_41 : decode m_Wk_rain.2.1 41 = .ok (.aload_n 1, 1) := by decide +kernel
theorem d_Wk_rain_42 : decode m_Wk_rain.2.1 42 = .ok (.getfield 94, 3) := by decide +kernel
theorem d_Wk_rain_45 : decode m_Wk_rain.2.1 45 = .ok (.iload_n 3, 1) := by decide +kernel
theorem d_Wk_rain_46 : decode m_Wk_rain.2.1 46 = .ok (.iaload, 1) := by decide +kernel
theorem d_Wk_rain_47 : decode m_Wk_rain.2.1 47 = .ok (.istore 4, 2) := by decide +kernel
theorem d_Wk_rain_49 : decode m_Wk_rain.2.1 49 = .ok (.aload_n 0, 1) := by decide +kernel
theorem d_Wk_rain_50 : decode m_Wk_rain.2.1 50 = .ok (.getfield 19, 3) := by decide +kernel
theorem d_Wk_rain_53 : decode m_Wk_rain.2.1 53 = .ok (.iload_n 3, 1) := by decide +kernel
theorem d_Wk_rain_54 : decode m_Wk_rain.2.1 54 = .ok (.dup2, 1) := by decide +kernel
theorem d_Wk_rain_55 : decode m_Wk_rain.2.1 55 = .ok (.iaload, 1) := by decide +kernel
theorem d_Wk_rain_56 : decode m_Wk_rain.2.1 56 = .ok (.iload 4, 2) := by decide +kernel
theorem d_Wk_rain_58 : decode m_Wk_rain.2.1 58 = .ok (.ifCond .le 12, 3) := by decide +kernel
theorem d_Wk_rain_61 : decode m_Wk_rain.2.1 61 = .ok (.iload_n 2, 1) := by decide +kernel
theorem d_Wk_rain_62 : decode m_Wk_rain.2.1 62 = .ok (.iload 4, 2) := by decide +kernel
theorem d_Wk_rain_64 : decode m_Wk_rain.2.1 64 = .ok (.iconst 1, 1) := by decide +kernel
theorem d_Wk_rain_65 : decode m_Wk_rain.2.1 65 = .ok (.iadd, 1) := by decide +kernel
theorem d_Wk_rain_66 : decode m_Wk_rain.2.1 66 = .ok (.idiv, 1) := by decide +kernel
theorem d_Wk_rain_67 : decode m_Wk_rain.2.1 67 = .ok (.goto 10, 3) := by decide +kernel
theorem d_Wk_rain_70 : decode m_Wk_rain.2.1 70 = .ok (.aload_n 0, 1) := by decide +kernel
theorem d_Wk_rain_71 : decode m_Wk_rain.2.1 71 = .ok (.aload_n 1, 1) := by decide +kernel
theorem d_Wk_rain_72 : decode m_Wk_rain.2.1 72 = .ok (.iload_n 3, 1) := by decide +kernel
theorem d_Wk_rain_73 : decode m_Wk_rain.2.1 73 = .ok (.iload_n 2, 1) := by decide +kernel
theorem d_Wk_rain_74 : decode m_Wk_rain.2.1 74 = .ok (.invokevirtual 121, 3) := by decide +kernel
theorem d_Wk_rain_77 : decode m_Wk_rain.2.1 77 = .ok (.iadd, 1) := by decide +kernel
theorem d_Wk_rain_78 : decode m_Wk_rain.2.1 78 = .ok (.iastore, 1) := by decide +kernel
theorem d_Wk_rain_79 : decode m_Wk_rain.2.1 79 = .ok (.iinc 3 1, 3) := by decide +kernel
theorem d_Wk_rain_82 : decode m_Wk_rain.2.1 82 = .ok (.goto (-71), 3) := by decide +kernel
theorem d_Wk_rain_85 : decode m_Wk_rain.2.1 85 = .ok (.return_, 1) := by decide +kernel
theorem g_Wk_rain_0 {X : XS} (a0 : List Nat) (a1 : List Nat) (h : Hp) (Q : Option AV → Hp → Prop) (w_a0 : IsWk a0) (w_a1 : IsPl a1) (k : (∃ Q'4, EvI X m_Pl_rainOf [vR a1, vI (h.1 a0 1)] h Q'4 ∧ ∀ (r5 : Int32) (h3 : Hp), Q'4 r5 h3 → Rn X m_Wk_rain 11 [some (vR a0), some (vR a1), some (vI r5), some (vI 0), none] [] h3 Q)) : Rn X m_Wk_rain 0 [some (vR a0), some (vR a1), none, none, none] [] h Q := by
  refine Rn.aload_n (n := 1) (i := 1) d_Wk_rain_0 rfl rfl rfl ?_
  refine Rn.aload_n (n := 2) (i := 0) d_Wk_rain_1 rfl rfl rfl ?_
  refine Rn.getf (n := 5) (v := vI (h.1 a0 1)) d_Wk_rain_2 rfl fl_Wk_34 w_a0.s rfl ?_
  obtain ⟨Q'4, ev1, k⟩ := k
  refine Rn.callV (n := 8) (av := [vI (h.1 a0 1)]) d_Wk_rain_5 rfl ml_Wk_rain_115 mi_Pl_rainOf w_a1.s rfl rfl rfl rfl (Nat.le_of_ble_eq_true rfl) ev1 (fun v h3 hq => ?_)
  obtain ⟨r5, rfl, hq⟩ := hq
  have k := k r5 h3 hq
  show Rn X m_Wk_rain 8 [some (vR a0), some (vR a1), none, none, none] [vI r5] h3 Q
  refine Rn.istore_n (n := 9) (i := 2) (ls2 := [some (vR a0), some (vR a1), some (vI r5), none, none]) d_Wk_rain_8 rfl rfl (Nat.le_of_ble_eq_true rfl) rfl ?_
  refine Rn.iconst (n := 10) (v := 0) d_Wk_rain_9 rfl (by decide) ?_
  refine Rn.istore_n (n := 11) (i := 3) (ls2 := [some (vR a0), some (vR a1), some (vI r5), some (vI 0), none]) d_Wk_rain_10 rfl rfl (Nat.le_of_ble_eq_true rfl) rfl ?_
  exact k
theorem g_Wk_rain_11 {X : XS} (a0 : List Nat) (a1 : List Nat) (a2 : Int32) (a3 : Int32) (h : Hp) (Q : Option AV → Hp → Prop) (w_a0 : IsWk a0) (w_a1 : IsPl a1) (k : ((6 ≤ a3 → Q none h) ∧ (¬ 6 ≤ a3 → (∃ Q'4, EvI X m_Wk_isOn [vR a0, vI a3] h Q'4 ∧ ∀ (r5 : Int32) (h3 : Hp), Q'4 r5 h3 → ((r5 = 0 → Rn X m_Wk_rain 11 [some (vR a0), some (vR a1), some (vI a2), some (vI (a3 + 1)), none] [] h3 Q) ∧ (¬ r5 = 0 → (vp_in a3 6 ∧ (∃ Q'10, EvI X m_Pl_isDry [vR a1, vI (h3.1 (3 :: a0) a3.toNatClampNeg)] h3 Q'10 ∧ ∀ (r11 : Int32) (h9 : Hp), Q'10 r11 h9 → ((r11 = 0 → (vp_in a3 6 ∧ (vp_in a3 6 ∧ (((h9.1 (8 :: a1) a3.toNatClampNeg) ≤ 0 → (∃ Q'17, EvI X m_Wk_amountOnBare [vR a0, vR a1, vI a3, vI a2] h9 Q'17 ∧ ∀ (r18 : Int32) (h16 : Hp), Q'17 r18 h16 → (vp_in a3 6 ∧ Rn X m_Wk_rain 11 [some (vR a0), some (vR a1), some (vI a2), some (vI (a3 + 1)), none] [] (hsI h16 (5 :: a0) a3.toNatClampNeg ((h9.1 (5 :: a0) a3.toNatClampNeg) + r18)) Q))) ∧ (¬ (h9.1 (8 :: a1) a3.toNatClampNeg) ≤ 0 → (¬ ((h9.1 (8 :: a1) a3.toNatClampNeg) + 1) = 0 ∧ (vp_in a3 6 ∧ Rn X m_Wk_rain 11 [some (vR a0), some (vR a1), some (vI a2), some (vI (a3 + 1)), none] [] (hsI h9 (5 :: a0) a3.toNatClampNeg ((h9.1 (5 :: a0) a3.toNatClampNeg) + (a2 / ((h9.1 (8 :: a1) a3.toNatClampNeg) + 1)))) Q))))))) ∧ (¬ r11 = 0 → Rn X m_Wk_rain 11 [some (vR a0), some (vR a1), some (vI a2), some (vI (a3 + 1)), none] [] h9 Q)))))))))) : Rn X m_Wk_rain 11 [some (vR a0), some (vR a1), some (vI a2), some (vI a3), none] [] h Q := by
  refine Rn.iload_n (n := 12) (i := 3) d_Wk_rain_11 rfl rfl rfl ?_
  refine Rn.bipush (n := 14) (v := 6) d_Wk_rain_12 rfl (by decide) ?_
  refine Rn.icmp_ge (n := 17) (t := 85) d_Wk_rain_14 rfl (by decide) (fun cc => ?_) (fun cc => ?_)
  · have k := k.1 cc
    exact Rn.vret d_Wk_rain_85 rfl k
  · have k := k.2 cc
    refine Rn.aload_n (n := 18) (i := 0) d_Wk_rain_17 rfl rfl rfl ?_
    refine Rn.iload_n (n := 19) (i := 3) d_Wk_rain_18 rfl rfl rfl ?_
    obtain ⟨Q'4, ev1, k⟩ := k
    refine Rn.callV (n := 22) (av := [vI a3]) d_Wk_rain_19 rfl ml_Wk_rain_41 mi_Wk_isOn w_a0.s rfl rfl rfl rfl (Nat.le_of_ble_eq_true rfl) ev1 (fun v h3 hq => ?_)
    obtain ⟨r5, rfl, hq⟩ := hq
    have k := k r5 h3 hq
    show Rn X m_Wk_rain 22 [some (vR a0), some (vR a1), some (vI a2), some (vI a3), none] [vI r5] h3 Q
    refine Rn.if_eq (n := 25) (t := 79) d_Wk_rain_22 rfl (by decide) (fun cc => ?_) (fun cc => ?_)
    · have k := k.1 cc
      refine Rn.iinc (n := 82) (i := 3) (v := a3 + 1) (ls2 := [some (vR a0), some (vR a1), some (vI a2), some (vI (a3 + 1)), none]) d_Wk_rain_79 rfl rfl rfl (Nat.le_of_ble_eq_true rfl) rfl ?_
      refine Rn.goto (n := 11) d_Wk_rain_82 (by decide) ?_
      exact k
    · have k := k.2 cc
      refine Rn.aload_n (n := 26) (i := 1) d_Wk_rain_25 rfl rfl rfl ?_
      refine Rn.aload_n (n := 27) (i := 0) d_Wk_rain_26 rfl rfl rfl ?_
      refine Rn.getf (n := 30) (v := vR (3 :: a0)) d_Wk_rain_27 rfl fl_Wk_9 w_a0.s rfl ?_
      refine Rn.iload_n (n := 31) (i := 3) d_Wk_rain_30 rfl rfl rfl ?_
      obtain ⟨b6, k⟩ := k
      refine Rn.iald (n := 32) (v := h3.1 (3 :: a0) a3.toNatClampNeg) d_Wk_rain_31 rfl w_a0.c3 b6 rfl ?_
      obtain ⟨Q'10, ev7, k⟩ := k
      refine Rn.callV (n := 35) (av := [vI (h3.1 (3 :: a0) a3.toNatClampNeg)]) d_Wk_rain_32 rfl ml_Wk_rain_118 mi_Pl_isDry w_a1.s rfl rfl rfl rfl (Nat.le_of_ble_eq_true rfl) ev7 (fun v h9 hq => ?_)
      obtain ⟨r11, rfl, hq⟩ := hq
      have k := k r11 h9 hq
      show Rn X m_Wk_rain 35 [some (vR a0), some (vR a1), some (vI a2), some (vI a3), none] [vI r11] h9 Q
      refine Rn.if_eq (n := 38) (t := 41) d_Wk_rain_35 rfl (by decide) (fun cc => ?_) (fun cc => ?_)
      · have k := k.1 cc
        refine Rn.aload_n (n := 42) (i := 1) d_Wk_rain_41 rfl rfl rfl ?_
        refine Rn.getf (n := 45) (v := vR (8 :: a1)) d_Wk_rain_42 rfl fl_Wk_94 w_a1.s rfl ?_
        refine Rn.iload_n (n := 46) (i := 3) d_Wk_rain_45 rfl rfl rfl ?_
        obtain ⟨b12, k⟩ := k
        refine Rn.iald (n := 47) (v := h9.1 (8 :: a1) a3.toNatClampNeg) d_Wk_rain_46 rfl w_a1.c8 b12 rfl ?_
        refine Rn.istore (n := 49) (i := 4) (ls2 := [some (vR a0), some (vR a1), some (vI a2), some (vI a3), some (vI (h9.1 (8 :: a1) a3.toNatClampNeg))]) d_Wk_rain_47 rfl (Nat.le_of_ble_eq_true rfl) rfl ?_
        refine Rn.aload_n (n := 50) (i := 0) d_Wk_rain_49 rfl rfl rfl ?_
        refine Rn.getf (n := 53) (v := vR (5 :: a0)) d_Wk_rain_50 rfl fl_Wk_19 w_a0.s rfl ?_
        refine Rn.iload_n (n := 54) (i := 3) d_Wk_rain_53 rfl rfl rfl ?_
        refine Rn.dup2 (n := 55) d_Wk_rain_54 rfl rfl rfl ?_
        obtain ⟨b13, k⟩ := k
        refine Rn.iald (n := 56) (v := h9.1 (5 :: a0) a3.toNatClampNeg) d_Wk_rain_55 rfl w_a0.c5 b13 rfl ?_
        refine Rn.iload (n := 58) (i := 4) d_Wk_rain_56 rfl rfl ?_
        refine Rn.if_le (n := 61) (t := 70) d_Wk_rain_58 rfl (by decide) (fun cc => ?_) (fun cc => ?_)
        · have k := k.1 cc
          refine Rn.aload_n (n := 71) (i := 0) d_Wk_rain_70 rfl rfl rfl ?_
          refine Rn.aload_n (n := 72) (i := 1) d_Wk_rain_71 rfl rfl rfl ?_
          refine Rn.iload_n (n := 73) (i := 3) d_Wk_rain_72 rfl rfl rfl ?_
          refine Rn.iload_n (n := 74) (i := 2) d_Wk_rain_73 rfl rfl rfl ?_
          obtain ⟨Q'17, ev14, k⟩ := k
          refine Rn.callV (n := 77) (av := [vR a1, vI a3, vI a2]) d_Wk_rain_74 rfl ml_Wk_rain_121 mi_Wk_amountOnBare w_a0.s rfl rfl rfl rfl (Nat.le_of_ble_eq_true rfl) ev14 (fun v h16 hq => ?_)
          obtain ⟨r18, rfl, hq⟩ := hq
          have k := k r18 h16 hq
          show Rn X m_Wk_rain 77 [some (vR a0), some (vR a1), some (vI a2), some (vI a3), some (vI (h9.1 (8 :: a1) a3.toNatClampNeg))] [vI r18, vI (h9.1 (5 :: a0) a3.toNatClampNeg), vI a3, vR (5 :: a0)] h16 Q
          refine Rn.iadd (n := 78) d_Wk_rain_77 rfl ?_
          obtain ⟨b19, k⟩ := k
          refine Rn.iast (n := 79) d_Wk_rain_78 rfl w_a0.c5 b19 ?_
          refine Rn.iinc (n := 82) (i := 3) (v := a3 + 1) (ls2 := [some (vR a0), some (vR a1), some (vI a2), some (vI (a3 + 1)), some (vI (h9.1 (8 :: a1) a3.toNatClampNeg))]) d_Wk_rain_79 rfl rfl rfl (Nat.le_of_ble_eq_true rfl) rfl ?_
          refine Rn.goto (n := 11) d_Wk_rain_82 (by decide) ?_
          exact Rn.loc [some (vR a0), some (vR a1), some (vI a2), some (vI (a3 + 1)), none] (LLe_ok ⟨rfl, ⟨rfl, ⟨rfl, ⟨rfl, trivial⟩⟩⟩⟩) k
        · have k := k.2 cc
          refine Rn.iload_n (n := 62) (i := 2) d_Wk_rain_61 rfl rfl rfl ?_
          refine Rn.iload (n := 64) (i := 4) d_Wk_rain_62 rfl rfl ?_
          refine Rn.iconst (n := 65) (v := 1) d_Wk_rain_64 rfl (by decide) ?_
          refine Rn.iadd (n := 66) d_Wk_rain_65 rfl ?_
          obtain ⟨z20, k⟩ := k
          refine Rn.idiv (n := 67) d_Wk_rain_66 rfl z20 ?_
          refine Rn.goto (n := 77) d_Wk_rain_67 (by decide) ?_
          refine Rn.iadd (n := 78) d_Wk_rain_77 rfl ?_
          obtain ⟨b21, k⟩ := k
          refine Rn.iast (n := 79) d_Wk_rain_78 rfl w_a0.c5 b21 ?_
          refine Rn.iinc (n := 82) (i := 3) (v := a3 + 1) (ls2 := [some (vR a0), some (vR a1), some (vI a2), some (vI (a3 + 1)), some (vI (h9.1 (8 :: a1) a3.toNatClampNeg))]) d_Wk_rain_79 rfl rfl rfl (Nat.le_of_ble_eq_true rfl) rfl ?_
          refine Rn.goto (n := 11) d_Wk_rain_82 (by decide) ?_
          exact Rn.loc [some (vR a0), some (vR a1), some (vI a2), some (vI (a3 + 1)), none] (LLe_ok ⟨rfl, ⟨rfl, ⟨rfl, ⟨rfl, trivial⟩⟩⟩⟩) k
      · have k := k.2 cc
        refine Rn.goto (n := 79) d_Wk_rain_38 (by decide) ?_
        refine Rn.iinc (n := 82) (i := 3) (v := a3 + 1) (ls2 := [some (vR a0), some (vR a1), some (vI a2), some (vI (a3 + 1)), none]) d_Wk_rain_79 rfl rfl rfl (Nat.le_of_ble_eq_true rfl) rfl ?_
        refine Rn.goto (n := 11) d_Wk_rain_82 (by decide) ?_
        exact k
theorem e_Wk_rain {X : XS} (a0 : List Nat) (a1 : List Nat) (h : Hp) (Q : Option AV → Hp → Prop) (k : Rn X m_Wk_rain 0 [some (vR a0), some (vR a1), none, none, none] [] h Q) : Ev X m_Wk_rain [vR a0, vR a1] h Q := Ev.intro (by decide +kernel) (Nat.le_of_ble_eq_true rfl) (ls := [some (vR a0), some (vR a1), none, none, none]) rfl k
theorem d_Wk_amountOnBare_0 : decode m_Wk_amountOnBare.2.1 0 = .ok (.iload_n 3, 1) := by decide +kernel
theorem d_Wk_amountOnBare_1 : decode m_Wk_amountOnBare.2.1 1 = .ok (.istore 4, 2) := by decide +kernel
theorem d_Wk_amountOnBare_3 : decode m_Wk_amountOnBare.2.1 3 = .ok (.iconst 0, 1) := by decide +kernel
theorem d_Wk_amountOnBare_4 : decode m_Wk_amountOnBare.2.1 4 = .ok (.istore 5, 2) := by decide +kernel
theorem d_Wk_amountOnBare_6 : decode m_Wk_amountOnBare.2.1 6 = .ok (.iload 5, 2) := by decide +kernel
theorem d_Wk_amountOnBare_8 : decode m_Wk_amountOnBare.2.1 8 = .ok (.bipush 6, 2) := by decide +kernel
theorem d_Wk_amountOnBare_10 : decode m_Wk_amountOnBare.2.1 10 = .ok (.if_icmp .ge 95, 3) := by decide +kernel
theorem d_Wk_amountOnBare_13 : decode m_Wk_amountOnBare.2.1 13 = .ok (.iload 5, 2) := by decide +kernel
theorem d_Wk_amountOnBare_15 : decode m_Wk_amountOnBare.2.1 15 = .ok (.iload_n 2, 1) := by decide +kernel
theorem d_Wk_amountOnBare_16 : decode m_Wk_amountOnBare.2.1 16 = .ok (.if_icmp .eq 83, 3) := by decide +kernel
theorem d_Wk_amountOnBare_19 : decode m_Wk_amountOnBare.2.1 19 = .ok (.aload_n 0, 1) := by decide +kernel
theorem d_Wk_amountOnBare_20 : decode m_Wk_amountOnBare.2.1 20 = .ok (.iload 5, 2) := by decide +kernel
theorem d_Wk_amountOnBare_22 : decode m_Wk_amountOnBare.2.1 22 = .ok (.invokevirtual 41, 3) := by decide +kernel
theorem d_Wk_amountOnBare_25 : decode m_Wk_amountOnBare.2.1 25 = .ok (.ifCond .eq 74, 3) := by decide +kernel
theorem d_Wk_amountOnBare_28 : decode m_Wk_amountOnBare.2.1 28 = .ok (.aload_n 1, 1) := by decide +kernel
theorem d_Wk_amountOnBare_29 : decode m_Wk_amountOnBare.2.1 29 = .ok (.getfield 94, 3) := by decide +kernel
theorem d_Wk_amountOnBare_32 : decode m_Wk_amountOnBare.2.1 32 = .ok (.iload 5, 2) := by decide +kernel
theorem d_Wk_amountOnBare_34 : decode m_Wk_amountOnBare.2.1 34 = .ok (.iaload, 1) := by decide +kernel
theorem d_Wk_amountOnBare_35 : decode m_Wk_amountOnBare.2.1 35 = .ok (.ifCond .eq 64, 3) := by decide +kernel
theorem d_Wk_amountOnBare_38 : decode m_Wk_amountOnBare.2.1 38 = .ok (.aload_n 0, 1) := by decide +kernel
theorem d_Wk_amountOnBare_39 : decode m_Wk_amountOnBare.2.1 39 = .ok (.iload 5, 2) := by decide +kernel
theorem d_Wk_amountOnBare_41 : decode m_Wk_amountOnBare.2.1 41 = .ok (.iload_n 2, 1) := by decide +kernel
theorem d_Wk_amountOnBare_42 : decode m_Wk_amountOnBare.2.1 42 = .ok (.invokevirtual 105, 3) := by decide +kernel
theorem d_Wk_amountOnBare_45 : decode m_Wk_amountOnBare.2.1 45 = .ok (.ifCond .eq 6, 3) := by decide +kernel
theorem d_Wk_amountOnBare_48 : decode m_Wk_amountOnBare.2.1 48 = .ok (.goto 51, 3) := by decide +kernel
theorem d_Wk_amountOnBare_51 : decode m_Wk_amountOnBare.2.1 51 = .ok (.aload_n 0, 1) := by decide +kernel
theorem d_Wk_amountOnBare_52 : decode m_Wk_amountOnBare.2.1 52 = .ok (.iload 5, 2) := by decide +kernel
theorem d_Wk_amountOnBare_54 : decode m_Wk_amountOnBare.2.1 54 = .ok (.iload_n 2, 1) := by decide +kernel
theorem d_Wk_amountOnBare_55 : decode m_Wk_amountOnBare.2.1 55 = .ok (.invokevirtual 109, 3) := by decide +kernel
theorem d_Wk_amountOnBare_58 : decode m_Wk_amountOnBare.2.1 58 = .ok (.aload_n 1, 1) := by decide +kernel
theorem d_Wk_amountOnBare_59 : decode m_Wk_amountOnBare.2.1 59 = .ok (.getfield 94, 3) := by decide +kernel
theorem d_Wk_amountOnBare_62 : decode m_Wk_amountOnBare.2.1 62 = .ok (.iload 5, 2) := by decide +kernel
theorem d_Wk_amountOnBare_64 : decode m_Wk_amountOnBare.2.1 64 = .ok (.iaload, 1) := by decide +kernel
theorem d_Wk_amountOnBare_65 : decode m_Wk_amountOnBare.2.1 65 = .ok (.if_icmp .ge 5, 3) := by decide +kernel
theorem d_Wk_amountOnBare_68 : decode m_Wk_amountOnBare.2.1 68 = .ok (.iconst 0, 1) := by decide +kernel
theorem d_Wk_amountOnBare_69 : decode m_Wk_amountOnBare.2.1 69 = .ok (.ireturn, 1) := by decide +kernel
theorem d_Wk_amountOnBare_70 : decode m_Wk_amountOnBare.2.1 70 = .ok (.iload 4, 2) := by decide +kernel
theorem d_Wk_amountOnBare_72 : decode m_Wk_amountOnBare.2.1 72 = .ok (.aload_n 0, 1) := by decide +kernel
theorem d_Wk_amountOnBare_73 : decode m_Wk_amountOnBare.2.1 73 = .ok (.iload 5, 2) := by decide +kernel
theorem d_Wk_amountOnBare_75 : decode m_Wk_amountOnBare.2.1 75 = .ok (.iload_n 2, 1) := by decide +kernel
theorem d_Wk_amountOnBare_76 : decode m_Wk_amountOnBare.2.1 76 = .ok (.invokevirtual 109, 3) := by decide +kernel
theorem d_Wk_amountOnBare_79 : decode m_Wk_amountOnBare.2.1 79 = .ok (.aload_n 1, 1) := by decide +kernel
theorem d_Wk_amountOnBare_80 : decode m_Wk_amountOnBare.2.1 80 = .ok (.getfield 94, 3) := by decide +kernel
theorem d_Wk_amountOnBare_83 : decode m_Wk_amountOnBare.2.1 83 = .ok (.iload 5, 2) := by decide +kernel
theorem d_Wk_amountOnBare_85 : decode m_Wk_amountOnBare.2.1 85 = .ok (.iaload, 1) := by decide +kernel
theorem d_Wk_amountOnBare_86 : decode m_Wk_amountOnBare.2.1 86 = .ok (.if_icmp .ne 9, 3) := by decide +kernel
theorem d_Wk_amountOnBare_89 : decode m_Wk_amountOnBare.2.1 89 = .ok (.iload_n 3, 1) := by decide +kernel
theorem d_Wk_amountOnBare_90 : decode m_Wk_amountOnBare.2.1 90 = .ok (.iconst 2, 1) := by decide +kernel
theorem d_Wk_amountOnBare_91 : decode m_Wk_amountOnBare.2.1 91 = .ok (.idiv, 1) := by decide +kernel
theorem d_Wk_amountOnBare_92 : decode m_Wk_amountOnBare.2.1 92 = .ok (.goto 4, 3) := by decide +kernel
theorem d_Wk_amountOnBare_95 : decode m_Wk_amountOnBare.2.1 95 = .ok (.iconst 0, 1) := by decide +kernel
theorem d_Wk_amountOnBare_96 : decode m_Wk_amountOnBare.2.1 96 = .ok (.iadd, 1) := by decide +kernel
theorem d_Wk_amountOnBare_97 : decode m_Wk_amountOnBare.2.1 97 = .ok (.istore 4, 2) := by decide +kernel
theorem d_Wk_amountOnBare_99 : decode m_Wk_amountOnBare.2.1 99 = .ok (.iinc 5 1, 3) := by decide +kernel
theorem d_Wk_amountOnBare_102 : decode m_Wk_amountOnBare.2.1 102 = .ok (.goto (-96), 3) := by decide +kernel
theorem d_Wk_amountOnBare_105 : decode m_Wk_amountOnBare.2.1 105 = .ok (.iload 4, 2) := by decide +kernel
theorem d_Wk_amountOnBare_107 : decode m_Wk_amountOnBare.2.1 107 = .ok (.ireturn, 1) := by decide +kernel
theorem g_Wk_amountOnBare_0 {X : XS} (a0 : List Nat) (a1 : List Nat) (a2 : Int32) (a3 : Int32) (h : Hp) (Q : Option AV → Hp → Prop) (w_a0 : IsWk a0) (w_a1 : IsPl a1) (k : Rn X m_Wk_amountOnBare 6 [some (vR a0), some (vR a1), some (vI a2), some (vI a3), some (vI a3), some (vI 0)] [] h Q) : Rn X m_Wk_amountOnBare 0 [some (vR a0), some (vR a1), some (vI a2), some (vI a3), none, none] [] h Q := by
  refine Rn.iload_n (n := 1) (i := 3) d_Wk_amountOnBare_0 rfl rfl rfl ?_
  refine Rn.istore (n := 3) (i := 4) (ls2 := [some (vR a0), some (vR a1), some (vI a2), some (vI a3), some (vI a3), none]) d_Wk_amountOnBare_1 rfl (Nat.le_of_ble_eq_true rfl) rfl ?_
  refine Rn.iconst (n := 4) (v := 0) d_Wk_amountOnBare_3 rfl (by decide) ?_
  refine Rn.istore (n := 6) (i := 5) (ls2 := [some (vR a0), some (vR a1), some (vI a2), some (vI a3), some (vI a3), some (vI 0)]) d_Wk_amountOnBare_4 rfl (Nat.le_of_ble_eq_true rfl) rfl ?_
  exact k
theorem g_Wk_amountOnBare_6 {X : XS} (a0 : List Nat) (a1 : List Nat) (a2 : Int32) (a3 : Int32) (a4 : Int32) (a5 : Int32) (h : Hp) (Q : Option AV → Hp → Prop) (w_a0 : IsWk a0) (w_a1 : IsPl a1) (k : ((6 ≤ a5 → Q (some (vI a4)) h) ∧ (¬ 6 ≤ a5 → ((a5 = a2 → Rn X m_Wk_amountOnBare 6 [some (vR a0), some (vR a1), some (vI a2), some (vI a3), some (vI a4), some (vI (a5 + 1))] [] h Q) ∧ (¬ a5 = a2 → (∃ Q'4, EvI X m_Wk_isOn [vR a0, vI a5] h Q'4 ∧ ∀ (r5 : Int32) (h3 : Hp), Q'4 r5 h3 → ((r5 = 0 → Rn X m_Wk_amountOnBare 6 [some (vR a0), some (vR a1), some (vI a2), some (vI a3), some (vI a4), some (vI (a5 + 1))] [] h3 Q) ∧ (¬ r5 = 0 → (vp_in a5 6 ∧ (((h3.1 (8 :: a1) a5.toNatClampNeg) = 0 → Rn X m_Wk_amountOnBare 6 [some (vR a0), some (vR a1), some (vI a2), some (vI a3), some (vI a4), some (vI (a5 + 1))] [] h3 Q) ∧ (¬ (h3.1 (8 :: a1) a5.toNatClampNeg) = 0 → (∃ Q'10, EvI X m_Wk_placesApart [vR a0, vI a5, vI a2] h3 Q'10 ∧ ∀ (r11 : Int32) (h9 : Hp), Q'10 r11 h9 → ((r11 = 0 → (∃ Q'15, EvI X m_Wk_lanesApart [vR a0, vI a5, vI a2] h9 Q'15 ∧ ∀ (r16 : Int32) (h14 : Hp), Q'15 r16 h14 → (vp_in a5 6 ∧ (((h14.1 (8 :: a1) a5.toNatClampNeg) ≤ r16 → (∃ Q'21, EvI X m_Wk_lanesApart [vR a0, vI a5, vI a2] h14 Q'21 ∧ ∀ (r22 : Int32) (h20 : Hp), Q'21 r22 h20 → (vp_in a5 6 ∧ ((¬ r22 = (h20.1 (8 :: a1) a5.toNatClampNeg) → Rn X m_Wk_amountOnBare 6 [some (vR a0), some (vR a1), some (vI a2), some (vI a3), some (vI (a4 + 0)), some (vI (a5 + 1))] [] h20 Q) ∧ (r22 = (h20.1 (8 :: a1) a5.toNatClampNeg) → Rn X m_Wk_amountOnBare 6 [some (vR a0), some (vR a1), some (vI a2), some (vI a3), some (vI (a4 + (a3 / 2))), some (vI (a5 + 1))] [] h20 Q))))) ∧ (¬ (h14.1 (8 :: a1) a5.toNatClampNeg) ≤ r16 → Q (some (vI 0)) h14))))) ∧ (¬ r11 = 0 → Rn X m_Wk_amountOnBare 6 [some (vR a0), some (vR a1), some (vI a2), some (vI a3), some (vI a4), some (vI (a5 + 1))] [] h9 Q)))))))))))))) : Rn X m_Wk_amountOnBare 6 [some (vR a0), some (vR a1), some (vI a2), some (vI a3), some (vI a4), some (vI a5)] [] h Q := by
  refine Rn.iload (n := 8) (i := 5) d_Wk_amountOnBare_6 rfl rfl ?_
  refine Rn.bipush (n := 10) (v := 6) d_Wk_amountOnBare_8 rfl (by decide) ?_
  refine Rn.icmp_ge (n := 13) (t := 105) d_Wk_amountOnBare_10 rfl (by decide) (fun cc => ?_) (fun cc => ?_)
  · have k := k.1 cc
    refine Rn.iload (n := 107) (i := 4) d_Wk_amountOnBare_105 rfl rfl ?_
    exact Rn.iret d_Wk_amountOnBare_107 rfl rfl k
  · have k := k.2 cc
    refine Rn.iload (n := 15) (i := 5) d_Wk_amountOnBare_13 rfl rfl ?_
    refine Rn.iload_n (n := 16) (i := 2) d_Wk_amountOnBare_15 rfl rfl rfl ?_
    refine Rn.icmp_eq (n := 19) (t := 99) d_Wk_amountOnBare_16 rfl (by decide) (fun cc => ?_) (fun cc => ?_)
    · have k := k.1 cc
      refine Rn.iinc (n := 102) (i := 5) (v := a5 + 1) (ls2 := [some (vR a0), some (vR a1), some (vI a2), some (vI a3), some (vI a4), some (vI (a5 + 1))]) d_Wk_amountOnBare_99 rfl rfl rfl (Nat.le_of_ble_eq_true rfl) rfl ?_
      refine Rn.goto (n := 6) d_Wk_amountOnBare_102 (by decide) ?_
      exact k
    · have k := k.2 cc
      refine Rn.aload_n (n := 20) (i := 0) d_Wk_amountOnBare_19 rfl rfl rfl ?_
      refine Rn.iload (n := 22) (i := 5) d_Wk_amountOnBare_20 rfl rfl ?_
      obtain ⟨Q'4, ev1, k⟩ := k
      refine Rn.callV (n := 25) (av := [vI a5]) d_Wk_amountOnBare_22 rfl ml_Wk_amountOnBare_41 mi_Wk_isOn w_a0.s rfl rfl rfl rfl (Nat.le_of_ble_eq_true rfl) ev1 (fun v h3 hq => ?_)
      obtain ⟨r5, rfl, hq⟩ := hq
      have k := k r5 h3 hq
      show Rn X m_Wk_amountOnBare 25 [some (vR a0), some (vR a1), some (vI a2), some (vI a3), some (vI a4), some (vI a5)] [vI r5] h3 Q
      refine Rn.if_eq (n := 28) (t := 99) d_Wk_amountOnBare_25 rfl (by decide) (fun cc => ?_) (fun cc => ?_)
      · have k := k.1 cc
        refine Rn.iinc (n := 102) (i := 5) (v := a5 + 1) (ls2 := [some (vR a0), some (vR a1), some (vI a2), some (vI a3), some (vI a4), some (vI (a5 + 1))]) d_Wk_amountOnBare_99 rfl rfl rfl (Nat.le_of_ble_eq_true rfl) rfl ?_
        refine Rn.goto (n := 6) d_Wk_amountOnBare_102 (by decide) ?_
        exact k
      · have k := k.2 cc
        refine Rn.aload_n (n := 29) (i := 1) d_Wk_amountOnBare_28 rfl rfl rfl ?_
        refine Rn.getf (n := 32) (v := vR (8 :: a1)) d_Wk_amountOnBare_29 rfl fl_Wk_94 w_a1.s rfl ?_
        refine Rn.iload (n := 34) (i := 5) d_Wk_amountOnBare_32 rfl rfl ?_
        obtain ⟨b6, k⟩ := k
        refine Rn.iald (n := 35) (v := h3.1 (8 :: a1) a5.toNatClampNeg) d_Wk_amountOnBare_34 rfl w_a1.c8 b6 rfl ?_
        refine Rn.if_eq (n := 38) (t := 99) d_Wk_amountOnBare_35 rfl (by decide) (fun cc => ?_) (fun cc => ?_)
        · have k := k.1 cc
          refine Rn.iinc (n := 102) (i := 5) (v := a5 + 1) (ls2 := [some (vR a0), some (vR a1), some (vI a2), some (vI a3), some (vI a4), some (vI (a5 + 1))]) d_Wk_amountOnBare_99 rfl rfl rfl (Nat.le_of_ble_eq_true rfl) rfl ?_
          refine Rn.goto (n := 6) d_Wk_amountOnBare_102 (by decide) ?_
          exact k
        · have k := k.2 cc
          refine Rn.aload_n (n := 39) (i := 0) d_Wk_amountOnBare_38 rfl rfl rfl ?_
          refine Rn.iload (n := 41) (i := 5) d_Wk_amountOnBare_39 rfl rfl ?_
          refine Rn.iload_n (n := 42) (i := 2) d_Wk_amountOnBare_41 rfl rfl rfl ?_
          obtain ⟨Q'10, ev7, k⟩ := k
          refine Rn.callV (n := 45) (av := [vI a5, vI a2]) d_Wk_amountOnBare_42 rfl ml_Wk_amountOnBare_105 mi_Wk_placesApart w_a0.s rfl rfl rfl rfl (Nat.le_of_ble_eq_true rfl) ev7 (fun v h9 hq => ?_)
          obtain ⟨r11, rfl, hq⟩ := hq
          have k := k r11 h9 hq
          show Rn X m_Wk_amountOnBare 45 [some (vR a0), some (vR a1), some (vI a2), some (vI a3), some (vI a4), some (vI a5)] [vI r11] h9 Q
          refine Rn.if_eq (n := 48) (t := 51) d_Wk_amountOnBare_45 rfl (by decide) (fun cc => ?_) (fun cc => ?_)
          · have k := k.1 cc
            refine Rn.aload_n (n := 52) (i := 0) d_Wk_amountOnBare_51 rfl rfl rfl ?_
            refine Rn.iload (n := 54) (i := 5) d_Wk_amountOnBare_52 rfl rfl ?_
            refine Rn.iload_n (n := 55) (i := 2) d_Wk_amountOnBare_54 rfl rfl rfl ?_
            obtain ⟨Q'15, ev12, k⟩ := k
            refine Rn.callV (n := 58) (av := [vI a5, vI a2]) d_Wk_amountOnBare_55 rfl ml_Wk_amountOnBare_109 mi_Wk_lanesApart w_a0.s rfl rfl rfl rfl (Nat.le_of_ble_eq_true rfl) ev12 (fun v h14 hq => ?_)
            obtain ⟨r16, rfl, hq⟩ := hq
            have k := k r16 h14 hq
            show Rn X m_Wk_amountOnBare 58 [some (vR a0), some (vR a1), some (vI a2), some (vI a3), some (vI a4), some (vI a5)] [vI r16] h14 Q
            refine Rn.aload_n (n := 59) (i := 1) d_Wk_amountOnBare_58 rfl rfl rfl ?_
            refine Rn.getf (n := 62) (v := vR (8 :: a1)) d_Wk_amountOnBare_59 rfl fl_Wk_94 w_a1.s rfl ?_
            refine Rn.iload (n := 64) (i := 5) d_Wk_amountOnBare_62 rfl rfl ?_
            obtain ⟨b17, k⟩ := k
            refine Rn.iald (n := 65) (v := h14.1 (8 :: a1) a5.toNatClampNeg) d_Wk_amountOnBare_64 rfl w_a1.c8 b17 rfl ?_
            refine Rn.icmp_ge (n := 68) (t := 70) d_Wk_amountOnBare_65 rfl (by decide) (fun cc => ?_) (fun cc => ?_)
            · have k := k.1 cc
              refine Rn.iload (n := 72) (i := 4) d_Wk_amountOnBare_70 rfl rfl ?_
              refine Rn.aload_n (n := 73) (i := 0) d_Wk_amountOnBare_72 rfl rfl rfl ?_
              refine Rn.iload (n := 75) (i := 5) d_Wk_amountOnBare_73 rfl rfl ?_
              refine Rn.iload_n (n := 76) (i := 2) d_Wk_amountOnBare_75 rfl rfl rfl ?_
              obtain ⟨Q'21, ev18, k⟩ := k
              refine Rn.callV (n := 79) (av := [vI a5, vI a2]) d_Wk_amountOnBare_76 rfl ml_Wk_amountOnBare_109 mi_Wk_lanesApart w_a0.s rfl rfl rfl rfl (Nat.le_of_ble_eq_true rfl) ev18 (fun v h20 hq => ?_)
              obtain ⟨r22, rfl, hq⟩ := hq
              have k := k r22 h20 hq
              show Rn X m_Wk_amountOnBare 79 [some (vR a0), some (vR a1), some (vI a2), some (vI a3), some (vI a4), some (vI a5)] [vI r22, vI a4] h20 Q
              refine Rn.aload_n (n := 80) (i := 1) d_Wk_amountOnBare_79 rfl rfl rfl ?_
              refine Rn.getf (n := 83) (v := vR (8 :: a1)) d_Wk_amountOnBare_80 rfl fl_Wk_94 w_a1.s rfl ?_
              refine Rn.iload (n := 85) (i := 5) d_Wk_amountOnBare_83 rfl rfl ?_
              obtain ⟨b23, k⟩ := k
              refine Rn.iald (n := 86) (v := h20.1 (8 :: a1) a5.toNatClampNeg) d_Wk_amountOnBare_85 rfl w_a1.c8 b23 rfl ?_
              refine Rn.icmp_ne (n := 89) (t := 95) d_Wk_amountOnBare_86 rfl (by decide) (fun cc => ?_) (fun cc => ?_)
              · have k := k.1 cc
                refine Rn.iconst (n := 96) (v := 0) d_Wk_amountOnBare_95 rfl (by decide) ?_
                refine Rn.iadd (n := 97) d_Wk_amountOnBare_96 rfl ?_
                refine Rn.istore (n := 99) (i := 4) (ls2 := [some (vR a0), some (vR a1), some (vI a2), some (vI a3), some (vI (a4 + 0)), some (vI a5)]) d_Wk_amountOnBare_97 rfl (Nat.le_of_ble_eq_true rfl) rfl ?_
                refine Rn.iinc (n := 102) (i := 5) (v := a5 + 1) (ls2 := [some (vR a0), some (vR a1), some (vI a2), some (vI a3), some (vI (a4 + 0)), some (vI (a5 + 1))]) d_Wk_amountOnBare_99 rfl rfl rfl (Nat.le_of_ble_eq_true rfl) rfl ?_
                refine Rn.goto (n := 6) d_Wk_amountOnBare_102 (by decide) ?_
                exact k
              · have k := k.2 cc
                refine Rn.iload_n (n := 90) (i := 3) d_Wk_amountOnBare_89 rfl rfl rfl ?_
                refine Rn.iconst (n := 91) (v := 2) d_Wk_amountOnBare_90 rfl (by decide) ?_
                refine Rn.idiv (n := 92) d_Wk_amountOnBare_91 rfl (by decide) ?_
                refine Rn.goto (n := 96) d_Wk_amountOnBare_92 (by decide) ?_
                refine Rn.iadd (n := 97) d_Wk_amountOnBare_96 rfl ?_
                refine Rn.istore (n := 99) (i := 4) (ls2 := [some (vR a0), some (vR a1), some (vI a2), some (vI a3), some (vI (a4 + (a3 / 2))), some (vI a5)]) d_Wk_amountOnBare_97 rfl (Nat.le_of_ble_eq_true rfl) rfl ?_
                refine Rn.iinc (n := 102) (i := 5) (v := a5 + 1) (ls2 := [some (vR a0), some (vR a1), some (vI a2), some (vI a3), some (vI (a4 + (a3 / 2))), some (vI (a5 + 1))]) d_Wk_amountOnBare_99 rfl rfl rfl (Nat.le_of_ble_eq_true rfl) rfl ?_
                refine Rn.goto (n := 6) d_Wk_amountOnBare_102 (by decide) ?_
                exact k
            · have k := k.2 cc
              refine Rn.iconst (n := 69) (v := 0) d_Wk_amountOnBare_68 rfl (by decide) ?_
              exact Rn.iret d_Wk_amountOnBare_69 rfl rfl k
          · have k := k.2 cc
            refine Rn.goto (n := 99) d_Wk_amountOnBare_48 (by decide) ?_
            refine Rn.iinc (n := 102) (i := 5) (v := a5 + 1) (ls2 := [some (vR a0), some (vR a1), some (vI a2), some (vI a3), some (vI a4), some (vI (a5 + 1))]) d_Wk_amountOnBare_99 rfl rfl rfl (Nat.le_of_ble_eq_true rfl) rfl ?_
            refine Rn.goto (n := 6) d_Wk_amountOnBare_102 (by decide) ?_
            exact k
theorem e_Wk_amountOnBare {X : XS} (a0 : List Nat) (a1 : List Nat) (a2 : Int32) (a3 : Int32) (h : Hp) (Q : Option AV → Hp → Prop) (k : Rn X m_Wk_amountOnBare 0 [some (vR a0), some (vR a1), some (vI a2), some (vI a3), none, none] [] h Q) : Ev X m_Wk_amountOnBare [vR a0, vR a1, vI a2, vI a3] h Q := Ev.intro (by decide +kernel) (Nat.le_of_ble_eq_true rfl) (ls := [some (vR a0), some (vR a1), some (vI a2), some (vI a3), none, none]) rfl k
end
