-- names, tables' words (printed starting texts), and TB: the words that stay
/-- a private method of a class that the tables say can be made, by its rows of tables_1 -/
def lw_okq (q : MethodName × Nat) : Prop := (q.1.cls ≠ "java/lang/invoke/MethodHandle" ∧ q.1.cls ≠ "java/lang/invoke/VarHandle") ∧ Cond.instantiable q.1.cls q.2 ∈ tables_1 ∧ Cond.privateMethod q.1 ∈ tables_1 ∧ Cond.instanceMethod q.1 ∈ tables_1
theorem lw_p0 : lw_okq (⟨"LivedAgain", "found", "(I)I"⟩, 12) := ⟨⟨by decide +kernel, by decide +kernel⟩, List.mem_of_getElem? (i := 19) (by decide +kernel), List.mem_of_getElem? (i := 223) (by decide +kernel), List.mem_of_getElem? (i := 224) (by decide +kernel)⟩
theorem lw_p1 : lw_okq (⟨"LivedAgain", "answered", "(I)I"⟩, 12) := ⟨⟨by decide +kernel, by decide +kernel⟩, List.mem_of_getElem? (i := 19) (by decide +kernel), List.mem_of_getElem? (i := 232) (by decide +kernel), List.mem_of_getElem? (i := 233) (by decide +kernel)⟩
theorem lw_p2 : lw_okq (⟨"LivedAgain$Tape", "readSign", "(I)V"⟩, 5) := ⟨⟨by decide +kernel, by decide +kernel⟩, List.mem_of_getElem? (i := 49) (by decide +kernel), List.mem_of_getElem? (i := 292) (by decide +kernel), List.mem_of_getElem? (i := 293) (by decide +kernel)⟩
theorem lw_p3 : lw_okq (⟨"LivedAgain$Tape", "byteAt", "(I)I"⟩, 5) := ⟨⟨by decide +kernel, by decide +kernel⟩, List.mem_of_getElem? (i := 49) (by decide +kernel), List.mem_of_getElem? (i := 296) (by decide +kernel), List.mem_of_getElem? (i := 297) (by decide +kernel)⟩
theorem lw_p4 : lw_okq (⟨"LivedAgain$Tape", "readPerson", "(I)LLivedAgain$Person;"⟩, 5) := ⟨⟨by decide +kernel, by decide +kernel⟩, List.mem_of_getElem? (i := 49) (by decide +kernel), List.mem_of_getElem? (i := 300) (by decide +kernel), List.mem_of_getElem? (i := 301) (by decide +kernel)⟩
theorem lw_p5 : lw_okq (⟨"LivedAgain$Tape", "readNumber", "(I)I"⟩, 5) := ⟨⟨by decide +kernel, by decide +kernel⟩, List.mem_of_getElem? (i := 49) (by decide +kernel), List.mem_of_getElem? (i := 307) (by decide +kernel), List.mem_of_getElem? (i := 308) (by decide +kernel)⟩
theorem lw_p6 : lw_okq (⟨"LivedAgain", "forgetActs", "()V"⟩, 12) := ⟨⟨by decide +kernel, by decide +kernel⟩, List.mem_of_getElem? (i := 19) (by decide +kernel), List.mem_of_getElem? (i := 408) (by decide +kernel), List.mem_of_getElem? (i := 409) (by decide +kernel)⟩
theorem lw_p7 : lw_okq (⟨"LivedAgain", "keepAct", "()V"⟩, 12) := ⟨⟨by decide +kernel, by decide +kernel⟩, List.mem_of_getElem? (i := 19) (by decide +kernel), List.mem_of_getElem? (i := 425) (by decide +kernel), List.mem_of_getElem? (i := 426) (by decide +kernel)⟩
theorem lw_p8 : lw_okq (⟨"LivedAgain", "takeHabits", "(I)I"⟩, 12) := ⟨⟨by decide +kernel, by decide +kernel⟩, List.mem_of_getElem? (i := 19) (by decide +kernel), List.mem_of_getElem? (i := 555) (by decide +kernel), List.mem_of_getElem? (i := 556) (by decide +kernel)⟩
theorem lw_p9 : lw_okq (⟨"LivedAgain$Foretelling", "waysOfAll", "(LLivedAgain$Village;II)J"⟩, 6) := ⟨⟨by decide +kernel, by decide +kernel⟩, List.mem_of_getElem? (i := 127) (by decide +kernel), List.mem_of_getElem? (i := 572) (by decide +kernel), List.mem_of_getElem? (i := 573) (by decide +kernel)⟩
theorem lw_p10 : lw_okq (⟨"LivedAgain$Foretelling", "endDay", "(LLivedAgain$Village;IIJ)V"⟩, 6) := ⟨⟨by decide +kernel, by decide +kernel⟩, List.mem_of_getElem? (i := 127) (by decide +kernel), List.mem_of_getElem? (i := 588) (by decide +kernel), List.mem_of_getElem? (i := 589) (by decide +kernel)⟩
theorem lw_p11 : lw_okq (⟨"LivedAgain", "habitsOfPerson", "(II)I"⟩, 12) := ⟨⟨by decide +kernel, by decide +kernel⟩, List.mem_of_getElem? (i := 19) (by decide +kernel), List.mem_of_getElem? (i := 613) (by decide +kernel), List.mem_of_getElem? (i := 614) (by decide +kernel)⟩
theorem lw_p12 : lw_okq (⟨"LivedAgain$Foretelling", "isRest", "(II)Z"⟩, 6) := ⟨⟨by decide +kernel, by decide +kernel⟩, List.mem_of_getElem? (i := 127) (by decide +kernel), List.mem_of_getElem? (i := 641) (by decide +kernel), List.mem_of_getElem? (i := 642) (by decide +kernel)⟩
theorem lw_p13 : lw_okq (⟨"LivedAgain", "imageAt", "(I)LLivedAgain$Village;"⟩, 12) := ⟨⟨by decide +kernel, by decide +kernel⟩, List.mem_of_getElem? (i := 19) (by decide +kernel), List.mem_of_getElem? (i := 715) (by decide +kernel), List.mem_of_getElem? (i := 716) (by decide +kernel)⟩
theorem lw_p14 : lw_okq (⟨"LivedAgainModel", "found", "(I)I"⟩, 27) := ⟨⟨by decide +kernel, by decide +kernel⟩, List.mem_of_getElem? (i := 838) (by decide +kernel), List.mem_of_getElem? (i := 939) (by decide +kernel), List.mem_of_getElem? (i := 940) (by decide +kernel)⟩
theorem lw_p15 : lw_okq (⟨"LivedAgainModel", "well", "(I)I"⟩, 27) := ⟨⟨by decide +kernel, by decide +kernel⟩, List.mem_of_getElem? (i := 838) (by decide +kernel), List.mem_of_getElem? (i := 944) (by decide +kernel), List.mem_of_getElem? (i := 945) (by decide +kernel)⟩
def lw_privs_1 : List (MethodName × Nat) := [(⟨"LivedAgain", "found", "(I)I"⟩, 12), (⟨"LivedAgain", "answered", "(I)I"⟩, 12), (⟨"LivedAgain$Tape", "readSign", "(I)V"⟩, 5), (⟨"LivedAgain$Tape", "byteAt", "(I)I"⟩, 5), (⟨"LivedAgain$Tape", "readPerson", "(I)LLivedAgain$Person;"⟩, 5), (⟨"LivedAgain$Tape", "readNumber", "(I)I"⟩, 5), (⟨"LivedAgain", "forgetActs", "()V"⟩, 12), (⟨"LivedAgain", "keepAct", "()V"⟩, 12), (⟨"LivedAgain", "takeHabits", "(I)I"⟩, 12), (⟨"LivedAgain$Foretelling", "waysOfAll", "(LLivedAgain$Village;II)J"⟩, 6), (⟨"LivedAgain$Foretelling", "endDay", "(LLivedAgain$Village;IIJ)V"⟩, 6), (⟨"LivedAgain", "habitsOfPerson", "(II)I"⟩, 12), (⟨"LivedAgain$Foretelling", "isRest", "(II)Z"⟩, 6), (⟨"LivedAgain", "imageAt", "(I)LLivedAgain$Village;"⟩, 12), (⟨"LivedAgainModel", "found", "(I)I"⟩, 27), (⟨"LivedAgainModel", "well", "(I)I"⟩, 27)]
theorem lw_r1 : ∀ q ∈ lw_privs_1, lw_okq q := List.forall_mem_cons.mpr ⟨lw_p0, List.forall_mem_cons.mpr ⟨lw_p1, List.forall_mem_cons.mpr ⟨lw_p2, List.forall_mem_cons.mpr ⟨lw_p3, List.forall_mem_cons.mpr ⟨lw_p4, List.forall_mem_cons.mpr ⟨lw_p5, List.forall_mem_cons.mpr ⟨lw_p6, List.forall_mem_cons.mpr ⟨lw_p7, List.forall_mem_cons.mpr ⟨lw_p8, List.forall_mem_cons.mpr ⟨lw_p9, List.forall_mem_cons.mpr ⟨lw_p10, List.forall_mem_cons.mpr ⟨lw_p11, List.forall_mem_cons.mpr ⟨lw_p12, List.forall_mem_cons.mpr ⟨lw_p13, List.forall_mem_cons.mpr ⟨lw_p14, List.forall_mem_cons.mpr ⟨lw_p15, fun _ h => absurd h List.not_mem_nil⟩⟩⟩⟩⟩⟩⟩⟩⟩⟩⟩⟩⟩⟩⟩⟩
theorem lw_p16 : lw_okq (⟨"LivedAgainModel", "isMissing", "(I)Z"⟩, 27) := ⟨⟨by decide +kernel, by decide +kernel⟩, List.mem_of_getElem? (i := 838) (by decide +kernel), List.mem_of_getElem? (i := 952) (by decide +kernel), List.mem_of_getElem? (i := 953) (by decide +kernel)⟩
theorem lw_p17 : lw_okq (⟨"LivedAgainModel", "isPart", "(III)Z"⟩, 27) := ⟨⟨by decide +kernel, by decide +kernel⟩, List.mem_of_getElem? (i := 838) (by decide +kernel), List.mem_of_getElem? (i := 963) (by decide +kernel), List.mem_of_getElem? (i := 964) (by decide +kernel)⟩
theorem lw_p18 : lw_okq (⟨"LivedAgainModel", "advances", "()V"⟩, 27) := ⟨⟨by decide +kernel, by decide +kernel⟩, List.mem_of_getElem? (i := 838) (by decide +kernel), List.mem_of_getElem? (i := 980) (by decide +kernel), List.mem_of_getElem? (i := 981) (by decide +kernel)⟩
theorem lw_p19 : lw_okq (⟨"LivedAgainModel", "byteAt", "(I)I"⟩, 27) := ⟨⟨by decide +kernel, by decide +kernel⟩, List.mem_of_getElem? (i := 838) (by decide +kernel), List.mem_of_getElem? (i := 984) (by decide +kernel), List.mem_of_getElem? (i := 985) (by decide +kernel)⟩
theorem lw_p20 : lw_okq (⟨"LivedAgainModel", "takes", "(ZI)I"⟩, 27) := ⟨⟨by decide +kernel, by decide +kernel⟩, List.mem_of_getElem? (i := 838) (by decide +kernel), List.mem_of_getElem? (i := 988) (by decide +kernel), List.mem_of_getElem? (i := 989) (by decide +kernel)⟩
theorem lw_p21 : lw_okq (⟨"LivedAgainModel", "isWell", "()Z"⟩, 27) := ⟨⟨by decide +kernel, by decide +kernel⟩, List.mem_of_getElem? (i := 838) (by decide +kernel), List.mem_of_getElem? (i := 992) (by decide +kernel), List.mem_of_getElem? (i := 993) (by decide +kernel)⟩
theorem lw_p22 : lw_okq (⟨"LivedAgainModel", "readsPerson", "()V"⟩, 27) := ⟨⟨by decide +kernel, by decide +kernel⟩, List.mem_of_getElem? (i := 838) (by decide +kernel), List.mem_of_getElem? (i := 999) (by decide +kernel), List.mem_of_getElem? (i := 1000) (by decide +kernel)⟩
theorem lw_p23 : lw_okq (⟨"LivedAgainModel", "figure", "(I)I"⟩, 27) := ⟨⟨by decide +kernel, by decide +kernel⟩, List.mem_of_getElem? (i := 838) (by decide +kernel), List.mem_of_getElem? (i := 1003) (by decide +kernel), List.mem_of_getElem? (i := 1004) (by decide +kernel)⟩
theorem lw_p24 : lw_okq (⟨"LivedAgainModel", "isVillage", "()Z"⟩, 27) := ⟨⟨by decide +kernel, by decide +kernel⟩, List.mem_of_getElem? (i := 838) (by decide +kernel), List.mem_of_getElem? (i := 1021) (by decide +kernel), List.mem_of_getElem? (i := 1022) (by decide +kernel)⟩
theorem lw_p25 : lw_okq (⟨"LivedAgainModel", "notes", "()V"⟩, 27) := ⟨⟨by decide +kernel, by decide +kernel⟩, List.mem_of_getElem? (i := 838) (by decide +kernel), List.mem_of_getElem? (i := 1026) (by decide +kernel), List.mem_of_getElem? (i := 1027) (by decide +kernel)⟩
theorem lw_p26 : lw_okq (⟨"LivedAgainModel", "isPerson", "(I)Z"⟩, 27) := ⟨⟨by decide +kernel, by decide +kernel⟩, List.mem_of_getElem? (i := 838) (by decide +kernel), List.mem_of_getElem? (i := 1049) (by decide +kernel), List.mem_of_getElem? (i := 1050) (by decide +kernel)⟩
theorem lw_p27 : lw_okq (⟨"LivedAgainModel", "notHabits", "(I)I"⟩, 27) := ⟨⟨by decide +kernel, by decide +kernel⟩, List.mem_of_getElem? (i := 838) (by decide +kernel), List.mem_of_getElem? (i := 1090) (by decide +kernel), List.mem_of_getElem? (i := 1091) (by decide +kernel)⟩
theorem lw_p28 : lw_okq (⟨"LivedAgainModel", "lays", "()V"⟩, 27) := ⟨⟨by decide +kernel, by decide +kernel⟩, List.mem_of_getElem? (i := 838) (by decide +kernel), List.mem_of_getElem? (i := 1094) (by decide +kernel), List.mem_of_getElem? (i := 1095) (by decide +kernel)⟩
theorem lw_p29 : lw_okq (⟨"LivedAgainModel", "ways", "(II)J"⟩, 27) := ⟨⟨by decide +kernel, by decide +kernel⟩, List.mem_of_getElem? (i := 838) (by decide +kernel), List.mem_of_getElem? (i := 1098) (by decide +kernel), List.mem_of_getElem? (i := 1099) (by decide +kernel)⟩
theorem lw_p30 : lw_okq (⟨"LivedAgainModel", "meanOf", "(I)J"⟩, 27) := ⟨⟨by decide +kernel, by decide +kernel⟩, List.mem_of_getElem? (i := 838) (by decide +kernel), List.mem_of_getElem? (i := 1115) (by decide +kernel), List.mem_of_getElem? (i := 1116) (by decide +kernel)⟩
theorem lw_p31 : lw_okq (⟨"LivedAgainModel", "bestOf", "(I)I"⟩, 27) := ⟨⟨by decide +kernel, by decide +kernel⟩, List.mem_of_getElem? (i := 838) (by decide +kernel), List.mem_of_getElem? (i := 1123) (by decide +kernel), List.mem_of_getElem? (i := 1124) (by decide +kernel)⟩
def lw_privs_2 : List (MethodName × Nat) := [(⟨"LivedAgainModel", "isMissing", "(I)Z"⟩, 27), (⟨"LivedAgainModel", "isPart", "(III)Z"⟩, 27), (⟨"LivedAgainModel", "advances", "()V"⟩, 27), (⟨"LivedAgainModel", "byteAt", "(I)I"⟩, 27), (⟨"LivedAgainModel", "takes", "(ZI)I"⟩, 27), (⟨"LivedAgainModel", "isWell", "()Z"⟩, 27), (⟨"LivedAgainModel", "readsPerson", "()V"⟩, 27), (⟨"LivedAgainModel", "figure", "(I)I"⟩, 27), (⟨"LivedAgainModel", "isVillage", "()Z"⟩, 27), (⟨"LivedAgainModel", "notes", "()V"⟩, 27), (⟨"LivedAgainModel", "isPerson", "(I)Z"⟩, 27), (⟨"LivedAgainModel", "notHabits", "(I)I"⟩, 27), (⟨"LivedAgainModel", "lays", "()V"⟩, 27), (⟨"LivedAgainModel", "ways", "(II)J"⟩, 27), (⟨"LivedAgainModel", "meanOf", "(I)J"⟩, 27), (⟨"LivedAgainModel", "bestOf", "(I)I"⟩, 27)]
theorem lw_r2 : ∀ q ∈ lw_privs_2, lw_okq q := List.forall_mem_cons.mpr ⟨lw_p16, List.forall_mem_cons.mpr ⟨lw_p17, List.forall_mem_cons.mpr ⟨lw_p18, List.forall_mem_cons.mpr ⟨lw_p19, List.forall_mem_cons.mpr ⟨lw_p20, List.forall_mem_cons.mpr ⟨lw_p21, List.forall_mem_cons.mpr ⟨lw_p22, List.forall_mem_cons.mpr ⟨lw_p23, List.forall_mem_cons.mpr ⟨lw_p24, List.forall_mem_cons.mpr ⟨lw_p25, List.forall_mem_cons.mpr ⟨lw_p26, List.forall_mem_cons.mpr ⟨lw_p27, List.forall_mem_cons.mpr ⟨lw_p28, List.forall_mem_cons.mpr ⟨lw_p29, List.forall_mem_cons.mpr ⟨lw_p30, List.forall_mem_cons.mpr ⟨lw_p31, fun _ h => absurd h List.not_mem_nil⟩⟩⟩⟩⟩⟩⟩⟩⟩⟩⟩⟩⟩⟩⟩⟩
theorem lw_p32 : lw_okq (⟨"LivedAgainModel", "takesHabits", "(I)V"⟩, 27) := ⟨⟨by decide +kernel, by decide +kernel⟩, List.mem_of_getElem? (i := 838) (by decide +kernel), List.mem_of_getElem? (i := 1131) (by decide +kernel), List.mem_of_getElem? (i := 1132) (by decide +kernel)⟩
theorem lw_p33 : lw_okq (⟨"LivedAgainModel", "isContent", "(I)Z"⟩, 27) := ⟨⟨by decide +kernel, by decide +kernel⟩, List.mem_of_getElem? (i := 838) (by decide +kernel), List.mem_of_getElem? (i := 1135) (by decide +kernel), List.mem_of_getElem? (i := 1136) (by decide +kernel)⟩
theorem lw_p34 : lw_okq (⟨"LivedAgainModel", "goes", "(II)V"⟩, 27) := ⟨⟨by decide +kernel, by decide +kernel⟩, List.mem_of_getElem? (i := 838) (by decide +kernel), List.mem_of_getElem? (i := 1156) (by decide +kernel), List.mem_of_getElem? (i := 1157) (by decide +kernel)⟩
theorem lw_p35 : lw_okq (⟨"LivedAgainModel", "widowsSize", "(I)I"⟩, 27) := ⟨⟨by decide +kernel, by decide +kernel⟩, List.mem_of_getElem? (i := 838) (by decide +kernel), List.mem_of_getElem? (i := 1180) (by decide +kernel), List.mem_of_getElem? (i := 1181) (by decide +kernel)⟩
theorem lw_p36 : lw_okq (⟨"LivedAgainModel", "begins", "(I)V"⟩, 27) := ⟨⟨by decide +kernel, by decide +kernel⟩, List.mem_of_getElem? (i := 838) (by decide +kernel), List.mem_of_getElem? (i := 1184) (by decide +kernel), List.mem_of_getElem? (i := 1185) (by decide +kernel)⟩
theorem lw_p37 : lw_okq (⟨"LivedAgainModel", "farmersSize", "(I)I"⟩, 27) := ⟨⟨by decide +kernel, by decide +kernel⟩, List.mem_of_getElem? (i := 838) (by decide +kernel), List.mem_of_getElem? (i := 1188) (by decide +kernel), List.mem_of_getElem? (i := 1189) (by decide +kernel)⟩
theorem lw_p38 : lw_okq (⟨"LivedAgainModel", "farmersMark", "(I)I"⟩, 27) := ⟨⟨by decide +kernel, by decide +kernel⟩, List.mem_of_getElem? (i := 838) (by decide +kernel), List.mem_of_getElem? (i := 1192) (by decide +kernel), List.mem_of_getElem? (i := 1193) (by decide +kernel)⟩
theorem lw_p39 : lw_okq (⟨"LivedAgainModel", "widowsMark", "(I)I"⟩, 27) := ⟨⟨by decide +kernel, by decide +kernel⟩, List.mem_of_getElem? (i := 838) (by decide +kernel), List.mem_of_getElem? (i := 1196) (by decide +kernel), List.mem_of_getElem? (i := 1197) (by decide +kernel)⟩
def lw_privs_3 : List (MethodName × Nat) := [(⟨"LivedAgainModel", "takesHabits", "(I)V"⟩, 27), (⟨"LivedAgainModel", "isContent", "(I)Z"⟩, 27), (⟨"LivedAgainModel", "goes", "(II)V"⟩, 27), (⟨"LivedAgainModel", "widowsSize", "(I)I"⟩, 27), (⟨"LivedAgainModel", "begins", "(I)V"⟩, 27), (⟨"LivedAgainModel", "farmersSize", "(I)I"⟩, 27), (⟨"LivedAgainModel", "farmersMark", "(I)I"⟩, 27), (⟨"LivedAgainModel", "widowsMark", "(I)I"⟩, 27)]
theorem lw_r3 : ∀ q ∈ lw_privs_3, lw_okq q := List.forall_mem_cons.mpr ⟨lw_p32, List.forall_mem_cons.mpr ⟨lw_p33, List.forall_mem_cons.mpr ⟨lw_p34, List.forall_mem_cons.mpr ⟨lw_p35, List.forall_mem_cons.mpr ⟨lw_p36, List.forall_mem_cons.mpr ⟨lw_p37, List.forall_mem_cons.mpr ⟨lw_p38, List.forall_mem_cons.mpr ⟨lw_p39, fun _ h => absurd h List.not_mem_nil⟩⟩⟩⟩⟩⟩⟩⟩
def lw_privs : List (MethodName × Nat) := lw_privs_1 ++ (lw_privs_2 ++ (lw_privs_3))
def lw_tbl : List Cond := k2_sels lw_privs ++ tables_1
theorem lw_privs_ok : ∀ q ∈ lw_privs, lw_okq q := by
  show ∀ q ∈ lw_privs_1 ++ (lw_privs_2 ++ (lw_privs_3)), lw_okq q
  exact List.forall_mem_append.mpr ⟨lw_r1, List.forall_mem_append.mpr ⟨lw_r2, lw_r3⟩⟩

def RX0 : String := "LivedAgain$Farmer"
def TX0 : u_T := fun k => match k with
  | 0 => ("LivedAgain$Person", "number", "I", true)
  | 1 => ("LivedAgain$Person", "chance", "I", true)
  | 2 => ("LivedAgain$Person", "gain", "I", true)
  | _ => ("LivedAgain$Person", "loss", "I", true)
def tyX0 : Nat → FieldType := fun k => match k with
  | 0 => .int
  | 1 => .int
  | 2 => .int
  | _ => .int
abbrev wsX00 : List Cond := u_ws RX0 TX0 4
theorem nmX0 : ∀ a, a < 4 → ∀ b, b < 4 → a ≠ b → (TX0 a).2.1 ≠ (TX0 b).2.1 := by decide +kernel
theorem tyX0_ok : ∀ k, k < 4 → parseFieldDescriptor (TX0 k).2.2.1 = some (tyX0 k) := by decide +kernel
abbrev cX0_init : ByteArray := prog_2_method_1_code
def yX0_init : MethodName := ⟨RX0, "<init>", "(IIII)V"⟩
abbrev cX0_ownKind : ByteArray := prog_2_method_2_code
def yX0_ownKind : MethodName := ⟨RX0, "ownKind", "()I"⟩
abbrev cX0_sizeBy : ByteArray := prog_2_method_3_code
def yX0_sizeBy : MethodName := ⟨RX0, "sizeBy", "(LLivedAgain$Trace;)I"⟩
abbrev cX0_markBy : ByteArray := prog_2_method_4_code
def yX0_markBy : MethodName := ⟨RX0, "markBy", "(LLivedAgain$Trace;)I"⟩
def RX1 : String := "LivedAgain$Foretelling"
def TX1 : u_T := fun k => match k with
  | 0 => ("LivedAgain$Foretelling", "habits", "[I", true)
  | 1 => ("LivedAgain$Foretelling", "byLives", "[J", true)
  | 2 => ("LivedAgain$Foretelling", "brought", "[J", true)
  | 3 => ("LivedAgain$Foretelling", "firstRest", "I", false)
  | 4 => ("LivedAgain$Foretelling", "reached", "[J", true)
  | _ => ("LivedAgain$Foretelling", "means", "[J", true)
def tyX1 : Nat → FieldType := fun k => match k with
  | 0 => .array .int
  | 1 => .array .long
  | 2 => .array .long
  | 3 => .int
  | 4 => .array .long
  | _ => .array .long
abbrev wsX10 : List Cond := u_ws RX1 TX1 6
theorem nmX1 : ∀ a, a < 6 → ∀ b, b < 6 → a ≠ b → (TX1 a).2.1 ≠ (TX1 b).2.1 := by decide +kernel
theorem tyX1_ok : ∀ k, k < 6 → parseFieldDescriptor (TX1 k).2.2.1 = some (tyX1 k) := by decide +kernel
abbrev cX1_init : ByteArray := prog_3_method_1_code
def yX1_init : MethodName := ⟨RX1, "<init>", "()V"⟩
abbrev cX1_tell : ByteArray := prog_3_method_2_code
def yX1_tell : MethodName := ⟨RX1, "tell", "(LLivedAgain$Village;)V"⟩
abbrev cX1_waysOfAll : ByteArray := prog_3_method_3_code
def yX1_waysOfAll : MethodName := ⟨RX1, "waysOfAll", "(LLivedAgain$Village;II)J"⟩
abbrev cX1_endDay : ByteArray := prog_3_method_4_code
def yX1_endDay : MethodName := ⟨RX1, "endDay", "(LLivedAgain$Village;IIJ)V"⟩
abbrev cX1_bestHabit : ByteArray := prog_3_method_5_code
def yX1_bestHabit : MethodName := ⟨RX1, "bestHabit", "(LLivedAgain$Village;I)I"⟩
abbrev cX1_findRests : ByteArray := prog_3_method_6_code
def yX1_findRests : MethodName := ⟨RX1, "findRests", "(LLivedAgain$Village;)I"⟩
abbrev cX1_isRest : ByteArray := prog_3_method_7_code
def yX1_isRest : MethodName := ⟨RX1, "isRest", "(II)Z"⟩
abbrev cX1_habitIn : ByteArray := prog_3_method_8_code
def yX1_habitIn : MethodName := ⟨RX1, "habitIn", "(III)I"⟩
abbrev cX1_stepOf : ByteArray := prog_3_method_9_code
def yX1_stepOf : MethodName := ⟨RX1, "stepOf", "(II)I"⟩
def RX2 : String := "LivedAgain$Gambler"
def TX2 : u_T := fun k => match k with
  | 0 => ("LivedAgain$Person", "number", "I", true)
  | 1 => ("LivedAgain$Person", "chance", "I", true)
  | 2 => ("LivedAgain$Person", "gain", "I", true)
  | _ => ("LivedAgain$Person", "loss", "I", true)
def tyX2 : Nat → FieldType := fun k => match k with
  | 0 => .int
  | 1 => .int
  | 2 => .int
  | _ => .int
abbrev wsX20 : List Cond := u_ws RX2 TX2 4
theorem nmX2 : ∀ a, a < 4 → ∀ b, b < 4 → a ≠ b → (TX2 a).2.1 ≠ (TX2 b).2.1 := by decide +kernel
theorem tyX2_ok : ∀ k, k < 4 → parseFieldDescriptor (TX2 k).2.2.1 = some (tyX2 k) := by decide +kernel
abbrev cX2_init : ByteArray := prog_4_method_1_code
def yX2_init : MethodName := ⟨RX2, "<init>", "(IIII)V"⟩
abbrev cX2_ownKind : ByteArray := prog_4_method_2_code
def yX2_ownKind : MethodName := ⟨RX2, "ownKind", "()I"⟩
abbrev cX2_bringsBy : ByteArray := prog_4_method_3_code
def yX2_bringsBy : MethodName := ⟨RX2, "bringsBy", "(Z)I"⟩
abbrev cX2_sizeBy : ByteArray := prog_4_method_4_code
def yX2_sizeBy : MethodName := ⟨RX2, "sizeBy", "(LLivedAgain$Trace;)I"⟩
abbrev cX2_markBy : ByteArray := prog_4_method_5_code
def yX2_markBy : MethodName := ⟨RX2, "markBy", "(LLivedAgain$Trace;)I"⟩
def RX3 : String := "LivedAgain$Person"
def TX3 : u_T := fun k => match k with
  | _ => ("", "", "", false)
def tyX3 : Nat → FieldType := fun k => match k with
  | _ => .int
abbrev wsX30 : List Cond := u_ws RX3 TX3 0
theorem nmX3 : ∀ a, a < 0 → ∀ b, b < 0 → a ≠ b → (TX3 a).2.1 ≠ (TX3 b).2.1 := by decide +kernel
theorem tyX3_ok : ∀ k, k < 0 → parseFieldDescriptor (TX3 k).2.2.1 = some (tyX3 k) := by decide +kernel
abbrev cX3_init : ByteArray := prog_5_method_1_code
def yX3_init : MethodName := ⟨RX3, "<init>", "(IIII)V"⟩
abbrev cX3_helpOf : ByteArray := prog_5_method_3_code
def yX3_helpOf : MethodName := ⟨RX3, "helpOf", "(I)I"⟩
abbrev cX3_bringsBy : ByteArray := prog_5_method_4_code
def yX3_bringsBy : MethodName := ⟨RX3, "bringsBy", "(Z)I"⟩
abbrev cX3_beginsWithRight : ByteArray := prog_5_method_5_code
def yX3_beginsWithRight : MethodName := ⟨RX3, "beginsWithRight", "()Z"⟩
abbrev cX3_mayUseRight : ByteArray := prog_5_method_6_code
def yX3_mayUseRight : MethodName := ⟨RX3, "mayUseRight", "()Z"⟩
abbrev cX3_sizeBy : ByteArray := prog_5_method_7_code
def yX3_sizeBy : MethodName := ⟨RX3, "sizeBy", "(LLivedAgain$Trace;)I"⟩
abbrev cX3_markBy : ByteArray := prog_5_method_8_code
def yX3_markBy : MethodName := ⟨RX3, "markBy", "(LLivedAgain$Trace;)I"⟩
abbrev cX3_oddsBy : ByteArray := prog_5_method_9_code
def yX3_oddsBy : MethodName := ⟨RX3, "oddsBy", "(I)I"⟩
abbrev cX3_waysToGo : ByteArray := prog_5_method_10_code
def yX3_waysToGo : MethodName := ⟨RX3, "waysToGo", "(IZ)I"⟩
abbrev cX3_meanTenths : ByteArray := prog_5_method_11_code
def yX3_meanTenths : MethodName := ⟨RX3, "meanTenths", "(I)J"⟩
abbrev cX3_worthOfRight : ByteArray := prog_5_method_12_code
def yX3_worthOfRight : MethodName := ⟨RX3, "worthOfRight", "(I)J"⟩
def RX4 : String := "LivedAgain$Rows"
def TX4 : u_T := fun k => match k with
  | 0 => ("LivedAgain$Rows", "items", "[[I", true)
  | 1 => ("LivedAgain$Rows", "lanes", "[I", true)
  | _ => ("LivedAgain$Rows", "sizes", "[I", true)
def tyX4 : Nat → FieldType := fun k => match k with
  | 0 => .array (.array .int)
  | 1 => .array .int
  | _ => .array .int
abbrev wsX40 : List Cond := u_ws RX4 TX4 3
theorem nmX4 : ∀ a, a < 3 → ∀ b, b < 3 → a ≠ b → (TX4 a).2.1 ≠ (TX4 b).2.1 := by decide +kernel
theorem tyX4_ok : ∀ k, k < 3 → parseFieldDescriptor (TX4 k).2.2.1 = some (tyX4 k) := by decide +kernel
abbrev cX4_init : ByteArray := prog_6_method_1_code
def yX4_init : MethodName := ⟨RX4, "<init>", "()V"⟩
abbrev cX4_isNumber : ByteArray := prog_6_method_2_code
def yX4_isNumber : MethodName := ⟨RX4, "isNumber", "(I)Z"⟩
abbrev cX4_isMissing : ByteArray := prog_6_method_3_code
def yX4_isMissing : MethodName := ⟨RX4, "isMissing", "(I)Z"⟩
abbrev cX4_areOfOneLane : ByteArray := prog_6_method_4_code
def yX4_areOfOneLane : MethodName := ⟨RX4, "areOfOneLane", "(II)Z"⟩
abbrev cX4_hasPart : ByteArray := prog_6_method_5_code
def yX4_hasPart : MethodName := ⟨RX4, "hasPart", "(III)Z"⟩
abbrev cX4_itemAt : ByteArray := prog_6_method_6_code
def yX4_itemAt : MethodName := ⟨RX4, "itemAt", "(II)I"⟩
abbrev cX4_lay : ByteArray := prog_6_method_7_code
def yX4_lay : MethodName := ⟨RX4, "lay", "(III)V"⟩
abbrev cX4_put : ByteArray := prog_6_method_8_code
def yX4_put : MethodName := ⟨RX4, "put", "(III)I"⟩
abbrev cX4_carry : ByteArray := prog_6_method_9_code
def yX4_carry : MethodName := ⟨RX4, "carry", "(IIIII)V"⟩
abbrev cX4_takeAway : ByteArray := prog_6_method_10_code
def yX4_takeAway : MethodName := ⟨RX4, "takeAway", "(I)I"⟩
abbrev cX4_howMany : ByteArray := prog_6_method_11_code
def yX4_howMany : MethodName := ⟨RX4, "howMany", "()I"⟩
def RX5 : String := "LivedAgain$Saint"
def TX5 : u_T := fun k => match k with
  | 0 => ("LivedAgain$Person", "number", "I", true)
  | 1 => ("LivedAgain$Person", "chance", "I", true)
  | 2 => ("LivedAgain$Person", "gain", "I", true)
  | _ => ("LivedAgain$Person", "loss", "I", true)
def tyX5 : Nat → FieldType := fun k => match k with
  | 0 => .int
  | 1 => .int
  | 2 => .int
  | _ => .int
abbrev wsX50 : List Cond := u_ws RX5 TX5 4
theorem nmX5 : ∀ a, a < 4 → ∀ b, b < 4 → a ≠ b → (TX5 a).2.1 ≠ (TX5 b).2.1 := by decide +kernel
theorem tyX5_ok : ∀ k, k < 4 → parseFieldDescriptor (TX5 k).2.2.1 = some (tyX5 k) := by decide +kernel
abbrev cX5_init : ByteArray := prog_7_method_1_code
def yX5_init : MethodName := ⟨RX5, "<init>", "(IIII)V"⟩
abbrev cX5_ownKind : ByteArray := prog_7_method_2_code
def yX5_ownKind : MethodName := ⟨RX5, "ownKind", "()I"⟩
abbrev cX5_helpOf : ByteArray := prog_7_method_3_code
def yX5_helpOf : MethodName := ⟨RX5, "helpOf", "(I)I"⟩
abbrev cX5_bringsBy : ByteArray := prog_7_method_4_code
def yX5_bringsBy : MethodName := ⟨RX5, "bringsBy", "(Z)I"⟩
abbrev cX5_markBy : ByteArray := prog_7_method_5_code
def yX5_markBy : MethodName := ⟨RX5, "markBy", "(LLivedAgain$Trace;)I"⟩
def RX6 : String := "LivedAgain$Stranger"
def TX6 : u_T := fun k => match k with
  | 0 => ("LivedAgain$Person", "number", "I", true)
  | 1 => ("LivedAgain$Person", "chance", "I", true)
  | 2 => ("LivedAgain$Person", "gain", "I", true)
  | _ => ("LivedAgain$Person", "loss", "I", true)
def tyX6 : Nat → FieldType := fun k => match k with
  | 0 => .int
  | 1 => .int
  | 2 => .int
  | _ => .int
abbrev wsX60 : List Cond := u_ws RX6 TX6 4
theorem nmX6 : ∀ a, a < 4 → ∀ b, b < 4 → a ≠ b → (TX6 a).2.1 ≠ (TX6 b).2.1 := by decide +kernel
theorem tyX6_ok : ∀ k, k < 4 → parseFieldDescriptor (TX6 k).2.2.1 = some (tyX6 k) := by decide +kernel
abbrev cX6_init : ByteArray := prog_8_method_1_code
def yX6_init : MethodName := ⟨RX6, "<init>", "(IIII)V"⟩
abbrev cX6_ownKind : ByteArray := prog_8_method_2_code
def yX6_ownKind : MethodName := ⟨RX6, "ownKind", "()I"⟩
abbrev cX6_beginsWithRight : ByteArray := prog_8_method_3_code
def yX6_beginsWithRight : MethodName := ⟨RX6, "beginsWithRight", "()Z"⟩
abbrev cX6_mayUseRight : ByteArray := prog_8_method_4_code
def yX6_mayUseRight : MethodName := ⟨RX6, "mayUseRight", "()Z"⟩
abbrev cX6_sizeBy : ByteArray := prog_8_method_5_code
def yX6_sizeBy : MethodName := ⟨RX6, "sizeBy", "(LLivedAgain$Trace;)I"⟩
def RX7 : String := "LivedAgain$Tape"
def TX7 : u_T := fun k => match k with
  | 0 => ("LivedAgain$Tape", "newcomers", "[LLivedAgain$Person;", true)
  | 1 => ("LivedAgain$Tape", "length", "I", false)
  | 2 => ("LivedAgain$Tape", "place", "I", false)
  | 3 => ("LivedAgain$Tape", "flaw", "I", false)
  | _ => ("LivedAgain$Tape", "bytes", "[I", true)
def tyX7 : Nat → FieldType := fun k => match k with
  | 0 => .array (.object "LivedAgain$Person")
  | 1 => .int
  | 2 => .int
  | 3 => .int
  | _ => .array .int
abbrev wsX70 : List Cond := u_ws RX7 TX7 5
theorem nmX7 : ∀ a, a < 5 → ∀ b, b < 5 → a ≠ b → (TX7 a).2.1 ≠ (TX7 b).2.1 := by decide +kernel
theorem tyX7_ok : ∀ k, k < 5 → parseFieldDescriptor (TX7 k).2.2.1 = some (tyX7 k) := by decide +kernel
abbrev cX7_init : ByteArray := prog_9_method_1_code
def yX7_init : MethodName := ⟨RX7, "<init>", "()V"⟩
abbrev cX7_takeByte : ByteArray := prog_9_method_2_code
def yX7_takeByte : MethodName := ⟨RX7, "takeByte", "(I)Z"⟩
abbrev cX7_readVillage : ByteArray := prog_9_method_3_code
def yX7_readVillage : MethodName := ⟨RX7, "readVillage", "()I"⟩
abbrev cX7_byteAt : ByteArray := prog_9_method_4_code
def yX7_byteAt : MethodName := ⟨RX7, "byteAt", "(I)I"⟩
abbrev cX7_readSign : ByteArray := prog_9_method_5_code
def yX7_readSign : MethodName := ⟨RX7, "readSign", "(I)V"⟩
abbrev cX7_readNumber : ByteArray := prog_9_method_6_code
def yX7_readNumber : MethodName := ⟨RX7, "readNumber", "(I)I"⟩
abbrev cX7_readPerson : ByteArray := prog_9_method_7_code
def yX7_readPerson : MethodName := ⟨RX7, "readPerson", "(I)LLivedAgain$Person;"⟩
abbrev cX7_isFigure : ByteArray := prog_9_method_8_code
def yX7_isFigure : MethodName := ⟨RX7, "isFigure", "(I)Z"⟩
abbrev cX7_isSort : ByteArray := prog_9_method_9_code
def yX7_isSort : MethodName := ⟨RX7, "isSort", "(I)Z"⟩
abbrev cX7_newPerson : ByteArray := prog_9_method_10_code
def yX7_newPerson : MethodName := ⟨RX7, "newPerson", "(IIIII)LLivedAgain$Person;"⟩
def RX8 : String := "LivedAgain$Trace"
def TX8 : u_T := fun k => match k with
  | 0 => ("LivedAgain$Trace", "numbers", "[I", true)
  | 1 => ("LivedAgain$Trace", "left", "I", false)
  | 2 => ("LivedAgain$Trace", "purse", "I", false)
  | _ => ("LivedAgain$Trace", "memory", "I", false)
def tyX8 : Nat → FieldType := fun k => match k with
  | 0 => .array .int
  | 1 => .int
  | 2 => .int
  | _ => .int
abbrev wsX80 : List Cond := u_ws RX8 TX8 4
theorem nmX8 : ∀ a, a < 4 → ∀ b, b < 4 → a ≠ b → (TX8 a).2.1 ≠ (TX8 b).2.1 := by decide +kernel
theorem tyX8_ok : ∀ k, k < 4 → parseFieldDescriptor (TX8 k).2.2.1 = some (tyX8 k) := by decide +kernel
abbrev cX8_init : ByteArray := prog_10_method_1_code
def yX8_init : MethodName := ⟨RX8, "<init>", "()V"⟩
abbrev cX8_begin : ByteArray := prog_10_method_2_code
def yX8_begin : MethodName := ⟨RX8, "begin", "(II)V"⟩
abbrev cX8_leave : ByteArray := prog_10_method_3_code
def yX8_leave : MethodName := ⟨RX8, "leave", "(I)V"⟩
abbrev cX8_numberAt : ByteArray := prog_10_method_4_code
def yX8_numberAt : MethodName := ⟨RX8, "numberAt", "(I)I"⟩
def RX9 : String := "LivedAgain$Village"
def TX9 : u_T := fun k => match k with
  | 0 => ("LivedAgain$Village", "people", "[LLivedAgain$Person;", true)
  | 1 => ("LivedAgain$Village", "memories", "[I", true)
  | 2 => ("LivedAgain$Village", "purses", "[I", true)
  | 3 => ("LivedAgain$Village", "lives", "[I", true)
  | 4 => ("LivedAgain$Village", "there", "Z", false)
  | 5 => ("LivedAgain$Village", "size", "I", false)
  | 6 => ("LivedAgain$Village", "date", "I", false)
  | 7 => ("LivedAgain$Village", "evening", "Z", false)
  | 8 => ("LivedAgain$Village", "well", "I", false)
  | _ => ("LivedAgain$Village", "rights", "I", false)
def tyX9 : Nat → FieldType := fun k => match k with
  | 0 => .array (.object "LivedAgain$Person")
  | 1 => .array .int
  | 2 => .array .int
  | 3 => .array .int
  | 4 => .boolean
  | 5 => .int
  | 6 => .int
  | 7 => .boolean
  | 8 => .int
  | _ => .int
abbrev wsX90 : List Cond := u_ws RX9 TX9 10
theorem nmX9 : ∀ a, a < 10 → ∀ b, b < 10 → a ≠ b → (TX9 a).2.1 ≠ (TX9 b).2.1 := by decide +kernel
theorem tyX9_ok : ∀ k, k < 10 → parseFieldDescriptor (TX9 k).2.2.1 = some (tyX9 k) := by decide +kernel
abbrev cX9_init : ByteArray := prog_11_method_1_code
def yX9_init : MethodName := ⟨RX9, "<init>", "()V"⟩
abbrev cX9_settle : ByteArray := prog_11_method_2_code
def yX9_settle : MethodName := ⟨RX9, "settle", "([LLivedAgain$Person;I)V"⟩
abbrev cX9_takeFrom : ByteArray := prog_11_method_3_code
def yX9_takeFrom : MethodName := ⟨RX9, "takeFrom", "(LLivedAgain$Village;)V"⟩
abbrev cX9_keepIn : ByteArray := prog_11_method_4_code
def yX9_keepIn : MethodName := ⟨RX9, "keepIn", "([II)V"⟩
abbrev cX9_takeBack : ByteArray := prog_11_method_5_code
def yX9_takeBack : MethodName := ⟨RX9, "takeBack", "([II)V"⟩
abbrev cX9_personAt : ByteArray := prog_11_method_6_code
def yX9_personAt : MethodName := ⟨RX9, "personAt", "(I)LLivedAgain$Person;"⟩
abbrev cX9_hasRight : ByteArray := prog_11_method_7_code
def yX9_hasRight : MethodName := ⟨RX9, "hasRight", "(I)Z"⟩
abbrev cX9_mayRepeat : ByteArray := prog_11_method_8_code
def yX9_mayRepeat : MethodName := ⟨RX9, "mayRepeat", "(II)Z"⟩
abbrev cX9_howManyMayRepeat : ByteArray := prog_11_method_9_code
def yX9_howManyMayRepeat : MethodName := ⟨RX9, "howManyMayRepeat", "(I)I"⟩
abbrev cX9_firstToRepeat : ByteArray := prog_11_method_10_code
def yX9_firstToRepeat : MethodName := ⟨RX9, "firstToRepeat", "([III)I"⟩
abbrev cX9_passDay : ByteArray := prog_11_method_11_code
def yX9_passDay : MethodName := ⟨RX9, "passDay", "(J)J"⟩
abbrev cX9_repeatDay : ByteArray := prog_11_method_12_code
def yX9_repeatDay : MethodName := ⟨RX9, "repeatDay", "(I)V"⟩
abbrev cX9_closeDay : ByteArray := prog_11_method_13_code
def yX9_closeDay : MethodName := ⟨RX9, "closeDay", "()V"⟩
abbrev cX9_passDates : ByteArray := prog_11_method_14_code
def yX9_passDates : MethodName := ⟨RX9, "passDates", "([III)I"⟩
def RX10 : String := "LivedAgain$Widow"
def TX10 : u_T := fun k => match k with
  | 0 => ("LivedAgain$Person", "number", "I", true)
  | 1 => ("LivedAgain$Person", "chance", "I", true)
  | 2 => ("LivedAgain$Person", "gain", "I", true)
  | _ => ("LivedAgain$Person", "loss", "I", true)
def tyX10 : Nat → FieldType := fun k => match k with
  | 0 => .int
  | 1 => .int
  | 2 => .int
  | _ => .int
abbrev wsX100 : List Cond := u_ws RX10 TX10 4
theorem nmX10 : ∀ a, a < 4 → ∀ b, b < 4 → a ≠ b → (TX10 a).2.1 ≠ (TX10 b).2.1 := by decide +kernel
theorem tyX10_ok : ∀ k, k < 4 → parseFieldDescriptor (TX10 k).2.2.1 = some (tyX10 k) := by decide +kernel
abbrev cX10_init : ByteArray := prog_12_method_1_code
def yX10_init : MethodName := ⟨RX10, "<init>", "(IIII)V"⟩
abbrev cX10_ownKind : ByteArray := prog_12_method_2_code
def yX10_ownKind : MethodName := ⟨RX10, "ownKind", "()I"⟩
abbrev cX10_mayUseRight : ByteArray := prog_12_method_3_code
def yX10_mayUseRight : MethodName := ⟨RX10, "mayUseRight", "()Z"⟩
abbrev cX10_sizeBy : ByteArray := prog_12_method_4_code
def yX10_sizeBy : MethodName := ⟨RX10, "sizeBy", "(LLivedAgain$Trace;)I"⟩
abbrev cX10_markBy : ByteArray := prog_12_method_5_code
def yX10_markBy : MethodName := ⟨RX10, "markBy", "(LLivedAgain$Trace;)I"⟩
def RX11 : String := "LivedAgain"
def TX11 : u_T := fun k => match k with
  | 0 => ("LivedAgain", "rows", "LLivedAgain$Rows;", true)
  | 1 => ("LivedAgain", "tape", "LLivedAgain$Tape;", true)
  | 2 => ("LivedAgain", "now", "LLivedAgain$Village;", true)
  | 3 => ("LivedAgain", "guess", "LLivedAgain$Village;", true)
  | 4 => ("LivedAgain", "images", "[LLivedAgain$Village;", true)
  | 5 => ("LivedAgain", "foretelling", "LLivedAgain$Foretelling;", true)
  | 6 => ("LivedAgain", "asked", "LLivedAgain$Trace;", true)
  | 7 => ("LivedAgain", "acts", "[I", true)
  | 8 => ("LivedAgain", "nextAct", "I", false)
  | 9 => ("LivedAgain", "keptActs", "I", false)
  | 10 => ("LivedAgain", "latestFault", "I", false)
  | _ => ("LivedAgain", "latestFinding", "I", false)
def tyX11 : Nat → FieldType := fun k => match k with
  | 0 => .object "LivedAgain$Rows"
  | 1 => .object "LivedAgain$Tape"
  | 2 => .object "LivedAgain$Village"
  | 3 => .object "LivedAgain$Village"
  | 4 => .array (.object "LivedAgain$Village")
  | 5 => .object "LivedAgain$Foretelling"
  | 6 => .object "LivedAgain$Trace"
  | 7 => .array .int
  | 8 => .int
  | 9 => .int
  | 10 => .int
  | _ => .int
abbrev wsX110 : List Cond := u_ws RX11 TX11 12
theorem nmX11 : ∀ a, a < 12 → ∀ b, b < 12 → a ≠ b → (TX11 a).2.1 ≠ (TX11 b).2.1 := by decide +kernel
theorem tyX11_ok : ∀ k, k < 12 → parseFieldDescriptor (TX11 k).2.2.1 = some (tyX11 k) := by decide +kernel
abbrev cX11_init : ByteArray := prog_1_method_1_code
def yX11_init : MethodName := ⟨RX11, "<init>", "()V"⟩
abbrev cX11_row : ByteArray := prog_1_method_2_code
def yX11_row : MethodName := ⟨RX11, "row", "(III)I"⟩
abbrev cX11_set : ByteArray := prog_1_method_3_code
def yX11_set : MethodName := ⟨RX11, "set", "(III)I"⟩
abbrev cX11_copy : ByteArray := prog_1_method_4_code
def yX11_copy : MethodName := ⟨RX11, "copy", "(IIIII)I"⟩
abbrev cX11_drop : ByteArray := prog_1_method_5_code
def yX11_drop : MethodName := ⟨RX11, "drop", "(I)I"⟩
abbrev cX11_feed : ByteArray := prog_1_method_6_code
def yX11_feed : MethodName := ⟨RX11, "feed", "(I)I"⟩
abbrev cX11_village : ByteArray := prog_1_method_7_code
def yX11_village : MethodName := ⟨RX11, "village", "()I"⟩
abbrev cX11_fault : ByteArray := prog_1_method_8_code
def yX11_fault : MethodName := ⟨RX11, "fault", "()I"⟩
abbrev cX11_live : ByteArray := prog_1_method_9_code
def yX11_live : MethodName := ⟨RX11, "live", "(I)I"⟩
abbrev cX11_again : ByteArray := prog_1_method_10_code
def yX11_again : MethodName := ⟨RX11, "again", "(I)I"⟩
abbrev cX11_stand : ByteArray := prog_1_method_11_code
def yX11_stand : MethodName := ⟨RX11, "stand", "()I"⟩
abbrev cX11_will : ByteArray := prog_1_method_12_code
def yX11_will : MethodName := ⟨RX11, "will", "(II)I"⟩
abbrev cX11_undo : ByteArray := prog_1_method_13_code
def yX11_undo : MethodName := ⟨RX11, "undo", "()I"⟩
abbrev cX11_person : ByteArray := prog_1_method_14_code
def yX11_person : MethodName := ⟨RX11, "person", "(II)I"⟩
abbrev cX11_lives : ByteArray := prog_1_method_15_code
def yX11_lives : MethodName := ⟨RX11, "lives", "(I)I"⟩
abbrev cX11_lived : ByteArray := prog_1_method_16_code
def yX11_lived : MethodName := ⟨RX11, "lived", "(IIZ)J"⟩
abbrev cX11_mean : ByteArray := prog_1_method_17_code
def yX11_mean : MethodName := ⟨RX11, "mean", "(IIZ)J"⟩
abbrev cX11_best : ByteArray := prog_1_method_18_code
def yX11_best : MethodName := ⟨RX11, "best", "(II)I"⟩
abbrev cX11_rests : ByteArray := prog_1_method_19_code
def yX11_rests : MethodName := ⟨RX11, "rests", "(I)I"⟩
abbrev cX11_worth : ByteArray := prog_1_method_20_code
def yX11_worth : MethodName := ⟨RX11, "worth", "(IIZ)J"⟩
abbrev cX11_knows : ByteArray := prog_1_method_21_code
def yX11_knows : MethodName := ⟨RX11, "knows", "(IIIZ)J"⟩
abbrev cX11_often : ByteArray := prog_1_method_22_code
def yX11_often : MethodName := ⟨RX11, "often", "(IIII)I"⟩
abbrev cX11_gone : ByteArray := prog_1_method_23_code
def yX11_gone : MethodName := ⟨RX11, "gone", "(IIII)I"⟩
abbrev cX11_image : ByteArray := prog_1_method_24_code
def yX11_image : MethodName := ⟨RX11, "image", "(I)I"⟩
abbrev cX11_restore : ByteArray := prog_1_method_25_code
def yX11_restore : MethodName := ⟨RX11, "restore", "(I)I"⟩
abbrev cX11_kind : ByteArray := prog_1_method_26_code
def yX11_kind : MethodName := ⟨RX11, "kind", "(I)I"⟩
abbrev cX11_as : ByteArray := prog_1_method_27_code
def yX11_as : MethodName := ⟨RX11, "as", "(II)I"⟩
abbrev cX11_ask : ByteArray := prog_1_method_28_code
def yX11_ask : MethodName := ⟨RX11, "ask", "(II)I"⟩
abbrev cX11_trace : ByteArray := prog_1_method_29_code
def yX11_trace : MethodName := ⟨RX11, "trace", "(I)I"⟩
abbrev cX11_count : ByteArray := prog_1_method_30_code
def yX11_count : MethodName := ⟨RX11, "count", "(I)I"⟩
abbrev cX11_status : ByteArray := prog_1_method_31_code
def yX11_status : MethodName := ⟨RX11, "status", "()I"⟩
abbrev cX11_found : ByteArray := prog_1_method_32_code
def yX11_found : MethodName := ⟨RX11, "found", "(I)I"⟩
abbrev cX11_answered : ByteArray := prog_1_method_33_code
def yX11_answered : MethodName := ⟨RX11, "answered", "(I)I"⟩
abbrev cX11_keepAct : ByteArray := prog_1_method_34_code
def yX11_keepAct : MethodName := ⟨RX11, "keepAct", "()V"⟩
abbrev cX11_forgetActs : ByteArray := prog_1_method_35_code
def yX11_forgetActs : MethodName := ⟨RX11, "forgetActs", "()V"⟩
abbrev cX11_imageAt : ByteArray := prog_1_method_36_code
def yX11_imageAt : MethodName := ⟨RX11, "imageAt", "(I)LLivedAgain$Village;"⟩
abbrev cX11_habitsOfPerson : ByteArray := prog_1_method_37_code
def yX11_habitsOfPerson : MethodName := ⟨RX11, "habitsOfPerson", "(II)I"⟩
abbrev cX11_takeHabits : ByteArray := prog_1_method_38_code
def yX11_takeHabits : MethodName := ⟨RX11, "takeHabits", "(I)I"⟩
abbrev cX11_isSeed : ByteArray := prog_1_method_39_code
def yX11_isSeed : MethodName := ⟨RX11, "isSeed", "(I)Z"⟩
abbrev cX11_isOfKind : ByteArray := prog_1_method_40_code
def yX11_isOfKind : MethodName := ⟨RX11, "isOfKind", "(LLivedAgain$Person;I)Z"⟩
abbrev cX11_orders : ByteArray := prog_1_method_41_code
def yX11_orders : MethodName := ⟨RX11, "orders", "(II)I"⟩
abbrev cX11_part : ByteArray := prog_1_method_42_code
def yX11_part : MethodName := ⟨RX11, "part", "(JJZ)J"⟩
abbrev cX11_commonDivisor : ByteArray := prog_1_method_43_code
def yX11_commonDivisor : MethodName := ⟨RX11, "commonDivisor", "(JJ)J"⟩
def RX12 : String := "LivedAgainModel"
def TX12 : u_T := fun k => match k with
  | 0 => ("LivedAgainModel", "lane", "[I", true)
  | 1 => ("LivedAgainModel", "many", "[I", true)
  | 2 => ("LivedAgainModel", "items", "[I", true)
  | 3 => ("LivedAgainModel", "spare", "[I", true)
  | 4 => ("LivedAgainModel", "status", "I", false)
  | 5 => ("LivedAgainModel", "tape", "[I", true)
  | 6 => ("LivedAgainModel", "taped", "I", false)
  | 7 => ("LivedAgainModel", "faultKind", "I", false)
  | 8 => ("LivedAgainModel", "faultPlace", "I", false)
  | 9 => ("LivedAgainModel", "at", "I", false)
  | 10 => ("LivedAgainModel", "start", "I", false)
  | 11 => ("LivedAgainModel", "token", "I", false)
  | 12 => ("LivedAgainModel", "value", "I", false)
  | 13 => ("LivedAgainModel", "now", "[I", true)
  | 14 => ("LivedAgainModel", "draft", "[I", true)
  | 15 => ("LivedAgainModel", "tried", "[I", true)
  | 16 => ("LivedAgainModel", "past", "[I", true)
  | 17 => ("LivedAgainModel", "acts", "I", false)
  | 18 => ("LivedAgainModel", "images", "[I", true)
  | 19 => ("LivedAgainModel", "kept", "[Z", true)
  | 20 => ("LivedAgainModel", "trace", "[I", true)
  | 21 => ("LivedAgainModel", "traced", "I", false)
  | 22 => ("LivedAgainModel", "comes", "[J", true)
  | 23 => ("LivedAgainModel", "standing", "[J", true)
  | 24 => ("LivedAgainModel", "brought", "[J", true)
  | 25 => ("LivedAgainModel", "habit", "[I", true)
  | _ => ("LivedAgainModel", "livedMany", "I", false)
def tyX12 : Nat → FieldType := fun k => match k with
  | 0 => .array .int
  | 1 => .array .int
  | 2 => .array .int
  | 3 => .array .int
  | 4 => .int
  | 5 => .array .int
  | 6 => .int
  | 7 => .int
  | 8 => .int
  | 9 => .int
  | 10 => .int
  | 11 => .int
  | 12 => .int
  | 13 => .array .int
  | 14 => .array .int
  | 15 => .array .int
  | 16 => .array .int
  | 17 => .int
  | 18 => .array .int
  | 19 => .array .boolean
  | 20 => .array .int
  | 21 => .int
  | 22 => .array .long
  | 23 => .array .long
  | 24 => .array .long
  | 25 => .array .int
  | _ => .int
abbrev wsX120 : List Cond := u_ws RX12 TX12 27
theorem nmX12 : ∀ a, a < 27 → ∀ b, b < 27 → a ≠ b → (TX12 a).2.1 ≠ (TX12 b).2.1 := by decide +kernel
theorem tyX12_ok : ∀ k, k < 27 → parseFieldDescriptor (TX12 k).2.2.1 = some (tyX12 k) := by decide +kernel
abbrev cX12_init : ByteArray := prog_14_method_1_code
def yX12_init : MethodName := ⟨RX12, "<init>", "()V"⟩
abbrev cX12_in : ByteArray := prog_14_method_3_code
def yX12_in : MethodName := ⟨RX12, "in", "(III)Z"⟩
abbrev cX12_found : ByteArray := prog_14_method_4_code
def yX12_found : MethodName := ⟨RX12, "found", "(I)I"⟩
abbrev cX12_well : ByteArray := prog_14_method_5_code
def yX12_well : MethodName := ⟨RX12, "well", "(I)I"⟩
abbrev cX12_isRow : ByteArray := prog_14_method_6_code
def yX12_isRow : MethodName := ⟨RX12, "isRow", "(I)Z"⟩
abbrev cX12_isMissing : ByteArray := prog_14_method_7_code
def yX12_isMissing : MethodName := ⟨RX12, "isMissing", "(I)Z"⟩
abbrev cX12_cut : ByteArray := prog_14_method_8_code
def yX12_cut : MethodName := ⟨RX12, "cut", "(II)I"⟩
abbrev cX12_row : ByteArray := prog_14_method_9_code
def yX12_row : MethodName := ⟨RX12, "row", "(III)I"⟩
abbrev cX12_set : ByteArray := prog_14_method_10_code
def yX12_set : MethodName := ⟨RX12, "set", "(III)I"⟩
abbrev cX12_isPart : ByteArray := prog_14_method_11_code
def yX12_isPart : MethodName := ⟨RX12, "isPart", "(III)Z"⟩
abbrev cX12_copy : ByteArray := prog_14_method_12_code
def yX12_copy : MethodName := ⟨RX12, "copy", "(IIIII)I"⟩
abbrev cX12_drop : ByteArray := prog_14_method_13_code
def yX12_drop : MethodName := ⟨RX12, "drop", "(I)I"⟩
abbrev cX12_feed : ByteArray := prog_14_method_14_code
def yX12_feed : MethodName := ⟨RX12, "feed", "(I)I"⟩
abbrev cX12_byteAt : ByteArray := prog_14_method_15_code
def yX12_byteAt : MethodName := ⟨RX12, "byteAt", "(I)I"⟩
abbrev cX12_advances : ByteArray := prog_14_method_16_code
def yX12_advances : MethodName := ⟨RX12, "advances", "()V"⟩
abbrev cX12_isWell : ByteArray := prog_14_method_17_code
def yX12_isWell : MethodName := ⟨RX12, "isWell", "()Z"⟩
abbrev cX12_takes : ByteArray := prog_14_method_18_code
def yX12_takes : MethodName := ⟨RX12, "takes", "(ZI)I"⟩
abbrev cX12_figure : ByteArray := prog_14_method_19_code
def yX12_figure : MethodName := ⟨RX12, "figure", "(I)I"⟩
abbrev cX12_kindOf : ByteArray := prog_14_method_20_code
def yX12_kindOf : MethodName := ⟨RX12, "kindOf", "(I)I"⟩
abbrev cX12_readsPerson : ByteArray := prog_14_method_21_code
def yX12_readsPerson : MethodName := ⟨RX12, "readsPerson", "()V"⟩
abbrev cX12_village : ByteArray := prog_14_method_22_code
def yX12_village : MethodName := ⟨RX12, "village", "()I"⟩
abbrev cX12_fault : ByteArray := prog_14_method_23_code
def yX12_fault : MethodName := ⟨RX12, "fault", "()I"⟩
abbrev cX12_isVillage : ByteArray := prog_14_method_24_code
def yX12_isVillage : MethodName := ⟨RX12, "isVillage", "()Z"⟩
abbrev cX12_isPerson : ByteArray := prog_14_method_25_code
def yX12_isPerson : MethodName := ⟨RX12, "isPerson", "(I)Z"⟩
abbrev cX12_has : ByteArray := prog_14_method_26_code
def yX12_has : MethodName := ⟨RX12, "has", "(II)Z"⟩
abbrev cX12_kindIn : ByteArray := prog_14_method_27_code
def yX12_kindIn : MethodName := ⟨RX12, "kindIn", "([II)I"⟩
abbrev cX12_odds : ByteArray := prog_14_method_28_code
def yX12_odds : MethodName := ⟨RX12, "odds", "([III)I"⟩
abbrev cX12_brings : ByteArray := prog_14_method_29_code
def yX12_brings : MethodName := ⟨RX12, "brings", "([IIZ)I"⟩
abbrev cX12_notes : ByteArray := prog_14_method_30_code
def yX12_notes : MethodName := ⟨RX12, "notes", "()V"⟩
abbrev cX12_undo : ByteArray := prog_14_method_31_code
def yX12_undo : MethodName := ⟨RX12, "undo", "()I"⟩
abbrev cX12_after : ByteArray := prog_14_method_32_code
def yX12_after : MethodName := ⟨RX12, "after", "(J)J"⟩
abbrev cX12_passes : ByteArray := prog_14_method_33_code
def yX12_passes : MethodName := ⟨RX12, "passes", "([IJ)J"⟩
abbrev cX12_againBy : ByteArray := prog_14_method_34_code
def yX12_againBy : MethodName := ⟨RX12, "againBy", "([II)V"⟩
abbrev cX12_stands : ByteArray := prog_14_method_35_code
def yX12_stands : MethodName := ⟨RX12, "stands", "([I)V"⟩
abbrev cX12_live : ByteArray := prog_14_method_36_code
def yX12_live : MethodName := ⟨RX12, "live", "(I)I"⟩
abbrev cX12_again : ByteArray := prog_14_method_37_code
def yX12_again : MethodName := ⟨RX12, "again", "(I)I"⟩
abbrev cX12_stand : ByteArray := prog_14_method_38_code
def yX12_stand : MethodName := ⟨RX12, "stand", "()I"⟩
abbrev cX12_ones : ByteArray := prog_14_method_39_code
def yX12_ones : MethodName := ⟨RX12, "ones", "(I)I"⟩
abbrev cX12_will : ByteArray := prog_14_method_40_code
def yX12_will : MethodName := ⟨RX12, "will", "(II)I"⟩
abbrev cX12_person : ByteArray := prog_14_method_41_code
def yX12_person : MethodName := ⟨RX12, "person", "(II)I"⟩
abbrev cX12_lives : ByteArray := prog_14_method_42_code
def yX12_lives : MethodName := ⟨RX12, "lives", "(I)I"⟩
abbrev cX12_power : ByteArray := prog_14_method_43_code
def yX12_power : MethodName := ⟨RX12, "power", "(I)J"⟩
abbrev cX12_tells : ByteArray := prog_14_method_44_code
def yX12_tells : MethodName := ⟨RX12, "tells", "(JJZ)J"⟩
abbrev cX12_ways : ByteArray := prog_14_method_45_code
def yX12_ways : MethodName := ⟨RX12, "ways", "(II)J"⟩
abbrev cX12_goesAgain : ByteArray := prog_14_method_46_code
def yX12_goesAgain : MethodName := ⟨RX12, "goesAgain", "([I[III)I"⟩
abbrev cX12_lays : ByteArray := prog_14_method_47_code
def yX12_lays : MethodName := ⟨RX12, "lays", "()V"⟩
abbrev cX12_meanOf : ByteArray := prog_14_method_48_code
def yX12_meanOf : MethodName := ⟨RX12, "meanOf", "(I)J"⟩
abbrev cX12_notHabits : ByteArray := prog_14_method_49_code
def yX12_notHabits : MethodName := ⟨RX12, "notHabits", "(I)I"⟩
abbrev cX12_lived : ByteArray := prog_14_method_50_code
def yX12_lived : MethodName := ⟨RX12, "lived", "(IIZ)J"⟩
abbrev cX12_mean : ByteArray := prog_14_method_51_code
def yX12_mean : MethodName := ⟨RX12, "mean", "(IIZ)J"⟩
abbrev cX12_bestOf : ByteArray := prog_14_method_52_code
def yX12_bestOf : MethodName := ⟨RX12, "bestOf", "(I)I"⟩
abbrev cX12_best : ByteArray := prog_14_method_53_code
def yX12_best : MethodName := ⟨RX12, "best", "(II)I"⟩
abbrev cX12_isContent : ByteArray := prog_14_method_54_code
def yX12_isContent : MethodName := ⟨RX12, "isContent", "(I)Z"⟩
abbrev cX12_takesHabits : ByteArray := prog_14_method_55_code
def yX12_takesHabits : MethodName := ⟨RX12, "takesHabits", "(I)V"⟩
abbrev cX12_rests : ByteArray := prog_14_method_56_code
def yX12_rests : MethodName := ⟨RX12, "rests", "(I)I"⟩
abbrev cX12_worth : ByteArray := prog_14_method_57_code
def yX12_worth : MethodName := ⟨RX12, "worth", "(IIZ)J"⟩
abbrev cX12_knows : ByteArray := prog_14_method_58_code
def yX12_knows : MethodName := ⟨RX12, "knows", "(IIIZ)J"⟩
abbrev cX12_often : ByteArray := prog_14_method_59_code
def yX12_often : MethodName := ⟨RX12, "often", "(IIII)I"⟩
abbrev cX12_goes : ByteArray := prog_14_method_60_code
def yX12_goes : MethodName := ⟨RX12, "goes", "(II)V"⟩
abbrev cX12_gone : ByteArray := prog_14_method_61_code
def yX12_gone : MethodName := ⟨RX12, "gone", "(IIII)I"⟩
abbrev cX12_image : ByteArray := prog_14_method_62_code
def yX12_image : MethodName := ⟨RX12, "image", "(I)I"⟩
abbrev cX12_restore : ByteArray := prog_14_method_63_code
def yX12_restore : MethodName := ⟨RX12, "restore", "(I)I"⟩
abbrev cX12_kind : ByteArray := prog_14_method_64_code
def yX12_kind : MethodName := ⟨RX12, "kind", "(I)I"⟩
abbrev cX12_as : ByteArray := prog_14_method_65_code
def yX12_as : MethodName := ⟨RX12, "as", "(II)I"⟩
abbrev cX12_begins : ByteArray := prog_14_method_66_code
def yX12_begins : MethodName := ⟨RX12, "begins", "(I)V"⟩
abbrev cX12_farmersMark : ByteArray := prog_14_method_67_code
def yX12_farmersMark : MethodName := ⟨RX12, "farmersMark", "(I)I"⟩
abbrev cX12_widowsSize : ByteArray := prog_14_method_68_code
def yX12_widowsSize : MethodName := ⟨RX12, "widowsSize", "(I)I"⟩
abbrev cX12_farmersSize : ByteArray := prog_14_method_69_code
def yX12_farmersSize : MethodName := ⟨RX12, "farmersSize", "(I)I"⟩
abbrev cX12_widowsMark : ByteArray := prog_14_method_70_code
def yX12_widowsMark : MethodName := ⟨RX12, "widowsMark", "(I)I"⟩
abbrev cX12_ask : ByteArray := prog_14_method_71_code
def yX12_ask : MethodName := ⟨RX12, "ask", "(II)I"⟩
abbrev cX12_trace : ByteArray := prog_14_method_72_code
def yX12_trace : MethodName := ⟨RX12, "trace", "(I)I"⟩
abbrev cX12_count : ByteArray := prog_14_method_73_code
def yX12_count : MethodName := ⟨RX12, "count", "(I)I"⟩
abbrev cX12_status : ByteArray := prog_14_method_74_code
def yX12_status : MethodName := ⟨RX12, "status", "()I"⟩
def RJ6 : String := "java/lang/Integer"
def TJ6 : u_T := fun k => match k with
  | _ => ("", "", "", false)
def tyJ6 : Nat → FieldType := fun k => match k with
  | _ => .int
abbrev wsJ60 : List Cond := u_ws RJ6 TJ6 0
theorem nmJ6 : ∀ a, a < 0 → ∀ b, b < 0 → a ≠ b → (TJ6 a).2.1 ≠ (TJ6 b).2.1 := by decide +kernel
theorem tyJ6_ok : ∀ k, k < 0 → parseFieldDescriptor (TJ6 k).2.2.1 = some (tyJ6 k) := by decide +kernel
abbrev cJ6_bitCount_0f7a4 : ByteArray := prog_15_method_49_code
def yJ6_bitCount_0f7a4 : MethodName := ⟨RJ6, "bitCount", "(I)I"⟩
def RJ9 : String := "java/lang/Math"
def TJ9 : u_T := fun k => match k with
  | _ => ("", "", "", false)
def tyJ9 : Nat → FieldType := fun k => match k with
  | _ => .int
abbrev wsJ90 : List Cond := u_ws RJ9 TJ9 0
theorem nmJ9 : ∀ a, a < 0 → ∀ b, b < 0 → a ≠ b → (TJ9 a).2.1 ≠ (TJ9 b).2.1 := by decide +kernel
theorem tyJ9_ok : ∀ k, k < 0 → parseFieldDescriptor (TJ9 k).2.2.1 = some (tyJ9 k) := by decide +kernel
abbrev cJ9_abs_067f4 : ByteArray := prog_16_method_61_code
def yJ9_abs_067f4 : MethodName := ⟨RJ9, "abs", "(J)J"⟩
abbrev cJ9_max_f86c9 : ByteArray := prog_16_method_66_code
def yJ9_max_f86c9 : MethodName := ⟨RJ9, "max", "(JJ)J"⟩
abbrev cJ9_min_7cf53 : ByteArray := prog_16_method_69_code
def yJ9_min_7cf53 : MethodName := ⟨RJ9, "min", "(II)I"⟩
def RJ10 : String := "java/lang/System"
def TJ10 : u_T := fun k => match k with
  | _ => ("", "", "", false)
def tyJ10 : Nat → FieldType := fun k => match k with
  | _ => .int
abbrev wsJ100 : List Cond := u_ws RJ10 TJ10 0
theorem nmJ10 : ∀ a, a < 0 → ∀ b, b < 0 → a ≠ b → (TJ10 a).2.1 ≠ (TJ10 b).2.1 := by decide +kernel
theorem tyJ10_ok : ∀ k, k < 0 → parseFieldDescriptor (TJ10 k).2.2.1 = some (tyJ10 k) := by decide +kernel
def RJ7 : String := "java/util/Arrays"
def TJ7 : u_T := fun k => match k with
  | _ => ("", "", "", false)
def tyJ7 : Nat → FieldType := fun k => match k with
  | _ => .int
abbrev wsJ70 : List Cond := u_ws RJ7 TJ7 0
theorem nmJ7 : ∀ a, a < 0 → ∀ b, b < 0 → a ≠ b → (TJ7 a).2.1 ≠ (TJ7 b).2.1 := by decide +kernel
theorem tyJ7_ok : ∀ k, k < 0 → parseFieldDescriptor (TJ7 k).2.2.1 = some (tyJ7 k) := by decide +kernel
abbrev cJ7_fill_d0a16 : ByteArray := prog_18_method_101_code
def yJ7_fill_d0a16 : MethodName := ⟨RJ7, "fill", "([JJ)V"⟩
abbrev cJ7_fill_53178 : ByteArray := prog_18_method_103_code
def yJ7_fill_53178 : MethodName := ⟨RJ7, "fill", "([II)V"⟩
def RL : String := "LivedAgainLaw"
abbrev cL_law : ByteArray := code
def yL_law : MethodName := ⟨RL, "law", "([I)Z"⟩
def va_AOA (ty : FieldType) (U : State) : Prop := (Cond.arrayOver (.array ty)).before #[] U = true
theorem va_AOA.use {ty : FieldType} {A : Array Value} {U : State} (h : va_AOA ty U) : (Cond.arrayOver (.array ty)).before A U = true := h
/-! ===== BEGIN new T[n][m]: the outer array a place, the inner ones among the pooled ===== -/
/-- f, but v at every address of l -/
def vr_up {α : Type} (f : Nat → α) (l : List Nat) (v : α) : Nat → α := fun a => if a ∈ l then v else f a
theorem vr_up_in {α : Type} {f : Nat → α} {l : List Nat} {v : α} {a : Nat} (h : a ∈ l) : vr_up f l v a = v := if_pos h
theorem vr_up_ne {α : Type} {f : Nat → α} {l : List Nat} {v : α} {a : Nat} (h : a ∉ l) : vr_up f l v a = f a := if_neg h
theorem vr_rows {L l : List Nat} {f : Nat → va_E} {e : va_E} (h : ∀ a, a ∈ l → a ∉ L) : va_pl L f ++ l.map (fun a => (a, e)) = va_pl (L ++ l) (vr_up f l e) := by
  unfold va_pl
  rw [List.map_append]
  congr 1
  · apply List.map_congr_left
    intro a ha
    rw [vr_up_ne (fun q => h a q ha)]
  · apply List.map_congr_left
    intro a ha
    rw [vr_up_in ha]
theorem vr_lay {X rows : va_W} {x : Nat × va_E} {pl : va_W} {D : va_G} {cl : List vw_C} {H : Heap} (hP : va_P D cl (((X ++ pl) ++ [x]) ++ rows) H) : va_P D cl ((X ++ [x]) ++ (pl ++ rows)) H := by
  rw [List.append_assoc (X ++ pl)] at hP
  have h := va_P.swap hP
  rw [← List.append_assoc X] at h
  have h2 := va_P.swap h
  rw [List.append_assoc (X ++ [x])] at h2
  exact h2
theorem vr_layD {X rows : va_W} {x : Nat × va_E} {pl : va_W} {A : Nat → Prop} (hD : va_D A (((X ++ pl) ++ [x]) ++ rows)) : va_D A ((X ++ [x]) ++ (pl ++ rows)) := by
  rw [List.append_assoc (X ++ pl)] at hD
  have h := va_D.swap hD
  rw [← List.append_assoc X] at h
  have h2 := va_D.swap h
  rw [List.append_assoc (X ++ [x])] at h2
  exact h2
theorem vr_outer (c : ClassId) (N h0 : Nat) : ∀ i : Nat, Jvm.Free.Multi.outerC c N h0 i = arrV c N (fun j => va_rf (if j < i then some (h0 + 1 + j) else none))
  | 0 => by
    show ({ cls := c, slots := Array.replicate N .null, vm := .none } : Cell) = _
    rw [arrV_new]
    refine congrArg (arrV c N) (funext fun j => ?_)
    simp [va_rf]
  | i + 1 => by
    show (Jvm.Free.Multi.outerC c N h0 i).setSlot i (.ref (h0 + 1 + i)) = _
    rw [vr_outer c N h0 i, arrV_store]
    refine congrArg (arrV c N) (funext fun j => ?_)
    by_cases e : j = i
    · subst e
      simp [updV, va_rf]
    · by_cases h : j < i
      · simp [updV, e, h, Nat.lt_succ_of_lt h]
      · simp [updV, e, h, show ¬ j < i + 1 by omega]
section VGM
variable {p : Program} {l : Launch} {e : Env} {R : Room} {s : State} {m : MethodId} {args : Array Value} {below : List Frame} {meth : Method} {c : Code} {H : Heap} {locs : List Loc} {cells slots : Nat} {Q : State → Prop}
variable {cc : ByteArray} {pc : Nat} {ls : Array Slot} {rest : List Value} {D : va_G} {cl : List vw_C} {A : Nat → Prop} {a : Nat} {tys : List (ClassId × FieldType)} {ws : va_W} {H0 : Heap}
theorem va_mna {X : va_W} {L : List Nat} {f : Nat → va_E} {cc : ByteArray} (hexec : p.tables.exec = Jvm.exec) (hb : c.code = cc) {own : String} {index : Nat} {ty : FieldType} {cy : ClassId} (hown : s.vm.findClass own = some m.cls) (hclink : (Cond.classLink own index ("[" ++ (FieldType.array ty).toString)).before args s = true) (hover : va_AOA ty s) (harr : (Cond.arrayClass ty).before args s = true) (hcy : s.vm.findClass (FieldType.array ty).toString = some cy)
    (hK : va_K D cl tys s) (hP : va_P D cl (X ++ va_pl L f) H) (hD : va_D A (X ++ va_pl L f)) (hS : va_S A H0 H locs) (hA : ∀ q, H0.size ≤ q → A q) {n k : Int32} {N' K' : Nat} {z : vp_A} (hn : ¬ n < 0) (hk : ¬ k < 0) (hN : n.toNatClampNeg = N') (hM : k.toNatClampNeg = K')
    (hb1 : N' * 4 ≤ 536870912) (hb2 : K' * componentBytes ty ≤ 536870912) (hb3 : K' ≤ 536870912) (hdf : fits ty (defaultValue ty) = true) (hdd : (defaultValue ty).isDefault = true) (hcells : cells + (1 + N') ≤ R.cells) (hslots : slots + (N' + N' * K') ≤ R.slots) (hz : ∀ c : ClassId, Jvm.Free.Multi.innerC c K' (defaultValue ty) = vp_cell c z) (hdg : decode cc pc = .ok (.multianewarray index 2, 4))
    (kk : ∀ (q : Nat) (r : Nat → Nat) (cA : ClassId) (H1 : Heap), (∀ i j : Nat, i < N' → j < N' → r i = r j → i = j) → (∀ i : Nat, i < N' → r i ∉ L) → va_K D cl (tys ++ [(cA, .array ty)]) s →
      va_P D cl ((X ++ [(q, .inl (cA, N', .inr (.inr (.inr (.inr (fun i => if i < N' then some (r i) else none))))))]) ++ va_pl (L ++ (List.range N').map r) (vr_up f ((List.range N').map r) (.inl (cy, z)))) H1 → va_D A ((X ++ [(q, .inl (cA, N', .inr (.inr (.inr (.inr (fun i => if i < N' then some (r i) else none))))))]) ++ va_pl (L ++ (List.range N').map r) (vr_up f ((List.range N').map r) (.inl (cy, z)))) → va_S A H0 H1 locs →
      W p l e R s m args below meth c H1 locs (cells + 1 + N') (slots + N' + N' * K') Q (F0 m (pc + 4) ls (.ref q :: rest))) : W p l e R s m args below meth c H locs cells slots Q (F0 m pc ls (.int k :: .int n :: rest)) := by
  subst hN
  subst hM
  intro T hT Xs
  obtain ⟨vm₁, cA, comp, -, fA, fC, hO, -, X', step⟩ := Xs.multianewarray2F hexec hown hclink (va_AOA.use hover) harr (g := F0 m pc ls (.int k :: .int n :: rest)) rfl (by rw [hb]; exact hdg) rfl hn hk hb1 hb2 hb3 hdf hdd hcells hslots
  have ec : some cy = some comp := hcy.symm.trans fC
  cases ec
  generalize hF : Jvm.Free.Multi.fill (T.setVm vm₁) cA cy n.toNatClampNeg k.toNatClampNeg (defaultValue ty) n.toNatClampNeg = F at X' step
  have hTh : (T.setVm vm₁).heap = H := hT
  obtain ⟨f1, f2, -, -⟩ := Jvm.Free.Multi.fill_facts (T.setVm vm₁) cA cy n.toNatClampNeg k.toNatClampNeg (defaultValue ty) n.toNatClampNeg
  rw [hF, hTh] at f1 f2
  have hold : ∀ x : Nat, x < H.size → F.heap[x]? = H[x]? := fun x hx => by
    have := Jvm.Free.Multi.fill_old (T.setVm vm₁) cA cy n.toNatClampNeg k.toNatClampNeg (defaultValue ty) (a := x) (by rw [hTh]; exact hx) n.toNatClampNeg
    rw [hF, hTh] at this
    exact this
  have hrow : ∀ j : Nat, j < n.toNatClampNeg → F.heap[H.size + 1 + j]? = some (vp_cell cy z) := fun j hj => by
    have := Jvm.Free.Multi.fill_inner (T.setVm vm₁) cA cy n.toNatClampNeg k.toNatClampNeg (defaultValue ty) n.toNatClampNeg j hj
    rw [hF, hTh, hz] at this
    exact this
  have hout : Jvm.Free.Multi.outerC cA n.toNatClampNeg H.size n.toNatClampNeg = vp_cell cA (n.toNatClampNeg, .inr (.inr (.inr (.inr (fun i => if i < n.toNatClampNeg then some (H.size + 1 + i) else none))))) := by
    rw [vp_cell_q]
    exact vr_outer cA n.toNatClampNeg H.size n.toNatClampNeg
  rw [hout] at f2
  have hlt : ∀ a, a ∈ L → a < H.size := fun a ha => by
    obtain ⟨k9, hk9⟩ := va_pl_get (X := X) (f := f) ha
    exact (hP k9 _ hk9).lt
  have hnl : ∀ i : Nat, i < n.toNatClampNeg → H.size + 1 + i ∉ L := fun i _ h => by
    have := hlt _ h
    omega
  have hnm : ∀ a, a ∈ (List.range n.toNatClampNeg).map (fun i => H.size + 1 + i) → a ∉ L := fun a ha h => by
    obtain ⟨i, -, rfl⟩ := List.mem_map.mp ha
    have := hlt _ h
    omega
  have hP0 : va_P D cl (X ++ va_pl L f) F.heap := hP.kept (fun k9 x hx => hold x.1 ((hP k9 x hx).lt))
  have hP1 : va_P D cl ((X ++ va_pl L f) ++ [(H.size, .inl (cA, n.toNatClampNeg, .inr (.inr (.inr (.inr (fun i => if i < n.toNatClampNeg then some (H.size + 1 + i) else none))))))]) F.heap := hP0.app (fun k9 x hx => by
    have h0 : k9 < 1 := (List.getElem?_eq_some_iff.mp hx).1
    rw [show k9 = 0 by omega] at hx
    cases hx
    exact f2)
  have hP2 : va_P D cl (((X ++ va_pl L f) ++ [(H.size, .inl (cA, n.toNatClampNeg, .inr (.inr (.inr (.inr (fun i => if i < n.toNatClampNeg then some (H.size + 1 + i) else none))))))]) ++ ((List.range n.toNatClampNeg).map (fun i => H.size + 1 + i)).map (fun a => (a, .inl (cy, z)))) F.heap := hP1.app (fun k9 x hx => by
    obtain ⟨a, ha, rfl⟩ := List.mem_map.mp (List.mem_of_getElem? hx)
    obtain ⟨i, hi, rfl⟩ := List.mem_map.mp ha
    exact hrow i (List.mem_range.mp hi))
  have hD2 : va_D A (((X ++ va_pl L f) ++ [(H.size, .inl (cA, n.toNatClampNeg, .inr (.inr (.inr (.inr (fun i => if i < n.toNatClampNeg then some (H.size + 1 + i) else none))))))]) ++ ((List.range n.toNatClampNeg).map (fun i => H.size + 1 + i)).map (fun a => (a, .inl (cy, z)))) := by
    have hD1 := hD.push (e := .inl (cA, n.toNatClampNeg, .inr (.inr (.inr (.inr (fun i => if i < n.toNatClampNeg then some (H.size + 1 + i) else none)))))) hP rfl (hA _ hS.1)
    generalize hW1 : (X ++ va_pl L f) ++ [(H.size, .inl (cA, n.toNatClampNeg, .inr (.inr (.inr (.inr (fun i => if i < n.toNatClampNeg then some (H.size + 1 + i) else none))))))] = W1 at hD1 hP1 ⊢
    have hle : ∀ (k9 : Nat) (x : Nat × va_E), W1[k9]? = some x → x.1 ≤ H.size := fun k9 x hx => by
      rw [← hW1] at hx
      by_cases hl : k9 < (X ++ va_pl L f).length
      · rw [List.getElem?_append_left hl] at hx
        exact Nat.le_of_lt ((hP k9 x hx).lt)
      · rw [List.getElem?_append_right (by omega)] at hx
        have h0 : k9 - (X ++ va_pl L f).length < 1 := (List.getElem?_eq_some_iff.mp hx).1
        rw [show k9 - (X ++ va_pl L f).length = 0 by omega] at hx
        cases hx
        exact Nat.le_refl _
    have hr : ∀ (k9 : Nat) (x : Nat × va_E), (((List.range n.toNatClampNeg).map (fun i => H.size + 1 + i)).map (fun a => ((a, .inl (cy, z)) : Nat × va_E)))[k9]? = some x → x.1 = H.size + 1 + k9 := fun k9 x hx => by
      rw [List.getElem?_map, List.getElem?_map] at hx
      by_cases h9 : k9 < n.toNatClampNeg
      · rw [List.getElem?_range h9] at hx
        cases hx
        rfl
      · have hn0 : (List.range n.toNatClampNeg)[k9]? = none := List.getElem?_eq_none (by rw [List.length_range]; omega)
        rw [hn0] at hx
        cases hx
    refine ⟨fun i j x y hi hj hxy => ?_, fun k9 x hx => ?_⟩
    · by_cases h1 : i < W1.length <;> by_cases h2 : j < W1.length
      · rw [List.getElem?_append_left h1] at hi
        rw [List.getElem?_append_left h2] at hj
        exact hD1.1 i j x y hi hj hxy
      · rw [List.getElem?_append_left h1] at hi
        rw [List.getElem?_append_right (by omega)] at hj
        have := hle _ _ hi
        have := hr _ _ hj
        omega
      · rw [List.getElem?_append_right (by omega)] at hi
        rw [List.getElem?_append_left h2] at hj
        have := hle _ _ hj
        have := hr _ _ hi
        omega
      · rw [List.getElem?_append_right (by omega)] at hi hj
        have := hr _ _ hi
        have := hr _ _ hj
        omega
    · by_cases h1 : k9 < W1.length
      · rw [List.getElem?_append_left h1] at hx
        exact hD1.2 k9 x hx
      · rw [List.getElem?_append_right (by omega)] at hx
        have := hr _ _ hx
        exact hA _ (by have := hS.1; omega)
  have hAr : ArrOfT s cA (.array ty) := fun N9 z9 => by
    obtain ⟨-, k9, hk9, cm9, hkk9⟩ := (hO 0 0 0).1
    exact ⟨(fun q hq => by cases hq), k9, hk9, cm9, hkk9⟩
  have hK2 : va_K D cl (tys ++ [(cA, .array ty)]) s := ⟨hK.1, fun k9 x hx => by
    by_cases hl : k9 < tys.length
    · rw [List.getElem?_append_left hl] at hx
      exact hK.2 k9 x hx
    · rw [List.getElem?_append_right (by omega)] at hx
      have h0 : k9 - tys.length < 1 := (List.getElem?_eq_some_iff.mp hx).1
      rw [show k9 - tys.length = 0 by omega] at hx
      cases hx
      exact ⟨hAr, fA⟩⟩
  obtain ⟨t, a1, b1⟩ := kk H.size (fun i => H.size + 1 + i) cA F.heap (fun i j _ _ h => by have h9 : H.size + 1 + i = H.size + 1 + j := h; omega) hnl hK2 (by rw [← vr_rows hnm]; exact vr_lay hP2) (by rw [← vr_rows hnm]; exact vr_layD hD2) ⟨by rw [f1]; have := hS.1; omega, fun x h1 h2 => (hold x (Nat.lt_of_lt_of_le h1 hS.1)).trans (hS.2.1 x h1 h2), hS.2.2⟩ F rfl X'
  refine ⟨t, step t ?_, b1⟩
  have e : T.heap.size = H.size := by rw [hT]
  rw [e]
  exact a1
end VGM
/-! ===== END ===== -/
def TB : List Cond := lw_tbl.filter goodWord
theorem TB_mem {w : Cond} (h : w ∈ lw_tbl) (hg : goodWord w = true) : w ∈ TB := List.mem_filter.mpr ⟨h, hg⟩
theorem TB_good : ∀ w ∈ TB, (w.onTables && w.keeps) = true ∨ ∃ ty, w = .arrayClass ty := fun w h => good_of_word (List.mem_filter.mp h).2
theorem TB_in : ∀ w ∈ TB, w ∈ lw_tbl := fun w h => (List.mem_filter.mp h).1
theorem tq_0 (i : Nat) {w : Cond} (h : (k2_sels lw_privs)[i]? = some w) (hg : goodWord w = true) : w ∈ TB := TB_mem (List.mem_append_left _ (List.mem_of_getElem? h)) hg
theorem tqT {w : Cond} (h : w ∈ tables_1) : w ∈ lw_tbl := List.mem_append_right _ h
theorem tq_1 (i : Nat) {w : Cond} (h : tables_1_1[i]? = some w) (hg : goodWord w = true) : w ∈ TB := TB_mem (tqT (List.mem_append_left _ (List.mem_of_getElem? h))) hg
theorem tq_2 (i : Nat) {w : Cond} (h : tables_1_2[i]? = some w) (hg : goodWord w = true) : w ∈ TB := TB_mem (tqT (List.mem_append_right _ (List.mem_append_left _ (List.mem_of_getElem? h)))) hg
theorem tq_3 (i : Nat) {w : Cond} (h : tables_1_3[i]? = some w) (hg : goodWord w = true) : w ∈ TB := TB_mem (tqT (List.mem_append_right _ (List.mem_append_right _ (List.mem_append_left _ (List.mem_of_getElem? h))))) hg
theorem tq_4 (i : Nat) {w : Cond} (h : tables_1_4[i]? = some w) (hg : goodWord w = true) : w ∈ TB := TB_mem (tqT (List.mem_append_right _ (List.mem_append_right _ (List.mem_append_right _ (List.mem_append_left _ (List.mem_of_getElem? h)))))) hg
theorem tq_5 (i : Nat) {w : Cond} (h : tables_1_5[i]? = some w) (hg : goodWord w = true) : w ∈ TB := TB_mem (tqT (List.mem_append_right _ (List.mem_append_right _ (List.mem_append_right _ (List.mem_append_right _ (List.mem_append_left _ (List.mem_of_getElem? h))))))) hg
theorem tq_6 (i : Nat) {w : Cond} (h : tables_1_6[i]? = some w) (hg : goodWord w = true) : w ∈ TB := TB_mem (tqT (List.mem_append_right _ (List.mem_append_right _ (List.mem_append_right _ (List.mem_append_right _ (List.mem_append_right _ (List.mem_of_getElem? h))))))) hg
