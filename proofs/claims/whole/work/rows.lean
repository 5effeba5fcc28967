section
-- ===== PART A: goes FIRST, ahead of the names: the tables' words, and 'selects' of the private methods out of them =====
/-- a private method of a class that the tables say can be made, by its rows of tables_1 -/
def lw_okq (q : MethodName × Nat) : Prop := (q.1.cls ≠ "java/lang/invoke/MethodHandle" ∧ q.1.cls ≠ "java/lang/invoke/VarHandle") ∧ Cond.instantiable q.1.cls q.2 ∈ tables_1 ∧ Cond.privateMethod q.1 ∈ tables_1 ∧ Cond.instanceMethod q.1 ∈ tables_1
theorem lw_p0 : lw_okq (⟨"LogKeepers$History", "canGoOn", "(IIII)Z"⟩, 10) := ⟨⟨by decide +kernel, by decide +kernel⟩, List.mem_of_getElem? (i := 296) (by decide +kernel), List.mem_of_getElem? (i := 877) (by decide +kernel), List.mem_of_getElem? (i := 878) (by decide +kernel)⟩
theorem lw_p1 : lw_okq (⟨"LogKeepersModel", "begin", "()V"⟩, 27) := ⟨⟨by decide +kernel, by decide +kernel⟩, List.mem_of_getElem? (i := 929) (by decide +kernel), List.mem_of_getElem? (i := 935) (by decide +kernel), List.mem_of_getElem? (i := 936) (by decide +kernel)⟩
theorem lw_p2 : lw_okq (⟨"LogKeepersModel", "put", "(III)V"⟩, 27) := ⟨⟨by decide +kernel, by decide +kernel⟩, List.mem_of_getElem? (i := 929) (by decide +kernel), List.mem_of_getElem? (i := 939) (by decide +kernel), List.mem_of_getElem? (i := 940) (by decide +kernel)⟩
theorem lw_p3 : lw_okq (⟨"LogKeepersModel", "goOn", "()V"⟩, 27) := ⟨⟨by decide +kernel, by decide +kernel⟩, List.mem_of_getElem? (i := 929) (by decide +kernel), List.mem_of_getElem? (i := 1030) (by decide +kernel), List.mem_of_getElem? (i := 1031) (by decide +kernel)⟩
theorem lw_p4 : lw_okq (⟨"LogKeepersModel", "sign", "(I)I"⟩, 27) := ⟨⟨by decide +kernel, by decide +kernel⟩, List.mem_of_getElem? (i := 929) (by decide +kernel), List.mem_of_getElem? (i := 1034) (by decide +kernel), List.mem_of_getElem? (i := 1035) (by decide +kernel)⟩
theorem lw_p5 : lw_okq (⟨"LogKeepersModel", "isGood", "()Z"⟩, 27) := ⟨⟨by decide +kernel, by decide +kernel⟩, List.mem_of_getElem? (i := 929) (by decide +kernel), List.mem_of_getElem? (i := 1043) (by decide +kernel), List.mem_of_getElem? (i := 1044) (by decide +kernel)⟩
theorem lw_p6 : lw_okq (⟨"LogKeepersModel", "readKeeper", "()V"⟩, 27) := ⟨⟨by decide +kernel, by decide +kernel⟩, List.mem_of_getElem? (i := 929) (by decide +kernel), List.mem_of_getElem? (i := 1047) (by decide +kernel), List.mem_of_getElem? (i := 1048) (by decide +kernel)⟩
theorem lw_p7 : lw_okq (⟨"LogKeepersModel", "misplaced", "()V"⟩, 27) := ⟨⟨by decide +kernel, by decide +kernel⟩, List.mem_of_getElem? (i := 929) (by decide +kernel), List.mem_of_getElem? (i := 1051) (by decide +kernel), List.mem_of_getElem? (i := 1052) (by decide +kernel)⟩
theorem lw_p8 : lw_okq (⟨"LogKeepersModel", "fails", "(II)V"⟩, 27) := ⟨⟨by decide +kernel, by decide +kernel⟩, List.mem_of_getElem? (i := 929) (by decide +kernel), List.mem_of_getElem? (i := 1055) (by decide +kernel), List.mem_of_getElem? (i := 1056) (by decide +kernel)⟩
theorem lw_p9 : lw_okq (⟨"LogKeepersModel", "isUp", "(I)Z"⟩, 27) := ⟨⟨by decide +kernel, by decide +kernel⟩, List.mem_of_getElem? (i := 929) (by decide +kernel), List.mem_of_getElem? (i := 1070) (by decide +kernel), List.mem_of_getElem? (i := 1071) (by decide +kernel)⟩
theorem lw_p10 : lw_okq (⟨"LogKeepersModel", "isKeeper", "(I)Z"⟩, 27) := ⟨⟨by decide +kernel, by decide +kernel⟩, List.mem_of_getElem? (i := 929) (by decide +kernel), List.mem_of_getElem? (i := 1074) (by decide +kernel), List.mem_of_getElem? (i := 1075) (by decide +kernel)⟩
theorem lw_p11 : lw_okq (⟨"LogKeepersModel", "many", "()I"⟩, 27) := ⟨⟨by decide +kernel, by decide +kernel⟩, List.mem_of_getElem? (i := 929) (by decide +kernel), List.mem_of_getElem? (i := 1078) (by decide +kernel), List.mem_of_getElem? (i := 1079) (by decide +kernel)⟩
theorem lw_p12 : lw_okq (⟨"LogKeepersModel", "of", "(II)I"⟩, 27) := ⟨⟨by decide +kernel, by decide +kernel⟩, List.mem_of_getElem? (i := 929) (by decide +kernel), List.mem_of_getElem? (i := 1085) (by decide +kernel), List.mem_of_getElem? (i := 1086) (by decide +kernel)⟩
theorem lw_p13 : lw_okq (⟨"LogKeepersModel", "isVoter", "(I)Z"⟩, 27) := ⟨⟨by decide +kernel, by decide +kernel⟩, List.mem_of_getElem? (i := 929) (by decide +kernel), List.mem_of_getElem? (i := 1089) (by decide +kernel), List.mem_of_getElem? (i := 1090) (by decide +kernel)⟩
theorem lw_p14 : lw_okq (⟨"LogKeepersModel", "letters", "()I"⟩, 27) := ⟨⟨by decide +kernel, by decide +kernel⟩, List.mem_of_getElem? (i := 929) (by decide +kernel), List.mem_of_getElem? (i := 1093) (by decide +kernel), List.mem_of_getElem? (i := 1094) (by decide +kernel)⟩
theorem lw_p15 : lw_okq (⟨"LogKeepersModel", "slotOf", "(II)I"⟩, 27) := ⟨⟨by decide +kernel, by decide +kernel⟩, List.mem_of_getElem? (i := 929) (by decide +kernel), List.mem_of_getElem? (i := 1097) (by decide +kernel), List.mem_of_getElem? (i := 1098) (by decide +kernel)⟩
def lw_privs_1 : List (MethodName × Nat) := [(⟨"LogKeepers$History", "canGoOn", "(IIII)Z"⟩, 10), (⟨"LogKeepersModel", "begin", "()V"⟩, 27), (⟨"LogKeepersModel", "put", "(III)V"⟩, 27), (⟨"LogKeepersModel", "goOn", "()V"⟩, 27), (⟨"LogKeepersModel", "sign", "(I)I"⟩, 27), (⟨"LogKeepersModel", "isGood", "()Z"⟩, 27), (⟨"LogKeepersModel", "readKeeper", "()V"⟩, 27), (⟨"LogKeepersModel", "misplaced", "()V"⟩, 27), (⟨"LogKeepersModel", "fails", "(II)V"⟩, 27), (⟨"LogKeepersModel", "isUp", "(I)Z"⟩, 27), (⟨"LogKeepersModel", "isKeeper", "(I)Z"⟩, 27), (⟨"LogKeepersModel", "many", "()I"⟩, 27), (⟨"LogKeepersModel", "of", "(II)I"⟩, 27), (⟨"LogKeepersModel", "isVoter", "(I)Z"⟩, 27), (⟨"LogKeepersModel", "letters", "()I"⟩, 27), (⟨"LogKeepersModel", "slotOf", "(II)I"⟩, 27)]
theorem lw_r1 : ∀ q ∈ lw_privs_1, lw_okq q := List.forall_mem_cons.mpr ⟨lw_p0, List.forall_mem_cons.mpr ⟨lw_p1, List.forall_mem_cons.mpr ⟨lw_p2, List.forall_mem_cons.mpr ⟨lw_p3, List.forall_mem_cons.mpr ⟨lw_p4, List.forall_mem_cons.mpr ⟨lw_p5, List.forall_mem_cons.mpr ⟨lw_p6, List.forall_mem_cons.mpr ⟨lw_p7, List.forall_mem_cons.mpr ⟨lw_p8, List.forall_mem_cons.mpr ⟨lw_p9, List.forall_mem_cons.mpr ⟨lw_p10, List.forall_mem_cons.mpr ⟨lw_p11, List.forall_mem_cons.mpr ⟨lw_p12, List.forall_mem_cons.mpr ⟨lw_p13, List.forall_mem_cons.mpr ⟨lw_p14, List.forall_mem_cons.mpr ⟨lw_p15, fun _ h => absurd h List.not_mem_nil⟩⟩⟩⟩⟩⟩⟩⟩⟩⟩⟩⟩⟩⟩⟩⟩
theorem lw_p16 : lw_okq (⟨"LogKeepersModel", "voters", "()I"⟩, 27) := ⟨⟨by decide +kernel, by decide +kernel⟩, List.mem_of_getElem? (i := 929) (by decide +kernel), List.mem_of_getElem? (i := 1101) (by decide +kernel), List.mem_of_getElem? (i := 1102) (by decide +kernel)⟩
theorem lw_p17 : lw_okq (⟨"LogKeepersModel", "termOf", "(II)I"⟩, 27) := ⟨⟨by decide +kernel, by decide +kernel⟩, List.mem_of_getElem? (i := 929) (by decide +kernel), List.mem_of_getElem? (i := 1105) (by decide +kernel), List.mem_of_getElem? (i := 1106) (by decide +kernel)⟩
theorem lw_p18 : lw_okq (⟨"LogKeepersModel", "entryAt", "(II)I"⟩, 27) := ⟨⟨by decide +kernel, by decide +kernel⟩, List.mem_of_getElem? (i := 929) (by decide +kernel), List.mem_of_getElem? (i := 1109) (by decide +kernel), List.mem_of_getElem? (i := 1110) (by decide +kernel)⟩
theorem lw_p19 : lw_okq (⟨"LogKeepersModel", "sends", "(IIIII)I"⟩, 27) := ⟨⟨by decide +kernel, by decide +kernel⟩, List.mem_of_getElem? (i := 929) (by decide +kernel), List.mem_of_getElem? (i := 1113) (by decide +kernel), List.mem_of_getElem? (i := 1114) (by decide +kernel)⟩
theorem lw_p20 : lw_okq (⟨"LogKeepersModel", "empty", "()I"⟩, 27) := ⟨⟨by decide +kernel, by decide +kernel⟩, List.mem_of_getElem? (i := 929) (by decide +kernel), List.mem_of_getElem? (i := 1117) (by decide +kernel), List.mem_of_getElem? (i := 1118) (by decide +kernel)⟩
theorem lw_p21 : lw_okq (⟨"LogKeepersModel", "putSlot", "(III)V"⟩, 27) := ⟨⟨by decide +kernel, by decide +kernel⟩, List.mem_of_getElem? (i := 929) (by decide +kernel), List.mem_of_getElem? (i := 1121) (by decide +kernel), List.mem_of_getElem? (i := 1122) (by decide +kernel)⟩
theorem lw_p22 : lw_okq (⟨"LogKeepersModel", "leads", "(I)V"⟩, 27) := ⟨⟨by decide +kernel, by decide +kernel⟩, List.mem_of_getElem? (i := 929) (by decide +kernel), List.mem_of_getElem? (i := 1125) (by decide +kernel), List.mem_of_getElem? (i := 1126) (by decide +kernel)⟩
theorem lw_p23 : lw_okq (⟨"LogKeepersModel", "most", "()I"⟩, 27) := ⟨⟨by decide +kernel, by decide +kernel⟩, List.mem_of_getElem? (i := 929) (by decide +kernel), List.mem_of_getElem? (i := 1129) (by decide +kernel), List.mem_of_getElem? (i := 1130) (by decide +kernel)⟩
theorem lw_p24 : lw_okq (⟨"LogKeepersModel", "settles", "(I)V"⟩, 27) := ⟨⟨by decide +kernel, by decide +kernel⟩, List.mem_of_getElem? (i := 929) (by decide +kernel), List.mem_of_getElem? (i := 1133) (by decide +kernel), List.mem_of_getElem? (i := 1134) (by decide +kernel)⟩
theorem lw_p25 : lw_okq (⟨"LogKeepersModel", "isSure", "(II)Z"⟩, 27) := ⟨⟨by decide +kernel, by decide +kernel⟩, List.mem_of_getElem? (i := 929) (by decide +kernel), List.mem_of_getElem? (i := 1137) (by decide +kernel), List.mem_of_getElem? (i := 1138) (by decide +kernel)⟩
theorem lw_p26 : lw_okq (⟨"LogKeepersModel", "doneTo", "(II)V"⟩, 27) := ⟨⟨by decide +kernel, by decide +kernel⟩, List.mem_of_getElem? (i := 929) (by decide +kernel), List.mem_of_getElem? (i := 1141) (by decide +kernel), List.mem_of_getElem? (i := 1142) (by decide +kernel)⟩
theorem lw_p27 : lw_okq (⟨"LogKeepersModel", "works", "(II)V"⟩, 27) := ⟨⟨by decide +kernel, by decide +kernel⟩, List.mem_of_getElem? (i := 929) (by decide +kernel), List.mem_of_getElem? (i := 1145) (by decide +kernel), List.mem_of_getElem? (i := 1146) (by decide +kernel)⟩
theorem lw_p28 : lw_okq (⟨"LogKeepersModel", "doesLead", "(I)Z"⟩, 27) := ⟨⟨by decide +kernel, by decide +kernel⟩, List.mem_of_getElem? (i := 929) (by decide +kernel), List.mem_of_getElem? (i := 1159) (by decide +kernel), List.mem_of_getElem? (i := 1160) (by decide +kernel)⟩
theorem lw_p29 : lw_okq (⟨"LogKeepersModel", "copy", "(III)V"⟩, 27) := ⟨⟨by decide +kernel, by decide +kernel⟩, List.mem_of_getElem? (i := 929) (by decide +kernel), List.mem_of_getElem? (i := 1163) (by decide +kernel), List.mem_of_getElem? (i := 1164) (by decide +kernel)⟩
theorem lw_p30 : lw_okq (⟨"LogKeepersModel", "hasLetter", "(I)Z"⟩, 27) := ⟨⟨by decide +kernel, by decide +kernel⟩, List.mem_of_getElem? (i := 929) (by decide +kernel), List.mem_of_getElem? (i := 1175) (by decide +kernel), List.mem_of_getElem? (i := 1176) (by decide +kernel)⟩
theorem lw_p31 : lw_okq (⟨"LogKeepersModel", "getsAsk", "(I)I"⟩, 27) := ⟨⟨by decide +kernel, by decide +kernel⟩, List.mem_of_getElem? (i := 929) (by decide +kernel), List.mem_of_getElem? (i := 1179) (by decide +kernel), List.mem_of_getElem? (i := 1180) (by decide +kernel)⟩
def lw_privs_2 : List (MethodName × Nat) := [(⟨"LogKeepersModel", "voters", "()I"⟩, 27), (⟨"LogKeepersModel", "termOf", "(II)I"⟩, 27), (⟨"LogKeepersModel", "entryAt", "(II)I"⟩, 27), (⟨"LogKeepersModel", "sends", "(IIIII)I"⟩, 27), (⟨"LogKeepersModel", "empty", "()I"⟩, 27), (⟨"LogKeepersModel", "putSlot", "(III)V"⟩, 27), (⟨"LogKeepersModel", "leads", "(I)V"⟩, 27), (⟨"LogKeepersModel", "most", "()I"⟩, 27), (⟨"LogKeepersModel", "settles", "(I)V"⟩, 27), (⟨"LogKeepersModel", "isSure", "(II)Z"⟩, 27), (⟨"LogKeepersModel", "doneTo", "(II)V"⟩, 27), (⟨"LogKeepersModel", "works", "(II)V"⟩, 27), (⟨"LogKeepersModel", "doesLead", "(I)Z"⟩, 27), (⟨"LogKeepersModel", "copy", "(III)V"⟩, 27), (⟨"LogKeepersModel", "hasLetter", "(I)Z"⟩, 27), (⟨"LogKeepersModel", "getsAsk", "(I)I"⟩, 27)]
theorem lw_r2 : ∀ q ∈ lw_privs_2, lw_okq q := List.forall_mem_cons.mpr ⟨lw_p16, List.forall_mem_cons.mpr ⟨lw_p17, List.forall_mem_cons.mpr ⟨lw_p18, List.forall_mem_cons.mpr ⟨lw_p19, List.forall_mem_cons.mpr ⟨lw_p20, List.forall_mem_cons.mpr ⟨lw_p21, List.forall_mem_cons.mpr ⟨lw_p22, List.forall_mem_cons.mpr ⟨lw_p23, List.forall_mem_cons.mpr ⟨lw_p24, List.forall_mem_cons.mpr ⟨lw_p25, List.forall_mem_cons.mpr ⟨lw_p26, List.forall_mem_cons.mpr ⟨lw_p27, List.forall_mem_cons.mpr ⟨lw_p28, List.forall_mem_cons.mpr ⟨lw_p29, List.forall_mem_cons.mpr ⟨lw_p30, List.forall_mem_cons.mpr ⟨lw_p31, fun _ h => absurd h List.not_mem_nil⟩⟩⟩⟩⟩⟩⟩⟩⟩⟩⟩⟩⟩⟩⟩⟩
theorem lw_p32 : lw_okq (⟨"LogKeepersModel", "getsBallot", "(I)I"⟩, 27) := ⟨⟨by decide +kernel, by decide +kernel⟩, List.mem_of_getElem? (i := 929) (by decide +kernel), List.mem_of_getElem? (i := 1183) (by decide +kernel), List.mem_of_getElem? (i := 1184) (by decide +kernel)⟩
theorem lw_p33 : lw_okq (⟨"LogKeepersModel", "getsAppend", "(I)I"⟩, 27) := ⟨⟨by decide +kernel, by decide +kernel⟩, List.mem_of_getElem? (i := 929) (by decide +kernel), List.mem_of_getElem? (i := 1187) (by decide +kernel), List.mem_of_getElem? (i := 1188) (by decide +kernel)⟩
theorem lw_p34 : lw_okq (⟨"LogKeepersModel", "answersBack", "(IZI)I"⟩, 27) := ⟨⟨by decide +kernel, by decide +kernel⟩, List.mem_of_getElem? (i := 929) (by decide +kernel), List.mem_of_getElem? (i := 1191) (by decide +kernel), List.mem_of_getElem? (i := 1192) (by decide +kernel)⟩
theorem lw_p35 : lw_okq (⟨"LogKeepersModel", "takes", "(III)Z"⟩, 27) := ⟨⟨by decide +kernel, by decide +kernel⟩, List.mem_of_getElem? (i := 929) (by decide +kernel), List.mem_of_getElem? (i := 1195) (by decide +kernel), List.mem_of_getElem? (i := 1196) (by decide +kernel)⟩
theorem lw_p36 : lw_okq (⟨"LogKeepersModel", "getsAnswer", "(I)I"⟩, 27) := ⟨⟨by decide +kernel, by decide +kernel⟩, List.mem_of_getElem? (i := 929) (by decide +kernel), List.mem_of_getElem? (i := 1199) (by decide +kernel), List.mem_of_getElem? (i := 1200) (by decide +kernel)⟩
theorem lw_p37 : lw_okq (⟨"LogKeepersModel", "getsFolding", "(I)I"⟩, 27) := ⟨⟨by decide +kernel, by decide +kernel⟩, List.mem_of_getElem? (i := 929) (by decide +kernel), List.mem_of_getElem? (i := 1203) (by decide +kernel), List.mem_of_getElem? (i := 1204) (by decide +kernel)⟩
theorem lw_p38 : lw_okq (⟨"LogKeepersModel", "findOrder", "()Z"⟩, 27) := ⟨⟨by decide +kernel, by decide +kernel⟩, List.mem_of_getElem? (i := 929) (by decide +kernel), List.mem_of_getElem? (i := 1272) (by decide +kernel), List.mem_of_getElem? (i := 1273) (by decide +kernel)⟩
theorem lw_p39 : lw_okq (⟨"LogKeepersModel", "canCome", "(III)Z"⟩, 27) := ⟨⟨by decide +kernel, by decide +kernel⟩, List.mem_of_getElem? (i := 929) (by decide +kernel), List.mem_of_getElem? (i := 1276) (by decide +kernel), List.mem_of_getElem? (i := 1277) (by decide +kernel)⟩
theorem lw_p40 : lw_okq (⟨"LogKeepersModel", "up", "()I"⟩, 27) := ⟨⟨by decide +kernel, by decide +kernel⟩, List.mem_of_getElem? (i := 929) (by decide +kernel), List.mem_of_getElem? (i := 1296) (by decide +kernel), List.mem_of_getElem? (i := 1297) (by decide +kernel)⟩
def lw_privs_3 : List (MethodName × Nat) := [(⟨"LogKeepersModel", "getsBallot", "(I)I"⟩, 27), (⟨"LogKeepersModel", "getsAppend", "(I)I"⟩, 27), (⟨"LogKeepersModel", "answersBack", "(IZI)I"⟩, 27), (⟨"LogKeepersModel", "takes", "(III)Z"⟩, 27), (⟨"LogKeepersModel", "getsAnswer", "(I)I"⟩, 27), (⟨"LogKeepersModel", "getsFolding", "(I)I"⟩, 27), (⟨"LogKeepersModel", "findOrder", "()Z"⟩, 27), (⟨"LogKeepersModel", "canCome", "(III)Z"⟩, 27), (⟨"LogKeepersModel", "up", "()I"⟩, 27)]
theorem lw_r3 : ∀ q ∈ lw_privs_3, lw_okq q := List.forall_mem_cons.mpr ⟨lw_p32, List.forall_mem_cons.mpr ⟨lw_p33, List.forall_mem_cons.mpr ⟨lw_p34, List.forall_mem_cons.mpr ⟨lw_p35, List.forall_mem_cons.mpr ⟨lw_p36, List.forall_mem_cons.mpr ⟨lw_p37, List.forall_mem_cons.mpr ⟨lw_p38, List.forall_mem_cons.mpr ⟨lw_p39, List.forall_mem_cons.mpr ⟨lw_p40, fun _ h => absurd h List.not_mem_nil⟩⟩⟩⟩⟩⟩⟩⟩⟩
def lw_privs : List (MethodName × Nat) := lw_privs_1 ++ (lw_privs_2 ++ (lw_privs_3))
def lw_tbl : List Cond := k2_sels lw_privs ++ tables_1
theorem lw_privs_ok : ∀ q ∈ lw_privs, lw_okq q := by
  show ∀ q ∈ lw_privs_1 ++ (lw_privs_2 ++ (lw_privs_3)), lw_okq q
  exact List.forall_mem_append.mpr ⟨lw_r1, List.forall_mem_append.mpr ⟨lw_r2, lw_r3⟩⟩
end
section
/-! ===== BEGIN words of one list among another's, by their places ===== -/
theorem goodIn_r {big : List Cond} (ws : List Cond) (ps : List Nat) (hp : ws = ps.filterMap (fun i => big[i]?)) (h : ws.all goodWord = true) : GoodIn big ws := by
  intro w hw
  have h1 := List.all_eq_true.mp h w hw
  rw [hp] at hw
  obtain ⟨i, -, hi⟩ := List.mem_filterMap.mp hw
  have hm : w ∈ big := by first | exact List.mem_of_getElem? hi | exact List.getElem?_mem hi
  exact ⟨hm, good_of_word h1⟩
theorem goodIn_app {big a b : List Cond} (ha : GoodIn big a) (hb : GoodIn big b) : GoodIn big (a ++ b) := fun w h => (List.mem_append.mp h).elim (ha w) (hb w)
theorem goodIn_ca {big a b : List Cond} {c : Cond} (ha : GoodIn big (c :: a)) (hb : GoodIn big b) : GoodIn big (c :: (a ++ b)) := fun w h => (List.mem_cons.mp h).elim (fun e => ha w (List.mem_cons.mpr (Or.inl e))) (fun h => (List.mem_append.mp h).elim (fun h => ha w (List.mem_cons.mpr (Or.inr h))) (hb w))
theorem goodIn_sub {big ws : List Cond} (hm : ∀ w ∈ ws, w ∈ big) (h : ws.all goodWord = true) : GoodIn big ws := fun w hw => ⟨hm w hw, good_of_word (List.all_eq_true.mp h w hw)⟩
/-! ===== END ===== -/
def RX0 : String := "LogKeepers$History"
def TX0 : u_T := fun k => match k with
  | 0 => ("LogKeepers$History", "begun", "[I", true)
  | 1 => ("LogKeepers$History", "ended", "[I", true)
  | 2 => ("LogKeepers$History", "what", "[I", true)
  | 3 => ("LogKeepers$History", "value", "[I", true)
  | 4 => ("LogKeepers$History", "answer", "[I", true)
  | 5 => ("LogKeepers$History", "first", "[I", true)
  | 6 => ("LogKeepers$History", "hopeless", "[I", true)
  | 7 => ("LogKeepers$History", "size", "I", false)
  | 8 => ("LogKeepers$History", "judged", "Z", false)
  | _ => ("LogKeepers$History", "right", "Z", false)
def tyX0 : Nat → FieldType := fun k => match k with
  | 0 => .array .int
  | 1 => .array .int
  | 2 => .array .int
  | 3 => .array .int
  | 4 => .array .int
  | 5 => .array .int
  | 6 => .array .int
  | 7 => .int
  | 8 => .boolean
  | _ => .boolean
abbrev wsX00 : List Cond := u_ws RX0 TX0 10
theorem nmX0 : ∀ a, a < 10 → ∀ b, b < 10 → a ≠ b → (TX0 a).2.1 ≠ (TX0 b).2.1 := by decide +kernel
theorem tyX0_ok : ∀ k, k < 10 → parseFieldDescriptor (TX0 k).2.2.1 = some (tyX0 k) := by decide +kernel
abbrev cX0_init : ByteArray := prog_2_method_1_code
def yX0_init : MethodName := ⟨RX0, "<init>", "()V"⟩
abbrev cX0_isFull : ByteArray := prog_2_method_2_code
def yX0_isFull : MethodName := ⟨RX0, "isFull", "()Z"⟩
abbrev cX0_add : ByteArray := prog_2_method_3_code
def yX0_add : MethodName := ⟨RX0, "add", "(IIIII)I"⟩
abbrev cX0_clear : ByteArray := prog_2_method_4_code
def yX0_clear : MethodName := ⟨RX0, "clear", "()I"⟩
abbrev cX0_isRight : ByteArray := prog_2_method_5_code
def yX0_isRight : MethodName := ⟨RX0, "isRight", "()Z"⟩
abbrev cX0_canGoOn : ByteArray := prog_2_method_6_code
def yX0_canGoOn : MethodName := ⟨RX0, "canGoOn", "(IIII)Z"⟩
abbrev cX0_canBeNext : ByteArray := prog_2_method_7_code
def yX0_canBeNext : MethodName := ⟨RX0, "canBeNext", "(II)Z"⟩
def RX1 : String := "LogKeepers$Keeper"
def TX1 : u_T := fun k => match k with
  | 0 => ("LogKeepers$Keeper", "voter", "Z", false)
  | 1 => ("LogKeepers$Keeper", "fallen", "Z", false)
  | 2 => ("LogKeepers$Keeper", "term", "I", false)
  | 3 => ("LogKeepers$Keeper", "vote", "I", false)
  | 4 => ("LogKeepers$Keeper", "role", "I", false)
  | 5 => ("LogKeepers$Keeper", "folded", "I", false)
  | 6 => ("LogKeepers$Keeper", "foldTerm", "I", false)
  | 7 => ("LogKeepers$Keeper", "last", "I", false)
  | 8 => ("LogKeepers$Keeper", "done", "I", false)
  | 9 => ("LogKeepers$Keeper", "ballots", "I", false)
  | 10 => ("LogKeepers$Keeper", "round", "I", false)
  | 11 => ("LogKeepers$Keeper", "entries", "[I", true)
  | 12 => ("LogKeepers$Keeper", "foldState", "LLogKeepers$State;", true)
  | 13 => ("LogKeepers$Keeper", "doneState", "LLogKeepers$State;", true)
  | 14 => ("LogKeepers$Keeper", "next", "[I", true)
  | 15 => ("LogKeepers$Keeper", "sure", "[I", true)
  | _ => ("LogKeepers$Keeper", "answered", "[I", true)
def tyX1 : Nat → FieldType := fun k => match k with
  | 0 => .boolean
  | 1 => .boolean
  | 2 => .int
  | 3 => .int
  | 4 => .int
  | 5 => .int
  | 6 => .int
  | 7 => .int
  | 8 => .int
  | 9 => .int
  | 10 => .int
  | 11 => .array .int
  | 12 => .object "LogKeepers$State"
  | 13 => .object "LogKeepers$State"
  | 14 => .array .int
  | 15 => .array .int
  | _ => .array .int
abbrev wsX10 : List Cond := u_ws RX1 TX1 17
theorem nmX1 : ∀ a, a < 17 → ∀ b, b < 17 → a ≠ b → (TX1 a).2.1 ≠ (TX1 b).2.1 := by decide +kernel
theorem tyX1_ok : ∀ k, k < 17 → parseFieldDescriptor (TX1 k).2.2.1 = some (tyX1 k) := by decide +kernel
abbrev cX1_init : ByteArray := prog_3_method_1_code
def yX1_init : MethodName := ⟨RX1, "<init>", "()V"⟩
abbrev cX1_begin : ByteArray := prog_3_method_2_code
def yX1_begin : MethodName := ⟨RX1, "begin", "(Z)V"⟩
abbrev cX1_copyFrom : ByteArray := prog_3_method_3_code
def yX1_copyFrom : MethodName := ⟨RX1, "copyFrom", "(LLogKeepers$Keeper;)V"⟩
abbrev cX1_tell : ByteArray := prog_3_method_4_code
def yX1_tell : MethodName := ⟨RX1, "tell", "(I)I"⟩
abbrev cX1_follow : ByteArray := prog_3_method_5_code
def yX1_follow : MethodName := ⟨RX1, "follow", "()V"⟩
abbrev cX1_enterTerm : ByteArray := prog_3_method_6_code
def yX1_enterTerm : MethodName := ⟨RX1, "enterTerm", "(I)V"⟩
abbrev cX1_lead : ByteArray := prog_3_method_7_code
def yX1_lead : MethodName := ⟨RX1, "lead", "()V"⟩
abbrev cX1_goDown : ByteArray := prog_3_method_8_code
def yX1_goDown : MethodName := ⟨RX1, "goDown", "()V"⟩
abbrev cX1_placeOf : ByteArray := prog_3_method_9_code
def yX1_placeOf : MethodName := ⟨RX1, "placeOf", "(I)I"⟩
abbrev cX1_part : ByteArray := prog_3_method_10_code
def yX1_part : MethodName := ⟨RX1, "part", "(II)I"⟩
abbrev cX1_termOf : ByteArray := prog_3_method_11_code
def yX1_termOf : MethodName := ⟨RX1, "termOf", "(I)I"⟩
abbrev cX1_hasRoom : ByteArray := prog_3_method_12_code
def yX1_hasRoom : MethodName := ⟨RX1, "hasRoom", "()Z"⟩
abbrev cX1_grow : ByteArray := prog_3_method_13_code
def yX1_grow : MethodName := ⟨RX1, "grow", "()I"⟩
abbrev cX1_cutFrom : ByteArray := prog_3_method_14_code
def yX1_cutFrom : MethodName := ⟨RX1, "cutFrom", "(I)V"⟩
abbrev cX1_advanceTo : ByteArray := prog_3_method_15_code
def yX1_advanceTo : MethodName := ⟨RX1, "advanceTo", "(I)V"⟩
abbrev cX1_foldUpTo : ByteArray := prog_3_method_16_code
def yX1_foldUpTo : MethodName := ⟨RX1, "foldUpTo", "(I)V"⟩
abbrev cX1_forgetUpTo : ByteArray := prog_3_method_17_code
def yX1_forgetUpTo : MethodName := ⟨RX1, "forgetUpTo", "(I)V"⟩
abbrev cX1_takeFold : ByteArray := prog_3_method_18_code
def yX1_takeFold : MethodName := ⟨RX1, "takeFold", "(IILLogKeepers$State;)V"⟩
def RX2 : String := "LogKeepers$Letter"
def TX2 : u_T := fun k => match k with
  | 0 => ("LogKeepers$Letter", "kind", "I", false)
  | 1 => ("LogKeepers$Letter", "sender", "I", false)
  | 2 => ("LogKeepers$Letter", "receiver", "I", false)
  | 3 => ("LogKeepers$Letter", "term", "I", false)
  | 4 => ("LogKeepers$Letter", "first", "I", false)
  | 5 => ("LogKeepers$Letter", "second", "I", false)
  | 6 => ("LogKeepers$Letter", "count", "I", false)
  | 7 => ("LogKeepers$Letter", "done", "I", false)
  | 8 => ("LogKeepers$Letter", "round", "I", false)
  | 9 => ("LogKeepers$Letter", "entries", "[I", true)
  | _ => ("LogKeepers$Letter", "fold", "LLogKeepers$State;", true)
def tyX2 : Nat → FieldType := fun k => match k with
  | 0 => .int
  | 1 => .int
  | 2 => .int
  | 3 => .int
  | 4 => .int
  | 5 => .int
  | 6 => .int
  | 7 => .int
  | 8 => .int
  | 9 => .array .int
  | _ => .object "LogKeepers$State"
abbrev wsX20 : List Cond := u_ws RX2 TX2 11
theorem nmX2 : ∀ a, a < 11 → ∀ b, b < 11 → a ≠ b → (TX2 a).2.1 ≠ (TX2 b).2.1 := by decide +kernel
theorem tyX2_ok : ∀ k, k < 11 → parseFieldDescriptor (TX2 k).2.2.1 = some (tyX2 k) := by decide +kernel
abbrev cX2_init : ByteArray := prog_4_method_1_code
def yX2_init : MethodName := ⟨RX2, "<init>", "()V"⟩
abbrev cX2_write : ByteArray := prog_4_method_2_code
def yX2_write : MethodName := ⟨RX2, "write", "(IIII)V"⟩
abbrev cX2_copyFrom : ByteArray := prog_4_method_3_code
def yX2_copyFrom : MethodName := ⟨RX2, "copyFrom", "(LLogKeepers$Letter;)V"⟩
abbrev cX2_tell : ByteArray := prog_4_method_4_code
def yX2_tell : MethodName := ⟨RX2, "tell", "(I)I"⟩
abbrev cX2_takeFold : ByteArray := prog_4_method_5_code
def yX2_takeFold : MethodName := ⟨RX2, "takeFold", "(LLogKeepers$Keeper;)V"⟩
abbrev cX2_takeEntries : ByteArray := prog_4_method_6_code
def yX2_takeEntries : MethodName := ⟨RX2, "takeEntries", "(LLogKeepers$Keeper;I)V"⟩
abbrev cX2_termAt : ByteArray := prog_4_method_7_code
def yX2_termAt : MethodName := ⟨RX2, "termAt", "(I)I"⟩
def RX3 : String := "LogKeepers$Post"
def TX3 : u_T := fun k => match k with
  | 0 => ("LogKeepers$Post", "letters", "[LLogKeepers$Letter;", true)
  | _ => ("LogKeepers$Post", "hand", "LLogKeepers$Letter;", true)
def tyX3 : Nat → FieldType := fun k => match k with
  | 0 => .array (.object "LogKeepers$Letter")
  | _ => .object "LogKeepers$Letter"
abbrev wsX30 : List Cond := u_ws RX3 TX3 2
theorem nmX3 : ∀ a, a < 2 → ∀ b, b < 2 → a ≠ b → (TX3 a).2.1 ≠ (TX3 b).2.1 := by decide +kernel
theorem tyX3_ok : ∀ k, k < 2 → parseFieldDescriptor (TX3 k).2.2.1 = some (tyX3 k) := by decide +kernel
abbrev cX3_init : ByteArray := prog_5_method_1_code
def yX3_init : MethodName := ⟨RX3, "<init>", "()V"⟩
abbrev cX3_clear : ByteArray := prog_5_method_2_code
def yX3_clear : MethodName := ⟨RX3, "clear", "()V"⟩
abbrev cX3_copyFrom : ByteArray := prog_5_method_3_code
def yX3_copyFrom : MethodName := ⟨RX3, "copyFrom", "(LLogKeepers$Post;)V"⟩
abbrev cX3_isFull : ByteArray := prog_5_method_4_code
def yX3_isFull : MethodName := ⟨RX3, "isFull", "(I)Z"⟩
abbrev cX3_countFull : ByteArray := prog_5_method_5_code
def yX3_countFull : MethodName := ⟨RX3, "countFull", "()I"⟩
abbrev cX3_leastEmpty : ByteArray := prog_5_method_6_code
def yX3_leastEmpty : MethodName := ⟨RX3, "leastEmpty", "()I"⟩
abbrev cX3_takeOut : ByteArray := prog_5_method_7_code
def yX3_takeOut : MethodName := ⟨RX3, "takeOut", "(I)LLogKeepers$Letter;"⟩
def RX4 : String := "LogKeepers$Reads"
def TX4 : u_T := fun k => match k with
  | 0 => ("LogKeepers$Reads", "keeper", "[I", true)
  | 1 => ("LogKeepers$Reads", "cell", "[I", true)
  | 2 => ("LogKeepers$Reads", "term", "[I", true)
  | 3 => ("LogKeepers$Reads", "round", "[I", true)
  | _ => ("LogKeepers$Reads", "size", "I", false)
def tyX4 : Nat → FieldType := fun k => match k with
  | 0 => .array .int
  | 1 => .array .int
  | 2 => .array .int
  | 3 => .array .int
  | _ => .int
abbrev wsX40 : List Cond := u_ws RX4 TX4 5
theorem nmX4 : ∀ a, a < 5 → ∀ b, b < 5 → a ≠ b → (TX4 a).2.1 ≠ (TX4 b).2.1 := by decide +kernel
theorem tyX4_ok : ∀ k, k < 5 → parseFieldDescriptor (TX4 k).2.2.1 = some (tyX4 k) := by decide +kernel
abbrev cX4_init : ByteArray := prog_6_method_1_code
def yX4_init : MethodName := ⟨RX4, "<init>", "()V"⟩
abbrev cX4_isThere : ByteArray := prog_6_method_2_code
def yX4_isThere : MethodName := ⟨RX4, "isThere", "(I)Z"⟩
abbrev cX4_add : ByteArray := prog_6_method_3_code
def yX4_add : MethodName := ⟨RX4, "add", "(IIII)I"⟩
abbrev cX4_copyFrom : ByteArray := prog_6_method_4_code
def yX4_copyFrom : MethodName := ⟨RX4, "copyFrom", "(LLogKeepers$Reads;)V"⟩
def RX5 : String := "LogKeepers$State"
def TX5 : u_T := fun k => match k with
  | _ => ("LogKeepers$State", "parts", "[I", true)
def tyX5 : Nat → FieldType := fun k => match k with
  | _ => .array .int
abbrev wsX50 : List Cond := u_ws RX5 TX5 1
theorem nmX5 : ∀ a, a < 1 → ∀ b, b < 1 → a ≠ b → (TX5 a).2.1 ≠ (TX5 b).2.1 := by decide +kernel
theorem tyX5_ok : ∀ k, k < 1 → parseFieldDescriptor (TX5 k).2.2.1 = some (tyX5 k) := by decide +kernel
abbrev cX5_init : ByteArray := prog_7_method_1_code
def yX5_init : MethodName := ⟨RX5, "<init>", "()V"⟩
abbrev cX5_clear : ByteArray := prog_7_method_2_code
def yX5_clear : MethodName := ⟨RX5, "clear", "()V"⟩
abbrev cX5_copyFrom : ByteArray := prog_7_method_3_code
def yX5_copyFrom : MethodName := ⟨RX5, "copyFrom", "(LLogKeepers$State;)V"⟩
abbrev cX5_cellAt : ByteArray := prog_7_method_4_code
def yX5_cellAt : MethodName := ⟨RX5, "cellAt", "(I)I"⟩
abbrev cX5_latestOf : ByteArray := prog_7_method_5_code
def yX5_latestOf : MethodName := ⟨RX5, "latestOf", "(I)I"⟩
abbrev cX5_answerOf : ByteArray := prog_7_method_6_code
def yX5_answerOf : MethodName := ⟨RX5, "answerOf", "(I)I"⟩
abbrev cX5_take : ByteArray := prog_7_method_7_code
def yX5_take : MethodName := ⟨RX5, "take", "([II)V"⟩
def RX6 : String := "LogKeepers$Tape"
def TX6 : u_T := fun k => match k with
  | 0 => ("LogKeepers$Tape", "bytes", "[B", true)
  | 1 => ("LogKeepers$Tape", "nameAt", "[I", true)
  | 2 => ("LogKeepers$Tape", "nameLength", "[I", true)
  | 3 => ("LogKeepers$Tape", "silent", "[Z", true)
  | 4 => ("LogKeepers$Tape", "length", "I", false)
  | 5 => ("LogKeepers$Tape", "told", "I", false)
  | 6 => ("LogKeepers$Tape", "fault", "I", false)
  | 7 => ("LogKeepers$Tape", "faultPlace", "I", false)
  | 8 => ("LogKeepers$Tape", "tokenAt", "I", false)
  | _ => ("LogKeepers$Tape", "tokenEnd", "I", false)
def tyX6 : Nat → FieldType := fun k => match k with
  | 0 => .array .byte
  | 1 => .array .int
  | 2 => .array .int
  | 3 => .array .boolean
  | 4 => .int
  | 5 => .int
  | 6 => .int
  | 7 => .int
  | 8 => .int
  | _ => .int
abbrev wsX60 : List Cond := u_ws RX6 TX6 10
theorem nmX6 : ∀ a, a < 10 → ∀ b, b < 10 → a ≠ b → (TX6 a).2.1 ≠ (TX6 b).2.1 := by decide +kernel
theorem tyX6_ok : ∀ k, k < 10 → parseFieldDescriptor (TX6 k).2.2.1 = some (tyX6 k) := by decide +kernel
abbrev cX6_init : ByteArray := prog_8_method_1_code
def yX6_init : MethodName := ⟨RX6, "<init>", "()V"⟩
abbrev cX6_hasRoomFor : ByteArray := prog_8_method_2_code
def yX6_hasRoomFor : MethodName := ⟨RX6, "hasRoomFor", "(I)Z"⟩
abbrev cX6_put : ByteArray := prog_8_method_3_code
def yX6_put : MethodName := ⟨RX6, "put", "(I)V"⟩
abbrev cX6_parse : ByteArray := prog_8_method_4_code
def yX6_parse : MethodName := ⟨RX6, "parse", "()V"⟩
abbrev cX6_blame : ByteArray := prog_8_method_5_code
def yX6_blame : MethodName := ⟨RX6, "blame", "(II)V"⟩
abbrev cX6_countVoters : ByteArray := prog_8_method_6_code
def yX6_countVoters : MethodName := ⟨RX6, "countVoters", "()I"⟩
abbrev cX6_byteAt : ByteArray := prog_8_method_7_code
def yX6_byteAt : MethodName := ⟨RX6, "byteAt", "(I)I"⟩
abbrev cX6_isLetter : ByteArray := prog_8_method_8_code
def yX6_isLetter : MethodName := ⟨RX6, "isLetter", "(I)Z"⟩
abbrev cX6_isBlank : ByteArray := prog_8_method_9_code
def yX6_isBlank : MethodName := ⟨RX6, "isBlank", "(I)Z"⟩
abbrev cX6_findToken : ByteArray := prog_8_method_10_code
def yX6_findToken : MethodName := ⟨RX6, "findToken", "()Z"⟩
abbrev cX6_endOfLetters : ByteArray := prog_8_method_11_code
def yX6_endOfLetters : MethodName := ⟨RX6, "endOfLetters", "(I)I"⟩
abbrev cX6_takeToken : ByteArray := prog_8_method_12_code
def yX6_takeToken : MethodName := ⟨RX6, "takeToken", "(I)I"⟩
abbrev cX6_takeName : ByteArray := prog_8_method_13_code
def yX6_takeName : MethodName := ⟨RX6, "takeName", "()V"⟩
abbrev cX6_markSilent : ByteArray := prog_8_method_14_code
def yX6_markSilent : MethodName := ⟨RX6, "markSilent", "()V"⟩
abbrev cX6_tokenIs : ByteArray := prog_8_method_15_code
def yX6_tokenIs : MethodName := ⟨RX6, "tokenIs", "(Ljava/lang/String;)Z"⟩
abbrev cX6_tokenIsName : ByteArray := prog_8_method_16_code
def yX6_tokenIsName : MethodName := ⟨RX6, "tokenIsName", "(I)Z"⟩
def RX7 : String := "LogKeepers$World"
def TX7 : u_T := fun k => match k with
  | 0 => ("LogKeepers$World", "keepers", "[LLogKeepers$Keeper;", true)
  | 1 => ("LogKeepers$World", "post", "LLogKeepers$Post;", true)
  | 2 => ("LogKeepers$World", "reads", "LLogKeepers$Reads;", true)
  | 3 => ("LogKeepers$World", "count", "I", false)
  | _ => ("LogKeepers$World", "voters", "I", false)
def tyX7 : Nat → FieldType := fun k => match k with
  | 0 => .array (.object "LogKeepers$Keeper")
  | 1 => .object "LogKeepers$Post"
  | 2 => .object "LogKeepers$Reads"
  | 3 => .int
  | _ => .int
abbrev wsX70 : List Cond := u_ws RX7 TX7 5
theorem nmX7 : ∀ a, a < 5 → ∀ b, b < 5 → a ≠ b → (TX7 a).2.1 ≠ (TX7 b).2.1 := by decide +kernel
theorem tyX7_ok : ∀ k, k < 5 → parseFieldDescriptor (TX7 k).2.2.1 = some (tyX7 k) := by decide +kernel
abbrev cX7_init : ByteArray := prog_9_method_1_code
def yX7_init : MethodName := ⟨RX7, "<init>", "()V"⟩
abbrev cX7_begin : ByteArray := prog_9_method_2_code
def yX7_begin : MethodName := ⟨RX7, "begin", "(LLogKeepers$Tape;)V"⟩
abbrev cX7_copyFrom : ByteArray := prog_9_method_3_code
def yX7_copyFrom : MethodName := ⟨RX7, "copyFrom", "(LLogKeepers$World;)V"⟩
abbrev cX7_isKeeper : ByteArray := prog_9_method_4_code
def yX7_isKeeper : MethodName := ⟨RX7, "isKeeper", "(I)Z"⟩
abbrev cX7_isUp : ByteArray := prog_9_method_5_code
def yX7_isUp : MethodName := ⟨RX7, "isUp", "(I)Z"⟩
abbrev cX7_isLeading : ByteArray := prog_9_method_6_code
def yX7_isLeading : MethodName := ⟨RX7, "isLeading", "(I)Z"⟩
abbrev cX7_most : ByteArray := prog_9_method_7_code
def yX7_most : MethodName := ⟨RX7, "most", "()I"⟩
abbrev cX7_countUp : ByteArray := prog_9_method_8_code
def yX7_countUp : MethodName := ⟨RX7, "countUp", "()I"⟩
abbrev cX7_askBy : ByteArray := prog_9_method_9_code
def yX7_askBy : MethodName := ⟨RX7, "askBy", "(I)I"⟩
abbrev cX7_sendAsk : ByteArray := prog_9_method_10_code
def yX7_sendAsk : MethodName := ⟨RX7, "sendAsk", "(II)V"⟩
abbrev cX7_leadIfChosen : ByteArray := prog_9_method_11_code
def yX7_leadIfChosen : MethodName := ⟨RX7, "leadIfChosen", "(LLogKeepers$Keeper;)V"⟩
abbrev cX7_send : ByteArray := prog_9_method_12_code
def yX7_send : MethodName := ⟨RX7, "send", "(III)LLogKeepers$Letter;"⟩
abbrev cX7_addCommand : ByteArray := prog_9_method_13_code
def yX7_addCommand : MethodName := ⟨RX7, "addCommand", "(IIIIII)I"⟩
abbrev cX7_settle : ByteArray := prog_9_method_14_code
def yX7_settle : MethodName := ⟨RX7, "settle", "(I)V"⟩
abbrev cX7_countSure : ByteArray := prog_9_method_15_code
def yX7_countSure : MethodName := ⟨RX7, "countSure", "(II)I"⟩
abbrev cX7_sendOn : ByteArray := prog_9_method_16_code
def yX7_sendOn : MethodName := ⟨RX7, "sendOn", "(II)I"⟩
abbrev cX7_deliverFrom : ByteArray := prog_9_method_17_code
def yX7_deliverFrom : MethodName := ⟨RX7, "deliverFrom", "(I)I"⟩
abbrev cX7_reply : ByteArray := prog_9_method_18_code
def yX7_reply : MethodName := ⟨RX7, "reply", "(LLogKeepers$Letter;IZI)I"⟩
abbrev cX7_takeAsk : ByteArray := prog_9_method_19_code
def yX7_takeAsk : MethodName := ⟨RX7, "takeAsk", "(LLogKeepers$Keeper;LLogKeepers$Letter;)I"⟩
abbrev cX7_isAhead : ByteArray := prog_9_method_20_code
def yX7_isAhead : MethodName := ⟨RX7, "isAhead", "(LLogKeepers$Keeper;LLogKeepers$Letter;)Z"⟩
abbrev cX7_takeBallot : ByteArray := prog_9_method_21_code
def yX7_takeBallot : MethodName := ⟨RX7, "takeBallot", "(LLogKeepers$Keeper;LLogKeepers$Letter;)I"⟩
abbrev cX7_takeAnswer : ByteArray := prog_9_method_22_code
def yX7_takeAnswer : MethodName := ⟨RX7, "takeAnswer", "(LLogKeepers$Keeper;LLogKeepers$Letter;)I"⟩
abbrev cX7_takeFromLeader : ByteArray := prog_9_method_23_code
def yX7_takeFromLeader : MethodName := ⟨RX7, "takeFromLeader", "(LLogKeepers$Keeper;LLogKeepers$Letter;)I"⟩
abbrev cX7_takeFolding : ByteArray := prog_9_method_24_code
def yX7_takeFolding : MethodName := ⟨RX7, "takeFolding", "(LLogKeepers$Keeper;LLogKeepers$Letter;)I"⟩
abbrev cX7_takeAppend : ByteArray := prog_9_method_25_code
def yX7_takeAppend : MethodName := ⟨RX7, "takeAppend", "(LLogKeepers$Keeper;LLogKeepers$Letter;)I"⟩
abbrev cX7_takeEntries : ByteArray := prog_9_method_26_code
def yX7_takeEntries : MethodName := ⟨RX7, "takeEntries", "(LLogKeepers$Keeper;LLogKeepers$Letter;)I"⟩
abbrev cX7_beginRead : ByteArray := prog_9_method_27_code
def yX7_beginRead : MethodName := ⟨RX7, "beginRead", "(II)I"⟩
abbrev cX7_isGood : ByteArray := prog_9_method_28_code
def yX7_isGood : MethodName := ⟨RX7, "isGood", "(I)Z"⟩
abbrev cX7_readCell : ByteArray := prog_9_method_29_code
def yX7_readCell : MethodName := ⟨RX7, "readCell", "(I)I"⟩
def RX8 : String := "LogKeepers"
def TX8 : u_T := fun k => match k with
  | 0 => ("LogKeepers", "tape", "LLogKeepers$Tape;", true)
  | 1 => ("LogKeepers", "world", "LLogKeepers$World;", true)
  | 2 => ("LogKeepers", "boxes", "[LLogKeepers$World;", true)
  | 3 => ("LogKeepers", "kept", "[Z", true)
  | _ => ("LogKeepers", "history", "LLogKeepers$History;", true)
def tyX8 : Nat → FieldType := fun k => match k with
  | 0 => .object "LogKeepers$Tape"
  | 1 => .object "LogKeepers$World"
  | 2 => .array (.object "LogKeepers$World")
  | 3 => .array .boolean
  | _ => .object "LogKeepers$History"
abbrev wsX80 : List Cond := u_ws RX8 TX8 5
theorem nmX8 : ∀ a, a < 5 → ∀ b, b < 5 → a ≠ b → (TX8 a).2.1 ≠ (TX8 b).2.1 := by decide +kernel
theorem tyX8_ok : ∀ k, k < 5 → parseFieldDescriptor (TX8 k).2.2.1 = some (tyX8 k) := by decide +kernel
abbrev cX8_init : ByteArray := prog_1_method_1_code
def yX8_init : MethodName := ⟨RX8, "<init>", "()V"⟩
abbrev cX8_feed : ByteArray := prog_1_method_2_code
def yX8_feed : MethodName := ⟨RX8, "feed", "(IIIII)I"⟩
abbrev cX8_end : ByteArray := prog_1_method_3_code
def yX8_end : MethodName := ⟨RX8, "end", "(I)I"⟩
abbrev cX8_keepers : ByteArray := prog_1_method_4_code
def yX8_keepers : MethodName := ⟨RX8, "keepers", "()I"⟩
abbrev cX8_fault : ByteArray := prog_1_method_5_code
def yX8_fault : MethodName := ⟨RX8, "fault", "(I)I"⟩
abbrev cX8_ask : ByteArray := prog_1_method_6_code
def yX8_ask : MethodName := ⟨RX8, "ask", "(I)I"⟩
abbrev cX8_deliver : ByteArray := prog_1_method_7_code
def yX8_deliver : MethodName := ⟨RX8, "deliver", "(I)I"⟩
abbrev cX8_drop : ByteArray := prog_1_method_8_code
def yX8_drop : MethodName := ⟨RX8, "drop", "(I)I"⟩
abbrev cX8_twice : ByteArray := prog_1_method_9_code
def yX8_twice : MethodName := ⟨RX8, "twice", "(I)I"⟩
abbrev cX8_fall : ByteArray := prog_1_method_10_code
def yX8_fall : MethodName := ⟨RX8, "fall", "(I)Z"⟩
abbrev cX8_rise : ByteArray := prog_1_method_11_code
def yX8_rise : MethodName := ⟨RX8, "rise", "(I)Z"⟩
abbrev cX8_command : ByteArray := prog_1_method_12_code
def yX8_command : MethodName := ⟨RX8, "command", "(IIIIII)I"⟩
abbrev cX8_append : ByteArray := prog_1_method_13_code
def yX8_append : MethodName := ⟨RX8, "append", "(II)I"⟩
abbrev cX8_fold : ByteArray := prog_1_method_14_code
def yX8_fold : MethodName := ⟨RX8, "fold", "(II)I"⟩
abbrev cX8_read : ByteArray := prog_1_method_15_code
def yX8_read : MethodName := ⟨RX8, "read", "(II)I"⟩
abbrev cX8_good : ByteArray := prog_1_method_16_code
def yX8_good : MethodName := ⟨RX8, "good", "(I)I"⟩
abbrev cX8_keeper : ByteArray := prog_1_method_17_code
def yX8_keeper : MethodName := ⟨RX8, "keeper", "(II)I"⟩
abbrev cX8_entry : ByteArray := prog_1_method_18_code
def yX8_entry : MethodName := ⟨RX8, "entry", "(III)I"⟩
abbrev cX8_state : ByteArray := prog_1_method_19_code
def yX8_state : MethodName := ⟨RX8, "state", "(II)I"⟩
abbrev cX8_client : ByteArray := prog_1_method_20_code
def yX8_client : MethodName := ⟨RX8, "client", "(III)I"⟩
abbrev cX8_peer : ByteArray := prog_1_method_21_code
def yX8_peer : MethodName := ⟨RX8, "peer", "(III)I"⟩
abbrev cX8_slot : ByteArray := prog_1_method_22_code
def yX8_slot : MethodName := ⟨RX8, "slot", "(II)I"⟩
abbrev cX8_note : ByteArray := prog_1_method_23_code
def yX8_note : MethodName := ⟨RX8, "note", "(IIIII)I"⟩
abbrev cX8_hush : ByteArray := prog_1_method_24_code
def yX8_hush : MethodName := ⟨RX8, "hush", "()I"⟩
abbrev cX8_judge : ByteArray := prog_1_method_25_code
def yX8_judge : MethodName := ⟨RX8, "judge", "()I"⟩
abbrev cX8_order : ByteArray := prog_1_method_26_code
def yX8_order : MethodName := ⟨RX8, "order", "(I)I"⟩
abbrev cX8_image : ByteArray := prog_1_method_27_code
def yX8_image : MethodName := ⟨RX8, "image", "(I)I"⟩
abbrev cX8_back : ByteArray := prog_1_method_28_code
def yX8_back : MethodName := ⟨RX8, "back", "(I)I"⟩
abbrev cX8_about : ByteArray := prog_1_method_29_code
def yX8_about : MethodName := ⟨RX8, "about", "(I)I"⟩
abbrev cX8_canBe : ByteArray := prog_1_method_30_code
def yX8_canBe : MethodName := ⟨RX8, "canBe", "(IIII)Z"⟩
abbrev cX8_isClient : ByteArray := prog_1_method_31_code
def yX8_isClient : MethodName := ⟨RX8, "isClient", "(I)Z"⟩
abbrev cX8_isWhat : ByteArray := prog_1_method_32_code
def yX8_isWhat : MethodName := ⟨RX8, "isWhat", "(I)Z"⟩
abbrev cX8_isCell : ByteArray := prog_1_method_33_code
def yX8_isCell : MethodName := ⟨RX8, "isCell", "(I)Z"⟩
abbrev cX8_isBox : ByteArray := prog_1_method_34_code
def yX8_isBox : MethodName := ⟨RX8, "isBox", "(I)Z"⟩
abbrev cX8_cellBehind : ByteArray := prog_1_method_35_code
def yX8_cellBehind : MethodName := ⟨RX8, "cellBehind", "(III)I"⟩
abbrev cX8_answerTo : ByteArray := prog_1_method_36_code
def yX8_answerTo : MethodName := ⟨RX8, "answerTo", "(III)I"⟩
def RX9 : String := "LogKeepersModel"
def TX9 : u_T := fun k => match k with
  | 0 => ("LogKeepersModel", "tape", "[B", true)
  | 1 => ("LogKeepersModel", "text", "[B", true)
  | 2 => ("LogKeepersModel", "all", "[I", true)
  | 3 => ("LogKeepersModel", "boxes", "[I", true)
  | 4 => ("LogKeepersModel", "isBoxed", "[Z", true)
  | 5 => ("LogKeepersModel", "taped", "I", false)
  | 6 => ("LogKeepersModel", "size", "I", false)
  | 7 => ("LogKeepersModel", "faultKind", "I", false)
  | 8 => ("LogKeepersModel", "faultPlace", "I", false)
  | 9 => ("LogKeepersModel", "keepers", "[I", true)
  | 10 => ("LogKeepersModel", "silent", "[I", true)
  | 11 => ("LogKeepersModel", "kName", "[J", true)
  | 12 => ("LogKeepersModel", "bank", "I", false)
  | 13 => ("LogKeepersModel", "rb", "I", false)
  | 14 => ("LogKeepersModel", "at", "I", false)
  | 15 => ("LogKeepersModel", "end", "I", false)
  | 16 => ("LogKeepersModel", "token", "I", false)
  | 17 => ("LogKeepersModel", "name", "J", false)
  | 18 => ("LogKeepersModel", "letter", "[I", true)
  | 19 => ("LogKeepersModel", "nBegun", "[I", true)
  | 20 => ("LogKeepersModel", "nEnded", "[I", true)
  | 21 => ("LogKeepersModel", "nWhat", "[I", true)
  | 22 => ("LogKeepersModel", "nValue", "[I", true)
  | 23 => ("LogKeepersModel", "nAnswer", "[I", true)
  | 24 => ("LogKeepersModel", "row", "[I", true)
  | 25 => ("LogKeepersModel", "cell", "[I", true)
  | _ => ("LogKeepersModel", "noted", "I", false)
def tyX9 : Nat → FieldType := fun k => match k with
  | 0 => .array .byte
  | 1 => .array .byte
  | 2 => .array .int
  | 3 => .array .int
  | 4 => .array .boolean
  | 5 => .int
  | 6 => .int
  | 7 => .int
  | 8 => .int
  | 9 => .array .int
  | 10 => .array .int
  | 11 => .array .long
  | 12 => .int
  | 13 => .int
  | 14 => .int
  | 15 => .int
  | 16 => .int
  | 17 => .long
  | 18 => .array .int
  | 19 => .array .int
  | 20 => .array .int
  | 21 => .array .int
  | 22 => .array .int
  | 23 => .array .int
  | 24 => .array .int
  | 25 => .array .int
  | _ => .int
abbrev wsX90 : List Cond := u_ws RX9 TX9 27
theorem nmX9 : ∀ a, a < 27 → ∀ b, b < 27 → a ≠ b → (TX9 a).2.1 ≠ (TX9 b).2.1 := by decide +kernel
theorem tyX9_ok : ∀ k, k < 27 → parseFieldDescriptor (TX9 k).2.2.1 = some (tyX9 k) := by decide +kernel
abbrev cX9_init : ByteArray := prog_11_method_1_code
def yX9_init : MethodName := ⟨RX9, "<init>", "()V"⟩
abbrev cX9_sign : ByteArray := prog_11_method_2_code
def yX9_sign : MethodName := ⟨RX9, "sign", "(I)I"⟩
abbrev cX9_isLetter : ByteArray := prog_11_method_3_code
def yX9_isLetter : MethodName := ⟨RX9, "isLetter", "(I)Z"⟩
abbrev cX9_fails : ByteArray := prog_11_method_4_code
def yX9_fails : MethodName := ⟨RX9, "fails", "(II)V"⟩
abbrev cX9_isGood : ByteArray := prog_11_method_5_code
def yX9_isGood : MethodName := ⟨RX9, "isGood", "()Z"⟩
abbrev cX9_goOn : ByteArray := prog_11_method_6_code
def yX9_goOn : MethodName := ⟨RX9, "goOn", "()V"⟩
abbrev cX9_misplaced : ByteArray := prog_11_method_7_code
def yX9_misplaced : MethodName := ⟨RX9, "misplaced", "()V"⟩
abbrev cX9_keepers : ByteArray := prog_11_method_8_code
def yX9_keepers : MethodName := ⟨RX9, "keepers", "()I"⟩
abbrev cX9_readKeeper : ByteArray := prog_11_method_9_code
def yX9_readKeeper : MethodName := ⟨RX9, "readKeeper", "()V"⟩
abbrev cX9_fault : ByteArray := prog_11_method_10_code
def yX9_fault : MethodName := ⟨RX9, "fault", "(I)I"⟩
abbrev cX9_isIn : ByteArray := prog_11_method_11_code
def yX9_isIn : MethodName := ⟨RX9, "isIn", "(III)Z"⟩
abbrev cX9_bitsOf : ByteArray := prog_11_method_12_code
def yX9_bitsOf : MethodName := ⟨RX9, "bitsOf", "(I)I"⟩
abbrev cX9_many : ByteArray := prog_11_method_13_code
def yX9_many : MethodName := ⟨RX9, "many", "()I"⟩
abbrev cX9_isKeeper : ByteArray := prog_11_method_14_code
def yX9_isKeeper : MethodName := ⟨RX9, "isKeeper", "(I)Z"⟩
abbrev cX9_isVoter : ByteArray := prog_11_method_15_code
def yX9_isVoter : MethodName := ⟨RX9, "isVoter", "(I)Z"⟩
abbrev cX9_voters : ByteArray := prog_11_method_16_code
def yX9_voters : MethodName := ⟨RX9, "voters", "()I"⟩
abbrev cX9_most : ByteArray := prog_11_method_17_code
def yX9_most : MethodName := ⟨RX9, "most", "()I"⟩
abbrev cX9_begin : ByteArray := prog_11_method_18_code
def yX9_begin : MethodName := ⟨RX9, "begin", "()V"⟩
abbrev cX9_of : ByteArray := prog_11_method_19_code
def yX9_of : MethodName := ⟨RX9, "of", "(II)I"⟩
abbrev cX9_put : ByteArray := prog_11_method_20_code
def yX9_put : MethodName := ⟨RX9, "put", "(III)V"⟩
abbrev cX9_isUp : ByteArray := prog_11_method_21_code
def yX9_isUp : MethodName := ⟨RX9, "isUp", "(I)Z"⟩
abbrev cX9_doesLead : ByteArray := prog_11_method_22_code
def yX9_doesLead : MethodName := ⟨RX9, "doesLead", "(I)Z"⟩
abbrev cX9_entryAt : ByteArray := prog_11_method_23_code
def yX9_entryAt : MethodName := ⟨RX9, "entryAt", "(II)I"⟩
abbrev cX9_termOf : ByteArray := prog_11_method_24_code
def yX9_termOf : MethodName := ⟨RX9, "termOf", "(II)I"⟩
abbrev cX9_copy : ByteArray := prog_11_method_25_code
def yX9_copy : MethodName := ⟨RX9, "copy", "(III)V"⟩
abbrev cX9_works : ByteArray := prog_11_method_26_code
def yX9_works : MethodName := ⟨RX9, "works", "(II)V"⟩
abbrev cX9_after : ByteArray := prog_11_method_27_code
def yX9_after : MethodName := ⟨RX9, "after", "(III)I"⟩
abbrev cX9_answers : ByteArray := prog_11_method_28_code
def yX9_answers : MethodName := ⟨RX9, "answers", "(III)I"⟩
abbrev cX9_doneTo : ByteArray := prog_11_method_29_code
def yX9_doneTo : MethodName := ⟨RX9, "doneTo", "(II)V"⟩
abbrev cX9_isSure : ByteArray := prog_11_method_30_code
def yX9_isSure : MethodName := ⟨RX9, "isSure", "(II)Z"⟩
abbrev cX9_settles : ByteArray := prog_11_method_31_code
def yX9_settles : MethodName := ⟨RX9, "settles", "(I)V"⟩
abbrev cX9_leads : ByteArray := prog_11_method_32_code
def yX9_leads : MethodName := ⟨RX9, "leads", "(I)V"⟩
abbrev cX9_slotOf : ByteArray := prog_11_method_33_code
def yX9_slotOf : MethodName := ⟨RX9, "slotOf", "(II)I"⟩
abbrev cX9_putSlot : ByteArray := prog_11_method_34_code
def yX9_putSlot : MethodName := ⟨RX9, "putSlot", "(III)V"⟩
abbrev cX9_hasLetter : ByteArray := prog_11_method_35_code
def yX9_hasLetter : MethodName := ⟨RX9, "hasLetter", "(I)Z"⟩
abbrev cX9_empty : ByteArray := prog_11_method_36_code
def yX9_empty : MethodName := ⟨RX9, "empty", "()I"⟩
abbrev cX9_letters : ByteArray := prog_11_method_37_code
def yX9_letters : MethodName := ⟨RX9, "letters", "()I"⟩
abbrev cX9_sends : ByteArray := prog_11_method_38_code
def yX9_sends : MethodName := ⟨RX9, "sends", "(IIIII)I"⟩
abbrev cX9_ask : ByteArray := prog_11_method_39_code
def yX9_ask : MethodName := ⟨RX9, "ask", "(I)I"⟩
abbrev cX9_append : ByteArray := prog_11_method_40_code
def yX9_append : MethodName := ⟨RX9, "append", "(II)I"⟩
abbrev cX9_command : ByteArray := prog_11_method_41_code
def yX9_command : MethodName := ⟨RX9, "command", "(IIIIII)I"⟩
abbrev cX9_deliver : ByteArray := prog_11_method_42_code
def yX9_deliver : MethodName := ⟨RX9, "deliver", "(I)I"⟩
abbrev cX9_getsAsk : ByteArray := prog_11_method_43_code
def yX9_getsAsk : MethodName := ⟨RX9, "getsAsk", "(I)I"⟩
abbrev cX9_getsBallot : ByteArray := prog_11_method_44_code
def yX9_getsBallot : MethodName := ⟨RX9, "getsBallot", "(I)I"⟩
abbrev cX9_answersBack : ByteArray := prog_11_method_45_code
def yX9_answersBack : MethodName := ⟨RX9, "answersBack", "(IZI)I"⟩
abbrev cX9_getsAppend : ByteArray := prog_11_method_46_code
def yX9_getsAppend : MethodName := ⟨RX9, "getsAppend", "(I)I"⟩
abbrev cX9_takes : ByteArray := prog_11_method_47_code
def yX9_takes : MethodName := ⟨RX9, "takes", "(III)Z"⟩
abbrev cX9_getsFolding : ByteArray := prog_11_method_48_code
def yX9_getsFolding : MethodName := ⟨RX9, "getsFolding", "(I)I"⟩
abbrev cX9_getsAnswer : ByteArray := prog_11_method_49_code
def yX9_getsAnswer : MethodName := ⟨RX9, "getsAnswer", "(I)I"⟩
abbrev cX9_drop : ByteArray := prog_11_method_50_code
def yX9_drop : MethodName := ⟨RX9, "drop", "(I)I"⟩
abbrev cX9_twice : ByteArray := prog_11_method_51_code
def yX9_twice : MethodName := ⟨RX9, "twice", "(I)I"⟩
abbrev cX9_fall : ByteArray := prog_11_method_52_code
def yX9_fall : MethodName := ⟨RX9, "fall", "(I)Z"⟩
abbrev cX9_rise : ByteArray := prog_11_method_53_code
def yX9_rise : MethodName := ⟨RX9, "rise", "(I)Z"⟩
abbrev cX9_fold : ByteArray := prog_11_method_54_code
def yX9_fold : MethodName := ⟨RX9, "fold", "(II)I"⟩
abbrev cX9_read : ByteArray := prog_11_method_55_code
def yX9_read : MethodName := ⟨RX9, "read", "(II)I"⟩
abbrev cX9_good : ByteArray := prog_11_method_56_code
def yX9_good : MethodName := ⟨RX9, "good", "(I)I"⟩
abbrev cX9_keeper : ByteArray := prog_11_method_57_code
def yX9_keeper : MethodName := ⟨RX9, "keeper", "(II)I"⟩
abbrev cX9_entry : ByteArray := prog_11_method_58_code
def yX9_entry : MethodName := ⟨RX9, "entry", "(III)I"⟩
abbrev cX9_state : ByteArray := prog_11_method_59_code
def yX9_state : MethodName := ⟨RX9, "state", "(II)I"⟩
abbrev cX9_client : ByteArray := prog_11_method_60_code
def yX9_client : MethodName := ⟨RX9, "client", "(III)I"⟩
abbrev cX9_peer : ByteArray := prog_11_method_61_code
def yX9_peer : MethodName := ⟨RX9, "peer", "(III)I"⟩
abbrev cX9_slot : ByteArray := prog_11_method_62_code
def yX9_slot : MethodName := ⟨RX9, "slot", "(II)I"⟩
abbrev cX9_note : ByteArray := prog_11_method_63_code
def yX9_note : MethodName := ⟨RX9, "note", "(IIIII)I"⟩
abbrev cX9_hush : ByteArray := prog_11_method_64_code
def yX9_hush : MethodName := ⟨RX9, "hush", "()I"⟩
abbrev cX9_canCome : ByteArray := prog_11_method_65_code
def yX9_canCome : MethodName := ⟨RX9, "canCome", "(III)Z"⟩
abbrev cX9_findOrder : ByteArray := prog_11_method_66_code
def yX9_findOrder : MethodName := ⟨RX9, "findOrder", "()Z"⟩
abbrev cX9_judge : ByteArray := prog_11_method_67_code
def yX9_judge : MethodName := ⟨RX9, "judge", "()I"⟩
abbrev cX9_order : ByteArray := prog_11_method_68_code
def yX9_order : MethodName := ⟨RX9, "order", "(I)I"⟩
abbrev cX9_image : ByteArray := prog_11_method_69_code
def yX9_image : MethodName := ⟨RX9, "image", "(I)I"⟩
abbrev cX9_back : ByteArray := prog_11_method_70_code
def yX9_back : MethodName := ⟨RX9, "back", "(I)I"⟩
abbrev cX9_up : ByteArray := prog_11_method_71_code
def yX9_up : MethodName := ⟨RX9, "up", "()I"⟩
abbrev cX9_about : ByteArray := prog_11_method_72_code
def yX9_about : MethodName := ⟨RX9, "about", "(I)I"⟩
abbrev cX9_feed : ByteArray := prog_11_method_73_code
def yX9_feed : MethodName := ⟨RX9, "feed", "(IIIII)I"⟩
abbrev cX9_end : ByteArray := prog_11_method_74_code
def yX9_end : MethodName := ⟨RX9, "end", "(I)I"⟩
def RJ6 : String := "java/lang/Integer"
def TJ6 : u_T := fun k => match k with
  | _ => ("", "", "", false)
def tyJ6 : Nat → FieldType := fun k => match k with
  | _ => .int
abbrev wsJ60 : List Cond := u_ws RJ6 TJ6 0
theorem nmJ6 : ∀ a, a < 0 → ∀ b, b < 0 → a ≠ b → (TJ6 a).2.1 ≠ (TJ6 b).2.1 := by decide +kernel
theorem tyJ6_ok : ∀ k, k < 0 → parseFieldDescriptor (TJ6 k).2.2.1 = some (tyJ6 k) := by decide +kernel
abbrev cJ6_bitCount_0f7a4 : ByteArray := prog_12_method_49_code
def yJ6_bitCount_0f7a4 : MethodName := ⟨RJ6, "bitCount", "(I)I"⟩
def RJ9 : String := "java/lang/Math"
def TJ9 : u_T := fun k => match k with
  | _ => ("", "", "", false)
def tyJ9 : Nat → FieldType := fun k => match k with
  | _ => .int
abbrev wsJ90 : List Cond := u_ws RJ9 TJ9 0
theorem nmJ9 : ∀ a, a < 0 → ∀ b, b < 0 → a ≠ b → (TJ9 a).2.1 ≠ (TJ9 b).2.1 := by decide +kernel
theorem tyJ9_ok : ∀ k, k < 0 → parseFieldDescriptor (TJ9 k).2.2.1 = some (tyJ9 k) := by decide +kernel
abbrev cJ9_max_7cf53 : ByteArray := prog_13_method_65_code
def yJ9_max_7cf53 : MethodName := ⟨RJ9, "max", "(II)I"⟩
abbrev cJ9_min_7cf53 : ByteArray := prog_13_method_69_code
def yJ9_min_7cf53 : MethodName := ⟨RJ9, "min", "(II)I"⟩
def RJ0 : String := "java/lang/String"
def TJ0 : u_T := fun k => match k with
  | _ => ("", "", "", false)
def tyJ0 : Nat → FieldType := fun k => match k with
  | _ => .int
abbrev wsJ00 : List Cond := u_ws RJ0 TJ0 0
theorem nmJ0 : ∀ a, a < 0 → ∀ b, b < 0 → a ≠ b → (TJ0 a).2.1 ≠ (TJ0 b).2.1 := by decide +kernel
theorem tyJ0_ok : ∀ k, k < 0 → parseFieldDescriptor (TJ0 k).2.2.1 = some (tyJ0 k) := by decide +kernel
abbrev cJ0_length_8abf5 : ByteArray := prog_14_method_54_code
def yJ0_length_8abf5 : MethodName := ⟨RJ0, "length", "()I"⟩
abbrev cJ0_charAt_5068e : ByteArray := prog_14_method_56_code
def yJ0_charAt_5068e : MethodName := ⟨RJ0, "charAt", "(I)C"⟩
abbrev cJ0_coder_7d493 : ByteArray := prog_14_method_152_code
def yJ0_coder_7d493 : MethodName := ⟨RJ0, "coder", "()B"⟩
abbrev cJ0_isLatin1_aae02 : ByteArray := prog_14_method_154_code
def yJ0_isLatin1_aae02 : MethodName := ⟨RJ0, "isLatin1", "()Z"⟩
abbrev cJ0_checkIndex_df160 : ByteArray := prog_14_method_155_code
def yJ0_checkIndex_df160 : MethodName := ⟨RJ0, "checkIndex", "(II)V"⟩
def RJ1 : String := "java/lang/StringLatin1"
def TJ1 : u_T := fun k => match k with
  | _ => ("", "", "", false)
def tyJ1 : Nat → FieldType := fun k => match k with
  | _ => .int
abbrev wsJ10 : List Cond := u_ws RJ1 TJ1 0
theorem nmJ1 : ∀ a, a < 0 → ∀ b, b < 0 → a ≠ b → (TJ1 a).2.1 ≠ (TJ1 b).2.1 := by decide +kernel
theorem tyJ1_ok : ∀ k, k < 0 → parseFieldDescriptor (TJ1 k).2.2.1 = some (tyJ1 k) := by decide +kernel
abbrev cJ1_charAt_3b067 : ByteArray := prog_15_method_2_code
def yJ1_charAt_3b067 : MethodName := ⟨RJ1, "charAt", "([BI)C"⟩
def RJ2 : String := "java/lang/StringUTF16"
def TJ2 : u_T := fun k => match k with
  | _ => ("", "", "", false)
def tyJ2 : Nat → FieldType := fun k => match k with
  | _ => .int
abbrev wsJ20 : List Cond := u_ws RJ2 TJ2 0
theorem nmJ2 : ∀ a, a < 0 → ∀ b, b < 0 → a ≠ b → (TJ2 a).2.1 ≠ (TJ2 b).2.1 := by decide +kernel
theorem tyJ2_ok : ∀ k, k < 0 → parseFieldDescriptor (TJ2 k).2.2.1 = some (tyJ2 k) := by decide +kernel
abbrev cJ2_getChar_3b067 : ByteArray := prog_16_method_5_code
def yJ2_getChar_3b067 : MethodName := ⟨RJ2, "getChar", "([BI)C"⟩
abbrev cJ2_length_9d52b : ByteArray := prog_16_method_6_code
def yJ2_length_9d52b : MethodName := ⟨RJ2, "length", "([B)I"⟩
abbrev cJ2_charAt_3b067 : ByteArray := prog_16_method_83_code
def yJ2_charAt_3b067 : MethodName := ⟨RJ2, "charAt", "([BI)C"⟩
abbrev cJ2_checkIndex_2214a : ByteArray := prog_16_method_91_code
def yJ2_checkIndex_2214a : MethodName := ⟨RJ2, "checkIndex", "(I[B)V"⟩
def RJ10 : String := "java/lang/System"
def TJ10 : u_T := fun k => match k with
  | _ => ("", "", "", false)
def tyJ10 : Nat → FieldType := fun k => match k with
  | _ => .int
abbrev wsJ100 : List Cond := u_ws RJ10 TJ10 0
theorem nmJ10 : ∀ a, a < 0 → ∀ b, b < 0 → a ≠ b → (TJ10 a).2.1 ≠ (TJ10 b).2.1 := by decide +kernel
theorem tyJ10_ok : ∀ k, k < 0 → parseFieldDescriptor (TJ10 k).2.2.1 = some (tyJ10 k) := by decide +kernel
def RJ3 : String := "jdk/internal/util/Preconditions"
def TJ3 : u_T := fun k => match k with
  | _ => ("", "", "", false)
def tyJ3 : Nat → FieldType := fun k => match k with
  | _ => .int
abbrev wsJ30 : List Cond := u_ws RJ3 TJ3 0
theorem nmJ3 : ∀ a, a < 0 → ∀ b, b < 0 → a ≠ b → (TJ3 a).2.1 ≠ (TJ3 b).2.1 := by decide +kernel
theorem tyJ3_ok : ∀ k, k < 0 → parseFieldDescriptor (TJ3 k).2.2.1 = some (tyJ3 k) := by decide +kernel
abbrev cJ3_checkIndex_8e157 : ByteArray := prog_18_method_11_code
def yJ3_checkIndex_8e157 : MethodName := ⟨RJ3, "checkIndex", "(IILjava/util/function/BiFunction;)I"⟩
def RL : String := "LogKeepersLaw"
abbrev cL_law : ByteArray := code
def yL_law : MethodName := ⟨RL, "law", "([I)Z"⟩
end
section
theorem dX0_init_0 : decode cX0_init 0 = .ok (.aload_n 0, 1) := by decide +kernel
theorem dX0_init_1 : decode cX0_init 1 = .ok (.invokespecial 3, 3) := by decide +kernel
theorem dX0_init_4 : decode cX0_init 4 = .ok (.aload_n 0, 1) := by decide +kernel
theorem dX0_init_5 : decode cX0_init 5 = .ok (.bipush 9, 2) := by decide +kernel
theorem dX0_init_7 : decode cX0_init 7 = .ok (.newarray .int, 2) := by decide +kernel
theorem dX0_init_9 : decode cX0_init 9 = .ok (.putfield 11, 3) := by decide +kernel
theorem dX0_init_12 : decode cX0_init 12 = .ok (.aload_n 0, 1) := by decide +kernel
theorem dX0_init_13 : decode cX0_init 13 = .ok (.bipush 9, 2) := by decide +kernel
theorem dX0_init_15 : decode cX0_init 15 = .ok (.newarray .int, 2) := by decide +kernel
theorem dX0_init_17 : decode cX0_init 17 = .ok (.putfield 15, 3) := by decide +kernel
theorem dX0_init_20 : decode cX0_init 20 = .ok (.aload_n 0, 1) := by decide +kernel
theorem dX0_init_21 : decode cX0_init 21 = .ok (.bipush 9, 2) := by decide +kernel
theorem dX0_init_23 : decode cX0_init 23 = .ok (.newarray .int, 2) := by decide +kernel
theorem dX0_init_25 : decode cX0_init 25 = .ok (.putfield 18, 3) := by decide +kernel
theorem dX0_init_28 : decode cX0_init 28 = .ok (.aload_n 0, 1) := by decide +kernel
theorem dX0_init_29 : decode cX0_init 29 = .ok (.bipush 9, 2) := by decide +kernel
theorem dX0_init_31 : decode cX0_init 31 = .ok (.newarray .int, 2) := by decide +kernel
theorem dX0_init_33 : decode cX0_init 33 = .ok (.putfield 21, 3) := by decide +kernel
theorem dX0_init_36 : decode cX0_init 36 = .ok (.aload_n 0, 1) := by decide +kernel
theorem dX0_init_37 : decode cX0_init 37 = .ok (.bipush 9, 2) := by decide +kernel
theorem dX0_init_39 : decode cX0_init 39 = .ok (.newarray .int, 2) := by decide +kernel
theorem dX0_init_41 : decode cX0_init 41 = .ok (.putfield 24, 3) := by decide +kernel
theorem dX0_init_44 : decode cX0_init 44 = .ok (.aload_n 0, 1) := by decide +kernel
theorem dX0_init_45 : decode cX0_init 45 = .ok (.bipush 9, 2) := by decide +kernel
theorem dX0_init_47 : decode cX0_init 47 = .ok (.newarray .int, 2) := by decide +kernel
theorem dX0_init_49 : decode cX0_init 49 = .ok (.putfield 27, 3) := by decide +kernel
theorem dX0_init_52 : decode cX0_init 52 = .ok (.aload_n 0, 1) := by decide +kernel
theorem dX0_init_53 : decode cX0_init 53 = .ok (.sipush 512, 3) := by decide +kernel
theorem dX0_init_56 : decode cX0_init 56 = .ok (.newarray .int, 2) := by decide +kernel
theorem dX0_init_58 : decode cX0_init 58 = .ok (.putfield 30, 3) := by decide +kernel
theorem dX0_init_61 : decode cX0_init 61 = .ok (.return_, 1) := by decide +kernel
theorem dX0_isFull_0 : decode cX0_isFull 0 = .ok (.aload_n 0, 1) := by decide +kernel
theorem dX0_isFull_1 : decode cX0_isFull 1 = .ok (.getfield 33, 3) := by decide +kernel
theorem dX0_isFull_4 : decode cX0_isFull 4 = .ok (.bipush 9, 2) := by decide +kernel
theorem dX0_isFull_6 : decode cX0_isFull 6 = .ok (.if_icmp .lt 7, 3) := by decide +kernel
theorem dX0_isFull_9 : decode cX0_isFull 9 = .ok (.iconst 1, 1) := by decide +kernel
theorem dX0_isFull_10 : decode cX0_isFull 10 = .ok (.goto 4, 3) := by decide +kernel
theorem dX0_isFull_13 : decode cX0_isFull 13 = .ok (.iconst 0, 1) := by decide +kernel
theorem dX0_isFull_14 : decode cX0_isFull 14 = .ok (.ireturn, 1) := by decide +kernel
theorem dX0_add_0 : decode cX0_add 0 = .ok (.aload_n 0, 1) := by decide +kernel
theorem dX0_add_1 : decode cX0_add 1 = .ok (.invokevirtual 37, 3) := by decide +kernel
theorem dX0_add_4 : decode cX0_add 4 = .ok (.ifCond .eq 5, 3) := by decide +kernel
theorem dX0_add_7 : decode cX0_add 7 = .ok (.iconst (-1), 1) := by decide +kernel
theorem dX0_add_8 : decode cX0_add 8 = .ok (.ireturn, 1) := by decide +kernel
theorem dX0_add_9 : decode cX0_add 9 = .ok (.aload_n 0, 1) := by decide +kernel
theorem dX0_add_10 : decode cX0_add 10 = .ok (.getfield 11, 3) := by decide +kernel
theorem dX0_add_13 : decode cX0_add 13 = .ok (.aload_n 0, 1) := by decide +kernel
theorem dX0_add_14 : decode cX0_add 14 = .ok (.getfield 33, 3) := by decide +kernel
theorem dX0_add_17 : decode cX0_add 17 = .ok (.iload_n 1, 1) := by decide +kernel
theorem dX0_add_18 : decode cX0_add 18 = .ok (.iastore, 1) := by decide +kernel
theorem dX0_add_19 : decode cX0_add 19 = .ok (.aload_n 0, 1) := by decide +kernel
theorem dX0_add_20 : decode cX0_add 20 = .ok (.getfield 15, 3) := by decide +kernel
theorem dX0_add_23 : decode cX0_add 23 = .ok (.aload_n 0, 1) := by decide +kernel
theorem dX0_add_24 : decode cX0_add 24 = .ok (.getfield 33, 3) := by decide +kernel
theorem dX0_add_27 : decode cX0_add 27 = .ok (.iload_n 2, 1) := by decide +kernel
theorem dX0_add_28 : decode cX0_add 28 = .ok (.iastore, 1) := by decide +kernel
theorem dX0_add_29 : decode cX0_add 29 = .ok (.aload_n 0, 1) := by decide +kernel
theorem dX0_add_30 : decode cX0_add 30 = .ok (.getfield 18, 3) := by decide +kernel
theorem dX0_add_33 : decode cX0_add 33 = .ok (.aload_n 0, 1) := by decide +kernel
theorem dX0_add_34 : decode cX0_add 34 = .ok (.getfield 33, 3) := by decide +kernel
theorem dX0_add_37 : decode cX0_add 37 = .ok (.iload_n 3, 1) := by decide +kernel
theorem dX0_add_38 : decode cX0_add 38 = .ok (.iastore, 1) := by decide +kernel
theorem dX0_add_39 : decode cX0_add 39 = .ok (.aload_n 0, 1) := by decide +kernel
theorem dX0_add_40 : decode cX0_add 40 = .ok (.getfield 21, 3) := by decide +kernel
theorem dX0_add_43 : decode cX0_add 43 = .ok (.aload_n 0, 1) := by decide +kernel
theorem dX0_add_44 : decode cX0_add 44 = .ok (.getfield 33, 3) := by decide +kernel
theorem dX0_add_47 : decode cX0_add 47 = .ok (.iload 4, 2) := by decide +kernel
theorem dX0_add_49 : decode cX0_add 49 = .ok (.iastore, 1) := by decide +kernel
theorem dX0_add_50 : decode cX0_add 50 = .ok (.aload_n 0, 1) := by decide +kernel
theorem dX0_add_51 : decode cX0_add 51 = .ok (.getfield 24, 3) := by decide +kernel
theorem dX0_add_54 : decode cX0_add 54 = .ok (.aload_n 0, 1) := by decide +kernel
theorem dX0_add_55 : decode cX0_add 55 = .ok (.getfield 33, 3) := by decide +kernel
theorem dX0_add_58 : decode cX0_add 58 = .ok (.iload 5, 2) := by decide +kernel
theorem dX0_add_60 : decode cX0_add 60 = .ok (.iastore, 1) := by decide +kernel
theorem dX0_add_61 : decode cX0_add 61 = .ok (.aload_n 0, 1) := by decide +kernel
theorem dX0_add_62 : decode cX0_add 62 = .ok (.dup, 1) := by decide +kernel
theorem dX0_add_63 : decode cX0_add 63 = .ok (.getfield 33, 3) := by decide +kernel
theorem dX0_add_66 : decode cX0_add 66 = .ok (.iconst 1, 1) := by decide +kernel
theorem dX0_add_67 : decode cX0_add 67 = .ok (.iadd, 1) := by decide +kernel
theorem dX0_add_68 : decode cX0_add 68 = .ok (.putfield 33, 3) := by decide +kernel
theorem dX0_add_71 : decode cX0_add 71 = .ok (.aload_n 0, 1) := by decide +kernel
theorem dX0_add_72 : decode cX0_add 72 = .ok (.iconst 0, 1) := by decide +kernel
theorem dX0_add_73 : decode cX0_add 73 = .ok (.putfield 41, 3) := by decide +kernel
theorem dX0_add_76 : decode cX0_add 76 = .ok (.aload_n 0, 1) := by decide +kernel
theorem dX0_add_77 : decode cX0_add 77 = .ok (.getfield 33, 3) := by decide +kernel
theorem dX0_add_80 : decode cX0_add 80 = .ok (.iconst 1, 1) := by decide +kernel
theorem dX0_add_81 : decode cX0_add 81 = .ok (.isub, 1) := by decide +kernel
theorem dX0_add_82 : decode cX0_add 82 = .ok (.ireturn, 1) := by decide +kernel
theorem dX0_clear_0 : decode cX0_clear 0 = .ok (.aload_n 0, 1) := by decide +kernel
theorem dX0_clear_1 : decode cX0_clear 1 = .ok (.getfield 33, 3) := by decide +kernel
theorem dX0_clear_4 : decode cX0_clear 4 = .ok (.istore_n 1, 1) := by decide +kernel
theorem dX0_clear_5 : decode cX0_clear 5 = .ok (.aload_n 0, 1) := by decide +kernel
theorem dX0_clear_6 : decode cX0_clear 6 = .ok (.iconst 0, 1) := by decide +kernel
theorem dX0_clear_7 : decode cX0_clear 7 = .ok (.putfield 33, 3) := by decide +kernel
theorem dX0_clear_10 : decode cX0_clear 10 = .ok (.aload_n 0, 1) := by decide +kernel
theorem dX0_clear_11 : decode cX0_clear 11 = .ok (.iconst 0, 1) := by decide +kernel
theorem dX0_clear_12 : decode cX0_clear 12 = .ok (.putfield 41, 3) := by decide +kernel
theorem dX0_clear_15 : decode cX0_clear 15 = .ok (.iload_n 1, 1) := by decide +kernel
theorem dX0_clear_16 : decode cX0_clear 16 = .ok (.ireturn, 1) := by decide +kernel
theorem dX0_isRight_0 : decode cX0_isRight 0 = .ok (.aload_n 0, 1) := by decide +kernel
theorem dX0_isRight_1 : decode cX0_isRight 1 = .ok (.getfield 41, 3) := by decide +kernel
theorem dX0_isRight_4 : decode cX0_isRight 4 = .ok (.ifCond .ne 43, 3) := by decide +kernel
theorem dX0_isRight_7 : decode cX0_isRight 7 = .ok (.iconst 0, 1) := by decide +kernel
theorem dX0_isRight_8 : decode cX0_isRight 8 = .ok (.istore_n 1, 1) := by decide +kernel
theorem dX0_isRight_9 : decode cX0_isRight 9 = .ok (.iload_n 1, 1) := by decide +kernel
theorem dX0_isRight_10 : decode cX0_isRight 10 = .ok (.sipush 512, 3) := by decide +kernel
theorem dX0_isRight_13 : decode cX0_isRight 13 = .ok (.if_icmp .ge 16, 3) := by decide +kernel
theorem dX0_isRight_16 : decode cX0_isRight 16 = .ok (.aload_n 0, 1) := by decide +kernel
theorem dX0_isRight_17 : decode cX0_isRight 17 = .ok (.getfield 30, 3) := by decide +kernel
theorem dX0_isRight_20 : decode cX0_isRight 20 = .ok (.iload_n 1, 1) := by decide +kernel
theorem dX0_isRight_21 : decode cX0_isRight 21 = .ok (.iconst 0, 1) := by decide +kernel
theorem dX0_isRight_22 : decode cX0_isRight 22 = .ok (.iastore, 1) := by decide +kernel
theorem dX0_isRight_23 : decode cX0_isRight 23 = .ok (.iinc 1 1, 3) := by decide +kernel
theorem dX0_isRight_26 : decode cX0_isRight 26 = .ok (.goto (-17), 3) := by decide +kernel
theorem dX0_isRight_29 : decode cX0_isRight 29 = .ok (.aload_n 0, 1) := by decide +kernel
theorem dX0_isRight_30 : decode cX0_isRight 30 = .ok (.aload_n 0, 1) := by decide +kernel
theorem dX0_isRight_31 : decode cX0_isRight 31 = .ok (.iconst 0, 1) := by decide +kernel
theorem dX0_isRight_32 : decode cX0_isRight 32 = .ok (.iconst 0, 1) := by decide +kernel
theorem dX0_isRight_33 : decode cX0_isRight 33 = .ok (.iconst 0, 1) := by decide +kernel
theorem dX0_isRight_34 : decode cX0_isRight 34 = .ok (.bipush 9, 2) := by decide +kernel
theorem dX0_isRight_36 : decode cX0_isRight 36 = .ok (.invokevirtual 45, 3) := by decide +kernel
theorem dX0_isRight_39 : decode cX0_isRight 39 = .ok (.putfield 49, 3) := by decide +kernel
theorem dX0_isRight_42 : decode cX0_isRight 42 = .ok (.aload_n 0, 1) := by decide +kernel
theorem dX0_isRight_43 : decode cX0_isRight 43 = .ok (.iconst 1, 1) := by decide +kernel
theorem dX0_isRight_44 : decode cX0_isRight 44 = .ok (.putfield 41, 3) := by decide +kernel
theorem dX0_isRight_47 : decode cX0_isRight 47 = .ok (.aload_n 0, 1) := by decide +kernel
theorem dX0_isRight_48 : decode cX0_isRight 48 = .ok (.getfield 49, 3) := by decide +kernel
theorem dX0_isRight_51 : decode cX0_isRight 51 = .ok (.ireturn, 1) := by decide +kernel
theorem dX0_canGoOn_0 : decode cX0_canGoOn 0 = .ok (.iload_n 1, 1) := by decide +kernel
theorem dX0_canGoOn_1 : decode cX0_canGoOn 1 = .ok (.aload_n 0, 1) := by decide +kernel
theorem dX0_canGoOn_2 : decode cX0_canGoOn 2 = .ok (.getfield 33, 3) := by decide +kernel
theorem dX0_canGoOn_5 : decode cX0_canGoOn 5 = .ok (.if_icmp .ge 9, 3) := by decide +kernel
theorem dX0_canGoOn_8 : decode cX0_canGoOn 8 = .ok (.iload_n 1, 1) := by decide +kernel
theorem dX0_canGoOn_9 : decode cX0_canGoOn 9 = .ok (.bipush 9, 2) := by decide +kernel
theorem dX0_canGoOn_11 : decode cX0_canGoOn 11 = .ok (.if_icmp .lt 5, 3) := by decide +kernel
theorem dX0_canGoOn_14 : decode cX0_canGoOn 14 = .ok (.iconst 1, 1) := by decide +kernel
theorem dX0_canGoOn_15 : decode cX0_canGoOn 15 = .ok (.ireturn, 1) := by decide +kernel
theorem dX0_canGoOn_16 : decode cX0_canGoOn 16 = .ok (.aload_n 0, 1) := by decide +kernel
theorem dX0_canGoOn_17 : decode cX0_canGoOn 17 = .ok (.getfield 30, 3) := by decide +kernel
theorem dX0_canGoOn_20 : decode cX0_canGoOn 20 = .ok (.iload_n 2, 1) := by decide +kernel
theorem dX0_canGoOn_21 : decode cX0_canGoOn 21 = .ok (.iaload, 1) := by decide +kernel
theorem dX0_canGoOn_22 : decode cX0_canGoOn 22 = .ok (.iload 4, 2) := by decide +kernel
theorem dX0_canGoOn_24 : decode cX0_canGoOn 24 = .ok (.ishr, 1) := by decide +kernel
theorem dX0_canGoOn_25 : decode cX0_canGoOn 25 = .ok (.iconst 1, 1) := by decide +kernel
theorem dX0_canGoOn_26 : decode cX0_canGoOn 26 = .ok (.iand, 1) := by decide +kernel
theorem dX0_canGoOn_27 : decode cX0_canGoOn 27 = .ok (.ifCond .eq 5, 3) := by decide +kernel
theorem dX0_canGoOn_30 : decode cX0_canGoOn 30 = .ok (.iconst 0, 1) := by decide +kernel
theorem dX0_canGoOn_31 : decode cX0_canGoOn 31 = .ok (.ireturn, 1) := by decide +kernel
theorem dX0_canGoOn_32 : decode cX0_canGoOn 32 = .ok (.iconst 0, 1) := by decide +kernel
theorem dX0_canGoOn_33 : decode cX0_canGoOn 33 = .ok (.istore 5, 2) := by decide +kernel
theorem dX0_canGoOn_35 : decode cX0_canGoOn 35 = .ok (.iload 5, 2) := by decide +kernel
theorem dX0_canGoOn_37 : decode cX0_canGoOn 37 = .ok (.aload_n 0, 1) := by decide +kernel
theorem dX0_canGoOn_38 : decode cX0_canGoOn 38 = .ok (.getfield 33, 3) := by decide +kernel
theorem dX0_canGoOn_41 : decode cX0_canGoOn 41 = .ok (.if_icmp .ge 131, 3) := by decide +kernel
theorem dX0_canGoOn_44 : decode cX0_canGoOn 44 = .ok (.aload_n 0, 1) := by decide +kernel
theorem dX0_canGoOn_45 : decode cX0_canGoOn 45 = .ok (.getfield 18, 3) := by decide +kernel
theorem dX0_canGoOn_48 : decode cX0_canGoOn 48 = .ok (.iload 5, 2) := by decide +kernel
theorem dX0_canGoOn_50 : decode cX0_canGoOn 50 = .ok (.iaload, 1) := by decide +kernel
theorem dX0_canGoOn_51 : decode cX0_canGoOn 51 = .ok (.iload_n 3, 1) := by decide +kernel
theorem dX0_canGoOn_52 : decode cX0_canGoOn 52 = .ok (.aload_n 0, 1) := by decide +kernel
theorem dX0_canGoOn_53 : decode cX0_canGoOn 53 = .ok (.getfield 21, 3) := by decide +kernel
theorem dX0_canGoOn_56 : decode cX0_canGoOn 56 = .ok (.iload 5, 2) := by decide +kernel
theorem dX0_canGoOn_58 : decode cX0_canGoOn 58 = .ok (.iaload, 1) := by decide +kernel
theorem dX0_canGoOn_59 : decode cX0_canGoOn 59 = .ok (.invokestatic 52, 3) := by decide +kernel
theorem dX0_canGoOn_62 : decode cX0_canGoOn 62 = .ok (.istore 6, 2) := by decide +kernel
theorem dX0_canGoOn_64 : decode cX0_canGoOn 64 = .ok (.aload_n 0, 1) := by decide +kernel
theorem dX0_canGoOn_65 : decode cX0_canGoOn 65 = .ok (.iload 5, 2) := by decide +kernel
theorem dX0_canGoOn_67 : decode cX0_canGoOn 67 = .ok (.iload_n 2, 1) := by decide +kernel
theorem dX0_canGoOn_68 : decode cX0_canGoOn 68 = .ok (.invokevirtual 56, 3) := by decide +kernel
theorem dX0_canGoOn_71 : decode cX0_canGoOn 71 = .ok (.ifCond .eq 95, 3) := by decide +kernel
theorem dX0_canGoOn_74 : decode cX0_canGoOn 74 = .ok (.aload_n 0, 1) := by decide +kernel
theorem dX0_canGoOn_75 : decode cX0_canGoOn 75 = .ok (.getfield 18, 3) := by decide +kernel
theorem dX0_canGoOn_78 : decode cX0_canGoOn 78 = .ok (.iload 5, 2) := by decide +kernel
theorem dX0_canGoOn_80 : decode cX0_canGoOn 80 = .ok (.iaload, 1) := by decide +kernel
theorem dX0_canGoOn_81 : decode cX0_canGoOn 81 = .ok (.iload_n 3, 1) := by decide +kernel
theorem dX0_canGoOn_82 : decode cX0_canGoOn 82 = .ok (.iload 6, 2) := by decide +kernel
theorem dX0_canGoOn_84 : decode cX0_canGoOn 84 = .ok (.invokestatic 60, 3) := by decide +kernel
theorem dX0_canGoOn_87 : decode cX0_canGoOn 87 = .ok (.aload_n 0, 1) := by decide +kernel
theorem dX0_canGoOn_88 : decode cX0_canGoOn 88 = .ok (.getfield 24, 3) := by decide +kernel
theorem dX0_canGoOn_91 : decode cX0_canGoOn 91 = .ok (.iload 5, 2) := by decide +kernel
theorem dX0_canGoOn_93 : decode cX0_canGoOn 93 = .ok (.iaload, 1) := by decide +kernel
theorem dX0_canGoOn_94 : decode cX0_canGoOn 94 = .ok (.if_icmp .ne 72, 3) := by decide +kernel
theorem dX0_canGoOn_97 : decode cX0_canGoOn 97 = .ok (.aload_n 0, 1) := by decide +kernel
theorem dX0_canGoOn_98 : decode cX0_canGoOn 98 = .ok (.getfield 18, 3) := by decide +kernel
theorem dX0_canGoOn_101 : decode cX0_canGoOn 101 = .ok (.iload 5, 2) := by decide +kernel
theorem dX0_canGoOn_103 : decode cX0_canGoOn 103 = .ok (.iaload, 1) := by decide +kernel
theorem dX0_canGoOn_104 : decode cX0_canGoOn 104 = .ok (.iconst 3, 1) := by decide +kernel
theorem dX0_canGoOn_105 : decode cX0_canGoOn 105 = .ok (.if_icmp .ne 14, 3) := by decide +kernel
theorem dX0_canGoOn_108 : decode cX0_canGoOn 108 = .ok (.aload_n 0, 1) := by decide +kernel
theorem dX0_canGoOn_109 : decode cX0_canGoOn 109 = .ok (.getfield 24, 3) := by decide +kernel
theorem dX0_canGoOn_112 : decode cX0_canGoOn 112 = .ok (.iload 5, 2) := by decide +kernel
theorem dX0_canGoOn_114 : decode cX0_canGoOn 114 = .ok (.iaload, 1) := by decide +kernel
theorem dX0_canGoOn_115 : decode cX0_canGoOn 115 = .ok (.iconst 1, 1) := by decide +kernel
theorem dX0_canGoOn_116 : decode cX0_canGoOn 116 = .ok (.if_icmp .ne 7, 3) := by decide +kernel
theorem dX0_canGoOn_119 : decode cX0_canGoOn 119 = .ok (.iconst 1, 1) := by decide +kernel
theorem dX0_canGoOn_120 : decode cX0_canGoOn 120 = .ok (.goto 4, 3) := by decide +kernel
theorem dX0_canGoOn_123 : decode cX0_canGoOn 123 = .ok (.iconst 0, 1) := by decide +kernel
theorem dX0_canGoOn_124 : decode cX0_canGoOn 124 = .ok (.istore 7, 2) := by decide +kernel
theorem dX0_canGoOn_126 : decode cX0_canGoOn 126 = .ok (.aload_n 0, 1) := by decide +kernel
theorem dX0_canGoOn_127 : decode cX0_canGoOn 127 = .ok (.getfield 27, 3) := by decide +kernel
theorem dX0_canGoOn_130 : decode cX0_canGoOn 130 = .ok (.iload_n 1, 1) := by decide +kernel
theorem dX0_canGoOn_131 : decode cX0_canGoOn 131 = .ok (.iload 5, 2) := by decide +kernel
theorem dX0_canGoOn_133 : decode cX0_canGoOn 133 = .ok (.iastore, 1) := by decide +kernel
theorem dX0_canGoOn_134 : decode cX0_canGoOn 134 = .ok (.aload_n 0, 1) := by decide +kernel
theorem dX0_canGoOn_135 : decode cX0_canGoOn 135 = .ok (.iload_n 1, 1) := by decide +kernel
theorem dX0_canGoOn_136 : decode cX0_canGoOn 136 = .ok (.iconst 1, 1) := by decide +kernel
theorem dX0_canGoOn_137 : decode cX0_canGoOn 137 = .ok (.iadd, 1) := by decide +kernel
theorem dX0_canGoOn_138 : decode cX0_canGoOn 138 = .ok (.iload_n 2, 1) := by decide +kernel
theorem dX0_canGoOn_139 : decode cX0_canGoOn 139 = .ok (.iconst 1, 1) := by decide +kernel
theorem dX0_canGoOn_140 : decode cX0_canGoOn 140 = .ok (.iload 5, 2) := by decide +kernel
theorem dX0_canGoOn_142 : decode cX0_canGoOn 142 = .ok (.ishl, 1) := by decide +kernel
theorem dX0_canGoOn_143 : decode cX0_canGoOn 143 = .ok (.ior, 1) := by decide +kernel
theorem dX0_canGoOn_144 : decode cX0_canGoOn 144 = .ok (.iload 6, 2) := by decide +kernel
theorem dX0_canGoOn_146 : decode cX0_canGoOn 146 = .ok (.iload 7, 2) := by decide +kernel
theorem dX0_canGoOn_148 : decode cX0_canGoOn 148 = .ok (.ifCond .eq 8, 3) := by decide +kernel
theorem dX0_canGoOn_151 : decode cX0_canGoOn 151 = .ok (.iload 5, 2) := by decide +kernel
theorem dX0_canGoOn_153 : decode cX0_canGoOn 153 = .ok (.goto 5, 3) := by decide +kernel
theorem dX0_canGoOn_156 : decode cX0_canGoOn 156 = .ok (.iload 4, 2) := by decide +kernel
theorem dX0_canGoOn_158 : decode cX0_canGoOn 158 = .ok (.invokevirtual 45, 3) := by decide +kernel
theorem dX0_canGoOn_161 : decode cX0_canGoOn 161 = .ok (.ifCond .eq 5, 3) := by decide +kernel
theorem dX0_canGoOn_164 : decode cX0_canGoOn 164 = .ok (.iconst 1, 1) := by decide +kernel
theorem dX0_canGoOn_165 : decode cX0_canGoOn 165 = .ok (.ireturn, 1) := by decide +kernel
theorem dX0_canGoOn_166 : decode cX0_canGoOn 166 = .ok (.iinc 5 1, 3) := by decide +kernel
theorem dX0_canGoOn_169 : decode cX0_canGoOn 169 = .ok (.goto (-134), 3) := by decide +kernel
theorem dX0_canGoOn_172 : decode cX0_canGoOn 172 = .ok (.aload_n 0, 1) := by decide +kernel
theorem dX0_canGoOn_173 : decode cX0_canGoOn 173 = .ok (.getfield 30, 3) := by decide +kernel
theorem dX0_canGoOn_176 : decode cX0_canGoOn 176 = .ok (.iload_n 2, 1) := by decide +kernel
theorem dX0_canGoOn_177 : decode cX0_canGoOn 177 = .ok (.dup2, 1) := by decide +kernel
theorem dX0_canGoOn_178 : decode cX0_canGoOn 178 = .ok (.iaload, 1) := by decide +kernel
theorem dX0_canGoOn_179 : decode cX0_canGoOn 179 = .ok (.iconst 1, 1) := by decide +kernel
theorem dX0_canGoOn_180 : decode cX0_canGoOn 180 = .ok (.iload 4, 2) := by decide +kernel
theorem dX0_canGoOn_182 : decode cX0_canGoOn 182 = .ok (.ishl, 1) := by decide +kernel
theorem dX0_canGoOn_183 : decode cX0_canGoOn 183 = .ok (.ior, 1) := by decide +kernel
theorem dX0_canGoOn_184 : decode cX0_canGoOn 184 = .ok (.iastore, 1) := by decide +kernel
theorem dX0_canGoOn_185 : decode cX0_canGoOn 185 = .ok (.iconst 0, 1) := by decide +kernel
theorem dX0_canGoOn_186 : decode cX0_canGoOn 186 = .ok (.ireturn, 1) := by decide +kernel
theorem dX0_canBeNext_0 : decode cX0_canBeNext 0 = .ok (.iload_n 2, 1) := by decide +kernel
theorem dX0_canBeNext_1 : decode cX0_canBeNext 1 = .ok (.iload_n 1, 1) := by decide +kernel
theorem dX0_canBeNext_2 : decode cX0_canBeNext 2 = .ok (.ishr, 1) := by decide +kernel
theorem dX0_canBeNext_3 : decode cX0_canBeNext 3 = .ok (.iconst 1, 1) := by decide +kernel
theorem dX0_canBeNext_4 : decode cX0_canBeNext 4 = .ok (.iand, 1) := by decide +kernel
theorem dX0_canBeNext_5 : decode cX0_canBeNext 5 = .ok (.ifCond .eq 5, 3) := by decide +kernel
theorem dX0_canBeNext_8 : decode cX0_canBeNext 8 = .ok (.iconst 0, 1) := by decide +kernel
theorem dX0_canBeNext_9 : decode cX0_canBeNext 9 = .ok (.ireturn, 1) := by decide +kernel
theorem dX0_canBeNext_10 : decode cX0_canBeNext 10 = .ok (.iconst 0, 1) := by decide +kernel
theorem dX0_canBeNext_11 : decode cX0_canBeNext 11 = .ok (.istore_n 3, 1) := by decide +kernel
theorem dX0_canBeNext_12 : decode cX0_canBeNext 12 = .ok (.iload_n 3, 1) := by decide +kernel
theorem dX0_canBeNext_13 : decode cX0_canBeNext 13 = .ok (.aload_n 0, 1) := by decide +kernel
theorem dX0_canBeNext_14 : decode cX0_canBeNext 14 = .ok (.getfield 33, 3) := by decide +kernel
theorem dX0_canBeNext_17 : decode cX0_canBeNext 17 = .ok (.if_icmp .ge 34, 3) := by decide +kernel
theorem dX0_canBeNext_20 : decode cX0_canBeNext 20 = .ok (.iload_n 2, 1) := by decide +kernel
theorem dX0_canBeNext_21 : decode cX0_canBeNext 21 = .ok (.iload_n 3, 1) := by decide +kernel
theorem dX0_canBeNext_22 : decode cX0_canBeNext 22 = .ok (.ishr, 1) := by decide +kernel
theorem dX0_canBeNext_23 : decode cX0_canBeNext 23 = .ok (.iconst 1, 1) := by decide +kernel
theorem dX0_canBeNext_24 : decode cX0_canBeNext 24 = .ok (.iand, 1) := by decide +kernel
theorem dX0_canBeNext_25 : decode cX0_canBeNext 25 = .ok (.ifCond .ne 20, 3) := by decide +kernel
theorem dX0_canBeNext_28 : decode cX0_canBeNext 28 = .ok (.aload_n 0, 1) := by decide +kernel
theorem dX0_canBeNext_29 : decode cX0_canBeNext 29 = .ok (.getfield 15, 3) := by decide +kernel
theorem dX0_canBeNext_32 : decode cX0_canBeNext 32 = .ok (.iload_n 3, 1) := by decide +kernel
theorem dX0_canBeNext_33 : decode cX0_canBeNext 33 = .ok (.iaload, 1) := by decide +kernel
theorem dX0_canBeNext_34 : decode cX0_canBeNext 34 = .ok (.aload_n 0, 1) := by decide +kernel
theorem dX0_canBeNext_35 : decode cX0_canBeNext 35 = .ok (.getfield 11, 3) := by decide +kernel
theorem dX0_canBeNext_38 : decode cX0_canBeNext 38 = .ok (.iload_n 1, 1) := by decide +kernel
theorem dX0_canBeNext_39 : decode cX0_canBeNext 39 = .ok (.iaload, 1) := by decide +kernel
theorem dX0_canBeNext_40 : decode cX0_canBeNext 40 = .ok (.if_icmp .ge 5, 3) := by decide +kernel
theorem dX0_canBeNext_43 : decode cX0_canBeNext 43 = .ok (.iconst 0, 1) := by decide +kernel
theorem dX0_canBeNext_44 : decode cX0_canBeNext 44 = .ok (.ireturn, 1) := by decide +kernel
theorem dX0_canBeNext_45 : decode cX0_canBeNext 45 = .ok (.iinc 3 1, 3) := by decide +kernel
theorem dX0_canBeNext_48 : decode cX0_canBeNext 48 = .ok (.goto (-36), 3) := by decide +kernel
theorem dX0_canBeNext_51 : decode cX0_canBeNext 51 = .ok (.iconst 1, 1) := by decide +kernel
theorem dX0_canBeNext_52 : decode cX0_canBeNext 52 = .ok (.ireturn, 1) := by decide +kernel
theorem dX1_init_0 : decode cX1_init 0 = .ok (.aload_n 0, 1) := by decide +kernel
theorem dX1_init_1 : decode cX1_init 1 = .ok (.invokespecial 3, 3) := by decide +kernel
theorem dX1_init_4 : decode cX1_init 4 = .ok (.aload_n 0, 1) := by decide +kernel
theorem dX1_init_5 : decode cX1_init 5 = .ok (.sipush 240, 3) := by decide +kernel
theorem dX1_init_8 : decode cX1_init 8 = .ok (.newarray .int, 2) := by decide +kernel
theorem dX1_init_10 : decode cX1_init 10 = .ok (.putfield 11, 3) := by decide +kernel
theorem dX1_init_13 : decode cX1_init 13 = .ok (.aload_n 0, 1) := by decide +kernel
theorem dX1_init_14 : decode cX1_init 14 = .ok (.new 15, 3) := by decide +kernel
theorem dX1_init_17 : decode cX1_init 17 = .ok (.dup, 1) := by decide +kernel
theorem dX1_init_18 : decode cX1_init 18 = .ok (.invokespecial 17, 3) := by decide +kernel
theorem dX1_init_21 : decode cX1_init 21 = .ok (.putfield 18, 3) := by decide +kernel
theorem dX1_init_24 : decode cX1_init 24 = .ok (.aload_n 0, 1) := by decide +kernel
theorem dX1_init_25 : decode cX1_init 25 = .ok (.new 15, 3) := by decide +kernel
theorem dX1_init_28 : decode cX1_init 28 = .ok (.dup, 1) := by decide +kernel
theorem dX1_init_29 : decode cX1_init 29 = .ok (.invokespecial 17, 3) := by decide +kernel
theorem dX1_init_32 : decode cX1_init 32 = .ok (.putfield 22, 3) := by decide +kernel
theorem dX1_init_35 : decode cX1_init 35 = .ok (.aload_n 0, 1) := by decide +kernel
theorem dX1_init_36 : decode cX1_init 36 = .ok (.bipush 7, 2) := by decide +kernel
theorem dX1_init_38 : decode cX1_init 38 = .ok (.newarray .int, 2) := by decide +kernel
theorem dX1_init_40 : decode cX1_init 40 = .ok (.putfield 25, 3) := by decide +kernel
theorem dX1_init_43 : decode cX1_init 43 = .ok (.aload_n 0, 1) := by decide +kernel
theorem dX1_init_44 : decode cX1_init 44 = .ok (.bipush 7, 2) := by decide +kernel
theorem dX1_init_46 : decode cX1_init 46 = .ok (.newarray .int, 2) := by decide +kernel
theorem dX1_init_48 : decode cX1_init 48 = .ok (.putfield 28, 3) := by decide +kernel
theorem dX1_init_51 : decode cX1_init 51 = .ok (.aload_n 0, 1) := by decide +kernel
theorem dX1_init_52 : decode cX1_init 52 = .ok (.bipush 7, 2) := by decide +kernel
theorem dX1_init_54 : decode cX1_init 54 = .ok (.newarray .int, 2) := by decide +kernel
theorem dX1_init_56 : decode cX1_init 56 = .ok (.putfield 31, 3) := by decide +kernel
theorem dX1_init_59 : decode cX1_init 59 = .ok (.return_, 1) := by decide +kernel
theorem dX1_begin_0 : decode cX1_begin 0 = .ok (.aload_n 0, 1) := by decide +kernel
theorem dX1_begin_1 : decode cX1_begin 1 = .ok (.iload_n 1, 1) := by decide +kernel
theorem dX1_begin_2 : decode cX1_begin 2 = .ok (.putfield 34, 3) := by decide +kernel
theorem dX1_begin_5 : decode cX1_begin 5 = .ok (.aload_n 0, 1) := by decide +kernel
theorem dX1_begin_6 : decode cX1_begin 6 = .ok (.iconst 0, 1) := by decide +kernel
theorem dX1_begin_7 : decode cX1_begin 7 = .ok (.putfield 38, 3) := by decide +kernel
theorem dX1_begin_10 : decode cX1_begin 10 = .ok (.aload_n 0, 1) := by decide +kernel
theorem dX1_begin_11 : decode cX1_begin 11 = .ok (.iconst 0, 1) := by decide +kernel
theorem dX1_begin_12 : decode cX1_begin 12 = .ok (.putfield 41, 3) := by decide +kernel
theorem dX1_begin_15 : decode cX1_begin 15 = .ok (.aload_n 0, 1) := by decide +kernel
theorem dX1_begin_16 : decode cX1_begin 16 = .ok (.iconst (-1), 1) := by decide +kernel
theorem dX1_begin_17 : decode cX1_begin 17 = .ok (.putfield 45, 3) := by decide +kernel
theorem dX1_begin_20 : decode cX1_begin 20 = .ok (.aload_n 0, 1) := by decide +kernel
theorem dX1_begin_21 : decode cX1_begin 21 = .ok (.iconst 0, 1) := by decide +kernel
theorem dX1_begin_22 : decode cX1_begin 22 = .ok (.putfield 48, 3) := by decide +kernel
theorem dX1_begin_25 : decode cX1_begin 25 = .ok (.aload_n 0, 1) := by decide +kernel
theorem dX1_begin_26 : decode cX1_begin 26 = .ok (.iconst 0, 1) := by decide +kernel
theorem dX1_begin_27 : decode cX1_begin 27 = .ok (.putfield 51, 3) := by decide +kernel
theorem dX1_begin_30 : decode cX1_begin 30 = .ok (.aload_n 0, 1) := by decide +kernel
theorem dX1_begin_31 : decode cX1_begin 31 = .ok (.iconst 0, 1) := by decide +kernel
theorem dX1_begin_32 : decode cX1_begin 32 = .ok (.putfield 54, 3) := by decide +kernel
theorem dX1_begin_35 : decode cX1_begin 35 = .ok (.aload_n 0, 1) := by decide +kernel
theorem dX1_begin_36 : decode cX1_begin 36 = .ok (.iconst 0, 1) := by decide +kernel
theorem dX1_begin_37 : decode cX1_begin 37 = .ok (.putfield 57, 3) := by decide +kernel
theorem dX1_begin_40 : decode cX1_begin 40 = .ok (.aload_n 0, 1) := by decide +kernel
theorem dX1_begin_41 : decode cX1_begin 41 = .ok (.getfield 18, 3) := by decide +kernel
theorem dX1_begin_44 : decode cX1_begin 44 = .ok (.invokevirtual 60, 3) := by decide +kernel
theorem dX1_begin_47 : decode cX1_begin 47 = .ok (.aload_n 0, 1) := by decide +kernel
theorem dX1_begin_48 : decode cX1_begin 48 = .ok (.getfield 22, 3) := by decide +kernel
theorem dX1_begin_51 : decode cX1_begin 51 = .ok (.invokevirtual 60, 3) := by decide +kernel
theorem dX1_begin_54 : decode cX1_begin 54 = .ok (.aload_n 0, 1) := by decide +kernel
theorem dX1_begin_55 : decode cX1_begin 55 = .ok (.invokevirtual 63, 3) := by decide +kernel
theorem dX1_begin_58 : decode cX1_begin 58 = .ok (.return_, 1) := by decide +kernel
theorem dX1_copyFrom_0 : decode cX1_copyFrom 0 = .ok (.aload_n 0, 1) := by decide +kernel
theorem dX1_copyFrom_1 : decode cX1_copyFrom 1 = .ok (.aload_n 1, 1) := by decide +kernel
theorem dX1_copyFrom_2 : decode cX1_copyFrom 2 = .ok (.getfield 34, 3) := by decide +kernel
theorem dX1_copyFrom_5 : decode cX1_copyFrom 5 = .ok (.putfield 34, 3) := by decide +kernel
theorem dX1_copyFrom_8 : decode cX1_copyFrom 8 = .ok (.aload_n 0, 1) := by decide +kernel
theorem dX1_copyFrom_9 : decode cX1_copyFrom 9 = .ok (.aload_n 1, 1) := by decide +kernel
theorem dX1_copyFrom_10 : decode cX1_copyFrom 10 = .ok (.getfield 38, 3) := by decide +kernel
theorem dX1_copyFrom_13 : decode cX1_copyFrom 13 = .ok (.putfield 38, 3) := by decide +kernel
theorem dX1_copyFrom_16 : decode cX1_copyFrom 16 = .ok (.aload_n 0, 1) := by decide +kernel
theorem dX1_copyFrom_17 : decode cX1_copyFrom 17 = .ok (.aload_n 1, 1) := by decide +kernel
theorem dX1_copyFrom_18 : decode cX1_copyFrom 18 = .ok (.getfield 41, 3) := by decide +kernel
theorem dX1_copyFrom_21 : decode cX1_copyFrom 21 = .ok (.putfield 41, 3) := by decide +kernel
theorem dX1_copyFrom_24 : decode cX1_copyFrom 24 = .ok (.aload_n 0, 1) := by decide +kernel
theorem dX1_copyFrom_25 : decode cX1_copyFrom 25 = .ok (.aload_n 1, 1) := by decide +kernel
theorem dX1_copyFrom_26 : decode cX1_copyFrom 26 = .ok (.getfield 45, 3) := by decide +kernel
theorem dX1_copyFrom_29 : decode cX1_copyFrom 29 = .ok (.putfield 45, 3) := by decide +kernel
theorem dX1_copyFrom_32 : decode cX1_copyFrom 32 = .ok (.aload_n 0, 1) := by decide +kernel
theorem dX1_copyFrom_33 : decode cX1_copyFrom 33 = .ok (.aload_n 1, 1) := by decide +kernel
theorem dX1_copyFrom_34 : decode cX1_copyFrom 34 = .ok (.getfield 66, 3) := by decide +kernel
theorem dX1_copyFrom_37 : decode cX1_copyFrom 37 = .ok (.putfield 66, 3) := by decide +kernel
theorem dX1_copyFrom_40 : decode cX1_copyFrom 40 = .ok (.aload_n 0, 1) := by decide +kernel
theorem dX1_copyFrom_41 : decode cX1_copyFrom 41 = .ok (.aload_n 1, 1) := by decide +kernel
theorem dX1_copyFrom_42 : decode cX1_copyFrom 42 = .ok (.getfield 48, 3) := by decide +kernel
theorem dX1_copyFrom_45 : decode cX1_copyFrom 45 = .ok (.putfield 48, 3) := by decide +kernel
theorem dX1_copyFrom_48 : decode cX1_copyFrom 48 = .ok (.aload_n 0, 1) := by decide +kernel
theorem dX1_copyFrom_49 : decode cX1_copyFrom 49 = .ok (.aload_n 1, 1) := by decide +kernel
theorem dX1_copyFrom_50 : decode cX1_copyFrom 50 = .ok (.getfield 51, 3) := by decide +kernel
theorem dX1_copyFrom_53 : decode cX1_copyFrom 53 = .ok (.putfield 51, 3) := by decide +kernel
theorem dX1_copyFrom_56 : decode cX1_copyFrom 56 = .ok (.aload_n 0, 1) := by decide +kernel
theorem dX1_copyFrom_57 : decode cX1_copyFrom 57 = .ok (.aload_n 1, 1) := by decide +kernel
theorem dX1_copyFrom_58 : decode cX1_copyFrom 58 = .ok (.getfield 54, 3) := by decide +kernel
theorem dX1_copyFrom_61 : decode cX1_copyFrom 61 = .ok (.putfield 54, 3) := by decide +kernel
theorem dX1_copyFrom_64 : decode cX1_copyFrom 64 = .ok (.aload_n 0, 1) := by decide +kernel
theorem dX1_copyFrom_65 : decode cX1_copyFrom 65 = .ok (.aload_n 1, 1) := by decide +kernel
theorem dX1_copyFrom_66 : decode cX1_copyFrom 66 = .ok (.getfield 57, 3) := by decide +kernel
theorem dX1_copyFrom_69 : decode cX1_copyFrom 69 = .ok (.putfield 57, 3) := by decide +kernel
theorem dX1_copyFrom_72 : decode cX1_copyFrom 72 = .ok (.aload_n 0, 1) := by decide +kernel
theorem dX1_copyFrom_73 : decode cX1_copyFrom 73 = .ok (.aload_n 1, 1) := by decide +kernel
theorem dX1_copyFrom_74 : decode cX1_copyFrom 74 = .ok (.getfield 69, 3) := by decide +kernel
theorem dX1_copyFrom_77 : decode cX1_copyFrom 77 = .ok (.putfield 69, 3) := by decide +kernel
theorem dX1_copyFrom_80 : decode cX1_copyFrom 80 = .ok (.aload_n 0, 1) := by decide +kernel
theorem dX1_copyFrom_81 : decode cX1_copyFrom 81 = .ok (.aload_n 1, 1) := by decide +kernel
theorem dX1_copyFrom_82 : decode cX1_copyFrom 82 = .ok (.getfield 72, 3) := by decide +kernel
theorem dX1_copyFrom_85 : decode cX1_copyFrom 85 = .ok (.putfield 72, 3) := by decide +kernel
theorem dX1_copyFrom_88 : decode cX1_copyFrom 88 = .ok (.aload_n 1, 1) := by decide +kernel
theorem dX1_copyFrom_89 : decode cX1_copyFrom 89 = .ok (.getfield 11, 3) := by decide +kernel
theorem dX1_copyFrom_92 : decode cX1_copyFrom 92 = .ok (.iconst 0, 1) := by decide +kernel
theorem dX1_copyFrom_93 : decode cX1_copyFrom 93 = .ok (.aload_n 0, 1) := by decide +kernel
theorem dX1_copyFrom_94 : decode cX1_copyFrom 94 = .ok (.getfield 11, 3) := by decide +kernel
theorem dX1_copyFrom_97 : decode cX1_copyFrom 97 = .ok (.iconst 0, 1) := by decide +kernel
theorem dX1_copyFrom_98 : decode cX1_copyFrom 98 = .ok (.sipush 240, 3) := by decide +kernel
theorem dX1_copyFrom_101 : decode cX1_copyFrom 101 = .ok (.invokestatic 75, 3) := by decide +kernel
theorem dX1_copyFrom_104 : decode cX1_copyFrom 104 = .ok (.aload_n 0, 1) := by decide +kernel
theorem dX1_copyFrom_105 : decode cX1_copyFrom 105 = .ok (.getfield 18, 3) := by decide +kernel
theorem dX1_copyFrom_108 : decode cX1_copyFrom 108 = .ok (.aload_n 1, 1) := by decide +kernel
theorem dX1_copyFrom_109 : decode cX1_copyFrom 109 = .ok (.getfield 18, 3) := by decide +kernel
theorem dX1_copyFrom_112 : decode cX1_copyFrom 112 = .ok (.invokevirtual 81, 3) := by decide +kernel
theorem dX1_copyFrom_115 : decode cX1_copyFrom 115 = .ok (.aload_n 0, 1) := by decide +kernel
theorem dX1_copyFrom_116 : decode cX1_copyFrom 116 = .ok (.getfield 22, 3) := by decide +kernel
theorem dX1_copyFrom_119 : decode cX1_copyFrom 119 = .ok (.aload_n 1, 1) := by decide +kernel
theorem dX1_copyFrom_120 : decode cX1_copyFrom 120 = .ok (.getfield 22, 3) := by decide +kernel
theorem dX1_copyFrom_123 : decode cX1_copyFrom 123 = .ok (.invokevirtual 81, 3) := by decide +kernel
theorem dX1_copyFrom_126 : decode cX1_copyFrom 126 = .ok (.aload_n 1, 1) := by decide +kernel
theorem dX1_copyFrom_127 : decode cX1_copyFrom 127 = .ok (.getfield 25, 3) := by decide +kernel
theorem dX1_copyFrom_130 : decode cX1_copyFrom 130 = .ok (.iconst 0, 1) := by decide +kernel
theorem dX1_copyFrom_131 : decode cX1_copyFrom 131 = .ok (.aload_n 0, 1) := by decide +kernel
theorem dX1_copyFrom_132 : decode cX1_copyFrom 132 = .ok (.getfield 25, 3) := by decide +kernel
theorem dX1_copyFrom_135 : decode cX1_copyFrom 135 = .ok (.iconst 0, 1) := by decide +kernel
theorem dX1_copyFrom_136 : decode cX1_copyFrom 136 = .ok (.bipush 7, 2) := by decide +kernel
theorem dX1_copyFrom_138 : decode cX1_copyFrom 138 = .ok (.invokestatic 75, 3) := by decide +kernel
theorem dX1_copyFrom_141 : decode cX1_copyFrom 141 = .ok (.aload_n 1, 1) := by decide +kernel
theorem dX1_copyFrom_142 : decode cX1_copyFrom 142 = .ok (.getfield 28, 3) := by decide +kernel
theorem dX1_copyFrom_145 : decode cX1_copyFrom 145 = .ok (.iconst 0, 1) := by decide +kernel
theorem dX1_copyFrom_146 : decode cX1_copyFrom 146 = .ok (.aload_n 0, 1) := by decide +kernel
theorem dX1_copyFrom_147 : decode cX1_copyFrom 147 = .ok (.getfield 28, 3) := by decide +kernel
theorem dX1_copyFrom_150 : decode cX1_copyFrom 150 = .ok (.iconst 0, 1) := by decide +kernel
theorem dX1_copyFrom_151 : decode cX1_copyFrom 151 = .ok (.bipush 7, 2) := by decide +kernel
theorem dX1_copyFrom_153 : decode cX1_copyFrom 153 = .ok (.invokestatic 75, 3) := by decide +kernel
theorem dX1_copyFrom_156 : decode cX1_copyFrom 156 = .ok (.aload_n 1, 1) := by decide +kernel
theorem dX1_copyFrom_157 : decode cX1_copyFrom 157 = .ok (.getfield 31, 3) := by decide +kernel
theorem dX1_copyFrom_160 : decode cX1_copyFrom 160 = .ok (.iconst 0, 1) := by decide +kernel
theorem dX1_copyFrom_161 : decode cX1_copyFrom 161 = .ok (.aload_n 0, 1) := by decide +kernel
theorem dX1_copyFrom_162 : decode cX1_copyFrom 162 = .ok (.getfield 31, 3) := by decide +kernel
theorem dX1_copyFrom_165 : decode cX1_copyFrom 165 = .ok (.iconst 0, 1) := by decide +kernel
theorem dX1_copyFrom_166 : decode cX1_copyFrom 166 = .ok (.bipush 7, 2) := by decide +kernel
theorem dX1_copyFrom_168 : decode cX1_copyFrom 168 = .ok (.invokestatic 75, 3) := by decide +kernel
theorem dX1_copyFrom_171 : decode cX1_copyFrom 171 = .ok (.return_, 1) := by decide +kernel
theorem dX1_tell_0 : decode cX1_tell 0 = .ok (.iload_n 1, 1) := by decide +kernel
theorem dX1_tell_1 : decode cX1_tell 1 = .ok (.tableswitch 121 0 9 #[55, 60, 65, 70, 75, 80, 85, 98, 103, 108], 55) := by decide +kernel
theorem dX1_tell_56 : decode cX1_tell 56 = .ok (.aload_n 0, 1) := by decide +kernel
theorem dX1_tell_57 : decode cX1_tell 57 = .ok (.getfield 41, 3) := by decide +kernel
theorem dX1_tell_60 : decode cX1_tell 60 = .ok (.ireturn, 1) := by decide +kernel
theorem dX1_tell_61 : decode cX1_tell 61 = .ok (.aload_n 0, 1) := by decide +kernel
theorem dX1_tell_62 : decode cX1_tell 62 = .ok (.getfield 45, 3) := by decide +kernel
theorem dX1_tell_65 : decode cX1_tell 65 = .ok (.ireturn, 1) := by decide +kernel
theorem dX1_tell_66 : decode cX1_tell 66 = .ok (.aload_n 0, 1) := by decide +kernel
theorem dX1_tell_67 : decode cX1_tell 67 = .ok (.getfield 66, 3) := by decide +kernel
theorem dX1_tell_70 : decode cX1_tell 70 = .ok (.ireturn, 1) := by decide +kernel
theorem dX1_tell_71 : decode cX1_tell 71 = .ok (.aload_n 0, 1) := by decide +kernel
theorem dX1_tell_72 : decode cX1_tell 72 = .ok (.getfield 48, 3) := by decide +kernel
theorem dX1_tell_75 : decode cX1_tell 75 = .ok (.ireturn, 1) := by decide +kernel
theorem dX1_tell_76 : decode cX1_tell 76 = .ok (.aload_n 0, 1) := by decide +kernel
theorem dX1_tell_77 : decode cX1_tell 77 = .ok (.getfield 54, 3) := by decide +kernel
theorem dX1_tell_80 : decode cX1_tell 80 = .ok (.ireturn, 1) := by decide +kernel
theorem dX1_tell_81 : decode cX1_tell 81 = .ok (.aload_n 0, 1) := by decide +kernel
theorem dX1_tell_82 : decode cX1_tell 82 = .ok (.getfield 57, 3) := by decide +kernel
theorem dX1_tell_85 : decode cX1_tell 85 = .ok (.ireturn, 1) := by decide +kernel
theorem dX1_tell_86 : decode cX1_tell 86 = .ok (.aload_n 0, 1) := by decide +kernel
theorem dX1_tell_87 : decode cX1_tell 87 = .ok (.getfield 38, 3) := by decide +kernel
theorem dX1_tell_90 : decode cX1_tell 90 = .ok (.ifCond .eq 7, 3) := by decide +kernel
theorem dX1_tell_93 : decode cX1_tell 93 = .ok (.iconst 1, 1) := by decide +kernel
theorem dX1_tell_94 : decode cX1_tell 94 = .ok (.goto 4, 3) := by decide +kernel
theorem dX1_tell_97 : decode cX1_tell 97 = .ok (.iconst 0, 1) := by decide +kernel
theorem dX1_tell_98 : decode cX1_tell 98 = .ok (.ireturn, 1) := by decide +kernel
theorem dX1_tell_99 : decode cX1_tell 99 = .ok (.aload_n 0, 1) := by decide +kernel
theorem dX1_tell_100 : decode cX1_tell 100 = .ok (.getfield 69, 3) := by decide +kernel
theorem dX1_tell_103 : decode cX1_tell 103 = .ok (.ireturn, 1) := by decide +kernel
theorem dX1_tell_104 : decode cX1_tell 104 = .ok (.aload_n 0, 1) := by decide +kernel
theorem dX1_tell_105 : decode cX1_tell 105 = .ok (.getfield 72, 3) := by decide +kernel
theorem dX1_tell_108 : decode cX1_tell 108 = .ok (.ireturn, 1) := by decide +kernel
theorem dX1_tell_109 : decode cX1_tell 109 = .ok (.aload_n 0, 1) := by decide +kernel
theorem dX1_tell_110 : decode cX1_tell 110 = .ok (.getfield 34, 3) := by decide +kernel
theorem dX1_tell_113 : decode cX1_tell 113 = .ok (.ifCond .eq 7, 3) := by decide +kernel
theorem dX1_tell_116 : decode cX1_tell 116 = .ok (.iconst 1, 1) := by decide +kernel
theorem dX1_tell_117 : decode cX1_tell 117 = .ok (.goto 4, 3) := by decide +kernel
theorem dX1_tell_120 : decode cX1_tell 120 = .ok (.iconst 0, 1) := by decide +kernel
theorem dX1_tell_121 : decode cX1_tell 121 = .ok (.ireturn, 1) := by decide +kernel
theorem dX1_tell_122 : decode cX1_tell 122 = .ok (.bipush (-2), 2) := by decide +kernel
theorem dX1_tell_124 : decode cX1_tell 124 = .ok (.ireturn, 1) := by decide +kernel
theorem dX1_follow_0 : decode cX1_follow 0 = .ok (.aload_n 0, 1) := by decide +kernel
theorem dX1_follow_1 : decode cX1_follow 1 = .ok (.iconst 0, 1) := by decide +kernel
theorem dX1_follow_2 : decode cX1_follow 2 = .ok (.putfield 66, 3) := by decide +kernel
theorem dX1_follow_5 : decode cX1_follow 5 = .ok (.aload_n 0, 1) := by decide +kernel
theorem dX1_follow_6 : decode cX1_follow 6 = .ok (.iconst 0, 1) := by decide +kernel
theorem dX1_follow_7 : decode cX1_follow 7 = .ok (.putfield 69, 3) := by decide +kernel
theorem dX1_follow_10 : decode cX1_follow 10 = .ok (.aload_n 0, 1) := by decide +kernel
theorem dX1_follow_11 : decode cX1_follow 11 = .ok (.iconst 0, 1) := by decide +kernel
theorem dX1_follow_12 : decode cX1_follow 12 = .ok (.putfield 72, 3) := by decide +kernel
theorem dX1_follow_15 : decode cX1_follow 15 = .ok (.return_, 1) := by decide +kernel
theorem dX1_enterTerm_0 : decode cX1_enterTerm 0 = .ok (.aload_n 0, 1) := by decide +kernel
theorem dX1_enterTerm_1 : decode cX1_enterTerm 1 = .ok (.iload_n 1, 1) := by decide +kernel
theorem dX1_enterTerm_2 : decode cX1_enterTerm 2 = .ok (.putfield 41, 3) := by decide +kernel
theorem dX1_enterTerm_5 : decode cX1_enterTerm 5 = .ok (.aload_n 0, 1) := by decide +kernel
theorem dX1_enterTerm_6 : decode cX1_enterTerm 6 = .ok (.iconst (-1), 1) := by decide +kernel
theorem dX1_enterTerm_7 : decode cX1_enterTerm 7 = .ok (.putfield 45, 3) := by decide +kernel
theorem dX1_enterTerm_10 : decode cX1_enterTerm 10 = .ok (.aload_n 0, 1) := by decide +kernel
theorem dX1_enterTerm_11 : decode cX1_enterTerm 11 = .ok (.invokevirtual 63, 3) := by decide +kernel
theorem dX1_enterTerm_14 : decode cX1_enterTerm 14 = .ok (.return_, 1) := by decide +kernel
theorem dX1_lead_0 : decode cX1_lead 0 = .ok (.aload_n 0, 1) := by decide +kernel
theorem dX1_lead_1 : decode cX1_lead 1 = .ok (.iconst 2, 1) := by decide +kernel
theorem dX1_lead_2 : decode cX1_lead 2 = .ok (.putfield 66, 3) := by decide +kernel
theorem dX1_lead_5 : decode cX1_lead 5 = .ok (.aload_n 0, 1) := by decide +kernel
theorem dX1_lead_6 : decode cX1_lead 6 = .ok (.iconst 0, 1) := by decide +kernel
theorem dX1_lead_7 : decode cX1_lead 7 = .ok (.putfield 72, 3) := by decide +kernel
theorem dX1_lead_10 : decode cX1_lead 10 = .ok (.iconst 0, 1) := by decide +kernel
theorem dX1_lead_11 : decode cX1_lead 11 = .ok (.istore_n 1, 1) := by decide +kernel
theorem dX1_lead_12 : decode cX1_lead 12 = .ok (.iload_n 1, 1) := by decide +kernel
theorem dX1_lead_13 : decode cX1_lead 13 = .ok (.bipush 7, 2) := by decide +kernel
theorem dX1_lead_15 : decode cX1_lead 15 = .ok (.if_icmp .ge 35, 3) := by decide +kernel
theorem dX1_lead_18 : decode cX1_lead 18 = .ok (.aload_n 0, 1) := by decide +kernel
theorem dX1_lead_19 : decode cX1_lead 19 = .ok (.getfield 25, 3) := by decide +kernel
theorem dX1_lead_22 : decode cX1_lead 22 = .ok (.iload_n 1, 1) := by decide +kernel
theorem dX1_lead_23 : decode cX1_lead 23 = .ok (.aload_n 0, 1) := by decide +kernel
theorem dX1_lead_24 : decode cX1_lead 24 = .ok (.getfield 54, 3) := by decide +kernel
theorem dX1_lead_27 : decode cX1_lead 27 = .ok (.iconst 1, 1) := by decide +kernel
theorem dX1_lead_28 : decode cX1_lead 28 = .ok (.iadd, 1) := by decide +kernel
theorem dX1_lead_29 : decode cX1_lead 29 = .ok (.iastore, 1) := by decide +kernel
theorem dX1_lead_30 : decode cX1_lead 30 = .ok (.aload_n 0, 1) := by decide +kernel
theorem dX1_lead_31 : decode cX1_lead 31 = .ok (.getfield 28, 3) := by decide +kernel
theorem dX1_lead_34 : decode cX1_lead 34 = .ok (.iload_n 1, 1) := by decide +kernel
theorem dX1_lead_35 : decode cX1_lead 35 = .ok (.iconst 0, 1) := by decide +kernel
theorem dX1_lead_36 : decode cX1_lead 36 = .ok (.iastore, 1) := by decide +kernel
theorem dX1_lead_37 : decode cX1_lead 37 = .ok (.aload_n 0, 1) := by decide +kernel
theorem dX1_lead_38 : decode cX1_lead 38 = .ok (.getfield 31, 3) := by decide +kernel
theorem dX1_lead_41 : decode cX1_lead 41 = .ok (.iload_n 1, 1) := by decide +kernel
theorem dX1_lead_42 : decode cX1_lead 42 = .ok (.iconst 0, 1) := by decide +kernel
theorem dX1_lead_43 : decode cX1_lead 43 = .ok (.iastore, 1) := by decide +kernel
theorem dX1_lead_44 : decode cX1_lead 44 = .ok (.iinc 1 1, 3) := by decide +kernel
theorem dX1_lead_47 : decode cX1_lead 47 = .ok (.goto (-35), 3) := by decide +kernel
theorem dX1_lead_50 : decode cX1_lead 50 = .ok (.return_, 1) := by decide +kernel
theorem dX1_goDown_0 : decode cX1_goDown 0 = .ok (.aload_n 0, 1) := by decide +kernel
theorem dX1_goDown_1 : decode cX1_goDown 1 = .ok (.iconst 1, 1) := by decide +kernel
theorem dX1_goDown_2 : decode cX1_goDown 2 = .ok (.putfield 38, 3) := by decide +kernel
theorem dX1_goDown_5 : decode cX1_goDown 5 = .ok (.aload_n 0, 1) := by decide +kernel
theorem dX1_goDown_6 : decode cX1_goDown 6 = .ok (.invokevirtual 63, 3) := by decide +kernel
theorem dX1_goDown_9 : decode cX1_goDown 9 = .ok (.aload_n 0, 1) := by decide +kernel
theorem dX1_goDown_10 : decode cX1_goDown 10 = .ok (.aload_n 0, 1) := by decide +kernel
theorem dX1_goDown_11 : decode cX1_goDown 11 = .ok (.getfield 48, 3) := by decide +kernel
theorem dX1_goDown_14 : decode cX1_goDown 14 = .ok (.putfield 57, 3) := by decide +kernel
theorem dX1_goDown_17 : decode cX1_goDown 17 = .ok (.aload_n 0, 1) := by decide +kernel
theorem dX1_goDown_18 : decode cX1_goDown 18 = .ok (.getfield 22, 3) := by decide +kernel
theorem dX1_goDown_21 : decode cX1_goDown 21 = .ok (.aload_n 0, 1) := by decide +kernel
theorem dX1_goDown_22 : decode cX1_goDown 22 = .ok (.getfield 18, 3) := by decide +kernel
theorem dX1_goDown_25 : decode cX1_goDown 25 = .ok (.invokevirtual 81, 3) := by decide +kernel
theorem dX1_goDown_28 : decode cX1_goDown 28 = .ok (.return_, 1) := by decide +kernel
theorem dX1_placeOf_0 : decode cX1_placeOf 0 = .ok (.iload_n 1, 1) := by decide +kernel
theorem dX1_placeOf_1 : decode cX1_placeOf 1 = .ok (.aload_n 0, 1) := by decide +kernel
theorem dX1_placeOf_2 : decode cX1_placeOf 2 = .ok (.getfield 48, 3) := by decide +kernel
theorem dX1_placeOf_5 : decode cX1_placeOf 5 = .ok (.if_icmp .le 22, 3) := by decide +kernel
theorem dX1_placeOf_8 : decode cX1_placeOf 8 = .ok (.iload_n 1, 1) := by decide +kernel
theorem dX1_placeOf_9 : decode cX1_placeOf 9 = .ok (.aload_n 0, 1) := by decide +kernel
theorem dX1_placeOf_10 : decode cX1_placeOf 10 = .ok (.getfield 54, 3) := by decide +kernel
theorem dX1_placeOf_13 : decode cX1_placeOf 13 = .ok (.if_icmp .gt 14, 3) := by decide +kernel
theorem dX1_placeOf_16 : decode cX1_placeOf 16 = .ok (.iload_n 1, 1) := by decide +kernel
theorem dX1_placeOf_17 : decode cX1_placeOf 17 = .ok (.aload_n 0, 1) := by decide +kernel
theorem dX1_placeOf_18 : decode cX1_placeOf 18 = .ok (.getfield 48, 3) := by decide +kernel
theorem dX1_placeOf_21 : decode cX1_placeOf 21 = .ok (.isub, 1) := by decide +kernel
theorem dX1_placeOf_22 : decode cX1_placeOf 22 = .ok (.bipush 40, 2) := by decide +kernel
theorem dX1_placeOf_24 : decode cX1_placeOf 24 = .ok (.if_icmp .le 5, 3) := by decide +kernel
theorem dX1_placeOf_27 : decode cX1_placeOf 27 = .ok (.iconst (-1), 1) := by decide +kernel
theorem dX1_placeOf_28 : decode cX1_placeOf 28 = .ok (.ireturn, 1) := by decide +kernel
theorem dX1_placeOf_29 : decode cX1_placeOf 29 = .ok (.iload_n 1, 1) := by decide +kernel
theorem dX1_placeOf_30 : decode cX1_placeOf 30 = .ok (.aload_n 0, 1) := by decide +kernel
theorem dX1_placeOf_31 : decode cX1_placeOf 31 = .ok (.getfield 48, 3) := by decide +kernel
theorem dX1_placeOf_34 : decode cX1_placeOf 34 = .ok (.isub, 1) := by decide +kernel
theorem dX1_placeOf_35 : decode cX1_placeOf 35 = .ok (.iconst 1, 1) := by decide +kernel
theorem dX1_placeOf_36 : decode cX1_placeOf 36 = .ok (.isub, 1) := by decide +kernel
theorem dX1_placeOf_37 : decode cX1_placeOf 37 = .ok (.bipush 6, 2) := by decide +kernel
theorem dX1_placeOf_39 : decode cX1_placeOf 39 = .ok (.imul, 1) := by decide +kernel
theorem dX1_placeOf_40 : decode cX1_placeOf 40 = .ok (.ireturn, 1) := by decide +kernel
theorem dX1_part_0 : decode cX1_part 0 = .ok (.aload_n 0, 1) := by decide +kernel
theorem dX1_part_1 : decode cX1_part 1 = .ok (.iload_n 1, 1) := by decide +kernel
theorem dX1_part_2 : decode cX1_part 2 = .ok (.invokevirtual 85, 3) := by decide +kernel
theorem dX1_part_5 : decode cX1_part 5 = .ok (.istore_n 3, 1) := by decide +kernel
theorem dX1_part_6 : decode cX1_part 6 = .ok (.iload_n 3, 1) := by decide +kernel
theorem dX1_part_7 : decode cX1_part 7 = .ok (.iconst (-1), 1) := by decide +kernel
theorem dX1_part_8 : decode cX1_part 8 = .ok (.if_icmp .ne 8, 3) := by decide +kernel
theorem dX1_part_11 : decode cX1_part 11 = .ok (.ldc 89, 2) := by decide +kernel
theorem dX1_part_13 : decode cX1_part 13 = .ok (.goto 11, 3) := by decide +kernel
theorem dX1_part_16 : decode cX1_part 16 = .ok (.aload_n 0, 1) := by decide +kernel
theorem dX1_part_17 : decode cX1_part 17 = .ok (.getfield 11, 3) := by decide +kernel
theorem dX1_part_20 : decode cX1_part 20 = .ok (.iload_n 3, 1) := by decide +kernel
theorem dX1_part_21 : decode cX1_part 21 = .ok (.iload_n 2, 1) := by decide +kernel
theorem dX1_part_22 : decode cX1_part 22 = .ok (.iadd, 1) := by decide +kernel
theorem dX1_part_23 : decode cX1_part 23 = .ok (.iaload, 1) := by decide +kernel
theorem dX1_part_24 : decode cX1_part 24 = .ok (.ireturn, 1) := by decide +kernel
theorem dX1_termOf_0 : decode cX1_termOf 0 = .ok (.iload_n 1, 1) := by decide +kernel
theorem dX1_termOf_1 : decode cX1_termOf 1 = .ok (.aload_n 0, 1) := by decide +kernel
theorem dX1_termOf_2 : decode cX1_termOf 2 = .ok (.getfield 48, 3) := by decide +kernel
theorem dX1_termOf_5 : decode cX1_termOf 5 = .ok (.if_icmp .ne 8, 3) := by decide +kernel
theorem dX1_termOf_8 : decode cX1_termOf 8 = .ok (.aload_n 0, 1) := by decide +kernel
theorem dX1_termOf_9 : decode cX1_termOf 9 = .ok (.getfield 51, 3) := by decide +kernel
theorem dX1_termOf_12 : decode cX1_termOf 12 = .ok (.ireturn, 1) := by decide +kernel
theorem dX1_termOf_13 : decode cX1_termOf 13 = .ok (.aload_n 0, 1) := by decide +kernel
theorem dX1_termOf_14 : decode cX1_termOf 14 = .ok (.iload_n 1, 1) := by decide +kernel
theorem dX1_termOf_15 : decode cX1_termOf 15 = .ok (.invokevirtual 85, 3) := by decide +kernel
theorem dX1_termOf_18 : decode cX1_termOf 18 = .ok (.istore_n 2, 1) := by decide +kernel
theorem dX1_termOf_19 : decode cX1_termOf 19 = .ok (.iload_n 2, 1) := by decide +kernel
theorem dX1_termOf_20 : decode cX1_termOf 20 = .ok (.iconst (-1), 1) := by decide +kernel
theorem dX1_termOf_21 : decode cX1_termOf 21 = .ok (.if_icmp .ne 7, 3) := by decide +kernel
theorem dX1_termOf_24 : decode cX1_termOf 24 = .ok (.iconst (-1), 1) := by decide +kernel
theorem dX1_termOf_25 : decode cX1_termOf 25 = .ok (.goto 11, 3) := by decide +kernel
theorem dX1_termOf_28 : decode cX1_termOf 28 = .ok (.aload_n 0, 1) := by decide +kernel
theorem dX1_termOf_29 : decode cX1_termOf 29 = .ok (.getfield 11, 3) := by decide +kernel
theorem dX1_termOf_32 : decode cX1_termOf 32 = .ok (.iload_n 2, 1) := by decide +kernel
theorem dX1_termOf_33 : decode cX1_termOf 33 = .ok (.iconst 0, 1) := by decide +kernel
theorem dX1_termOf_34 : decode cX1_termOf 34 = .ok (.iadd, 1) := by decide +kernel
theorem dX1_termOf_35 : decode cX1_termOf 35 = .ok (.iaload, 1) := by decide +kernel
theorem dX1_termOf_36 : decode cX1_termOf 36 = .ok (.ireturn, 1) := by decide +kernel
theorem dX1_hasRoom_0 : decode cX1_hasRoom 0 = .ok (.aload_n 0, 1) := by decide +kernel
theorem dX1_hasRoom_1 : decode cX1_hasRoom 1 = .ok (.getfield 54, 3) := by decide +kernel
theorem dX1_hasRoom_4 : decode cX1_hasRoom 4 = .ok (.aload_n 0, 1) := by decide +kernel
theorem dX1_hasRoom_5 : decode cX1_hasRoom 5 = .ok (.getfield 48, 3) := by decide +kernel
theorem dX1_hasRoom_8 : decode cX1_hasRoom 8 = .ok (.isub, 1) := by decide +kernel
theorem dX1_hasRoom_9 : decode cX1_hasRoom 9 = .ok (.bipush 40, 2) := by decide +kernel
theorem dX1_hasRoom_11 : decode cX1_hasRoom 11 = .ok (.if_icmp .ge 7, 3) := by decide +kernel
theorem dX1_hasRoom_14 : decode cX1_hasRoom 14 = .ok (.iconst 1, 1) := by decide +kernel
theorem dX1_hasRoom_15 : decode cX1_hasRoom 15 = .ok (.goto 4, 3) := by decide +kernel
theorem dX1_hasRoom_18 : decode cX1_hasRoom 18 = .ok (.iconst 0, 1) := by decide +kernel
theorem dX1_hasRoom_19 : decode cX1_hasRoom 19 = .ok (.ireturn, 1) := by decide +kernel
theorem dX1_grow_0 : decode cX1_grow 0 = .ok (.aload_n 0, 1) := by decide +kernel
theorem dX1_grow_1 : decode cX1_grow 1 = .ok (.invokevirtual 90, 3) := by decide +kernel
theorem dX1_grow_4 : decode cX1_grow 4 = .ok (.ifCond .ne 5, 3) := by decide +kernel
theorem dX1_grow_7 : decode cX1_grow 7 = .ok (.iconst (-1), 1) := by decide +kernel
theorem dX1_grow_8 : decode cX1_grow 8 = .ok (.ireturn, 1) := by decide +kernel
theorem dX1_grow_9 : decode cX1_grow 9 = .ok (.aload_n 0, 1) := by decide +kernel
theorem dX1_grow_10 : decode cX1_grow 10 = .ok (.dup, 1) := by decide +kernel
theorem dX1_grow_11 : decode cX1_grow 11 = .ok (.getfield 54, 3) := by decide +kernel
theorem dX1_grow_14 : decode cX1_grow 14 = .ok (.iconst 1, 1) := by decide +kernel
theorem dX1_grow_15 : decode cX1_grow 15 = .ok (.iadd, 1) := by decide +kernel
theorem dX1_grow_16 : decode cX1_grow 16 = .ok (.putfield 54, 3) := by decide +kernel
theorem dX1_grow_19 : decode cX1_grow 19 = .ok (.aload_n 0, 1) := by decide +kernel
theorem dX1_grow_20 : decode cX1_grow 20 = .ok (.aload_n 0, 1) := by decide +kernel
theorem dX1_grow_21 : decode cX1_grow 21 = .ok (.getfield 54, 3) := by decide +kernel
theorem dX1_grow_24 : decode cX1_grow 24 = .ok (.invokevirtual 85, 3) := by decide +kernel
theorem dX1_grow_27 : decode cX1_grow 27 = .ok (.ireturn, 1) := by decide +kernel
theorem dX1_cutFrom_0 : decode cX1_cutFrom 0 = .ok (.aload_n 0, 1) := by decide +kernel
theorem dX1_cutFrom_1 : decode cX1_cutFrom 1 = .ok (.aload_n 0, 1) := by decide +kernel
theorem dX1_cutFrom_2 : decode cX1_cutFrom 2 = .ok (.getfield 54, 3) := by decide +kernel
theorem dX1_cutFrom_5 : decode cX1_cutFrom 5 = .ok (.iload_n 1, 1) := by decide +kernel
theorem dX1_cutFrom_6 : decode cX1_cutFrom 6 = .ok (.iconst 1, 1) := by decide +kernel
theorem dX1_cutFrom_7 : decode cX1_cutFrom 7 = .ok (.isub, 1) := by decide +kernel
theorem dX1_cutFrom_8 : decode cX1_cutFrom 8 = .ok (.aload_n 0, 1) := by decide +kernel
theorem dX1_cutFrom_9 : decode cX1_cutFrom 9 = .ok (.getfield 57, 3) := by decide +kernel
theorem dX1_cutFrom_12 : decode cX1_cutFrom 12 = .ok (.invokestatic 94, 3) := by decide +kernel
theorem dX1_cutFrom_15 : decode cX1_cutFrom 15 = .ok (.invokestatic 100, 3) := by decide +kernel
theorem dX1_cutFrom_18 : decode cX1_cutFrom 18 = .ok (.putfield 54, 3) := by decide +kernel
theorem dX1_cutFrom_21 : decode cX1_cutFrom 21 = .ok (.return_, 1) := by decide +kernel
theorem dX1_advanceTo_0 : decode cX1_advanceTo 0 = .ok (.aload_n 0, 1) := by decide +kernel
theorem dX1_advanceTo_1 : decode cX1_advanceTo 1 = .ok (.getfield 57, 3) := by decide +kernel
theorem dX1_advanceTo_4 : decode cX1_advanceTo 4 = .ok (.iload_n 1, 1) := by decide +kernel
theorem dX1_advanceTo_5 : decode cX1_advanceTo 5 = .ok (.if_icmp .ge 46, 3) := by decide +kernel
theorem dX1_advanceTo_8 : decode cX1_advanceTo 8 = .ok (.aload_n 0, 1) := by decide +kernel
theorem dX1_advanceTo_9 : decode cX1_advanceTo 9 = .ok (.getfield 57, 3) := by decide +kernel
theorem dX1_advanceTo_12 : decode cX1_advanceTo 12 = .ok (.aload_n 0, 1) := by decide +kernel
theorem dX1_advanceTo_13 : decode cX1_advanceTo 13 = .ok (.getfield 54, 3) := by decide +kernel
theorem dX1_advanceTo_16 : decode cX1_advanceTo 16 = .ok (.if_icmp .ge 35, 3) := by decide +kernel
theorem dX1_advanceTo_19 : decode cX1_advanceTo 19 = .ok (.aload_n 0, 1) := by decide +kernel
theorem dX1_advanceTo_20 : decode cX1_advanceTo 20 = .ok (.dup, 1) := by decide +kernel
theorem dX1_advanceTo_21 : decode cX1_advanceTo 21 = .ok (.getfield 57, 3) := by decide +kernel
theorem dX1_advanceTo_24 : decode cX1_advanceTo 24 = .ok (.iconst 1, 1) := by decide +kernel
theorem dX1_advanceTo_25 : decode cX1_advanceTo 25 = .ok (.iadd, 1) := by decide +kernel
theorem dX1_advanceTo_26 : decode cX1_advanceTo 26 = .ok (.putfield 57, 3) := by decide +kernel
theorem dX1_advanceTo_29 : decode cX1_advanceTo 29 = .ok (.aload_n 0, 1) := by decide +kernel
theorem dX1_advanceTo_30 : decode cX1_advanceTo 30 = .ok (.getfield 22, 3) := by decide +kernel
theorem dX1_advanceTo_33 : decode cX1_advanceTo 33 = .ok (.aload_n 0, 1) := by decide +kernel
theorem dX1_advanceTo_34 : decode cX1_advanceTo 34 = .ok (.getfield 11, 3) := by decide +kernel
theorem dX1_advanceTo_37 : decode cX1_advanceTo 37 = .ok (.aload_n 0, 1) := by decide +kernel
theorem dX1_advanceTo_38 : decode cX1_advanceTo 38 = .ok (.aload_n 0, 1) := by decide +kernel
theorem dX1_advanceTo_39 : decode cX1_advanceTo 39 = .ok (.getfield 57, 3) := by decide +kernel
theorem dX1_advanceTo_42 : decode cX1_advanceTo 42 = .ok (.invokevirtual 85, 3) := by decide +kernel
theorem dX1_advanceTo_45 : decode cX1_advanceTo 45 = .ok (.invokevirtual 103, 3) := by decide +kernel
theorem dX1_advanceTo_48 : decode cX1_advanceTo 48 = .ok (.goto (-48), 3) := by decide +kernel
theorem dX1_advanceTo_51 : decode cX1_advanceTo 51 = .ok (.return_, 1) := by decide +kernel
theorem dX1_foldUpTo_0 : decode cX1_foldUpTo 0 = .ok (.aload_n 0, 1) := by decide +kernel
theorem dX1_foldUpTo_1 : decode cX1_foldUpTo 1 = .ok (.iload_n 1, 1) := by decide +kernel
theorem dX1_foldUpTo_2 : decode cX1_foldUpTo 2 = .ok (.invokevirtual 107, 3) := by decide +kernel
theorem dX1_foldUpTo_5 : decode cX1_foldUpTo 5 = .ok (.istore_n 2, 1) := by decide +kernel
theorem dX1_foldUpTo_6 : decode cX1_foldUpTo 6 = .ok (.aload_n 0, 1) := by decide +kernel
theorem dX1_foldUpTo_7 : decode cX1_foldUpTo 7 = .ok (.getfield 48, 3) := by decide +kernel
theorem dX1_foldUpTo_10 : decode cX1_foldUpTo 10 = .ok (.iconst 1, 1) := by decide +kernel
theorem dX1_foldUpTo_11 : decode cX1_foldUpTo 11 = .ok (.iadd, 1) := by decide +kernel
theorem dX1_foldUpTo_12 : decode cX1_foldUpTo 12 = .ok (.istore_n 3, 1) := by decide +kernel
theorem dX1_foldUpTo_13 : decode cX1_foldUpTo 13 = .ok (.iload_n 3, 1) := by decide +kernel
theorem dX1_foldUpTo_14 : decode cX1_foldUpTo 14 = .ok (.iload_n 1, 1) := by decide +kernel
theorem dX1_foldUpTo_15 : decode cX1_foldUpTo 15 = .ok (.if_icmp .gt 33, 3) := by decide +kernel
theorem dX1_foldUpTo_18 : decode cX1_foldUpTo 18 = .ok (.iload_n 3, 1) := by decide +kernel
theorem dX1_foldUpTo_19 : decode cX1_foldUpTo 19 = .ok (.aload_n 0, 1) := by decide +kernel
theorem dX1_foldUpTo_20 : decode cX1_foldUpTo 20 = .ok (.getfield 54, 3) := by decide +kernel
theorem dX1_foldUpTo_23 : decode cX1_foldUpTo 23 = .ok (.if_icmp .gt 25, 3) := by decide +kernel
theorem dX1_foldUpTo_26 : decode cX1_foldUpTo 26 = .ok (.aload_n 0, 1) := by decide +kernel
theorem dX1_foldUpTo_27 : decode cX1_foldUpTo 27 = .ok (.getfield 18, 3) := by decide +kernel
theorem dX1_foldUpTo_30 : decode cX1_foldUpTo 30 = .ok (.aload_n 0, 1) := by decide +kernel
theorem dX1_foldUpTo_31 : decode cX1_foldUpTo 31 = .ok (.getfield 11, 3) := by decide +kernel
theorem dX1_foldUpTo_34 : decode cX1_foldUpTo 34 = .ok (.aload_n 0, 1) := by decide +kernel
theorem dX1_foldUpTo_35 : decode cX1_foldUpTo 35 = .ok (.iload_n 3, 1) := by decide +kernel
theorem dX1_foldUpTo_36 : decode cX1_foldUpTo 36 = .ok (.invokevirtual 85, 3) := by decide +kernel
theorem dX1_foldUpTo_39 : decode cX1_foldUpTo 39 = .ok (.invokevirtual 103, 3) := by decide +kernel
theorem dX1_foldUpTo_42 : decode cX1_foldUpTo 42 = .ok (.iinc 3 1, 3) := by decide +kernel
theorem dX1_foldUpTo_45 : decode cX1_foldUpTo 45 = .ok (.goto (-32), 3) := by decide +kernel
theorem dX1_foldUpTo_48 : decode cX1_foldUpTo 48 = .ok (.aload_n 0, 1) := by decide +kernel
theorem dX1_foldUpTo_49 : decode cX1_foldUpTo 49 = .ok (.iload_n 1, 1) := by decide +kernel
theorem dX1_foldUpTo_50 : decode cX1_foldUpTo 50 = .ok (.invokevirtual 110, 3) := by decide +kernel
theorem dX1_foldUpTo_53 : decode cX1_foldUpTo 53 = .ok (.aload_n 0, 1) := by decide +kernel
theorem dX1_foldUpTo_54 : decode cX1_foldUpTo 54 = .ok (.iload_n 2, 1) := by decide +kernel
theorem dX1_foldUpTo_55 : decode cX1_foldUpTo 55 = .ok (.putfield 51, 3) := by decide +kernel
theorem dX1_foldUpTo_58 : decode cX1_foldUpTo 58 = .ok (.return_, 1) := by decide +kernel
theorem dX1_forgetUpTo_0 : decode cX1_forgetUpTo 0 = .ok (.aload_n 0, 1) := by decide +kernel
theorem dX1_forgetUpTo_1 : decode cX1_forgetUpTo 1 = .ok (.iload_n 1, 1) := by decide +kernel
theorem dX1_forgetUpTo_2 : decode cX1_forgetUpTo 2 = .ok (.invokevirtual 85, 3) := by decide +kernel
theorem dX1_forgetUpTo_5 : decode cX1_forgetUpTo 5 = .ok (.istore_n 2, 1) := by decide +kernel
theorem dX1_forgetUpTo_6 : decode cX1_forgetUpTo 6 = .ok (.iload_n 2, 1) := by decide +kernel
theorem dX1_forgetUpTo_7 : decode cX1_forgetUpTo 7 = .ok (.iconst (-1), 1) := by decide +kernel
theorem dX1_forgetUpTo_8 : decode cX1_forgetUpTo 8 = .ok (.if_icmp .ne 11, 3) := by decide +kernel
theorem dX1_forgetUpTo_11 : decode cX1_forgetUpTo 11 = .ok (.aload_n 0, 1) := by decide +kernel
theorem dX1_forgetUpTo_12 : decode cX1_forgetUpTo 12 = .ok (.iload_n 1, 1) := by decide +kernel
theorem dX1_forgetUpTo_13 : decode cX1_forgetUpTo 13 = .ok (.putfield 54, 3) := by decide +kernel
theorem dX1_forgetUpTo_16 : decode cX1_forgetUpTo 16 = .ok (.goto 24, 3) := by decide +kernel
theorem dX1_forgetUpTo_19 : decode cX1_forgetUpTo 19 = .ok (.iinc 2 6, 3) := by decide +kernel
theorem dX1_forgetUpTo_22 : decode cX1_forgetUpTo 22 = .ok (.aload_n 0, 1) := by decide +kernel
theorem dX1_forgetUpTo_23 : decode cX1_forgetUpTo 23 = .ok (.getfield 11, 3) := by decide +kernel
theorem dX1_forgetUpTo_26 : decode cX1_forgetUpTo 26 = .ok (.iload_n 2, 1) := by decide +kernel
theorem dX1_forgetUpTo_27 : decode cX1_forgetUpTo 27 = .ok (.aload_n 0, 1) := by decide +kernel
theorem dX1_forgetUpTo_28 : decode cX1_forgetUpTo 28 = .ok (.getfield 11, 3) := by decide +kernel
theorem dX1_forgetUpTo_31 : decode cX1_forgetUpTo 31 = .ok (.iconst 0, 1) := by decide +kernel
theorem dX1_forgetUpTo_32 : decode cX1_forgetUpTo 32 = .ok (.sipush 240, 3) := by decide +kernel
theorem dX1_forgetUpTo_35 : decode cX1_forgetUpTo 35 = .ok (.iload_n 2, 1) := by decide +kernel
theorem dX1_forgetUpTo_36 : decode cX1_forgetUpTo 36 = .ok (.isub, 1) := by decide +kernel
theorem dX1_forgetUpTo_37 : decode cX1_forgetUpTo 37 = .ok (.invokestatic 75, 3) := by decide +kernel
theorem dX1_forgetUpTo_40 : decode cX1_forgetUpTo 40 = .ok (.aload_n 0, 1) := by decide +kernel
theorem dX1_forgetUpTo_41 : decode cX1_forgetUpTo 41 = .ok (.iload_n 1, 1) := by decide +kernel
theorem dX1_forgetUpTo_42 : decode cX1_forgetUpTo 42 = .ok (.putfield 48, 3) := by decide +kernel
theorem dX1_forgetUpTo_45 : decode cX1_forgetUpTo 45 = .ok (.return_, 1) := by decide +kernel
theorem dX1_takeFold_0 : decode cX1_takeFold 0 = .ok (.aload_n 0, 1) := by decide +kernel
theorem dX1_takeFold_1 : decode cX1_takeFold 1 = .ok (.iload_n 1, 1) := by decide +kernel
theorem dX1_takeFold_2 : decode cX1_takeFold 2 = .ok (.invokevirtual 85, 3) := by decide +kernel
theorem dX1_takeFold_5 : decode cX1_takeFold 5 = .ok (.iconst (-1), 1) := by decide +kernel
theorem dX1_takeFold_6 : decode cX1_takeFold 6 = .ok (.if_icmp .eq 12, 3) := by decide +kernel
theorem dX1_takeFold_9 : decode cX1_takeFold 9 = .ok (.aload_n 0, 1) := by decide +kernel
theorem dX1_takeFold_10 : decode cX1_takeFold 10 = .ok (.iload_n 1, 1) := by decide +kernel
theorem dX1_takeFold_11 : decode cX1_takeFold 11 = .ok (.invokevirtual 107, 3) := by decide +kernel
theorem dX1_takeFold_14 : decode cX1_takeFold 14 = .ok (.iload_n 2, 1) := by decide +kernel
theorem dX1_takeFold_15 : decode cX1_takeFold 15 = .ok (.if_icmp .eq 11, 3) := by decide +kernel
theorem dX1_takeFold_18 : decode cX1_takeFold 18 = .ok (.aload_n 0, 1) := by decide +kernel
theorem dX1_takeFold_19 : decode cX1_takeFold 19 = .ok (.aload_n 0, 1) := by decide +kernel
theorem dX1_takeFold_20 : decode cX1_takeFold 20 = .ok (.getfield 48, 3) := by decide +kernel
theorem dX1_takeFold_23 : decode cX1_takeFold 23 = .ok (.putfield 54, 3) := by decide +kernel
theorem dX1_takeFold_26 : decode cX1_takeFold 26 = .ok (.aload_n 0, 1) := by decide +kernel
theorem dX1_takeFold_27 : decode cX1_takeFold 27 = .ok (.iload_n 1, 1) := by decide +kernel
theorem dX1_takeFold_28 : decode cX1_takeFold 28 = .ok (.invokevirtual 110, 3) := by decide +kernel
theorem dX1_takeFold_31 : decode cX1_takeFold 31 = .ok (.aload_n 0, 1) := by decide +kernel
theorem dX1_takeFold_32 : decode cX1_takeFold 32 = .ok (.iload_n 2, 1) := by decide +kernel
theorem dX1_takeFold_33 : decode cX1_takeFold 33 = .ok (.putfield 51, 3) := by decide +kernel
theorem dX1_takeFold_36 : decode cX1_takeFold 36 = .ok (.aload_n 0, 1) := by decide +kernel
theorem dX1_takeFold_37 : decode cX1_takeFold 37 = .ok (.getfield 18, 3) := by decide +kernel
theorem dX1_takeFold_40 : decode cX1_takeFold 40 = .ok (.aload_n 3, 1) := by decide +kernel
theorem dX1_takeFold_41 : decode cX1_takeFold 41 = .ok (.invokevirtual 81, 3) := by decide +kernel
theorem dX1_takeFold_44 : decode cX1_takeFold 44 = .ok (.aload_n 0, 1) := by decide +kernel
theorem dX1_takeFold_45 : decode cX1_takeFold 45 = .ok (.aload_n 0, 1) := by decide +kernel
theorem dX1_takeFold_46 : decode cX1_takeFold 46 = .ok (.getfield 48, 3) := by decide +kernel
theorem dX1_takeFold_49 : decode cX1_takeFold 49 = .ok (.putfield 57, 3) := by decide +kernel
theorem dX1_takeFold_52 : decode cX1_takeFold 52 = .ok (.aload_n 0, 1) := by decide +kernel
theorem dX1_takeFold_53 : decode cX1_takeFold 53 = .ok (.getfield 22, 3) := by decide +kernel
theorem dX1_takeFold_56 : decode cX1_takeFold 56 = .ok (.aload_n 0, 1) := by decide +kernel
theorem dX1_takeFold_57 : decode cX1_takeFold 57 = .ok (.getfield 18, 3) := by decide +kernel
theorem dX1_takeFold_60 : decode cX1_takeFold 60 = .ok (.invokevirtual 81, 3) := by decide +kernel
theorem dX1_takeFold_63 : decode cX1_takeFold 63 = .ok (.return_, 1) := by decide +kernel
theorem dX2_init_0 : decode cX2_init 0 = .ok (.aload_n 0, 1) := by decide +kernel
theorem dX2_init_1 : decode cX2_init 1 = .ok (.invokespecial 3, 3) := by decide +kernel
theorem dX2_init_4 : decode cX2_init 4 = .ok (.aload_n 0, 1) := by decide +kernel
theorem dX2_init_5 : decode cX2_init 5 = .ok (.iconst (-1), 1) := by decide +kernel
theorem dX2_init_6 : decode cX2_init 6 = .ok (.putfield 9, 3) := by decide +kernel
theorem dX2_init_9 : decode cX2_init 9 = .ok (.aload_n 0, 1) := by decide +kernel
theorem dX2_init_10 : decode cX2_init 10 = .ok (.bipush 30, 2) := by decide +kernel
theorem dX2_init_12 : decode cX2_init 12 = .ok (.newarray .int, 2) := by decide +kernel
theorem dX2_init_14 : decode cX2_init 14 = .ok (.putfield 15, 3) := by decide +kernel
theorem dX2_init_17 : decode cX2_init 17 = .ok (.aload_n 0, 1) := by decide +kernel
theorem dX2_init_18 : decode cX2_init 18 = .ok (.new 19, 3) := by decide +kernel
theorem dX2_init_21 : decode cX2_init 21 = .ok (.dup, 1) := by decide +kernel
theorem dX2_init_22 : decode cX2_init 22 = .ok (.invokespecial 21, 3) := by decide +kernel
theorem dX2_init_25 : decode cX2_init 25 = .ok (.putfield 22, 3) := by decide +kernel
theorem dX2_init_28 : decode cX2_init 28 = .ok (.return_, 1) := by decide +kernel
theorem dX2_write_0 : decode cX2_write 0 = .ok (.aload_n 0, 1) := by decide +kernel
theorem dX2_write_1 : decode cX2_write 1 = .ok (.iload_n 1, 1) := by decide +kernel
theorem dX2_write_2 : decode cX2_write 2 = .ok (.putfield 9, 3) := by decide +kernel
theorem dX2_write_5 : decode cX2_write 5 = .ok (.aload_n 0, 1) := by decide +kernel
theorem dX2_write_6 : decode cX2_write 6 = .ok (.iload_n 2, 1) := by decide +kernel
theorem dX2_write_7 : decode cX2_write 7 = .ok (.putfield 26, 3) := by decide +kernel
theorem dX2_write_10 : decode cX2_write 10 = .ok (.aload_n 0, 1) := by decide +kernel
theorem dX2_write_11 : decode cX2_write 11 = .ok (.iload_n 3, 1) := by decide +kernel
theorem dX2_write_12 : decode cX2_write 12 = .ok (.putfield 29, 3) := by decide +kernel
theorem dX2_write_15 : decode cX2_write 15 = .ok (.aload_n 0, 1) := by decide +kernel
theorem dX2_write_16 : decode cX2_write 16 = .ok (.iload 4, 2) := by decide +kernel
theorem dX2_write_18 : decode cX2_write 18 = .ok (.putfield 32, 3) := by decide +kernel
theorem dX2_write_21 : decode cX2_write 21 = .ok (.aload_n 0, 1) := by decide +kernel
theorem dX2_write_22 : decode cX2_write 22 = .ok (.iconst 0, 1) := by decide +kernel
theorem dX2_write_23 : decode cX2_write 23 = .ok (.putfield 35, 3) := by decide +kernel
theorem dX2_write_26 : decode cX2_write 26 = .ok (.aload_n 0, 1) := by decide +kernel
theorem dX2_write_27 : decode cX2_write 27 = .ok (.iconst 0, 1) := by decide +kernel
theorem dX2_write_28 : decode cX2_write 28 = .ok (.putfield 38, 3) := by decide +kernel
theorem dX2_write_31 : decode cX2_write 31 = .ok (.aload_n 0, 1) := by decide +kernel
theorem dX2_write_32 : decode cX2_write 32 = .ok (.iconst 0, 1) := by decide +kernel
theorem dX2_write_33 : decode cX2_write 33 = .ok (.putfield 41, 3) := by decide +kernel
theorem dX2_write_36 : decode cX2_write 36 = .ok (.aload_n 0, 1) := by decide +kernel
theorem dX2_write_37 : decode cX2_write 37 = .ok (.iconst 0, 1) := by decide +kernel
theorem dX2_write_38 : decode cX2_write 38 = .ok (.putfield 44, 3) := by decide +kernel
theorem dX2_write_41 : decode cX2_write 41 = .ok (.aload_n 0, 1) := by decide +kernel
theorem dX2_write_42 : decode cX2_write 42 = .ok (.iconst 0, 1) := by decide +kernel
theorem dX2_write_43 : decode cX2_write 43 = .ok (.putfield 47, 3) := by decide +kernel
theorem dX2_write_46 : decode cX2_write 46 = .ok (.return_, 1) := by decide +kernel
theorem dX2_copyFrom_0 : decode cX2_copyFrom 0 = .ok (.aload_n 0, 1) := by decide +kernel
theorem dX2_copyFrom_1 : decode cX2_copyFrom 1 = .ok (.aload_n 1, 1) := by decide +kernel
theorem dX2_copyFrom_2 : decode cX2_copyFrom 2 = .ok (.getfield 9, 3) := by decide +kernel
theorem dX2_copyFrom_5 : decode cX2_copyFrom 5 = .ok (.putfield 9, 3) := by decide +kernel
theorem dX2_copyFrom_8 : decode cX2_copyFrom 8 = .ok (.aload_n 0, 1) := by decide +kernel
theorem dX2_copyFrom_9 : decode cX2_copyFrom 9 = .ok (.aload_n 1, 1) := by decide +kernel
theorem dX2_copyFrom_10 : decode cX2_copyFrom 10 = .ok (.getfield 26, 3) := by decide +kernel
theorem dX2_copyFrom_13 : decode cX2_copyFrom 13 = .ok (.putfield 26, 3) := by decide +kernel
theorem dX2_copyFrom_16 : decode cX2_copyFrom 16 = .ok (.aload_n 0, 1) := by decide +kernel
theorem dX2_copyFrom_17 : decode cX2_copyFrom 17 = .ok (.aload_n 1, 1) := by decide +kernel
theorem dX2_copyFrom_18 : decode cX2_copyFrom 18 = .ok (.getfield 29, 3) := by decide +kernel
theorem dX2_copyFrom_21 : decode cX2_copyFrom 21 = .ok (.putfield 29, 3) := by decide +kernel
theorem dX2_copyFrom_24 : decode cX2_copyFrom 24 = .ok (.aload_n 0, 1) := by decide +kernel
theorem dX2_copyFrom_25 : decode cX2_copyFrom 25 = .ok (.aload_n 1, 1) := by decide +kernel
theorem dX2_copyFrom_26 : decode cX2_copyFrom 26 = .ok (.getfield 32, 3) := by decide +kernel
theorem dX2_copyFrom_29 : decode cX2_copyFrom 29 = .ok (.putfield 32, 3) := by decide +kernel
theorem dX2_copyFrom_32 : decode cX2_copyFrom 32 = .ok (.aload_n 0, 1) := by decide +kernel
theorem dX2_copyFrom_33 : decode cX2_copyFrom 33 = .ok (.aload_n 1, 1) := by decide +kernel
theorem dX2_copyFrom_34 : decode cX2_copyFrom 34 = .ok (.getfield 35, 3) := by decide +kernel
theorem dX2_copyFrom_37 : decode cX2_copyFrom 37 = .ok (.putfield 35, 3) := by decide +kernel
theorem dX2_copyFrom_40 : decode cX2_copyFrom 40 = .ok (.aload_n 0, 1) := by decide +kernel
theorem dX2_copyFrom_41 : decode cX2_copyFrom 41 = .ok (.aload_n 1, 1) := by decide +kernel
theorem dX2_copyFrom_42 : decode cX2_copyFrom 42 = .ok (.getfield 38, 3) := by decide +kernel
theorem dX2_copyFrom_45 : decode cX2_copyFrom 45 = .ok (.putfield 38, 3) := by decide +kernel
theorem dX2_copyFrom_48 : decode cX2_copyFrom 48 = .ok (.aload_n 0, 1) := by decide +kernel
theorem dX2_copyFrom_49 : decode cX2_copyFrom 49 = .ok (.aload_n 1, 1) := by decide +kernel
theorem dX2_copyFrom_50 : decode cX2_copyFrom 50 = .ok (.getfield 41, 3) := by decide +kernel
theorem dX2_copyFrom_53 : decode cX2_copyFrom 53 = .ok (.putfield 41, 3) := by decide +kernel
theorem dX2_copyFrom_56 : decode cX2_copyFrom 56 = .ok (.aload_n 0, 1) := by decide +kernel
theorem dX2_copyFrom_57 : decode cX2_copyFrom 57 = .ok (.aload_n 1, 1) := by decide +kernel
theorem dX2_copyFrom_58 : decode cX2_copyFrom 58 = .ok (.getfield 44, 3) := by decide +kernel
theorem dX2_copyFrom_61 : decode cX2_copyFrom 61 = .ok (.putfield 44, 3) := by decide +kernel
theorem dX2_copyFrom_64 : decode cX2_copyFrom 64 = .ok (.aload_n 0, 1) := by decide +kernel
theorem dX2_copyFrom_65 : decode cX2_copyFrom 65 = .ok (.aload_n 1, 1) := by decide +kernel
theorem dX2_copyFrom_66 : decode cX2_copyFrom 66 = .ok (.getfield 47, 3) := by decide +kernel
theorem dX2_copyFrom_69 : decode cX2_copyFrom 69 = .ok (.putfield 47, 3) := by decide +kernel
theorem dX2_copyFrom_72 : decode cX2_copyFrom 72 = .ok (.aload_n 1, 1) := by decide +kernel
theorem dX2_copyFrom_73 : decode cX2_copyFrom 73 = .ok (.getfield 15, 3) := by decide +kernel
theorem dX2_copyFrom_76 : decode cX2_copyFrom 76 = .ok (.iconst 0, 1) := by decide +kernel
theorem dX2_copyFrom_77 : decode cX2_copyFrom 77 = .ok (.aload_n 0, 1) := by decide +kernel
theorem dX2_copyFrom_78 : decode cX2_copyFrom 78 = .ok (.getfield 15, 3) := by decide +kernel
theorem dX2_copyFrom_81 : decode cX2_copyFrom 81 = .ok (.iconst 0, 1) := by decide +kernel
theorem dX2_copyFrom_82 : decode cX2_copyFrom 82 = .ok (.bipush 30, 2) := by decide +kernel
theorem dX2_copyFrom_84 : decode cX2_copyFrom 84 = .ok (.invokestatic 50, 3) := by decide +kernel
theorem dX2_copyFrom_87 : decode cX2_copyFrom 87 = .ok (.aload_n 0, 1) := by decide +kernel
theorem dX2_copyFrom_88 : decode cX2_copyFrom 88 = .ok (.getfield 22, 3) := by decide +kernel
theorem dX2_copyFrom_91 : decode cX2_copyFrom 91 = .ok (.aload_n 1, 1) := by decide +kernel
theorem dX2_copyFrom_92 : decode cX2_copyFrom 92 = .ok (.getfield 22, 3) := by decide +kernel
theorem dX2_copyFrom_95 : decode cX2_copyFrom 95 = .ok (.invokevirtual 56, 3) := by decide +kernel
theorem dX2_copyFrom_98 : decode cX2_copyFrom 98 = .ok (.return_, 1) := by decide +kernel
theorem dX2_tell_0 : decode cX2_tell 0 = .ok (.iload_n 1, 1) := by decide +kernel
theorem dX2_tell_1 : decode cX2_tell 1 = .ok (.tableswitch 96 0 8 #[51, 56, 61, 66, 71, 76, 81, 86, 91], 51) := by decide +kernel
theorem dX2_tell_52 : decode cX2_tell 52 = .ok (.aload_n 0, 1) := by decide +kernel
theorem dX2_tell_53 : decode cX2_tell 53 = .ok (.getfield 9, 3) := by decide +kernel
theorem dX2_tell_56 : decode cX2_tell 56 = .ok (.ireturn, 1) := by decide +kernel
theorem dX2_tell_57 : decode cX2_tell 57 = .ok (.aload_n 0, 1) := by decide +kernel
theorem dX2_tell_58 : decode cX2_tell 58 = .ok (.getfield 26, 3) := by decide +kernel
theorem dX2_tell_61 : decode cX2_tell 61 = .ok (.ireturn, 1) := by decide +kernel
theorem dX2_tell_62 : decode cX2_tell 62 = .ok (.aload_n 0, 1) := by decide +kernel
theorem dX2_tell_63 : decode cX2_tell 63 = .ok (.getfield 29, 3) := by decide +kernel
theorem dX2_tell_66 : decode cX2_tell 66 = .ok (.ireturn, 1) := by decide +kernel
theorem dX2_tell_67 : decode cX2_tell 67 = .ok (.aload_n 0, 1) := by decide +kernel
theorem dX2_tell_68 : decode cX2_tell 68 = .ok (.getfield 32, 3) := by decide +kernel
theorem dX2_tell_71 : decode cX2_tell 71 = .ok (.ireturn, 1) := by decide +kernel
theorem dX2_tell_72 : decode cX2_tell 72 = .ok (.aload_n 0, 1) := by decide +kernel
theorem dX2_tell_73 : decode cX2_tell 73 = .ok (.getfield 35, 3) := by decide +kernel
theorem dX2_tell_76 : decode cX2_tell 76 = .ok (.ireturn, 1) := by decide +kernel
theorem dX2_tell_77 : decode cX2_tell 77 = .ok (.aload_n 0, 1) := by decide +kernel
theorem dX2_tell_78 : decode cX2_tell 78 = .ok (.getfield 38, 3) := by decide +kernel
theorem dX2_tell_81 : decode cX2_tell 81 = .ok (.ireturn, 1) := by decide +kernel
theorem dX2_tell_82 : decode cX2_tell 82 = .ok (.aload_n 0, 1) := by decide +kernel
theorem dX2_tell_83 : decode cX2_tell 83 = .ok (.getfield 41, 3) := by decide +kernel
theorem dX2_tell_86 : decode cX2_tell 86 = .ok (.ireturn, 1) := by decide +kernel
theorem dX2_tell_87 : decode cX2_tell 87 = .ok (.aload_n 0, 1) := by decide +kernel
theorem dX2_tell_88 : decode cX2_tell 88 = .ok (.getfield 44, 3) := by decide +kernel
theorem dX2_tell_91 : decode cX2_tell 91 = .ok (.ireturn, 1) := by decide +kernel
theorem dX2_tell_92 : decode cX2_tell 92 = .ok (.aload_n 0, 1) := by decide +kernel
theorem dX2_tell_93 : decode cX2_tell 93 = .ok (.getfield 47, 3) := by decide +kernel
theorem dX2_tell_96 : decode cX2_tell 96 = .ok (.ireturn, 1) := by decide +kernel
theorem dX2_tell_97 : decode cX2_tell 97 = .ok (.iconst (-1), 1) := by decide +kernel
theorem dX2_tell_98 : decode cX2_tell 98 = .ok (.ireturn, 1) := by decide +kernel
theorem dX2_takeFold_0 : decode cX2_takeFold 0 = .ok (.aload_n 0, 1) := by decide +kernel
theorem dX2_takeFold_1 : decode cX2_takeFold 1 = .ok (.aload_n 1, 1) := by decide +kernel
theorem dX2_takeFold_2 : decode cX2_takeFold 2 = .ok (.getfield 60, 3) := by decide +kernel
theorem dX2_takeFold_5 : decode cX2_takeFold 5 = .ok (.putfield 35, 3) := by decide +kernel
theorem dX2_takeFold_8 : decode cX2_takeFold 8 = .ok (.aload_n 0, 1) := by decide +kernel
theorem dX2_takeFold_9 : decode cX2_takeFold 9 = .ok (.aload_n 1, 1) := by decide +kernel
theorem dX2_takeFold_10 : decode cX2_takeFold 10 = .ok (.getfield 65, 3) := by decide +kernel
theorem dX2_takeFold_13 : decode cX2_takeFold 13 = .ok (.putfield 38, 3) := by decide +kernel
theorem dX2_takeFold_16 : decode cX2_takeFold 16 = .ok (.aload_n 0, 1) := by decide +kernel
theorem dX2_takeFold_17 : decode cX2_takeFold 17 = .ok (.getfield 22, 3) := by decide +kernel
theorem dX2_takeFold_20 : decode cX2_takeFold 20 = .ok (.aload_n 1, 1) := by decide +kernel
theorem dX2_takeFold_21 : decode cX2_takeFold 21 = .ok (.getfield 68, 3) := by decide +kernel
theorem dX2_takeFold_24 : decode cX2_takeFold 24 = .ok (.invokevirtual 56, 3) := by decide +kernel
theorem dX2_takeFold_27 : decode cX2_takeFold 27 = .ok (.return_, 1) := by decide +kernel
theorem dX2_takeEntries_0 : decode cX2_takeEntries 0 = .ok (.aload_n 0, 1) := by decide +kernel
theorem dX2_takeEntries_1 : decode cX2_takeEntries 1 = .ok (.iload_n 2, 1) := by decide +kernel
theorem dX2_takeEntries_2 : decode cX2_takeEntries 2 = .ok (.iconst 1, 1) := by decide +kernel
theorem dX2_takeEntries_3 : decode cX2_takeEntries 3 = .ok (.isub, 1) := by decide +kernel
theorem dX2_takeEntries_4 : decode cX2_takeEntries 4 = .ok (.putfield 35, 3) := by decide +kernel
theorem dX2_takeEntries_7 : decode cX2_takeEntries 7 = .ok (.aload_n 0, 1) := by decide +kernel
theorem dX2_takeEntries_8 : decode cX2_takeEntries 8 = .ok (.aload_n 1, 1) := by decide +kernel
theorem dX2_takeEntries_9 : decode cX2_takeEntries 9 = .ok (.iload_n 2, 1) := by decide +kernel
theorem dX2_takeEntries_10 : decode cX2_takeEntries 10 = .ok (.iconst 1, 1) := by decide +kernel
theorem dX2_takeEntries_11 : decode cX2_takeEntries 11 = .ok (.isub, 1) := by decide +kernel
theorem dX2_takeEntries_12 : decode cX2_takeEntries 12 = .ok (.invokevirtual 71, 3) := by decide +kernel
theorem dX2_takeEntries_15 : decode cX2_takeEntries 15 = .ok (.putfield 38, 3) := by decide +kernel
theorem dX2_takeEntries_18 : decode cX2_takeEntries 18 = .ok (.aload_n 0, 1) := by decide +kernel
theorem dX2_takeEntries_19 : decode cX2_takeEntries 19 = .ok (.aload_n 1, 1) := by decide +kernel
theorem dX2_takeEntries_20 : decode cX2_takeEntries 20 = .ok (.getfield 75, 3) := by decide +kernel
theorem dX2_takeEntries_23 : decode cX2_takeEntries 23 = .ok (.putfield 44, 3) := by decide +kernel
theorem dX2_takeEntries_26 : decode cX2_takeEntries 26 = .ok (.iconst 0, 1) := by decide +kernel
theorem dX2_takeEntries_27 : decode cX2_takeEntries 27 = .ok (.istore_n 3, 1) := by decide +kernel
theorem dX2_takeEntries_28 : decode cX2_takeEntries 28 = .ok (.iload_n 3, 1) := by decide +kernel
theorem dX2_takeEntries_29 : decode cX2_takeEntries 29 = .ok (.iconst 5, 1) := by decide +kernel
theorem dX2_takeEntries_30 : decode cX2_takeEntries 30 = .ok (.if_icmp .ge 57, 3) := by decide +kernel
theorem dX2_takeEntries_33 : decode cX2_takeEntries 33 = .ok (.aload_n 1, 1) := by decide +kernel
theorem dX2_takeEntries_34 : decode cX2_takeEntries 34 = .ok (.iload_n 2, 1) := by decide +kernel
theorem dX2_takeEntries_35 : decode cX2_takeEntries 35 = .ok (.iload_n 3, 1) := by decide +kernel
theorem dX2_takeEntries_36 : decode cX2_takeEntries 36 = .ok (.iadd, 1) := by decide +kernel
theorem dX2_takeEntries_37 : decode cX2_takeEntries 37 = .ok (.invokevirtual 76, 3) := by decide +kernel
theorem dX2_takeEntries_40 : decode cX2_takeEntries 40 = .ok (.istore 4, 2) := by decide +kernel
theorem dX2_takeEntries_42 : decode cX2_takeEntries 42 = .ok (.iload 4, 2) := by decide +kernel
theorem dX2_takeEntries_44 : decode cX2_takeEntries 44 = .ok (.iconst (-1), 1) := by decide +kernel
theorem dX2_takeEntries_45 : decode cX2_takeEntries 45 = .ok (.if_icmp .ne 4, 3) := by decide +kernel
theorem dX2_takeEntries_48 : decode cX2_takeEntries 48 = .ok (.return_, 1) := by decide +kernel
theorem dX2_takeEntries_49 : decode cX2_takeEntries 49 = .ok (.aload_n 1, 1) := by decide +kernel
theorem dX2_takeEntries_50 : decode cX2_takeEntries 50 = .ok (.getfield 79, 3) := by decide +kernel
theorem dX2_takeEntries_53 : decode cX2_takeEntries 53 = .ok (.iload 4, 2) := by decide +kernel
theorem dX2_takeEntries_55 : decode cX2_takeEntries 55 = .ok (.aload_n 0, 1) := by decide +kernel
theorem dX2_takeEntries_56 : decode cX2_takeEntries 56 = .ok (.getfield 15, 3) := by decide +kernel
theorem dX2_takeEntries_59 : decode cX2_takeEntries 59 = .ok (.aload_n 0, 1) := by decide +kernel
theorem dX2_takeEntries_60 : decode cX2_takeEntries 60 = .ok (.getfield 41, 3) := by decide +kernel
theorem dX2_takeEntries_63 : decode cX2_takeEntries 63 = .ok (.bipush 6, 2) := by decide +kernel
theorem dX2_takeEntries_65 : decode cX2_takeEntries 65 = .ok (.imul, 1) := by decide +kernel
theorem dX2_takeEntries_66 : decode cX2_takeEntries 66 = .ok (.bipush 6, 2) := by decide +kernel
theorem dX2_takeEntries_68 : decode cX2_takeEntries 68 = .ok (.invokestatic 50, 3) := by decide +kernel
theorem dX2_takeEntries_71 : decode cX2_takeEntries 71 = .ok (.aload_n 0, 1) := by decide +kernel
theorem dX2_takeEntries_72 : decode cX2_takeEntries 72 = .ok (.dup, 1) := by decide +kernel
theorem dX2_takeEntries_73 : decode cX2_takeEntries 73 = .ok (.getfield 41, 3) := by decide +kernel
theorem dX2_takeEntries_76 : decode cX2_takeEntries 76 = .ok (.iconst 1, 1) := by decide +kernel
theorem dX2_takeEntries_77 : decode cX2_takeEntries 77 = .ok (.iadd, 1) := by decide +kernel
theorem dX2_takeEntries_78 : decode cX2_takeEntries 78 = .ok (.putfield 41, 3) := by decide +kernel
theorem dX2_takeEntries_81 : decode cX2_takeEntries 81 = .ok (.iinc 3 1, 3) := by decide +kernel
theorem dX2_takeEntries_84 : decode cX2_takeEntries 84 = .ok (.goto (-56), 3) := by decide +kernel
theorem dX2_takeEntries_87 : decode cX2_takeEntries 87 = .ok (.return_, 1) := by decide +kernel
theorem dX2_termAt_0 : decode cX2_termAt 0 = .ok (.iload_n 1, 1) := by decide +kernel
theorem dX2_termAt_1 : decode cX2_termAt 1 = .ok (.ifCond .lt 22, 3) := by decide +kernel
theorem dX2_termAt_4 : decode cX2_termAt 4 = .ok (.iload_n 1, 1) := by decide +kernel
theorem dX2_termAt_5 : decode cX2_termAt 5 = .ok (.iconst 5, 1) := by decide +kernel
theorem dX2_termAt_6 : decode cX2_termAt 6 = .ok (.if_icmp .ge 17, 3) := by decide +kernel
theorem dX2_termAt_9 : decode cX2_termAt 9 = .ok (.aload_n 0, 1) := by decide +kernel
theorem dX2_termAt_10 : decode cX2_termAt 10 = .ok (.getfield 15, 3) := by decide +kernel
theorem dX2_termAt_13 : decode cX2_termAt 13 = .ok (.iload_n 1, 1) := by decide +kernel
theorem dX2_termAt_14 : decode cX2_termAt 14 = .ok (.bipush 6, 2) := by decide +kernel
theorem dX2_termAt_16 : decode cX2_termAt 16 = .ok (.imul, 1) := by decide +kernel
theorem dX2_termAt_17 : decode cX2_termAt 17 = .ok (.iconst 0, 1) := by decide +kernel
theorem dX2_termAt_18 : decode cX2_termAt 18 = .ok (.iadd, 1) := by decide +kernel
theorem dX2_termAt_19 : decode cX2_termAt 19 = .ok (.iaload, 1) := by decide +kernel
theorem dX2_termAt_20 : decode cX2_termAt 20 = .ok (.goto 4, 3) := by decide +kernel
theorem dX2_termAt_23 : decode cX2_termAt 23 = .ok (.iconst (-1), 1) := by decide +kernel
theorem dX2_termAt_24 : decode cX2_termAt 24 = .ok (.ireturn, 1) := by decide +kernel
theorem dX3_init_0 : decode cX3_init 0 = .ok (.aload_n 0, 1) := by decide +kernel
theorem dX3_init_1 : decode cX3_init 1 = .ok (.invokespecial 3, 3) := by decide +kernel
theorem dX3_init_4 : decode cX3_init 4 = .ok (.aload_n 0, 1) := by decide +kernel
theorem dX3_init_5 : decode cX3_init 5 = .ok (.bipush 40, 2) := by decide +kernel
theorem dX3_init_7 : decode cX3_init 7 = .ok (.anewarray 11, 3) := by decide +kernel
theorem dX3_init_10 : decode cX3_init 10 = .ok (.putfield 13, 3) := by decide +kernel
theorem dX3_init_13 : decode cX3_init 13 = .ok (.iconst 0, 1) := by decide +kernel
theorem dX3_init_14 : decode cX3_init 14 = .ok (.istore_n 1, 1) := by decide +kernel
theorem dX3_init_15 : decode cX3_init 15 = .ok (.iload_n 1, 1) := by decide +kernel
theorem dX3_init_16 : decode cX3_init 16 = .ok (.bipush 40, 2) := by decide +kernel
theorem dX3_init_18 : decode cX3_init 18 = .ok (.if_icmp .ge 22, 3) := by decide +kernel
theorem dX3_init_21 : decode cX3_init 21 = .ok (.aload_n 0, 1) := by decide +kernel
theorem dX3_init_22 : decode cX3_init 22 = .ok (.getfield 13, 3) := by decide +kernel
theorem dX3_init_25 : decode cX3_init 25 = .ok (.iload_n 1, 1) := by decide +kernel
theorem dX3_init_26 : decode cX3_init 26 = .ok (.new 11, 3) := by decide +kernel
theorem dX3_init_29 : decode cX3_init 29 = .ok (.dup, 1) := by decide +kernel
theorem dX3_init_30 : decode cX3_init 30 = .ok (.invokespecial 17, 3) := by decide +kernel
theorem dX3_init_33 : decode cX3_init 33 = .ok (.aastore, 1) := by decide +kernel
theorem dX3_init_34 : decode cX3_init 34 = .ok (.iinc 1 1, 3) := by decide +kernel
theorem dX3_init_37 : decode cX3_init 37 = .ok (.goto (-22), 3) := by decide +kernel
theorem dX3_init_40 : decode cX3_init 40 = .ok (.aload_n 0, 1) := by decide +kernel
theorem dX3_init_41 : decode cX3_init 41 = .ok (.new 11, 3) := by decide +kernel
theorem dX3_init_44 : decode cX3_init 44 = .ok (.dup, 1) := by decide +kernel
theorem dX3_init_45 : decode cX3_init 45 = .ok (.invokespecial 17, 3) := by decide +kernel
theorem dX3_init_48 : decode cX3_init 48 = .ok (.putfield 18, 3) := by decide +kernel
theorem dX3_init_51 : decode cX3_init 51 = .ok (.return_, 1) := by decide +kernel
theorem dX3_clear_0 : decode cX3_clear 0 = .ok (.iconst 0, 1) := by decide +kernel
theorem dX3_clear_1 : decode cX3_clear 1 = .ok (.istore_n 1, 1) := by decide +kernel
theorem dX3_clear_2 : decode cX3_clear 2 = .ok (.iload_n 1, 1) := by decide +kernel
theorem dX3_clear_3 : decode cX3_clear 3 = .ok (.bipush 40, 2) := by decide +kernel
theorem dX3_clear_5 : decode cX3_clear 5 = .ok (.if_icmp .ge 19, 3) := by decide +kernel
theorem dX3_clear_8 : decode cX3_clear 8 = .ok (.aload_n 0, 1) := by decide +kernel
theorem dX3_clear_9 : decode cX3_clear 9 = .ok (.getfield 13, 3) := by decide +kernel
theorem dX3_clear_12 : decode cX3_clear 12 = .ok (.iload_n 1, 1) := by decide +kernel
theorem dX3_clear_13 : decode cX3_clear 13 = .ok (.aaload, 1) := by decide +kernel
theorem dX3_clear_14 : decode cX3_clear 14 = .ok (.iconst (-1), 1) := by decide +kernel
theorem dX3_clear_15 : decode cX3_clear 15 = .ok (.putfield 22, 3) := by decide +kernel
theorem dX3_clear_18 : decode cX3_clear 18 = .ok (.iinc 1 1, 3) := by decide +kernel
theorem dX3_clear_21 : decode cX3_clear 21 = .ok (.goto (-19), 3) := by decide +kernel
theorem dX3_clear_24 : decode cX3_clear 24 = .ok (.return_, 1) := by decide +kernel
theorem dX3_copyFrom_0 : decode cX3_copyFrom 0 = .ok (.iconst 0, 1) := by decide +kernel
theorem dX3_copyFrom_1 : decode cX3_copyFrom 1 = .ok (.istore_n 2, 1) := by decide +kernel
theorem dX3_copyFrom_2 : decode cX3_copyFrom 2 = .ok (.iload_n 2, 1) := by decide +kernel
theorem dX3_copyFrom_3 : decode cX3_copyFrom 3 = .ok (.bipush 40, 2) := by decide +kernel
theorem dX3_copyFrom_5 : decode cX3_copyFrom 5 = .ok (.if_icmp .ge 24, 3) := by decide +kernel
theorem dX3_copyFrom_8 : decode cX3_copyFrom 8 = .ok (.aload_n 0, 1) := by decide +kernel
theorem dX3_copyFrom_9 : decode cX3_copyFrom 9 = .ok (.getfield 13, 3) := by decide +kernel
theorem dX3_copyFrom_12 : decode cX3_copyFrom 12 = .ok (.iload_n 2, 1) := by decide +kernel
theorem dX3_copyFrom_13 : decode cX3_copyFrom 13 = .ok (.aaload, 1) := by decide +kernel
theorem dX3_copyFrom_14 : decode cX3_copyFrom 14 = .ok (.aload_n 1, 1) := by decide +kernel
theorem dX3_copyFrom_15 : decode cX3_copyFrom 15 = .ok (.getfield 13, 3) := by decide +kernel
theorem dX3_copyFrom_18 : decode cX3_copyFrom 18 = .ok (.iload_n 2, 1) := by decide +kernel
theorem dX3_copyFrom_19 : decode cX3_copyFrom 19 = .ok (.aaload, 1) := by decide +kernel
theorem dX3_copyFrom_20 : decode cX3_copyFrom 20 = .ok (.invokevirtual 26, 3) := by decide +kernel
theorem dX3_copyFrom_23 : decode cX3_copyFrom 23 = .ok (.iinc 2 1, 3) := by decide +kernel
theorem dX3_copyFrom_26 : decode cX3_copyFrom 26 = .ok (.goto (-24), 3) := by decide +kernel
theorem dX3_copyFrom_29 : decode cX3_copyFrom 29 = .ok (.return_, 1) := by decide +kernel
theorem dX3_isFull_0 : decode cX3_isFull 0 = .ok (.iload_n 1, 1) := by decide +kernel
theorem dX3_isFull_1 : decode cX3_isFull 1 = .ok (.ifCond .lt 26, 3) := by decide +kernel
theorem dX3_isFull_4 : decode cX3_isFull 4 = .ok (.iload_n 1, 1) := by decide +kernel
theorem dX3_isFull_5 : decode cX3_isFull 5 = .ok (.bipush 40, 2) := by decide +kernel
theorem dX3_isFull_7 : decode cX3_isFull 7 = .ok (.if_icmp .ge 20, 3) := by decide +kernel
theorem dX3_isFull_10 : decode cX3_isFull 10 = .ok (.aload_n 0, 1) := by decide +kernel
theorem dX3_isFull_11 : decode cX3_isFull 11 = .ok (.getfield 13, 3) := by decide +kernel
theorem dX3_isFull_14 : decode cX3_isFull 14 = .ok (.iload_n 1, 1) := by decide +kernel
theorem dX3_isFull_15 : decode cX3_isFull 15 = .ok (.aaload, 1) := by decide +kernel
theorem dX3_isFull_16 : decode cX3_isFull 16 = .ok (.getfield 22, 3) := by decide +kernel
theorem dX3_isFull_19 : decode cX3_isFull 19 = .ok (.iconst (-1), 1) := by decide +kernel
theorem dX3_isFull_20 : decode cX3_isFull 20 = .ok (.if_icmp .eq 7, 3) := by decide +kernel
theorem dX3_isFull_23 : decode cX3_isFull 23 = .ok (.iconst 1, 1) := by decide +kernel
theorem dX3_isFull_24 : decode cX3_isFull 24 = .ok (.goto 4, 3) := by decide +kernel
theorem dX3_isFull_27 : decode cX3_isFull 27 = .ok (.iconst 0, 1) := by decide +kernel
theorem dX3_isFull_28 : decode cX3_isFull 28 = .ok (.ireturn, 1) := by decide +kernel
theorem dX3_countFull_0 : decode cX3_countFull 0 = .ok (.iconst 0, 1) := by decide +kernel
theorem dX3_countFull_1 : decode cX3_countFull 1 = .ok (.istore_n 1, 1) := by decide +kernel
theorem dX3_countFull_2 : decode cX3_countFull 2 = .ok (.iconst 0, 1) := by decide +kernel
theorem dX3_countFull_3 : decode cX3_countFull 3 = .ok (.istore_n 2, 1) := by decide +kernel
theorem dX3_countFull_4 : decode cX3_countFull 4 = .ok (.iload_n 2, 1) := by decide +kernel
theorem dX3_countFull_5 : decode cX3_countFull 5 = .ok (.bipush 40, 2) := by decide +kernel
theorem dX3_countFull_7 : decode cX3_countFull 7 = .ok (.if_icmp .ge 30, 3) := by decide +kernel
theorem dX3_countFull_10 : decode cX3_countFull 10 = .ok (.iload_n 1, 1) := by decide +kernel
theorem dX3_countFull_11 : decode cX3_countFull 11 = .ok (.aload_n 0, 1) := by decide +kernel
theorem dX3_countFull_12 : decode cX3_countFull 12 = .ok (.getfield 13, 3) := by decide +kernel
theorem dX3_countFull_15 : decode cX3_countFull 15 = .ok (.iload_n 2, 1) := by decide +kernel
theorem dX3_countFull_16 : decode cX3_countFull 16 = .ok (.aaload, 1) := by decide +kernel
theorem dX3_countFull_17 : decode cX3_countFull 17 = .ok (.getfield 22, 3) := by decide +kernel
theorem dX3_countFull_20 : decode cX3_countFull 20 = .ok (.iconst (-1), 1) := by decide +kernel
theorem dX3_countFull_21 : decode cX3_countFull 21 = .ok (.if_icmp .ne 7, 3) := by decide +kernel
theorem dX3_countFull_24 : decode cX3_countFull 24 = .ok (.iconst 0, 1) := by decide +kernel
theorem dX3_countFull_25 : decode cX3_countFull 25 = .ok (.goto 4, 3) := by decide +kernel
theorem dX3_countFull_28 : decode cX3_countFull 28 = .ok (.iconst 1, 1) := by decide +kernel
theorem dX3_countFull_29 : decode cX3_countFull 29 = .ok (.iadd, 1) := by decide +kernel
theorem dX3_countFull_30 : decode cX3_countFull 30 = .ok (.istore_n 1, 1) := by decide +kernel
theorem dX3_countFull_31 : decode cX3_countFull 31 = .ok (.iinc 2 1, 3) := by decide +kernel
theorem dX3_countFull_34 : decode cX3_countFull 34 = .ok (.goto (-30), 3) := by decide +kernel
theorem dX3_countFull_37 : decode cX3_countFull 37 = .ok (.iload_n 1, 1) := by decide +kernel
theorem dX3_countFull_38 : decode cX3_countFull 38 = .ok (.ireturn, 1) := by decide +kernel
theorem dX3_leastEmpty_0 : decode cX3_leastEmpty 0 = .ok (.iconst 0, 1) := by decide +kernel
theorem dX3_leastEmpty_1 : decode cX3_leastEmpty 1 = .ok (.istore_n 1, 1) := by decide +kernel
theorem dX3_leastEmpty_2 : decode cX3_leastEmpty 2 = .ok (.iload_n 1, 1) := by decide +kernel
theorem dX3_leastEmpty_3 : decode cX3_leastEmpty 3 = .ok (.bipush 40, 2) := by decide +kernel
theorem dX3_leastEmpty_5 : decode cX3_leastEmpty 5 = .ok (.if_icmp .ge 24, 3) := by decide +kernel
theorem dX3_leastEmpty_8 : decode cX3_leastEmpty 8 = .ok (.aload_n 0, 1) := by decide +kernel
theorem dX3_leastEmpty_9 : decode cX3_leastEmpty 9 = .ok (.getfield 13, 3) := by decide +kernel
theorem dX3_leastEmpty_12 : decode cX3_leastEmpty 12 = .ok (.iload_n 1, 1) := by decide +kernel
theorem dX3_leastEmpty_13 : decode cX3_leastEmpty 13 = .ok (.aaload, 1) := by decide +kernel
theorem dX3_leastEmpty_14 : decode cX3_leastEmpty 14 = .ok (.getfield 22, 3) := by decide +kernel
theorem dX3_leastEmpty_17 : decode cX3_leastEmpty 17 = .ok (.iconst (-1), 1) := by decide +kernel
theorem dX3_leastEmpty_18 : decode cX3_leastEmpty 18 = .ok (.if_icmp .ne 5, 3) := by decide +kernel
theorem dX3_leastEmpty_21 : decode cX3_leastEmpty 21 = .ok (.iload_n 1, 1) := by decide +kernel
theorem dX3_leastEmpty_22 : decode cX3_leastEmpty 22 = .ok (.ireturn, 1) := by decide +kernel
theorem dX3_leastEmpty_23 : decode cX3_leastEmpty 23 = .ok (.iinc 1 1, 3) := by decide +kernel
theorem dX3_leastEmpty_26 : decode cX3_leastEmpty 26 = .ok (.goto (-24), 3) := by decide +kernel
theorem dX3_leastEmpty_29 : decode cX3_leastEmpty 29 = .ok (.iconst (-1), 1) := by decide +kernel
theorem dX3_leastEmpty_30 : decode cX3_leastEmpty 30 = .ok (.ireturn, 1) := by decide +kernel
theorem dX3_takeOut_0 : decode cX3_takeOut 0 = .ok (.aload_n 0, 1) := by decide +kernel
theorem dX3_takeOut_1 : decode cX3_takeOut 1 = .ok (.iload_n 1, 1) := by decide +kernel
theorem dX3_takeOut_2 : decode cX3_takeOut 2 = .ok (.invokevirtual 30, 3) := by decide +kernel
theorem dX3_takeOut_5 : decode cX3_takeOut 5 = .ok (.ifCond .eq 26, 3) := by decide +kernel
theorem dX3_takeOut_8 : decode cX3_takeOut 8 = .ok (.aload_n 0, 1) := by decide +kernel
theorem dX3_takeOut_9 : decode cX3_takeOut 9 = .ok (.getfield 18, 3) := by decide +kernel
theorem dX3_takeOut_12 : decode cX3_takeOut 12 = .ok (.aload_n 0, 1) := by decide +kernel
theorem dX3_takeOut_13 : decode cX3_takeOut 13 = .ok (.getfield 13, 3) := by decide +kernel
theorem dX3_takeOut_16 : decode cX3_takeOut 16 = .ok (.iload_n 1, 1) := by decide +kernel
theorem dX3_takeOut_17 : decode cX3_takeOut 17 = .ok (.aaload, 1) := by decide +kernel
theorem dX3_takeOut_18 : decode cX3_takeOut 18 = .ok (.invokevirtual 26, 3) := by decide +kernel
theorem dX3_takeOut_21 : decode cX3_takeOut 21 = .ok (.aload_n 0, 1) := by decide +kernel
theorem dX3_takeOut_22 : decode cX3_takeOut 22 = .ok (.getfield 13, 3) := by decide +kernel
theorem dX3_takeOut_25 : decode cX3_takeOut 25 = .ok (.iload_n 1, 1) := by decide +kernel
theorem dX3_takeOut_26 : decode cX3_takeOut 26 = .ok (.aaload, 1) := by decide +kernel
theorem dX3_takeOut_27 : decode cX3_takeOut 27 = .ok (.iconst (-1), 1) := by decide +kernel
theorem dX3_takeOut_28 : decode cX3_takeOut 28 = .ok (.putfield 22, 3) := by decide +kernel
theorem dX3_takeOut_31 : decode cX3_takeOut 31 = .ok (.aload_n 0, 1) := by decide +kernel
theorem dX3_takeOut_32 : decode cX3_takeOut 32 = .ok (.getfield 18, 3) := by decide +kernel
theorem dX3_takeOut_35 : decode cX3_takeOut 35 = .ok (.areturn, 1) := by decide +kernel
theorem dX4_init_0 : decode cX4_init 0 = .ok (.aload_n 0, 1) := by decide +kernel
theorem dX4_init_1 : decode cX4_init 1 = .ok (.invokespecial 3, 3) := by decide +kernel
theorem dX4_init_4 : decode cX4_init 4 = .ok (.aload_n 0, 1) := by decide +kernel
theorem dX4_init_5 : decode cX4_init 5 = .ok (.bipush 40, 2) := by decide +kernel
theorem dX4_init_7 : decode cX4_init 7 = .ok (.newarray .int, 2) := by decide +kernel
theorem dX4_init_9 : decode cX4_init 9 = .ok (.putfield 11, 3) := by decide +kernel
theorem dX4_init_12 : decode cX4_init 12 = .ok (.aload_n 0, 1) := by decide +kernel
theorem dX4_init_13 : decode cX4_init 13 = .ok (.bipush 40, 2) := by decide +kernel
theorem dX4_init_15 : decode cX4_init 15 = .ok (.newarray .int, 2) := by decide +kernel
theorem dX4_init_17 : decode cX4_init 17 = .ok (.putfield 15, 3) := by decide +kernel
theorem dX4_init_20 : decode cX4_init 20 = .ok (.aload_n 0, 1) := by decide +kernel
theorem dX4_init_21 : decode cX4_init 21 = .ok (.bipush 40, 2) := by decide +kernel
theorem dX4_init_23 : decode cX4_init 23 = .ok (.newarray .int, 2) := by decide +kernel
theorem dX4_init_25 : decode cX4_init 25 = .ok (.putfield 18, 3) := by decide +kernel
theorem dX4_init_28 : decode cX4_init 28 = .ok (.aload_n 0, 1) := by decide +kernel
theorem dX4_init_29 : decode cX4_init 29 = .ok (.bipush 40, 2) := by decide +kernel
theorem dX4_init_31 : decode cX4_init 31 = .ok (.newarray .int, 2) := by decide +kernel
theorem dX4_init_33 : decode cX4_init 33 = .ok (.putfield 21, 3) := by decide +kernel
theorem dX4_init_36 : decode cX4_init 36 = .ok (.return_, 1) := by decide +kernel
theorem dX4_isThere_0 : decode cX4_isThere 0 = .ok (.iload_n 1, 1) := by decide +kernel
theorem dX4_isThere_1 : decode cX4_isThere 1 = .ok (.ifCond .lt 21, 3) := by decide +kernel
theorem dX4_isThere_4 : decode cX4_isThere 4 = .ok (.iload_n 1, 1) := by decide +kernel
theorem dX4_isThere_5 : decode cX4_isThere 5 = .ok (.aload_n 0, 1) := by decide +kernel
theorem dX4_isThere_6 : decode cX4_isThere 6 = .ok (.getfield 24, 3) := by decide +kernel
theorem dX4_isThere_9 : decode cX4_isThere 9 = .ok (.if_icmp .ge 13, 3) := by decide +kernel
theorem dX4_isThere_12 : decode cX4_isThere 12 = .ok (.iload_n 1, 1) := by decide +kernel
theorem dX4_isThere_13 : decode cX4_isThere 13 = .ok (.bipush 40, 2) := by decide +kernel
theorem dX4_isThere_15 : decode cX4_isThere 15 = .ok (.if_icmp .ge 7, 3) := by decide +kernel
theorem dX4_isThere_18 : decode cX4_isThere 18 = .ok (.iconst 1, 1) := by decide +kernel
theorem dX4_isThere_19 : decode cX4_isThere 19 = .ok (.goto 4, 3) := by decide +kernel
theorem dX4_isThere_22 : decode cX4_isThere 22 = .ok (.iconst 0, 1) := by decide +kernel
theorem dX4_isThere_23 : decode cX4_isThere 23 = .ok (.ireturn, 1) := by decide +kernel
theorem dX4_add_0 : decode cX4_add 0 = .ok (.aload_n 0, 1) := by decide +kernel
theorem dX4_add_1 : decode cX4_add 1 = .ok (.getfield 24, 3) := by decide +kernel
theorem dX4_add_4 : decode cX4_add 4 = .ok (.bipush 40, 2) := by decide +kernel
theorem dX4_add_6 : decode cX4_add 6 = .ok (.if_icmp .lt 5, 3) := by decide +kernel
theorem dX4_add_9 : decode cX4_add 9 = .ok (.iconst (-1), 1) := by decide +kernel
theorem dX4_add_10 : decode cX4_add 10 = .ok (.ireturn, 1) := by decide +kernel
theorem dX4_add_11 : decode cX4_add 11 = .ok (.aload_n 0, 1) := by decide +kernel
theorem dX4_add_12 : decode cX4_add 12 = .ok (.getfield 11, 3) := by decide +kernel
theorem dX4_add_15 : decode cX4_add 15 = .ok (.aload_n 0, 1) := by decide +kernel
theorem dX4_add_16 : decode cX4_add 16 = .ok (.getfield 24, 3) := by decide +kernel
theorem dX4_add_19 : decode cX4_add 19 = .ok (.iload_n 1, 1) := by decide +kernel
theorem dX4_add_20 : decode cX4_add 20 = .ok (.iastore, 1) := by decide +kernel
theorem dX4_add_21 : decode cX4_add 21 = .ok (.aload_n 0, 1) := by decide +kernel
theorem dX4_add_22 : decode cX4_add 22 = .ok (.getfield 15, 3) := by decide +kernel
theorem dX4_add_25 : decode cX4_add 25 = .ok (.aload_n 0, 1) := by decide +kernel
theorem dX4_add_26 : decode cX4_add 26 = .ok (.getfield 24, 3) := by decide +kernel
theorem dX4_add_29 : decode cX4_add 29 = .ok (.iload_n 2, 1) := by decide +kernel
theorem dX4_add_30 : decode cX4_add 30 = .ok (.iastore, 1) := by decide +kernel
theorem dX4_add_31 : decode cX4_add 31 = .ok (.aload_n 0, 1) := by decide +kernel
theorem dX4_add_32 : decode cX4_add 32 = .ok (.getfield 18, 3) := by decide +kernel
theorem dX4_add_35 : decode cX4_add 35 = .ok (.aload_n 0, 1) := by decide +kernel
theorem dX4_add_36 : decode cX4_add 36 = .ok (.getfield 24, 3) := by decide +kernel
theorem dX4_add_39 : decode cX4_add 39 = .ok (.iload_n 3, 1) := by decide +kernel
theorem dX4_add_40 : decode cX4_add 40 = .ok (.iastore, 1) := by decide +kernel
theorem dX4_add_41 : decode cX4_add 41 = .ok (.aload_n 0, 1) := by decide +kernel
theorem dX4_add_42 : decode cX4_add 42 = .ok (.getfield 21, 3) := by decide +kernel
theorem dX4_add_45 : decode cX4_add 45 = .ok (.aload_n 0, 1) := by decide +kernel
theorem dX4_add_46 : decode cX4_add 46 = .ok (.getfield 24, 3) := by decide +kernel
theorem dX4_add_49 : decode cX4_add 49 = .ok (.iload 4, 2) := by decide +kernel
theorem dX4_add_51 : decode cX4_add 51 = .ok (.iastore, 1) := by decide +kernel
theorem dX4_add_52 : decode cX4_add 52 = .ok (.aload_n 0, 1) := by decide +kernel
theorem dX4_add_53 : decode cX4_add 53 = .ok (.dup, 1) := by decide +kernel
theorem dX4_add_54 : decode cX4_add 54 = .ok (.getfield 24, 3) := by decide +kernel
theorem dX4_add_57 : decode cX4_add 57 = .ok (.iconst 1, 1) := by decide +kernel
theorem dX4_add_58 : decode cX4_add 58 = .ok (.iadd, 1) := by decide +kernel
theorem dX4_add_59 : decode cX4_add 59 = .ok (.putfield 24, 3) := by decide +kernel
theorem dX4_add_62 : decode cX4_add 62 = .ok (.aload_n 0, 1) := by decide +kernel
theorem dX4_add_63 : decode cX4_add 63 = .ok (.getfield 24, 3) := by decide +kernel
theorem dX4_add_66 : decode cX4_add 66 = .ok (.iconst 1, 1) := by decide +kernel
theorem dX4_add_67 : decode cX4_add 67 = .ok (.isub, 1) := by decide +kernel
theorem dX4_add_68 : decode cX4_add 68 = .ok (.ireturn, 1) := by decide +kernel
theorem dX4_copyFrom_0 : decode cX4_copyFrom 0 = .ok (.aload_n 1, 1) := by decide +kernel
theorem dX4_copyFrom_1 : decode cX4_copyFrom 1 = .ok (.getfield 11, 3) := by decide +kernel
theorem dX4_copyFrom_4 : decode cX4_copyFrom 4 = .ok (.iconst 0, 1) := by decide +kernel
theorem dX4_copyFrom_5 : decode cX4_copyFrom 5 = .ok (.aload_n 0, 1) := by decide +kernel
theorem dX4_copyFrom_6 : decode cX4_copyFrom 6 = .ok (.getfield 11, 3) := by decide +kernel
theorem dX4_copyFrom_9 : decode cX4_copyFrom 9 = .ok (.iconst 0, 1) := by decide +kernel
theorem dX4_copyFrom_10 : decode cX4_copyFrom 10 = .ok (.bipush 40, 2) := by decide +kernel
theorem dX4_copyFrom_12 : decode cX4_copyFrom 12 = .ok (.invokestatic 28, 3) := by decide +kernel
theorem dX4_copyFrom_15 : decode cX4_copyFrom 15 = .ok (.aload_n 1, 1) := by decide +kernel
theorem dX4_copyFrom_16 : decode cX4_copyFrom 16 = .ok (.getfield 15, 3) := by decide +kernel
theorem dX4_copyFrom_19 : decode cX4_copyFrom 19 = .ok (.iconst 0, 1) := by decide +kernel
theorem dX4_copyFrom_20 : decode cX4_copyFrom 20 = .ok (.aload_n 0, 1) := by decide +kernel
theorem dX4_copyFrom_21 : decode cX4_copyFrom 21 = .ok (.getfield 15, 3) := by decide +kernel
theorem dX4_copyFrom_24 : decode cX4_copyFrom 24 = .ok (.iconst 0, 1) := by decide +kernel
theorem dX4_copyFrom_25 : decode cX4_copyFrom 25 = .ok (.bipush 40, 2) := by decide +kernel
theorem dX4_copyFrom_27 : decode cX4_copyFrom 27 = .ok (.invokestatic 28, 3) := by decide +kernel
theorem dX4_copyFrom_30 : decode cX4_copyFrom 30 = .ok (.aload_n 1, 1) := by decide +kernel
theorem dX4_copyFrom_31 : decode cX4_copyFrom 31 = .ok (.getfield 18, 3) := by decide +kernel
theorem dX4_copyFrom_34 : decode cX4_copyFrom 34 = .ok (.iconst 0, 1) := by decide +kernel
theorem dX4_copyFrom_35 : decode cX4_copyFrom 35 = .ok (.aload_n 0, 1) := by decide +kernel
theorem dX4_copyFrom_36 : decode cX4_copyFrom 36 = .ok (.getfield 18, 3) := by decide +kernel
theorem dX4_copyFrom_39 : decode cX4_copyFrom 39 = .ok (.iconst 0, 1) := by decide +kernel
theorem dX4_copyFrom_40 : decode cX4_copyFrom 40 = .ok (.bipush 40, 2) := by decide +kernel
theorem dX4_copyFrom_42 : decode cX4_copyFrom 42 = .ok (.invokestatic 28, 3) := by decide +kernel
theorem dX4_copyFrom_45 : decode cX4_copyFrom 45 = .ok (.aload_n 1, 1) := by decide +kernel
theorem dX4_copyFrom_46 : decode cX4_copyFrom 46 = .ok (.getfield 21, 3) := by decide +kernel
theorem dX4_copyFrom_49 : decode cX4_copyFrom 49 = .ok (.iconst 0, 1) := by decide +kernel
theorem dX4_copyFrom_50 : decode cX4_copyFrom 50 = .ok (.aload_n 0, 1) := by decide +kernel
theorem dX4_copyFrom_51 : decode cX4_copyFrom 51 = .ok (.getfield 21, 3) := by decide +kernel
theorem dX4_copyFrom_54 : decode cX4_copyFrom 54 = .ok (.iconst 0, 1) := by decide +kernel
theorem dX4_copyFrom_55 : decode cX4_copyFrom 55 = .ok (.bipush 40, 2) := by decide +kernel
theorem dX4_copyFrom_57 : decode cX4_copyFrom 57 = .ok (.invokestatic 28, 3) := by decide +kernel
theorem dX4_copyFrom_60 : decode cX4_copyFrom 60 = .ok (.aload_n 0, 1) := by decide +kernel
theorem dX4_copyFrom_61 : decode cX4_copyFrom 61 = .ok (.aload_n 1, 1) := by decide +kernel
theorem dX4_copyFrom_62 : decode cX4_copyFrom 62 = .ok (.getfield 24, 3) := by decide +kernel
theorem dX4_copyFrom_65 : decode cX4_copyFrom 65 = .ok (.putfield 24, 3) := by decide +kernel
theorem dX4_copyFrom_68 : decode cX4_copyFrom 68 = .ok (.return_, 1) := by decide +kernel
theorem dX5_init_0 : decode cX5_init 0 = .ok (.aload_n 0, 1) := by decide +kernel
theorem dX5_init_1 : decode cX5_init 1 = .ok (.invokespecial 3, 3) := by decide +kernel
theorem dX5_init_4 : decode cX5_init 4 = .ok (.aload_n 0, 1) := by decide +kernel
theorem dX5_init_5 : decode cX5_init 5 = .ok (.bipush 20, 2) := by decide +kernel
theorem dX5_init_7 : decode cX5_init 7 = .ok (.newarray .int, 2) := by decide +kernel
theorem dX5_init_9 : decode cX5_init 9 = .ok (.putfield 11, 3) := by decide +kernel
theorem dX5_init_12 : decode cX5_init 12 = .ok (.return_, 1) := by decide +kernel
theorem dX5_clear_0 : decode cX5_clear 0 = .ok (.iconst 0, 1) := by decide +kernel
theorem dX5_clear_1 : decode cX5_clear 1 = .ok (.istore_n 1, 1) := by decide +kernel
theorem dX5_clear_2 : decode cX5_clear 2 = .ok (.iload_n 1, 1) := by decide +kernel
theorem dX5_clear_3 : decode cX5_clear 3 = .ok (.bipush 20, 2) := by decide +kernel
theorem dX5_clear_5 : decode cX5_clear 5 = .ok (.if_icmp .ge 16, 3) := by decide +kernel
theorem dX5_clear_8 : decode cX5_clear 8 = .ok (.aload_n 0, 1) := by decide +kernel
theorem dX5_clear_9 : decode cX5_clear 9 = .ok (.getfield 11, 3) := by decide +kernel
theorem dX5_clear_12 : decode cX5_clear 12 = .ok (.iload_n 1, 1) := by decide +kernel
theorem dX5_clear_13 : decode cX5_clear 13 = .ok (.iconst 0, 1) := by decide +kernel
theorem dX5_clear_14 : decode cX5_clear 14 = .ok (.iastore, 1) := by decide +kernel
theorem dX5_clear_15 : decode cX5_clear 15 = .ok (.iinc 1 1, 3) := by decide +kernel
theorem dX5_clear_18 : decode cX5_clear 18 = .ok (.goto (-16), 3) := by decide +kernel
theorem dX5_clear_21 : decode cX5_clear 21 = .ok (.return_, 1) := by decide +kernel
theorem dX5_copyFrom_0 : decode cX5_copyFrom 0 = .ok (.aload_n 1, 1) := by decide +kernel
theorem dX5_copyFrom_1 : decode cX5_copyFrom 1 = .ok (.getfield 11, 3) := by decide +kernel
theorem dX5_copyFrom_4 : decode cX5_copyFrom 4 = .ok (.iconst 0, 1) := by decide +kernel
theorem dX5_copyFrom_5 : decode cX5_copyFrom 5 = .ok (.aload_n 0, 1) := by decide +kernel
theorem dX5_copyFrom_6 : decode cX5_copyFrom 6 = .ok (.getfield 11, 3) := by decide +kernel
theorem dX5_copyFrom_9 : decode cX5_copyFrom 9 = .ok (.iconst 0, 1) := by decide +kernel
theorem dX5_copyFrom_10 : decode cX5_copyFrom 10 = .ok (.bipush 20, 2) := by decide +kernel
theorem dX5_copyFrom_12 : decode cX5_copyFrom 12 = .ok (.invokestatic 15, 3) := by decide +kernel
theorem dX5_copyFrom_15 : decode cX5_copyFrom 15 = .ok (.return_, 1) := by decide +kernel
theorem dX5_cellAt_0 : decode cX5_cellAt 0 = .ok (.iload_n 1, 1) := by decide +kernel
theorem dX5_cellAt_1 : decode cX5_cellAt 1 = .ok (.invokestatic 21, 3) := by decide +kernel
theorem dX5_cellAt_4 : decode cX5_cellAt 4 = .ok (.ifCond .eq 12, 3) := by decide +kernel
theorem dX5_cellAt_7 : decode cX5_cellAt 7 = .ok (.aload_n 0, 1) := by decide +kernel
theorem dX5_cellAt_8 : decode cX5_cellAt 8 = .ok (.getfield 11, 3) := by decide +kernel
theorem dX5_cellAt_11 : decode cX5_cellAt 11 = .ok (.iload_n 1, 1) := by decide +kernel
theorem dX5_cellAt_12 : decode cX5_cellAt 12 = .ok (.iaload, 1) := by decide +kernel
theorem dX5_cellAt_13 : decode cX5_cellAt 13 = .ok (.goto 5, 3) := by decide +kernel
theorem dX5_cellAt_16 : decode cX5_cellAt 16 = .ok (.ldc 25, 2) := by decide +kernel
theorem dX5_cellAt_18 : decode cX5_cellAt 18 = .ok (.ireturn, 1) := by decide +kernel
theorem dX5_latestOf_0 : decode cX5_latestOf 0 = .ok (.iload_n 1, 1) := by decide +kernel
theorem dX5_latestOf_1 : decode cX5_latestOf 1 = .ok (.invokestatic 26, 3) := by decide +kernel
theorem dX5_latestOf_4 : decode cX5_latestOf 4 = .ok (.ifCond .eq 15, 3) := by decide +kernel
theorem dX5_latestOf_7 : decode cX5_latestOf 7 = .ok (.aload_n 0, 1) := by decide +kernel
theorem dX5_latestOf_8 : decode cX5_latestOf 8 = .ok (.getfield 11, 3) := by decide +kernel
theorem dX5_latestOf_11 : decode cX5_latestOf 11 = .ok (.bipush 8, 2) := by decide +kernel
theorem dX5_latestOf_13 : decode cX5_latestOf 13 = .ok (.iload_n 1, 1) := by decide +kernel
theorem dX5_latestOf_14 : decode cX5_latestOf 14 = .ok (.iadd, 1) := by decide +kernel
theorem dX5_latestOf_15 : decode cX5_latestOf 15 = .ok (.iaload, 1) := by decide +kernel
theorem dX5_latestOf_16 : decode cX5_latestOf 16 = .ok (.goto 5, 3) := by decide +kernel
theorem dX5_latestOf_19 : decode cX5_latestOf 19 = .ok (.ldc 25, 2) := by decide +kernel
theorem dX5_latestOf_21 : decode cX5_latestOf 21 = .ok (.ireturn, 1) := by decide +kernel
theorem dX5_answerOf_0 : decode cX5_answerOf 0 = .ok (.iload_n 1, 1) := by decide +kernel
theorem dX5_answerOf_1 : decode cX5_answerOf 1 = .ok (.invokestatic 26, 3) := by decide +kernel
theorem dX5_answerOf_4 : decode cX5_answerOf 4 = .ok (.ifCond .eq 15, 3) := by decide +kernel
theorem dX5_answerOf_7 : decode cX5_answerOf 7 = .ok (.aload_n 0, 1) := by decide +kernel
theorem dX5_answerOf_8 : decode cX5_answerOf 8 = .ok (.getfield 11, 3) := by decide +kernel
theorem dX5_answerOf_11 : decode cX5_answerOf 11 = .ok (.bipush 14, 2) := by decide +kernel
theorem dX5_answerOf_13 : decode cX5_answerOf 13 = .ok (.iload_n 1, 1) := by decide +kernel
theorem dX5_answerOf_14 : decode cX5_answerOf 14 = .ok (.iadd, 1) := by decide +kernel
theorem dX5_answerOf_15 : decode cX5_answerOf 15 = .ok (.iaload, 1) := by decide +kernel
theorem dX5_answerOf_16 : decode cX5_answerOf 16 = .ok (.goto 5, 3) := by decide +kernel
theorem dX5_answerOf_19 : decode cX5_answerOf 19 = .ok (.ldc 25, 2) := by decide +kernel
theorem dX5_answerOf_21 : decode cX5_answerOf 21 = .ok (.ireturn, 1) := by decide +kernel
theorem dX5_take_0 : decode cX5_take 0 = .ok (.iload_n 2, 1) := by decide +kernel
theorem dX5_take_1 : decode cX5_take 1 = .ok (.ifCond .lt 12, 3) := by decide +kernel
theorem dX5_take_4 : decode cX5_take 4 = .ok (.iload_n 2, 1) := by decide +kernel
theorem dX5_take_5 : decode cX5_take 5 = .ok (.aload_n 1, 1) := by decide +kernel
theorem dX5_take_6 : decode cX5_take 6 = .ok (.arraylength, 1) := by decide +kernel
theorem dX5_take_7 : decode cX5_take 7 = .ok (.bipush 6, 2) := by decide +kernel
theorem dX5_take_9 : decode cX5_take 9 = .ok (.isub, 1) := by decide +kernel
theorem dX5_take_10 : decode cX5_take 10 = .ok (.if_icmp .le 4, 3) := by decide +kernel
theorem dX5_take_13 : decode cX5_take 13 = .ok (.return_, 1) := by decide +kernel
theorem dX5_take_14 : decode cX5_take 14 = .ok (.aload_n 1, 1) := by decide +kernel
theorem dX5_take_15 : decode cX5_take 15 = .ok (.iload_n 2, 1) := by decide +kernel
theorem dX5_take_16 : decode cX5_take 16 = .ok (.iconst 1, 1) := by decide +kernel
theorem dX5_take_17 : decode cX5_take 17 = .ok (.iadd, 1) := by decide +kernel
theorem dX5_take_18 : decode cX5_take 18 = .ok (.iaload, 1) := by decide +kernel
theorem dX5_take_19 : decode cX5_take 19 = .ok (.istore_n 3, 1) := by decide +kernel
theorem dX5_take_20 : decode cX5_take 20 = .ok (.aload_n 1, 1) := by decide +kernel
theorem dX5_take_21 : decode cX5_take 21 = .ok (.iload_n 2, 1) := by decide +kernel
theorem dX5_take_22 : decode cX5_take 22 = .ok (.iconst 4, 1) := by decide +kernel
theorem dX5_take_23 : decode cX5_take 23 = .ok (.iadd, 1) := by decide +kernel
theorem dX5_take_24 : decode cX5_take 24 = .ok (.iaload, 1) := by decide +kernel
theorem dX5_take_25 : decode cX5_take 25 = .ok (.istore 4, 2) := by decide +kernel
theorem dX5_take_27 : decode cX5_take 27 = .ok (.iload_n 3, 1) := by decide +kernel
theorem dX5_take_28 : decode cX5_take 28 = .ok (.invokestatic 26, 3) := by decide +kernel
theorem dX5_take_31 : decode cX5_take 31 = .ok (.ifCond .eq 28, 3) := by decide +kernel
theorem dX5_take_34 : decode cX5_take 34 = .ok (.iload 4, 2) := by decide +kernel
theorem dX5_take_36 : decode cX5_take 36 = .ok (.invokestatic 21, 3) := by decide +kernel
theorem dX5_take_39 : decode cX5_take 39 = .ok (.ifCond .eq 20, 3) := by decide +kernel
theorem dX5_take_42 : decode cX5_take 42 = .ok (.aload_n 1, 1) := by decide +kernel
theorem dX5_take_43 : decode cX5_take 43 = .ok (.iload_n 2, 1) := by decide +kernel
theorem dX5_take_44 : decode cX5_take 44 = .ok (.iconst 2, 1) := by decide +kernel
theorem dX5_take_45 : decode cX5_take 45 = .ok (.iadd, 1) := by decide +kernel
theorem dX5_take_46 : decode cX5_take 46 = .ok (.iaload, 1) := by decide +kernel
theorem dX5_take_47 : decode cX5_take 47 = .ok (.aload_n 0, 1) := by decide +kernel
theorem dX5_take_48 : decode cX5_take 48 = .ok (.getfield 11, 3) := by decide +kernel
theorem dX5_take_51 : decode cX5_take 51 = .ok (.bipush 8, 2) := by decide +kernel
theorem dX5_take_53 : decode cX5_take 53 = .ok (.iload_n 3, 1) := by decide +kernel
theorem dX5_take_54 : decode cX5_take 54 = .ok (.iadd, 1) := by decide +kernel
theorem dX5_take_55 : decode cX5_take 55 = .ok (.iaload, 1) := by decide +kernel
theorem dX5_take_56 : decode cX5_take 56 = .ok (.if_icmp .gt 4, 3) := by decide +kernel
theorem dX5_take_59 : decode cX5_take 59 = .ok (.return_, 1) := by decide +kernel
theorem dX5_take_60 : decode cX5_take 60 = .ok (.aload_n 1, 1) := by decide +kernel
theorem dX5_take_61 : decode cX5_take 61 = .ok (.iload_n 2, 1) := by decide +kernel
theorem dX5_take_62 : decode cX5_take 62 = .ok (.iconst 3, 1) := by decide +kernel
theorem dX5_take_63 : decode cX5_take 63 = .ok (.iadd, 1) := by decide +kernel
theorem dX5_take_64 : decode cX5_take 64 = .ok (.iaload, 1) := by decide +kernel
theorem dX5_take_65 : decode cX5_take 65 = .ok (.istore 5, 2) := by decide +kernel
theorem dX5_take_67 : decode cX5_take 67 = .ok (.aload_n 0, 1) := by decide +kernel
theorem dX5_take_68 : decode cX5_take 68 = .ok (.getfield 11, 3) := by decide +kernel
theorem dX5_take_71 : decode cX5_take 71 = .ok (.iload 4, 2) := by decide +kernel
theorem dX5_take_73 : decode cX5_take 73 = .ok (.iaload, 1) := by decide +kernel
theorem dX5_take_74 : decode cX5_take 74 = .ok (.istore 6, 2) := by decide +kernel
theorem dX5_take_76 : decode cX5_take 76 = .ok (.aload_n 0, 1) := by decide +kernel
theorem dX5_take_77 : decode cX5_take 77 = .ok (.getfield 11, 3) := by decide +kernel
theorem dX5_take_80 : decode cX5_take 80 = .ok (.iload 4, 2) := by decide +kernel
theorem dX5_take_82 : decode cX5_take 82 = .ok (.iload 5, 2) := by decide +kernel
theorem dX5_take_84 : decode cX5_take 84 = .ok (.iload 6, 2) := by decide +kernel
theorem dX5_take_86 : decode cX5_take 86 = .ok (.aload_n 1, 1) := by decide +kernel
theorem dX5_take_87 : decode cX5_take 87 = .ok (.iload_n 2, 1) := by decide +kernel
theorem dX5_take_88 : decode cX5_take 88 = .ok (.iconst 5, 1) := by decide +kernel
theorem dX5_take_89 : decode cX5_take 89 = .ok (.iadd, 1) := by decide +kernel
theorem dX5_take_90 : decode cX5_take 90 = .ok (.iaload, 1) := by decide +kernel
theorem dX5_take_91 : decode cX5_take 91 = .ok (.invokestatic 29, 3) := by decide +kernel
theorem dX5_take_94 : decode cX5_take 94 = .ok (.iastore, 1) := by decide +kernel
theorem dX5_take_95 : decode cX5_take 95 = .ok (.aload_n 0, 1) := by decide +kernel
theorem dX5_take_96 : decode cX5_take 96 = .ok (.getfield 11, 3) := by decide +kernel
theorem dX5_take_99 : decode cX5_take 99 = .ok (.bipush 8, 2) := by decide +kernel
theorem dX5_take_101 : decode cX5_take 101 = .ok (.iload_n 3, 1) := by decide +kernel
theorem dX5_take_102 : decode cX5_take 102 = .ok (.iadd, 1) := by decide +kernel
theorem dX5_take_103 : decode cX5_take 103 = .ok (.aload_n 1, 1) := by decide +kernel
theorem dX5_take_104 : decode cX5_take 104 = .ok (.iload_n 2, 1) := by decide +kernel
theorem dX5_take_105 : decode cX5_take 105 = .ok (.iconst 2, 1) := by decide +kernel
theorem dX5_take_106 : decode cX5_take 106 = .ok (.iadd, 1) := by decide +kernel
theorem dX5_take_107 : decode cX5_take 107 = .ok (.iaload, 1) := by decide +kernel
theorem dX5_take_108 : decode cX5_take 108 = .ok (.iastore, 1) := by decide +kernel
theorem dX5_take_109 : decode cX5_take 109 = .ok (.aload_n 0, 1) := by decide +kernel
theorem dX5_take_110 : decode cX5_take 110 = .ok (.getfield 11, 3) := by decide +kernel
theorem dX5_take_113 : decode cX5_take 113 = .ok (.bipush 14, 2) := by decide +kernel
theorem dX5_take_115 : decode cX5_take 115 = .ok (.iload_n 3, 1) := by decide +kernel
theorem dX5_take_116 : decode cX5_take 116 = .ok (.iadd, 1) := by decide +kernel
theorem dX5_take_117 : decode cX5_take 117 = .ok (.iload 5, 2) := by decide +kernel
theorem dX5_take_119 : decode cX5_take 119 = .ok (.iload 6, 2) := by decide +kernel
theorem dX5_take_121 : decode cX5_take 121 = .ok (.aload_n 0, 1) := by decide +kernel
theorem dX5_take_122 : decode cX5_take 122 = .ok (.getfield 11, 3) := by decide +kernel
theorem dX5_take_125 : decode cX5_take 125 = .ok (.iload 4, 2) := by decide +kernel
theorem dX5_take_127 : decode cX5_take 127 = .ok (.iaload, 1) := by decide +kernel
theorem dX5_take_128 : decode cX5_take 128 = .ok (.invokestatic 33, 3) := by decide +kernel
theorem dX5_take_131 : decode cX5_take 131 = .ok (.iastore, 1) := by decide +kernel
theorem dX5_take_132 : decode cX5_take 132 = .ok (.return_, 1) := by decide +kernel
end
section
theorem dX6_init_0 : decode cX6_init 0 = .ok (.aload_n 0, 1) := by decide +kernel
theorem dX6_init_1 : decode cX6_init 1 = .ok (.invokespecial 3, 3) := by decide +kernel
theorem dX6_init_4 : decode cX6_init 4 = .ok (.aload_n 0, 1) := by decide +kernel
theorem dX6_init_5 : decode cX6_init 5 = .ok (.sipush 400, 3) := by decide +kernel
theorem dX6_init_8 : decode cX6_init 8 = .ok (.newarray .byte, 2) := by decide +kernel
theorem dX6_init_10 : decode cX6_init 10 = .ok (.putfield 11, 3) := by decide +kernel
theorem dX6_init_13 : decode cX6_init 13 = .ok (.aload_n 0, 1) := by decide +kernel
theorem dX6_init_14 : decode cX6_init 14 = .ok (.bipush 7, 2) := by decide +kernel
theorem dX6_init_16 : decode cX6_init 16 = .ok (.newarray .int, 2) := by decide +kernel
theorem dX6_init_18 : decode cX6_init 18 = .ok (.putfield 15, 3) := by decide +kernel
theorem dX6_init_21 : decode cX6_init 21 = .ok (.aload_n 0, 1) := by decide +kernel
theorem dX6_init_22 : decode cX6_init 22 = .ok (.bipush 7, 2) := by decide +kernel
theorem dX6_init_24 : decode cX6_init 24 = .ok (.newarray .int, 2) := by decide +kernel
theorem dX6_init_26 : decode cX6_init 26 = .ok (.putfield 19, 3) := by decide +kernel
theorem dX6_init_29 : decode cX6_init 29 = .ok (.aload_n 0, 1) := by decide +kernel
theorem dX6_init_30 : decode cX6_init 30 = .ok (.bipush 7, 2) := by decide +kernel
theorem dX6_init_32 : decode cX6_init 32 = .ok (.newarray .boolean, 2) := by decide +kernel
theorem dX6_init_34 : decode cX6_init 34 = .ok (.putfield 22, 3) := by decide +kernel
theorem dX6_init_37 : decode cX6_init 37 = .ok (.aload_n 0, 1) := by decide +kernel
theorem dX6_init_38 : decode cX6_init 38 = .ok (.iconst (-1), 1) := by decide +kernel
theorem dX6_init_39 : decode cX6_init 39 = .ok (.putfield 26, 3) := by decide +kernel
theorem dX6_init_42 : decode cX6_init 42 = .ok (.return_, 1) := by decide +kernel
theorem dX6_hasRoomFor_0 : decode cX6_hasRoomFor 0 = .ok (.aload_n 0, 1) := by decide +kernel
theorem dX6_hasRoomFor_1 : decode cX6_hasRoomFor 1 = .ok (.getfield 30, 3) := by decide +kernel
theorem dX6_hasRoomFor_4 : decode cX6_hasRoomFor 4 = .ok (.iload_n 1, 1) := by decide +kernel
theorem dX6_hasRoomFor_5 : decode cX6_hasRoomFor 5 = .ok (.iadd, 1) := by decide +kernel
theorem dX6_hasRoomFor_6 : decode cX6_hasRoomFor 6 = .ok (.sipush 400, 3) := by decide +kernel
theorem dX6_hasRoomFor_9 : decode cX6_hasRoomFor 9 = .ok (.if_icmp .gt 7, 3) := by decide +kernel
theorem dX6_hasRoomFor_12 : decode cX6_hasRoomFor 12 = .ok (.iconst 1, 1) := by decide +kernel
theorem dX6_hasRoomFor_13 : decode cX6_hasRoomFor 13 = .ok (.goto 4, 3) := by decide +kernel
theorem dX6_hasRoomFor_16 : decode cX6_hasRoomFor 16 = .ok (.iconst 0, 1) := by decide +kernel
theorem dX6_hasRoomFor_17 : decode cX6_hasRoomFor 17 = .ok (.ireturn, 1) := by decide +kernel
theorem dX6_put_0 : decode cX6_put 0 = .ok (.bipush 24, 2) := by decide +kernel
theorem dX6_put_2 : decode cX6_put 2 = .ok (.istore_n 2, 1) := by decide +kernel
theorem dX6_put_3 : decode cX6_put 3 = .ok (.iload_n 2, 1) := by decide +kernel
theorem dX6_put_4 : decode cX6_put 4 = .ok (.ifCond .lt 42, 3) := by decide +kernel
theorem dX6_put_7 : decode cX6_put 7 = .ok (.aload_n 0, 1) := by decide +kernel
theorem dX6_put_8 : decode cX6_put 8 = .ok (.getfield 30, 3) := by decide +kernel
theorem dX6_put_11 : decode cX6_put 11 = .ok (.sipush 400, 3) := by decide +kernel
theorem dX6_put_14 : decode cX6_put 14 = .ok (.if_icmp .ge 26, 3) := by decide +kernel
theorem dX6_put_17 : decode cX6_put 17 = .ok (.aload_n 0, 1) := by decide +kernel
theorem dX6_put_18 : decode cX6_put 18 = .ok (.getfield 11, 3) := by decide +kernel
theorem dX6_put_21 : decode cX6_put 21 = .ok (.aload_n 0, 1) := by decide +kernel
theorem dX6_put_22 : decode cX6_put 22 = .ok (.getfield 30, 3) := by decide +kernel
theorem dX6_put_25 : decode cX6_put 25 = .ok (.iload_n 1, 1) := by decide +kernel
theorem dX6_put_26 : decode cX6_put 26 = .ok (.iload_n 2, 1) := by decide +kernel
theorem dX6_put_27 : decode cX6_put 27 = .ok (.ishr, 1) := by decide +kernel
theorem dX6_put_28 : decode cX6_put 28 = .ok (.i2b, 1) := by decide +kernel
theorem dX6_put_29 : decode cX6_put 29 = .ok (.bastore, 1) := by decide +kernel
theorem dX6_put_30 : decode cX6_put 30 = .ok (.aload_n 0, 1) := by decide +kernel
theorem dX6_put_31 : decode cX6_put 31 = .ok (.dup, 1) := by decide +kernel
theorem dX6_put_32 : decode cX6_put 32 = .ok (.getfield 30, 3) := by decide +kernel
theorem dX6_put_35 : decode cX6_put 35 = .ok (.iconst 1, 1) := by decide +kernel
theorem dX6_put_36 : decode cX6_put 36 = .ok (.iadd, 1) := by decide +kernel
theorem dX6_put_37 : decode cX6_put 37 = .ok (.putfield 30, 3) := by decide +kernel
theorem dX6_put_40 : decode cX6_put 40 = .ok (.iinc 2 (-8), 3) := by decide +kernel
theorem dX6_put_43 : decode cX6_put 43 = .ok (.goto (-40), 3) := by decide +kernel
theorem dX6_put_46 : decode cX6_put 46 = .ok (.return_, 1) := by decide +kernel
theorem dX6_parse_0 : decode cX6_parse 0 = .ok (.aload_n 0, 1) := by decide +kernel
theorem dX6_parse_1 : decode cX6_parse 1 = .ok (.iconst 0, 1) := by decide +kernel
theorem dX6_parse_2 : decode cX6_parse 2 = .ok (.putfield 33, 3) := by decide +kernel
theorem dX6_parse_5 : decode cX6_parse 5 = .ok (.aload_n 0, 1) := by decide +kernel
theorem dX6_parse_6 : decode cX6_parse 6 = .ok (.iconst 0, 1) := by decide +kernel
theorem dX6_parse_7 : decode cX6_parse 7 = .ok (.putfield 36, 3) := by decide +kernel
theorem dX6_parse_10 : decode cX6_parse 10 = .ok (.aload_n 0, 1) := by decide +kernel
theorem dX6_parse_11 : decode cX6_parse 11 = .ok (.iconst (-1), 1) := by decide +kernel
theorem dX6_parse_12 : decode cX6_parse 12 = .ok (.putfield 26, 3) := by decide +kernel
theorem dX6_parse_15 : decode cX6_parse 15 = .ok (.aload_n 0, 1) := by decide +kernel
theorem dX6_parse_16 : decode cX6_parse 16 = .ok (.iconst 0, 1) := by decide +kernel
theorem dX6_parse_17 : decode cX6_parse 17 = .ok (.putfield 39, 3) := by decide +kernel
theorem dX6_parse_20 : decode cX6_parse 20 = .ok (.iconst 0, 1) := by decide +kernel
theorem dX6_parse_21 : decode cX6_parse 21 = .ok (.istore_n 1, 1) := by decide +kernel
theorem dX6_parse_22 : decode cX6_parse 22 = .ok (.iconst 0, 1) := by decide +kernel
theorem dX6_parse_23 : decode cX6_parse 23 = .ok (.istore_n 2, 1) := by decide +kernel
theorem dX6_parse_24 : decode cX6_parse 24 = .ok (.iload_n 2, 1) := by decide +kernel
theorem dX6_parse_25 : decode cX6_parse 25 = .ok (.sipush 400, 3) := by decide +kernel
theorem dX6_parse_28 : decode cX6_parse 28 = .ok (.if_icmp .ge 29, 3) := by decide +kernel
theorem dX6_parse_31 : decode cX6_parse 31 = .ok (.aload_n 0, 1) := by decide +kernel
theorem dX6_parse_32 : decode cX6_parse 32 = .ok (.getfield 36, 3) := by decide +kernel
theorem dX6_parse_35 : decode cX6_parse 35 = .ok (.ifCond .ne 22, 3) := by decide +kernel
theorem dX6_parse_38 : decode cX6_parse 38 = .ok (.aload_n 0, 1) := by decide +kernel
theorem dX6_parse_39 : decode cX6_parse 39 = .ok (.invokevirtual 42, 3) := by decide +kernel
theorem dX6_parse_42 : decode cX6_parse 42 = .ok (.ifCond .eq 15, 3) := by decide +kernel
theorem dX6_parse_45 : decode cX6_parse 45 = .ok (.aload_n 0, 1) := by decide +kernel
theorem dX6_parse_46 : decode cX6_parse 46 = .ok (.iload_n 1, 1) := by decide +kernel
theorem dX6_parse_47 : decode cX6_parse 47 = .ok (.invokevirtual 46, 3) := by decide +kernel
theorem dX6_parse_50 : decode cX6_parse 50 = .ok (.istore_n 1, 1) := by decide +kernel
theorem dX6_parse_51 : decode cX6_parse 51 = .ok (.iinc 2 1, 3) := by decide +kernel
theorem dX6_parse_54 : decode cX6_parse 54 = .ok (.goto (-30), 3) := by decide +kernel
theorem dX6_parse_57 : decode cX6_parse 57 = .ok (.aload_n 0, 1) := by decide +kernel
theorem dX6_parse_58 : decode cX6_parse 58 = .ok (.getfield 36, 3) := by decide +kernel
theorem dX6_parse_61 : decode cX6_parse 61 = .ok (.ifCond .ne 16, 3) := by decide +kernel
theorem dX6_parse_64 : decode cX6_parse 64 = .ok (.iload_n 1, 1) := by decide +kernel
theorem dX6_parse_65 : decode cX6_parse 65 = .ok (.ifCond .eq 12, 3) := by decide +kernel
theorem dX6_parse_68 : decode cX6_parse 68 = .ok (.aload_n 0, 1) := by decide +kernel
theorem dX6_parse_69 : decode cX6_parse 69 = .ok (.iconst 2, 1) := by decide +kernel
theorem dX6_parse_70 : decode cX6_parse 70 = .ok (.aload_n 0, 1) := by decide +kernel
theorem dX6_parse_71 : decode cX6_parse 71 = .ok (.getfield 30, 3) := by decide +kernel
theorem dX6_parse_74 : decode cX6_parse 74 = .ok (.invokevirtual 50, 3) := by decide +kernel
theorem dX6_parse_77 : decode cX6_parse 77 = .ok (.aload_n 0, 1) := by decide +kernel
theorem dX6_parse_78 : decode cX6_parse 78 = .ok (.getfield 36, 3) := by decide +kernel
theorem dX6_parse_81 : decode cX6_parse 81 = .ok (.ifCond .ne 19, 3) := by decide +kernel
theorem dX6_parse_84 : decode cX6_parse 84 = .ok (.aload_n 0, 1) := by decide +kernel
theorem dX6_parse_85 : decode cX6_parse 85 = .ok (.invokevirtual 54, 3) := by decide +kernel
theorem dX6_parse_88 : decode cX6_parse 88 = .ok (.ifCond .ne 12, 3) := by decide +kernel
theorem dX6_parse_91 : decode cX6_parse 91 = .ok (.aload_n 0, 1) := by decide +kernel
theorem dX6_parse_92 : decode cX6_parse 92 = .ok (.iconst 4, 1) := by decide +kernel
theorem dX6_parse_93 : decode cX6_parse 93 = .ok (.aload_n 0, 1) := by decide +kernel
theorem dX6_parse_94 : decode cX6_parse 94 = .ok (.getfield 30, 3) := by decide +kernel
theorem dX6_parse_97 : decode cX6_parse 97 = .ok (.invokevirtual 50, 3) := by decide +kernel
theorem dX6_parse_100 : decode cX6_parse 100 = .ok (.aload_n 0, 1) := by decide +kernel
theorem dX6_parse_101 : decode cX6_parse 101 = .ok (.iconst 0, 1) := by decide +kernel
theorem dX6_parse_102 : decode cX6_parse 102 = .ok (.putfield 30, 3) := by decide +kernel
theorem dX6_parse_105 : decode cX6_parse 105 = .ok (.return_, 1) := by decide +kernel
theorem dX6_blame_0 : decode cX6_blame 0 = .ok (.aload_n 0, 1) := by decide +kernel
theorem dX6_blame_1 : decode cX6_blame 1 = .ok (.iload_n 1, 1) := by decide +kernel
theorem dX6_blame_2 : decode cX6_blame 2 = .ok (.putfield 36, 3) := by decide +kernel
theorem dX6_blame_5 : decode cX6_blame 5 = .ok (.aload_n 0, 1) := by decide +kernel
theorem dX6_blame_6 : decode cX6_blame 6 = .ok (.iload_n 2, 1) := by decide +kernel
theorem dX6_blame_7 : decode cX6_blame 7 = .ok (.putfield 26, 3) := by decide +kernel
theorem dX6_blame_10 : decode cX6_blame 10 = .ok (.return_, 1) := by decide +kernel
theorem dX6_countVoters_0 : decode cX6_countVoters 0 = .ok (.iconst 0, 1) := by decide +kernel
theorem dX6_countVoters_1 : decode cX6_countVoters 1 = .ok (.istore_n 1, 1) := by decide +kernel
theorem dX6_countVoters_2 : decode cX6_countVoters 2 = .ok (.iconst 0, 1) := by decide +kernel
theorem dX6_countVoters_3 : decode cX6_countVoters 3 = .ok (.istore_n 2, 1) := by decide +kernel
theorem dX6_countVoters_4 : decode cX6_countVoters 4 = .ok (.iload_n 2, 1) := by decide +kernel
theorem dX6_countVoters_5 : decode cX6_countVoters 5 = .ok (.aload_n 0, 1) := by decide +kernel
theorem dX6_countVoters_6 : decode cX6_countVoters 6 = .ok (.getfield 33, 3) := by decide +kernel
theorem dX6_countVoters_9 : decode cX6_countVoters 9 = .ok (.if_icmp .ge 26, 3) := by decide +kernel
theorem dX6_countVoters_12 : decode cX6_countVoters 12 = .ok (.iload_n 1, 1) := by decide +kernel
theorem dX6_countVoters_13 : decode cX6_countVoters 13 = .ok (.aload_n 0, 1) := by decide +kernel
theorem dX6_countVoters_14 : decode cX6_countVoters 14 = .ok (.getfield 22, 3) := by decide +kernel
theorem dX6_countVoters_17 : decode cX6_countVoters 17 = .ok (.iload_n 2, 1) := by decide +kernel
theorem dX6_countVoters_18 : decode cX6_countVoters 18 = .ok (.baload, 1) := by decide +kernel
theorem dX6_countVoters_19 : decode cX6_countVoters 19 = .ok (.ifCond .eq 7, 3) := by decide +kernel
theorem dX6_countVoters_22 : decode cX6_countVoters 22 = .ok (.iconst 0, 1) := by decide +kernel
theorem dX6_countVoters_23 : decode cX6_countVoters 23 = .ok (.goto 4, 3) := by decide +kernel
theorem dX6_countVoters_26 : decode cX6_countVoters 26 = .ok (.iconst 1, 1) := by decide +kernel
theorem dX6_countVoters_27 : decode cX6_countVoters 27 = .ok (.iadd, 1) := by decide +kernel
theorem dX6_countVoters_28 : decode cX6_countVoters 28 = .ok (.istore_n 1, 1) := by decide +kernel
theorem dX6_countVoters_29 : decode cX6_countVoters 29 = .ok (.iinc 2 1, 3) := by decide +kernel
theorem dX6_countVoters_32 : decode cX6_countVoters 32 = .ok (.goto (-28), 3) := by decide +kernel
theorem dX6_countVoters_35 : decode cX6_countVoters 35 = .ok (.iload_n 1, 1) := by decide +kernel
theorem dX6_countVoters_36 : decode cX6_countVoters 36 = .ok (.ireturn, 1) := by decide +kernel
theorem dX6_byteAt_0 : decode cX6_byteAt 0 = .ok (.iload_n 1, 1) := by decide +kernel
theorem dX6_byteAt_1 : decode cX6_byteAt 1 = .ok (.ifCond .lt 31, 3) := by decide +kernel
theorem dX6_byteAt_4 : decode cX6_byteAt 4 = .ok (.iload_n 1, 1) := by decide +kernel
theorem dX6_byteAt_5 : decode cX6_byteAt 5 = .ok (.aload_n 0, 1) := by decide +kernel
theorem dX6_byteAt_6 : decode cX6_byteAt 6 = .ok (.getfield 30, 3) := by decide +kernel
theorem dX6_byteAt_9 : decode cX6_byteAt 9 = .ok (.if_icmp .ge 23, 3) := by decide +kernel
theorem dX6_byteAt_12 : decode cX6_byteAt 12 = .ok (.iload_n 1, 1) := by decide +kernel
theorem dX6_byteAt_13 : decode cX6_byteAt 13 = .ok (.sipush 400, 3) := by decide +kernel
theorem dX6_byteAt_16 : decode cX6_byteAt 16 = .ok (.if_icmp .ge 16, 3) := by decide +kernel
theorem dX6_byteAt_19 : decode cX6_byteAt 19 = .ok (.aload_n 0, 1) := by decide +kernel
theorem dX6_byteAt_20 : decode cX6_byteAt 20 = .ok (.getfield 11, 3) := by decide +kernel
theorem dX6_byteAt_23 : decode cX6_byteAt 23 = .ok (.iload_n 1, 1) := by decide +kernel
theorem dX6_byteAt_24 : decode cX6_byteAt 24 = .ok (.baload, 1) := by decide +kernel
theorem dX6_byteAt_25 : decode cX6_byteAt 25 = .ok (.sipush 255, 3) := by decide +kernel
theorem dX6_byteAt_28 : decode cX6_byteAt 28 = .ok (.iand, 1) := by decide +kernel
theorem dX6_byteAt_29 : decode cX6_byteAt 29 = .ok (.goto 4, 3) := by decide +kernel
theorem dX6_byteAt_32 : decode cX6_byteAt 32 = .ok (.iconst (-1), 1) := by decide +kernel
theorem dX6_byteAt_33 : decode cX6_byteAt 33 = .ok (.ireturn, 1) := by decide +kernel
theorem dX6_isLetter_0 : decode cX6_isLetter 0 = .ok (.aload_n 0, 1) := by decide +kernel
theorem dX6_isLetter_1 : decode cX6_isLetter 1 = .ok (.iload_n 1, 1) := by decide +kernel
theorem dX6_isLetter_2 : decode cX6_isLetter 2 = .ok (.invokevirtual 58, 3) := by decide +kernel
theorem dX6_isLetter_5 : decode cX6_isLetter 5 = .ok (.istore_n 2, 1) := by decide +kernel
theorem dX6_isLetter_6 : decode cX6_isLetter 6 = .ok (.iload_n 2, 1) := by decide +kernel
theorem dX6_isLetter_7 : decode cX6_isLetter 7 = .ok (.bipush 97, 2) := by decide +kernel
theorem dX6_isLetter_9 : decode cX6_isLetter 9 = .ok (.if_icmp .lt 13, 3) := by decide +kernel
theorem dX6_isLetter_12 : decode cX6_isLetter 12 = .ok (.iload_n 2, 1) := by decide +kernel
theorem dX6_isLetter_13 : decode cX6_isLetter 13 = .ok (.bipush 122, 2) := by decide +kernel
theorem dX6_isLetter_15 : decode cX6_isLetter 15 = .ok (.if_icmp .gt 7, 3) := by decide +kernel
theorem dX6_isLetter_18 : decode cX6_isLetter 18 = .ok (.iconst 1, 1) := by decide +kernel
theorem dX6_isLetter_19 : decode cX6_isLetter 19 = .ok (.goto 4, 3) := by decide +kernel
theorem dX6_isLetter_22 : decode cX6_isLetter 22 = .ok (.iconst 0, 1) := by decide +kernel
theorem dX6_isLetter_23 : decode cX6_isLetter 23 = .ok (.ireturn, 1) := by decide +kernel
theorem dX6_isBlank_0 : decode cX6_isBlank 0 = .ok (.aload_n 0, 1) := by decide +kernel
theorem dX6_isBlank_1 : decode cX6_isBlank 1 = .ok (.iload_n 1, 1) := by decide +kernel
theorem dX6_isBlank_2 : decode cX6_isBlank 2 = .ok (.invokevirtual 58, 3) := by decide +kernel
theorem dX6_isBlank_5 : decode cX6_isBlank 5 = .ok (.istore_n 2, 1) := by decide +kernel
theorem dX6_isBlank_6 : decode cX6_isBlank 6 = .ok (.iload_n 2, 1) := by decide +kernel
theorem dX6_isBlank_7 : decode cX6_isBlank 7 = .ok (.bipush 32, 2) := by decide +kernel
theorem dX6_isBlank_9 : decode cX6_isBlank 9 = .ok (.if_icmp .eq 9, 3) := by decide +kernel
theorem dX6_isBlank_12 : decode cX6_isBlank 12 = .ok (.iload_n 2, 1) := by decide +kernel
theorem dX6_isBlank_13 : decode cX6_isBlank 13 = .ok (.bipush 10, 2) := by decide +kernel
theorem dX6_isBlank_15 : decode cX6_isBlank 15 = .ok (.if_icmp .ne 7, 3) := by decide +kernel
theorem dX6_isBlank_18 : decode cX6_isBlank 18 = .ok (.iconst 1, 1) := by decide +kernel
theorem dX6_isBlank_19 : decode cX6_isBlank 19 = .ok (.goto 4, 3) := by decide +kernel
theorem dX6_isBlank_22 : decode cX6_isBlank 22 = .ok (.iconst 0, 1) := by decide +kernel
theorem dX6_isBlank_23 : decode cX6_isBlank 23 = .ok (.ireturn, 1) := by decide +kernel
theorem dX6_findToken_0 : decode cX6_findToken 0 = .ok (.aload_n 0, 1) := by decide +kernel
theorem dX6_findToken_1 : decode cX6_findToken 1 = .ok (.aload_n 0, 1) := by decide +kernel
theorem dX6_findToken_2 : decode cX6_findToken 2 = .ok (.getfield 39, 3) := by decide +kernel
theorem dX6_findToken_5 : decode cX6_findToken 5 = .ok (.putfield 61, 3) := by decide +kernel
theorem dX6_findToken_8 : decode cX6_findToken 8 = .ok (.aload_n 0, 1) := by decide +kernel
theorem dX6_findToken_9 : decode cX6_findToken 9 = .ok (.getfield 61, 3) := by decide +kernel
theorem dX6_findToken_12 : decode cX6_findToken 12 = .ok (.aload_n 0, 1) := by decide +kernel
theorem dX6_findToken_13 : decode cX6_findToken 13 = .ok (.getfield 30, 3) := by decide +kernel
theorem dX6_findToken_16 : decode cX6_findToken 16 = .ok (.if_icmp .ge 27, 3) := by decide +kernel
theorem dX6_findToken_19 : decode cX6_findToken 19 = .ok (.aload_n 0, 1) := by decide +kernel
theorem dX6_findToken_20 : decode cX6_findToken 20 = .ok (.aload_n 0, 1) := by decide +kernel
theorem dX6_findToken_21 : decode cX6_findToken 21 = .ok (.getfield 61, 3) := by decide +kernel
theorem dX6_findToken_24 : decode cX6_findToken 24 = .ok (.invokevirtual 64, 3) := by decide +kernel
theorem dX6_findToken_27 : decode cX6_findToken 27 = .ok (.ifCond .eq 16, 3) := by decide +kernel
theorem dX6_findToken_30 : decode cX6_findToken 30 = .ok (.aload_n 0, 1) := by decide +kernel
theorem dX6_findToken_31 : decode cX6_findToken 31 = .ok (.dup, 1) := by decide +kernel
theorem dX6_findToken_32 : decode cX6_findToken 32 = .ok (.getfield 61, 3) := by decide +kernel
theorem dX6_findToken_35 : decode cX6_findToken 35 = .ok (.iconst 1, 1) := by decide +kernel
theorem dX6_findToken_36 : decode cX6_findToken 36 = .ok (.iadd, 1) := by decide +kernel
theorem dX6_findToken_37 : decode cX6_findToken 37 = .ok (.putfield 61, 3) := by decide +kernel
theorem dX6_findToken_40 : decode cX6_findToken 40 = .ok (.goto (-32), 3) := by decide +kernel
theorem dX6_findToken_43 : decode cX6_findToken 43 = .ok (.aload_n 0, 1) := by decide +kernel
theorem dX6_findToken_44 : decode cX6_findToken 44 = .ok (.getfield 61, 3) := by decide +kernel
theorem dX6_findToken_47 : decode cX6_findToken 47 = .ok (.aload_n 0, 1) := by decide +kernel
theorem dX6_findToken_48 : decode cX6_findToken 48 = .ok (.getfield 30, 3) := by decide +kernel
theorem dX6_findToken_51 : decode cX6_findToken 51 = .ok (.if_icmp .lt 5, 3) := by decide +kernel
theorem dX6_findToken_54 : decode cX6_findToken 54 = .ok (.iconst 0, 1) := by decide +kernel
theorem dX6_findToken_55 : decode cX6_findToken 55 = .ok (.ireturn, 1) := by decide +kernel
theorem dX6_findToken_56 : decode cX6_findToken 56 = .ok (.aload_n 0, 1) := by decide +kernel
theorem dX6_findToken_57 : decode cX6_findToken 57 = .ok (.aload_n 0, 1) := by decide +kernel
theorem dX6_findToken_58 : decode cX6_findToken 58 = .ok (.aload_n 0, 1) := by decide +kernel
theorem dX6_findToken_59 : decode cX6_findToken 59 = .ok (.getfield 61, 3) := by decide +kernel
theorem dX6_findToken_62 : decode cX6_findToken 62 = .ok (.invokevirtual 58, 3) := by decide +kernel
theorem dX6_findToken_65 : decode cX6_findToken 65 = .ok (.bipush 59, 2) := by decide +kernel
theorem dX6_findToken_67 : decode cX6_findToken 67 = .ok (.if_icmp .ne 12, 3) := by decide +kernel
theorem dX6_findToken_70 : decode cX6_findToken 70 = .ok (.aload_n 0, 1) := by decide +kernel
theorem dX6_findToken_71 : decode cX6_findToken 71 = .ok (.getfield 61, 3) := by decide +kernel
theorem dX6_findToken_74 : decode cX6_findToken 74 = .ok (.iconst 1, 1) := by decide +kernel
theorem dX6_findToken_75 : decode cX6_findToken 75 = .ok (.iadd, 1) := by decide +kernel
theorem dX6_findToken_76 : decode cX6_findToken 76 = .ok (.goto 11, 3) := by decide +kernel
theorem dX6_findToken_79 : decode cX6_findToken 79 = .ok (.aload_n 0, 1) := by decide +kernel
theorem dX6_findToken_80 : decode cX6_findToken 80 = .ok (.aload_n 0, 1) := by decide +kernel
theorem dX6_findToken_81 : decode cX6_findToken 81 = .ok (.getfield 61, 3) := by decide +kernel
theorem dX6_findToken_84 : decode cX6_findToken 84 = .ok (.invokevirtual 68, 3) := by decide +kernel
theorem dX6_findToken_87 : decode cX6_findToken 87 = .ok (.putfield 39, 3) := by decide +kernel
theorem dX6_findToken_90 : decode cX6_findToken 90 = .ok (.aload_n 0, 1) := by decide +kernel
theorem dX6_findToken_91 : decode cX6_findToken 91 = .ok (.getfield 39, 3) := by decide +kernel
theorem dX6_findToken_94 : decode cX6_findToken 94 = .ok (.aload_n 0, 1) := by decide +kernel
theorem dX6_findToken_95 : decode cX6_findToken 95 = .ok (.getfield 61, 3) := by decide +kernel
theorem dX6_findToken_98 : decode cX6_findToken 98 = .ok (.if_icmp .eq 17, 3) := by decide +kernel
theorem dX6_findToken_101 : decode cX6_findToken 101 = .ok (.aload_n 0, 1) := by decide +kernel
theorem dX6_findToken_102 : decode cX6_findToken 102 = .ok (.getfield 39, 3) := by decide +kernel
theorem dX6_findToken_105 : decode cX6_findToken 105 = .ok (.aload_n 0, 1) := by decide +kernel
theorem dX6_findToken_106 : decode cX6_findToken 106 = .ok (.getfield 61, 3) := by decide +kernel
theorem dX6_findToken_109 : decode cX6_findToken 109 = .ok (.isub, 1) := by decide +kernel
theorem dX6_findToken_110 : decode cX6_findToken 110 = .ok (.bipush 8, 2) := by decide +kernel
theorem dX6_findToken_112 : decode cX6_findToken 112 = .ok (.if_icmp .le 14, 3) := by decide +kernel
theorem dX6_findToken_115 : decode cX6_findToken 115 = .ok (.aload_n 0, 1) := by decide +kernel
theorem dX6_findToken_116 : decode cX6_findToken 116 = .ok (.iconst 1, 1) := by decide +kernel
theorem dX6_findToken_117 : decode cX6_findToken 117 = .ok (.aload_n 0, 1) := by decide +kernel
theorem dX6_findToken_118 : decode cX6_findToken 118 = .ok (.getfield 61, 3) := by decide +kernel
theorem dX6_findToken_121 : decode cX6_findToken 121 = .ok (.invokevirtual 50, 3) := by decide +kernel
theorem dX6_findToken_124 : decode cX6_findToken 124 = .ok (.iconst 0, 1) := by decide +kernel
theorem dX6_findToken_125 : decode cX6_findToken 125 = .ok (.ireturn, 1) := by decide +kernel
theorem dX6_findToken_126 : decode cX6_findToken 126 = .ok (.iconst 1, 1) := by decide +kernel
theorem dX6_findToken_127 : decode cX6_findToken 127 = .ok (.ireturn, 1) := by decide +kernel
theorem dX6_endOfLetters_0 : decode cX6_endOfLetters 0 = .ok (.iload_n 1, 1) := by decide +kernel
theorem dX6_endOfLetters_1 : decode cX6_endOfLetters 1 = .ok (.istore_n 2, 1) := by decide +kernel
theorem dX6_endOfLetters_2 : decode cX6_endOfLetters 2 = .ok (.iload_n 2, 1) := by decide +kernel
theorem dX6_endOfLetters_3 : decode cX6_endOfLetters 3 = .ok (.aload_n 0, 1) := by decide +kernel
theorem dX6_endOfLetters_4 : decode cX6_endOfLetters 4 = .ok (.getfield 30, 3) := by decide +kernel
theorem dX6_endOfLetters_7 : decode cX6_endOfLetters 7 = .ok (.if_icmp .ge 17, 3) := by decide +kernel
theorem dX6_endOfLetters_10 : decode cX6_endOfLetters 10 = .ok (.aload_n 0, 1) := by decide +kernel
theorem dX6_endOfLetters_11 : decode cX6_endOfLetters 11 = .ok (.iload_n 2, 1) := by decide +kernel
theorem dX6_endOfLetters_12 : decode cX6_endOfLetters 12 = .ok (.invokevirtual 71, 3) := by decide +kernel
theorem dX6_endOfLetters_15 : decode cX6_endOfLetters 15 = .ok (.ifCond .eq 9, 3) := by decide +kernel
theorem dX6_endOfLetters_18 : decode cX6_endOfLetters 18 = .ok (.iinc 2 1, 3) := by decide +kernel
theorem dX6_endOfLetters_21 : decode cX6_endOfLetters 21 = .ok (.goto (-19), 3) := by decide +kernel
theorem dX6_endOfLetters_24 : decode cX6_endOfLetters 24 = .ok (.iload_n 2, 1) := by decide +kernel
theorem dX6_endOfLetters_25 : decode cX6_endOfLetters 25 = .ok (.ireturn, 1) := by decide +kernel
theorem dX6_takeToken_0 : decode cX6_takeToken 0 = .ok (.iload_n 1, 1) := by decide +kernel
theorem dX6_takeToken_1 : decode cX6_takeToken 1 = .ok (.lookupswitch 82 #[(0, 27), (1, 47)], 27) := by decide +kernel
theorem dX6_takeToken_28 : decode cX6_takeToken 28 = .ok (.aload_n 0, 1) := by decide +kernel
theorem dX6_takeToken_29 : decode cX6_takeToken 29 = .ok (.ldc 74, 2) := by decide +kernel
theorem dX6_takeToken_31 : decode cX6_takeToken 31 = .ok (.invokevirtual 76, 3) := by decide +kernel
theorem dX6_takeToken_34 : decode cX6_takeToken 34 = .ok (.ifCond .eq 80, 3) := by decide +kernel
theorem dX6_takeToken_37 : decode cX6_takeToken 37 = .ok (.aload_n 0, 1) := by decide +kernel
theorem dX6_takeToken_38 : decode cX6_takeToken 38 = .ok (.getfield 33, 3) := by decide +kernel
theorem dX6_takeToken_41 : decode cX6_takeToken 41 = .ok (.bipush 7, 2) := by decide +kernel
theorem dX6_takeToken_43 : decode cX6_takeToken 43 = .ok (.if_icmp .ge 71, 3) := by decide +kernel
theorem dX6_takeToken_46 : decode cX6_takeToken 46 = .ok (.iconst 1, 1) := by decide +kernel
theorem dX6_takeToken_47 : decode cX6_takeToken 47 = .ok (.ireturn, 1) := by decide +kernel
theorem dX6_takeToken_48 : decode cX6_takeToken 48 = .ok (.aload_n 0, 1) := by decide +kernel
theorem dX6_takeToken_49 : decode cX6_takeToken 49 = .ok (.aload_n 0, 1) := by decide +kernel
theorem dX6_takeToken_50 : decode cX6_takeToken 50 = .ok (.getfield 61, 3) := by decide +kernel
theorem dX6_takeToken_53 : decode cX6_takeToken 53 = .ok (.invokevirtual 71, 3) := by decide +kernel
theorem dX6_takeToken_56 : decode cX6_takeToken 56 = .ok (.ifCond .eq 58, 3) := by decide +kernel
theorem dX6_takeToken_59 : decode cX6_takeToken 59 = .ok (.aload_n 0, 1) := by decide +kernel
theorem dX6_takeToken_60 : decode cX6_takeToken 60 = .ok (.ldc 74, 2) := by decide +kernel
theorem dX6_takeToken_62 : decode cX6_takeToken 62 = .ok (.invokevirtual 76, 3) := by decide +kernel
theorem dX6_takeToken_65 : decode cX6_takeToken 65 = .ok (.ifCond .ne 49, 3) := by decide +kernel
theorem dX6_takeToken_68 : decode cX6_takeToken 68 = .ok (.aload_n 0, 1) := by decide +kernel
theorem dX6_takeToken_69 : decode cX6_takeToken 69 = .ok (.ldc 80, 2) := by decide +kernel
theorem dX6_takeToken_71 : decode cX6_takeToken 71 = .ok (.invokevirtual 76, 3) := by decide +kernel
theorem dX6_takeToken_74 : decode cX6_takeToken 74 = .ok (.ifCond .ne 40, 3) := by decide +kernel
theorem dX6_takeToken_77 : decode cX6_takeToken 77 = .ok (.aload_n 0, 1) := by decide +kernel
theorem dX6_takeToken_78 : decode cX6_takeToken 78 = .ok (.invokevirtual 81, 3) := by decide +kernel
theorem dX6_takeToken_81 : decode cX6_takeToken 81 = .ok (.iconst 2, 1) := by decide +kernel
theorem dX6_takeToken_82 : decode cX6_takeToken 82 = .ok (.ireturn, 1) := by decide +kernel
theorem dX6_takeToken_83 : decode cX6_takeToken 83 = .ok (.aload_n 0, 1) := by decide +kernel
theorem dX6_takeToken_84 : decode cX6_takeToken 84 = .ok (.ldc 84, 2) := by decide +kernel
theorem dX6_takeToken_86 : decode cX6_takeToken 86 = .ok (.invokevirtual 76, 3) := by decide +kernel
theorem dX6_takeToken_89 : decode cX6_takeToken 89 = .ok (.ifCond .eq 5, 3) := by decide +kernel
theorem dX6_takeToken_92 : decode cX6_takeToken 92 = .ok (.iconst 0, 1) := by decide +kernel
theorem dX6_takeToken_93 : decode cX6_takeToken 93 = .ok (.ireturn, 1) := by decide +kernel
theorem dX6_takeToken_94 : decode cX6_takeToken 94 = .ok (.iload_n 1, 1) := by decide +kernel
theorem dX6_takeToken_95 : decode cX6_takeToken 95 = .ok (.iconst 2, 1) := by decide +kernel
theorem dX6_takeToken_96 : decode cX6_takeToken 96 = .ok (.if_icmp .ne 18, 3) := by decide +kernel
theorem dX6_takeToken_99 : decode cX6_takeToken 99 = .ok (.aload_n 0, 1) := by decide +kernel
theorem dX6_takeToken_100 : decode cX6_takeToken 100 = .ok (.ldc 80, 2) := by decide +kernel
theorem dX6_takeToken_102 : decode cX6_takeToken 102 = .ok (.invokevirtual 76, 3) := by decide +kernel
theorem dX6_takeToken_105 : decode cX6_takeToken 105 = .ok (.ifCond .eq 9, 3) := by decide +kernel
theorem dX6_takeToken_108 : decode cX6_takeToken 108 = .ok (.aload_n 0, 1) := by decide +kernel
theorem dX6_takeToken_109 : decode cX6_takeToken 109 = .ok (.invokevirtual 86, 3) := by decide +kernel
theorem dX6_takeToken_112 : decode cX6_takeToken 112 = .ok (.iconst 3, 1) := by decide +kernel
theorem dX6_takeToken_113 : decode cX6_takeToken 113 = .ok (.ireturn, 1) := by decide +kernel
theorem dX6_takeToken_114 : decode cX6_takeToken 114 = .ok (.aload_n 0, 1) := by decide +kernel
theorem dX6_takeToken_115 : decode cX6_takeToken 115 = .ok (.iconst 2, 1) := by decide +kernel
theorem dX6_takeToken_116 : decode cX6_takeToken 116 = .ok (.aload_n 0, 1) := by decide +kernel
theorem dX6_takeToken_117 : decode cX6_takeToken 117 = .ok (.getfield 61, 3) := by decide +kernel
theorem dX6_takeToken_120 : decode cX6_takeToken 120 = .ok (.invokevirtual 50, 3) := by decide +kernel
theorem dX6_takeToken_123 : decode cX6_takeToken 123 = .ok (.iload_n 1, 1) := by decide +kernel
theorem dX6_takeToken_124 : decode cX6_takeToken 124 = .ok (.ireturn, 1) := by decide +kernel
theorem dX6_takeName_0 : decode cX6_takeName 0 = .ok (.iconst 0, 1) := by decide +kernel
theorem dX6_takeName_1 : decode cX6_takeName 1 = .ok (.istore_n 1, 1) := by decide +kernel
theorem dX6_takeName_2 : decode cX6_takeName 2 = .ok (.iload_n 1, 1) := by decide +kernel
theorem dX6_takeName_3 : decode cX6_takeName 3 = .ok (.aload_n 0, 1) := by decide +kernel
theorem dX6_takeName_4 : decode cX6_takeName 4 = .ok (.getfield 33, 3) := by decide +kernel
theorem dX6_takeName_7 : decode cX6_takeName 7 = .ok (.if_icmp .ge 27, 3) := by decide +kernel
theorem dX6_takeName_10 : decode cX6_takeName 10 = .ok (.aload_n 0, 1) := by decide +kernel
theorem dX6_takeName_11 : decode cX6_takeName 11 = .ok (.iload_n 1, 1) := by decide +kernel
theorem dX6_takeName_12 : decode cX6_takeName 12 = .ok (.invokevirtual 89, 3) := by decide +kernel
theorem dX6_takeName_15 : decode cX6_takeName 15 = .ok (.ifCond .eq 13, 3) := by decide +kernel
theorem dX6_takeName_18 : decode cX6_takeName 18 = .ok (.aload_n 0, 1) := by decide +kernel
theorem dX6_takeName_19 : decode cX6_takeName 19 = .ok (.iconst 3, 1) := by decide +kernel
theorem dX6_takeName_20 : decode cX6_takeName 20 = .ok (.aload_n 0, 1) := by decide +kernel
theorem dX6_takeName_21 : decode cX6_takeName 21 = .ok (.getfield 61, 3) := by decide +kernel
theorem dX6_takeName_24 : decode cX6_takeName 24 = .ok (.invokevirtual 50, 3) := by decide +kernel
theorem dX6_takeName_27 : decode cX6_takeName 27 = .ok (.return_, 1) := by decide +kernel
theorem dX6_takeName_28 : decode cX6_takeName 28 = .ok (.iinc 1 1, 3) := by decide +kernel
theorem dX6_takeName_31 : decode cX6_takeName 31 = .ok (.goto (-29), 3) := by decide +kernel
theorem dX6_takeName_34 : decode cX6_takeName 34 = .ok (.aload_n 0, 1) := by decide +kernel
theorem dX6_takeName_35 : decode cX6_takeName 35 = .ok (.getfield 33, 3) := by decide +kernel
theorem dX6_takeName_38 : decode cX6_takeName 38 = .ok (.bipush 7, 2) := by decide +kernel
theorem dX6_takeName_40 : decode cX6_takeName 40 = .ok (.if_icmp .ge 54, 3) := by decide +kernel
theorem dX6_takeName_43 : decode cX6_takeName 43 = .ok (.aload_n 0, 1) := by decide +kernel
theorem dX6_takeName_44 : decode cX6_takeName 44 = .ok (.getfield 15, 3) := by decide +kernel
theorem dX6_takeName_47 : decode cX6_takeName 47 = .ok (.aload_n 0, 1) := by decide +kernel
theorem dX6_takeName_48 : decode cX6_takeName 48 = .ok (.getfield 33, 3) := by decide +kernel
theorem dX6_takeName_51 : decode cX6_takeName 51 = .ok (.aload_n 0, 1) := by decide +kernel
theorem dX6_takeName_52 : decode cX6_takeName 52 = .ok (.getfield 61, 3) := by decide +kernel
theorem dX6_takeName_55 : decode cX6_takeName 55 = .ok (.iastore, 1) := by decide +kernel
theorem dX6_takeName_56 : decode cX6_takeName 56 = .ok (.aload_n 0, 1) := by decide +kernel
theorem dX6_takeName_57 : decode cX6_takeName 57 = .ok (.getfield 19, 3) := by decide +kernel
theorem dX6_takeName_60 : decode cX6_takeName 60 = .ok (.aload_n 0, 1) := by decide +kernel
theorem dX6_takeName_61 : decode cX6_takeName 61 = .ok (.getfield 33, 3) := by decide +kernel
theorem dX6_takeName_64 : decode cX6_takeName 64 = .ok (.aload_n 0, 1) := by decide +kernel
theorem dX6_takeName_65 : decode cX6_takeName 65 = .ok (.getfield 39, 3) := by decide +kernel
theorem dX6_takeName_68 : decode cX6_takeName 68 = .ok (.aload_n 0, 1) := by decide +kernel
theorem dX6_takeName_69 : decode cX6_takeName 69 = .ok (.getfield 61, 3) := by decide +kernel
theorem dX6_takeName_72 : decode cX6_takeName 72 = .ok (.isub, 1) := by decide +kernel
theorem dX6_takeName_73 : decode cX6_takeName 73 = .ok (.iastore, 1) := by decide +kernel
theorem dX6_takeName_74 : decode cX6_takeName 74 = .ok (.aload_n 0, 1) := by decide +kernel
theorem dX6_takeName_75 : decode cX6_takeName 75 = .ok (.getfield 22, 3) := by decide +kernel
theorem dX6_takeName_78 : decode cX6_takeName 78 = .ok (.aload_n 0, 1) := by decide +kernel
theorem dX6_takeName_79 : decode cX6_takeName 79 = .ok (.getfield 33, 3) := by decide +kernel
theorem dX6_takeName_82 : decode cX6_takeName 82 = .ok (.iconst 0, 1) := by decide +kernel
theorem dX6_takeName_83 : decode cX6_takeName 83 = .ok (.bastore, 1) := by decide +kernel
theorem dX6_takeName_84 : decode cX6_takeName 84 = .ok (.aload_n 0, 1) := by decide +kernel
theorem dX6_takeName_85 : decode cX6_takeName 85 = .ok (.dup, 1) := by decide +kernel
theorem dX6_takeName_86 : decode cX6_takeName 86 = .ok (.getfield 33, 3) := by decide +kernel
theorem dX6_takeName_89 : decode cX6_takeName 89 = .ok (.iconst 1, 1) := by decide +kernel
theorem dX6_takeName_90 : decode cX6_takeName 90 = .ok (.iadd, 1) := by decide +kernel
theorem dX6_takeName_91 : decode cX6_takeName 91 = .ok (.putfield 33, 3) := by decide +kernel
theorem dX6_takeName_94 : decode cX6_takeName 94 = .ok (.return_, 1) := by decide +kernel
theorem dX6_markSilent_0 : decode cX6_markSilent 0 = .ok (.aload_n 0, 1) := by decide +kernel
theorem dX6_markSilent_1 : decode cX6_markSilent 1 = .ok (.getfield 33, 3) := by decide +kernel
theorem dX6_markSilent_4 : decode cX6_markSilent 4 = .ok (.ifCond .le 24, 3) := by decide +kernel
theorem dX6_markSilent_7 : decode cX6_markSilent 7 = .ok (.aload_n 0, 1) := by decide +kernel
theorem dX6_markSilent_8 : decode cX6_markSilent 8 = .ok (.getfield 33, 3) := by decide +kernel
theorem dX6_markSilent_11 : decode cX6_markSilent 11 = .ok (.bipush 7, 2) := by decide +kernel
theorem dX6_markSilent_13 : decode cX6_markSilent 13 = .ok (.if_icmp .gt 15, 3) := by decide +kernel
theorem dX6_markSilent_16 : decode cX6_markSilent 16 = .ok (.aload_n 0, 1) := by decide +kernel
theorem dX6_markSilent_17 : decode cX6_markSilent 17 = .ok (.getfield 22, 3) := by decide +kernel
theorem dX6_markSilent_20 : decode cX6_markSilent 20 = .ok (.aload_n 0, 1) := by decide +kernel
theorem dX6_markSilent_21 : decode cX6_markSilent 21 = .ok (.getfield 33, 3) := by decide +kernel
theorem dX6_markSilent_24 : decode cX6_markSilent 24 = .ok (.iconst 1, 1) := by decide +kernel
theorem dX6_markSilent_25 : decode cX6_markSilent 25 = .ok (.isub, 1) := by decide +kernel
theorem dX6_markSilent_26 : decode cX6_markSilent 26 = .ok (.iconst 1, 1) := by decide +kernel
theorem dX6_markSilent_27 : decode cX6_markSilent 27 = .ok (.bastore, 1) := by decide +kernel
theorem dX6_markSilent_28 : decode cX6_markSilent 28 = .ok (.return_, 1) := by decide +kernel
theorem dX6_tokenIs_0 : decode cX6_tokenIs 0 = .ok (.aload_n 1, 1) := by decide +kernel
theorem dX6_tokenIs_1 : decode cX6_tokenIs 1 = .ok (.invokevirtual 92, 3) := by decide +kernel
theorem dX6_tokenIs_4 : decode cX6_tokenIs 4 = .ok (.aload_n 0, 1) := by decide +kernel
theorem dX6_tokenIs_5 : decode cX6_tokenIs 5 = .ok (.getfield 39, 3) := by decide +kernel
theorem dX6_tokenIs_8 : decode cX6_tokenIs 8 = .ok (.aload_n 0, 1) := by decide +kernel
theorem dX6_tokenIs_9 : decode cX6_tokenIs 9 = .ok (.getfield 61, 3) := by decide +kernel
theorem dX6_tokenIs_12 : decode cX6_tokenIs 12 = .ok (.isub, 1) := by decide +kernel
theorem dX6_tokenIs_13 : decode cX6_tokenIs 13 = .ok (.if_icmp .ne 7, 3) := by decide +kernel
theorem dX6_tokenIs_16 : decode cX6_tokenIs 16 = .ok (.iconst 1, 1) := by decide +kernel
theorem dX6_tokenIs_17 : decode cX6_tokenIs 17 = .ok (.goto 4, 3) := by decide +kernel
theorem dX6_tokenIs_20 : decode cX6_tokenIs 20 = .ok (.iconst 0, 1) := by decide +kernel
theorem dX6_tokenIs_21 : decode cX6_tokenIs 21 = .ok (.istore_n 2, 1) := by decide +kernel
theorem dX6_tokenIs_22 : decode cX6_tokenIs 22 = .ok (.iconst 0, 1) := by decide +kernel
theorem dX6_tokenIs_23 : decode cX6_tokenIs 23 = .ok (.istore_n 3, 1) := by decide +kernel
theorem dX6_tokenIs_24 : decode cX6_tokenIs 24 = .ok (.iload_n 2, 1) := by decide +kernel
theorem dX6_tokenIs_25 : decode cX6_tokenIs 25 = .ok (.ifCond .eq 41, 3) := by decide +kernel
theorem dX6_tokenIs_28 : decode cX6_tokenIs 28 = .ok (.iload_n 3, 1) := by decide +kernel
theorem dX6_tokenIs_29 : decode cX6_tokenIs 29 = .ok (.aload_n 1, 1) := by decide +kernel
theorem dX6_tokenIs_30 : decode cX6_tokenIs 30 = .ok (.invokevirtual 92, 3) := by decide +kernel
theorem dX6_tokenIs_33 : decode cX6_tokenIs 33 = .ok (.if_icmp .ge 33, 3) := by decide +kernel
theorem dX6_tokenIs_36 : decode cX6_tokenIs 36 = .ok (.aload_n 0, 1) := by decide +kernel
theorem dX6_tokenIs_37 : decode cX6_tokenIs 37 = .ok (.aload_n 0, 1) := by decide +kernel
theorem dX6_tokenIs_38 : decode cX6_tokenIs 38 = .ok (.getfield 61, 3) := by decide +kernel
theorem dX6_tokenIs_41 : decode cX6_tokenIs 41 = .ok (.iload_n 3, 1) := by decide +kernel
theorem dX6_tokenIs_42 : decode cX6_tokenIs 42 = .ok (.iadd, 1) := by decide +kernel
theorem dX6_tokenIs_43 : decode cX6_tokenIs 43 = .ok (.invokevirtual 58, 3) := by decide +kernel
theorem dX6_tokenIs_46 : decode cX6_tokenIs 46 = .ok (.aload_n 1, 1) := by decide +kernel
theorem dX6_tokenIs_47 : decode cX6_tokenIs 47 = .ok (.iload_n 3, 1) := by decide +kernel
theorem dX6_tokenIs_48 : decode cX6_tokenIs 48 = .ok (.invokevirtual 96, 3) := by decide +kernel
theorem dX6_tokenIs_51 : decode cX6_tokenIs 51 = .ok (.if_icmp .ne 7, 3) := by decide +kernel
theorem dX6_tokenIs_54 : decode cX6_tokenIs 54 = .ok (.iconst 1, 1) := by decide +kernel
theorem dX6_tokenIs_55 : decode cX6_tokenIs 55 = .ok (.goto 4, 3) := by decide +kernel
theorem dX6_tokenIs_58 : decode cX6_tokenIs 58 = .ok (.iconst 0, 1) := by decide +kernel
theorem dX6_tokenIs_59 : decode cX6_tokenIs 59 = .ok (.istore_n 2, 1) := by decide +kernel
theorem dX6_tokenIs_60 : decode cX6_tokenIs 60 = .ok (.iinc 3 1, 3) := by decide +kernel
theorem dX6_tokenIs_63 : decode cX6_tokenIs 63 = .ok (.goto (-39), 3) := by decide +kernel
theorem dX6_tokenIs_66 : decode cX6_tokenIs 66 = .ok (.iload_n 2, 1) := by decide +kernel
theorem dX6_tokenIs_67 : decode cX6_tokenIs 67 = .ok (.ireturn, 1) := by decide +kernel
theorem dX6_tokenIsName_0 : decode cX6_tokenIsName 0 = .ok (.aload_n 0, 1) := by decide +kernel
theorem dX6_tokenIsName_1 : decode cX6_tokenIsName 1 = .ok (.getfield 19, 3) := by decide +kernel
theorem dX6_tokenIsName_4 : decode cX6_tokenIsName 4 = .ok (.iload_n 1, 1) := by decide +kernel
theorem dX6_tokenIsName_5 : decode cX6_tokenIsName 5 = .ok (.iaload, 1) := by decide +kernel
theorem dX6_tokenIsName_6 : decode cX6_tokenIsName 6 = .ok (.aload_n 0, 1) := by decide +kernel
theorem dX6_tokenIsName_7 : decode cX6_tokenIsName 7 = .ok (.getfield 39, 3) := by decide +kernel
theorem dX6_tokenIsName_10 : decode cX6_tokenIsName 10 = .ok (.aload_n 0, 1) := by decide +kernel
theorem dX6_tokenIsName_11 : decode cX6_tokenIsName 11 = .ok (.getfield 61, 3) := by decide +kernel
theorem dX6_tokenIsName_14 : decode cX6_tokenIsName 14 = .ok (.isub, 1) := by decide +kernel
theorem dX6_tokenIsName_15 : decode cX6_tokenIsName 15 = .ok (.if_icmp .ne 7, 3) := by decide +kernel
theorem dX6_tokenIsName_18 : decode cX6_tokenIsName 18 = .ok (.iconst 1, 1) := by decide +kernel
theorem dX6_tokenIsName_19 : decode cX6_tokenIsName 19 = .ok (.goto 4, 3) := by decide +kernel
theorem dX6_tokenIsName_22 : decode cX6_tokenIsName 22 = .ok (.iconst 0, 1) := by decide +kernel
theorem dX6_tokenIsName_23 : decode cX6_tokenIsName 23 = .ok (.istore_n 2, 1) := by decide +kernel
theorem dX6_tokenIsName_24 : decode cX6_tokenIsName 24 = .ok (.iconst 0, 1) := by decide +kernel
theorem dX6_tokenIsName_25 : decode cX6_tokenIsName 25 = .ok (.istore_n 3, 1) := by decide +kernel
theorem dX6_tokenIsName_26 : decode cX6_tokenIsName 26 = .ok (.iload_n 2, 1) := by decide +kernel
theorem dX6_tokenIsName_27 : decode cX6_tokenIsName 27 = .ok (.ifCond .eq 50, 3) := by decide +kernel
theorem dX6_tokenIsName_30 : decode cX6_tokenIsName 30 = .ok (.iload_n 3, 1) := by decide +kernel
theorem dX6_tokenIsName_31 : decode cX6_tokenIsName 31 = .ok (.aload_n 0, 1) := by decide +kernel
theorem dX6_tokenIsName_32 : decode cX6_tokenIsName 32 = .ok (.getfield 19, 3) := by decide +kernel
theorem dX6_tokenIsName_35 : decode cX6_tokenIsName 35 = .ok (.iload_n 1, 1) := by decide +kernel
theorem dX6_tokenIsName_36 : decode cX6_tokenIsName 36 = .ok (.iaload, 1) := by decide +kernel
theorem dX6_tokenIsName_37 : decode cX6_tokenIsName 37 = .ok (.if_icmp .ge 40, 3) := by decide +kernel
theorem dX6_tokenIsName_40 : decode cX6_tokenIsName 40 = .ok (.aload_n 0, 1) := by decide +kernel
theorem dX6_tokenIsName_41 : decode cX6_tokenIsName 41 = .ok (.aload_n 0, 1) := by decide +kernel
theorem dX6_tokenIsName_42 : decode cX6_tokenIsName 42 = .ok (.getfield 61, 3) := by decide +kernel
theorem dX6_tokenIsName_45 : decode cX6_tokenIsName 45 = .ok (.iload_n 3, 1) := by decide +kernel
theorem dX6_tokenIsName_46 : decode cX6_tokenIsName 46 = .ok (.iadd, 1) := by decide +kernel
theorem dX6_tokenIsName_47 : decode cX6_tokenIsName 47 = .ok (.invokevirtual 58, 3) := by decide +kernel
theorem dX6_tokenIsName_50 : decode cX6_tokenIsName 50 = .ok (.aload_n 0, 1) := by decide +kernel
theorem dX6_tokenIsName_51 : decode cX6_tokenIsName 51 = .ok (.aload_n 0, 1) := by decide +kernel
theorem dX6_tokenIsName_52 : decode cX6_tokenIsName 52 = .ok (.getfield 15, 3) := by decide +kernel
theorem dX6_tokenIsName_55 : decode cX6_tokenIsName 55 = .ok (.iload_n 1, 1) := by decide +kernel
theorem dX6_tokenIsName_56 : decode cX6_tokenIsName 56 = .ok (.iaload, 1) := by decide +kernel
theorem dX6_tokenIsName_57 : decode cX6_tokenIsName 57 = .ok (.iload_n 3, 1) := by decide +kernel
theorem dX6_tokenIsName_58 : decode cX6_tokenIsName 58 = .ok (.iadd, 1) := by decide +kernel
theorem dX6_tokenIsName_59 : decode cX6_tokenIsName 59 = .ok (.invokevirtual 58, 3) := by decide +kernel
theorem dX6_tokenIsName_62 : decode cX6_tokenIsName 62 = .ok (.if_icmp .ne 7, 3) := by decide +kernel
theorem dX6_tokenIsName_65 : decode cX6_tokenIsName 65 = .ok (.iconst 1, 1) := by decide +kernel
theorem dX6_tokenIsName_66 : decode cX6_tokenIsName 66 = .ok (.goto 4, 3) := by decide +kernel
theorem dX6_tokenIsName_69 : decode cX6_tokenIsName 69 = .ok (.iconst 0, 1) := by decide +kernel
theorem dX6_tokenIsName_70 : decode cX6_tokenIsName 70 = .ok (.istore_n 2, 1) := by decide +kernel
theorem dX6_tokenIsName_71 : decode cX6_tokenIsName 71 = .ok (.iinc 3 1, 3) := by decide +kernel
theorem dX6_tokenIsName_74 : decode cX6_tokenIsName 74 = .ok (.goto (-48), 3) := by decide +kernel
theorem dX6_tokenIsName_77 : decode cX6_tokenIsName 77 = .ok (.iload_n 2, 1) := by decide +kernel
theorem dX6_tokenIsName_78 : decode cX6_tokenIsName 78 = .ok (.ireturn, 1) := by decide +kernel
theorem dX7_init_0 : decode cX7_init 0 = .ok (.aload_n 0, 1) := by decide +kernel
theorem dX7_init_1 : decode cX7_init 1 = .ok (.invokespecial 3, 3) := by decide +kernel
theorem dX7_init_4 : decode cX7_init 4 = .ok (.aload_n 0, 1) := by decide +kernel
theorem dX7_init_5 : decode cX7_init 5 = .ok (.bipush 7, 2) := by decide +kernel
theorem dX7_init_7 : decode cX7_init 7 = .ok (.anewarray 9, 3) := by decide +kernel
theorem dX7_init_10 : decode cX7_init 10 = .ok (.putfield 11, 3) := by decide +kernel
theorem dX7_init_13 : decode cX7_init 13 = .ok (.iconst 0, 1) := by decide +kernel
theorem dX7_init_14 : decode cX7_init 14 = .ok (.istore_n 1, 1) := by decide +kernel
theorem dX7_init_15 : decode cX7_init 15 = .ok (.iload_n 1, 1) := by decide +kernel
theorem dX7_init_16 : decode cX7_init 16 = .ok (.bipush 7, 2) := by decide +kernel
theorem dX7_init_18 : decode cX7_init 18 = .ok (.if_icmp .ge 22, 3) := by decide +kernel
theorem dX7_init_21 : decode cX7_init 21 = .ok (.aload_n 0, 1) := by decide +kernel
theorem dX7_init_22 : decode cX7_init 22 = .ok (.getfield 11, 3) := by decide +kernel
theorem dX7_init_25 : decode cX7_init 25 = .ok (.iload_n 1, 1) := by decide +kernel
theorem dX7_init_26 : decode cX7_init 26 = .ok (.new 9, 3) := by decide +kernel
theorem dX7_init_29 : decode cX7_init 29 = .ok (.dup, 1) := by decide +kernel
theorem dX7_init_30 : decode cX7_init 30 = .ok (.invokespecial 17, 3) := by decide +kernel
theorem dX7_init_33 : decode cX7_init 33 = .ok (.aastore, 1) := by decide +kernel
theorem dX7_init_34 : decode cX7_init 34 = .ok (.iinc 1 1, 3) := by decide +kernel
theorem dX7_init_37 : decode cX7_init 37 = .ok (.goto (-22), 3) := by decide +kernel
theorem dX7_init_40 : decode cX7_init 40 = .ok (.aload_n 0, 1) := by decide +kernel
theorem dX7_init_41 : decode cX7_init 41 = .ok (.new 18, 3) := by decide +kernel
theorem dX7_init_44 : decode cX7_init 44 = .ok (.dup, 1) := by decide +kernel
theorem dX7_init_45 : decode cX7_init 45 = .ok (.invokespecial 20, 3) := by decide +kernel
theorem dX7_init_48 : decode cX7_init 48 = .ok (.putfield 21, 3) := by decide +kernel
theorem dX7_init_51 : decode cX7_init 51 = .ok (.aload_n 0, 1) := by decide +kernel
theorem dX7_init_52 : decode cX7_init 52 = .ok (.new 25, 3) := by decide +kernel
theorem dX7_init_55 : decode cX7_init 55 = .ok (.dup, 1) := by decide +kernel
theorem dX7_init_56 : decode cX7_init 56 = .ok (.invokespecial 27, 3) := by decide +kernel
theorem dX7_init_59 : decode cX7_init 59 = .ok (.putfield 28, 3) := by decide +kernel
theorem dX7_init_62 : decode cX7_init 62 = .ok (.return_, 1) := by decide +kernel
theorem dX7_begin_0 : decode cX7_begin 0 = .ok (.aload_n 0, 1) := by decide +kernel
theorem dX7_begin_1 : decode cX7_begin 1 = .ok (.aload_n 1, 1) := by decide +kernel
theorem dX7_begin_2 : decode cX7_begin 2 = .ok (.getfield 32, 3) := by decide +kernel
theorem dX7_begin_5 : decode cX7_begin 5 = .ok (.bipush 7, 2) := by decide +kernel
theorem dX7_begin_7 : decode cX7_begin 7 = .ok (.invokestatic 38, 3) := by decide +kernel
theorem dX7_begin_10 : decode cX7_begin 10 = .ok (.putfield 44, 3) := by decide +kernel
theorem dX7_begin_13 : decode cX7_begin 13 = .ok (.aload_n 0, 1) := by decide +kernel
theorem dX7_begin_14 : decode cX7_begin 14 = .ok (.aload_n 1, 1) := by decide +kernel
theorem dX7_begin_15 : decode cX7_begin 15 = .ok (.invokevirtual 47, 3) := by decide +kernel
theorem dX7_begin_18 : decode cX7_begin 18 = .ok (.putfield 51, 3) := by decide +kernel
theorem dX7_begin_21 : decode cX7_begin 21 = .ok (.iconst 0, 1) := by decide +kernel
theorem dX7_begin_22 : decode cX7_begin 22 = .ok (.istore_n 2, 1) := by decide +kernel
theorem dX7_begin_23 : decode cX7_begin 23 = .ok (.iload_n 2, 1) := by decide +kernel
theorem dX7_begin_24 : decode cX7_begin 24 = .ok (.aload_n 0, 1) := by decide +kernel
theorem dX7_begin_25 : decode cX7_begin 25 = .ok (.getfield 44, 3) := by decide +kernel
theorem dX7_begin_28 : decode cX7_begin 28 = .ok (.if_icmp .ge 32, 3) := by decide +kernel
theorem dX7_begin_31 : decode cX7_begin 31 = .ok (.aload_n 0, 1) := by decide +kernel
theorem dX7_begin_32 : decode cX7_begin 32 = .ok (.getfield 11, 3) := by decide +kernel
theorem dX7_begin_35 : decode cX7_begin 35 = .ok (.iload_n 2, 1) := by decide +kernel
theorem dX7_begin_36 : decode cX7_begin 36 = .ok (.aaload, 1) := by decide +kernel
theorem dX7_begin_37 : decode cX7_begin 37 = .ok (.aload_n 1, 1) := by decide +kernel
theorem dX7_begin_38 : decode cX7_begin 38 = .ok (.getfield 54, 3) := by decide +kernel
theorem dX7_begin_41 : decode cX7_begin 41 = .ok (.iload_n 2, 1) := by decide +kernel
theorem dX7_begin_42 : decode cX7_begin 42 = .ok (.baload, 1) := by decide +kernel
theorem dX7_begin_43 : decode cX7_begin 43 = .ok (.ifCond .ne 7, 3) := by decide +kernel
theorem dX7_begin_46 : decode cX7_begin 46 = .ok (.iconst 1, 1) := by decide +kernel
theorem dX7_begin_47 : decode cX7_begin 47 = .ok (.goto 4, 3) := by decide +kernel
theorem dX7_begin_50 : decode cX7_begin 50 = .ok (.iconst 0, 1) := by decide +kernel
theorem dX7_begin_51 : decode cX7_begin 51 = .ok (.invokevirtual 58, 3) := by decide +kernel
theorem dX7_begin_54 : decode cX7_begin 54 = .ok (.iinc 2 1, 3) := by decide +kernel
theorem dX7_begin_57 : decode cX7_begin 57 = .ok (.goto (-34), 3) := by decide +kernel
theorem dX7_begin_60 : decode cX7_begin 60 = .ok (.aload_n 0, 1) := by decide +kernel
theorem dX7_begin_61 : decode cX7_begin 61 = .ok (.getfield 21, 3) := by decide +kernel
theorem dX7_begin_64 : decode cX7_begin 64 = .ok (.invokevirtual 62, 3) := by decide +kernel
theorem dX7_begin_67 : decode cX7_begin 67 = .ok (.aload_n 0, 1) := by decide +kernel
theorem dX7_begin_68 : decode cX7_begin 68 = .ok (.getfield 28, 3) := by decide +kernel
theorem dX7_begin_71 : decode cX7_begin 71 = .ok (.iconst 0, 1) := by decide +kernel
theorem dX7_begin_72 : decode cX7_begin 72 = .ok (.putfield 65, 3) := by decide +kernel
theorem dX7_begin_75 : decode cX7_begin 75 = .ok (.return_, 1) := by decide +kernel
theorem dX7_copyFrom_0 : decode cX7_copyFrom 0 = .ok (.aload_n 0, 1) := by decide +kernel
theorem dX7_copyFrom_1 : decode cX7_copyFrom 1 = .ok (.aload_n 1, 1) := by decide +kernel
theorem dX7_copyFrom_2 : decode cX7_copyFrom 2 = .ok (.getfield 44, 3) := by decide +kernel
theorem dX7_copyFrom_5 : decode cX7_copyFrom 5 = .ok (.putfield 44, 3) := by decide +kernel
theorem dX7_copyFrom_8 : decode cX7_copyFrom 8 = .ok (.aload_n 0, 1) := by decide +kernel
theorem dX7_copyFrom_9 : decode cX7_copyFrom 9 = .ok (.aload_n 1, 1) := by decide +kernel
theorem dX7_copyFrom_10 : decode cX7_copyFrom 10 = .ok (.getfield 51, 3) := by decide +kernel
theorem dX7_copyFrom_13 : decode cX7_copyFrom 13 = .ok (.putfield 51, 3) := by decide +kernel
theorem dX7_copyFrom_16 : decode cX7_copyFrom 16 = .ok (.iconst 0, 1) := by decide +kernel
theorem dX7_copyFrom_17 : decode cX7_copyFrom 17 = .ok (.istore_n 2, 1) := by decide +kernel
theorem dX7_copyFrom_18 : decode cX7_copyFrom 18 = .ok (.iload_n 2, 1) := by decide +kernel
theorem dX7_copyFrom_19 : decode cX7_copyFrom 19 = .ok (.bipush 7, 2) := by decide +kernel
theorem dX7_copyFrom_21 : decode cX7_copyFrom 21 = .ok (.if_icmp .ge 24, 3) := by decide +kernel
theorem dX7_copyFrom_24 : decode cX7_copyFrom 24 = .ok (.aload_n 0, 1) := by decide +kernel
theorem dX7_copyFrom_25 : decode cX7_copyFrom 25 = .ok (.getfield 11, 3) := by decide +kernel
theorem dX7_copyFrom_28 : decode cX7_copyFrom 28 = .ok (.iload_n 2, 1) := by decide +kernel
theorem dX7_copyFrom_29 : decode cX7_copyFrom 29 = .ok (.aaload, 1) := by decide +kernel
theorem dX7_copyFrom_30 : decode cX7_copyFrom 30 = .ok (.aload_n 1, 1) := by decide +kernel
theorem dX7_copyFrom_31 : decode cX7_copyFrom 31 = .ok (.getfield 11, 3) := by decide +kernel
theorem dX7_copyFrom_34 : decode cX7_copyFrom 34 = .ok (.iload_n 2, 1) := by decide +kernel
theorem dX7_copyFrom_35 : decode cX7_copyFrom 35 = .ok (.aaload, 1) := by decide +kernel
theorem dX7_copyFrom_36 : decode cX7_copyFrom 36 = .ok (.invokevirtual 68, 3) := by decide +kernel
theorem dX7_copyFrom_39 : decode cX7_copyFrom 39 = .ok (.iinc 2 1, 3) := by decide +kernel
theorem dX7_copyFrom_42 : decode cX7_copyFrom 42 = .ok (.goto (-24), 3) := by decide +kernel
theorem dX7_copyFrom_45 : decode cX7_copyFrom 45 = .ok (.aload_n 0, 1) := by decide +kernel
theorem dX7_copyFrom_46 : decode cX7_copyFrom 46 = .ok (.getfield 21, 3) := by decide +kernel
theorem dX7_copyFrom_49 : decode cX7_copyFrom 49 = .ok (.aload_n 1, 1) := by decide +kernel
theorem dX7_copyFrom_50 : decode cX7_copyFrom 50 = .ok (.getfield 21, 3) := by decide +kernel
theorem dX7_copyFrom_53 : decode cX7_copyFrom 53 = .ok (.invokevirtual 72, 3) := by decide +kernel
theorem dX7_copyFrom_56 : decode cX7_copyFrom 56 = .ok (.aload_n 0, 1) := by decide +kernel
theorem dX7_copyFrom_57 : decode cX7_copyFrom 57 = .ok (.getfield 28, 3) := by decide +kernel
theorem dX7_copyFrom_60 : decode cX7_copyFrom 60 = .ok (.aload_n 1, 1) := by decide +kernel
theorem dX7_copyFrom_61 : decode cX7_copyFrom 61 = .ok (.getfield 28, 3) := by decide +kernel
theorem dX7_copyFrom_64 : decode cX7_copyFrom 64 = .ok (.invokevirtual 75, 3) := by decide +kernel
theorem dX7_copyFrom_67 : decode cX7_copyFrom 67 = .ok (.return_, 1) := by decide +kernel
theorem dX7_isKeeper_0 : decode cX7_isKeeper 0 = .ok (.iload_n 1, 1) := by decide +kernel
theorem dX7_isKeeper_1 : decode cX7_isKeeper 1 = .ok (.ifCond .lt 21, 3) := by decide +kernel
theorem dX7_isKeeper_4 : decode cX7_isKeeper 4 = .ok (.iload_n 1, 1) := by decide +kernel
theorem dX7_isKeeper_5 : decode cX7_isKeeper 5 = .ok (.aload_n 0, 1) := by decide +kernel
theorem dX7_isKeeper_6 : decode cX7_isKeeper 6 = .ok (.getfield 44, 3) := by decide +kernel
theorem dX7_isKeeper_9 : decode cX7_isKeeper 9 = .ok (.if_icmp .ge 13, 3) := by decide +kernel
theorem dX7_isKeeper_12 : decode cX7_isKeeper 12 = .ok (.iload_n 1, 1) := by decide +kernel
theorem dX7_isKeeper_13 : decode cX7_isKeeper 13 = .ok (.bipush 7, 2) := by decide +kernel
theorem dX7_isKeeper_15 : decode cX7_isKeeper 15 = .ok (.if_icmp .ge 7, 3) := by decide +kernel
theorem dX7_isKeeper_18 : decode cX7_isKeeper 18 = .ok (.iconst 1, 1) := by decide +kernel
theorem dX7_isKeeper_19 : decode cX7_isKeeper 19 = .ok (.goto 4, 3) := by decide +kernel
theorem dX7_isKeeper_22 : decode cX7_isKeeper 22 = .ok (.iconst 0, 1) := by decide +kernel
theorem dX7_isKeeper_23 : decode cX7_isKeeper 23 = .ok (.ireturn, 1) := by decide +kernel
theorem dX7_isUp_0 : decode cX7_isUp 0 = .ok (.aload_n 0, 1) := by decide +kernel
theorem dX7_isUp_1 : decode cX7_isUp 1 = .ok (.iload_n 1, 1) := by decide +kernel
theorem dX7_isUp_2 : decode cX7_isUp 2 = .ok (.invokevirtual 78, 3) := by decide +kernel
theorem dX7_isUp_5 : decode cX7_isUp 5 = .ok (.ifCond .eq 19, 3) := by decide +kernel
theorem dX7_isUp_8 : decode cX7_isUp 8 = .ok (.aload_n 0, 1) := by decide +kernel
theorem dX7_isUp_9 : decode cX7_isUp 9 = .ok (.getfield 11, 3) := by decide +kernel
theorem dX7_isUp_12 : decode cX7_isUp 12 = .ok (.iload_n 1, 1) := by decide +kernel
theorem dX7_isUp_13 : decode cX7_isUp 13 = .ok (.aaload, 1) := by decide +kernel
theorem dX7_isUp_14 : decode cX7_isUp 14 = .ok (.getfield 82, 3) := by decide +kernel
theorem dX7_isUp_17 : decode cX7_isUp 17 = .ok (.ifCond .ne 7, 3) := by decide +kernel
theorem dX7_isUp_20 : decode cX7_isUp 20 = .ok (.iconst 1, 1) := by decide +kernel
theorem dX7_isUp_21 : decode cX7_isUp 21 = .ok (.goto 4, 3) := by decide +kernel
theorem dX7_isUp_24 : decode cX7_isUp 24 = .ok (.iconst 0, 1) := by decide +kernel
theorem dX7_isUp_25 : decode cX7_isUp 25 = .ok (.ireturn, 1) := by decide +kernel
theorem dX7_isLeading_0 : decode cX7_isLeading 0 = .ok (.aload_n 0, 1) := by decide +kernel
theorem dX7_isLeading_1 : decode cX7_isLeading 1 = .ok (.iload_n 1, 1) := by decide +kernel
theorem dX7_isLeading_2 : decode cX7_isLeading 2 = .ok (.invokevirtual 86, 3) := by decide +kernel
theorem dX7_isLeading_5 : decode cX7_isLeading 5 = .ok (.ifCond .eq 20, 3) := by decide +kernel
theorem dX7_isLeading_8 : decode cX7_isLeading 8 = .ok (.aload_n 0, 1) := by decide +kernel
theorem dX7_isLeading_9 : decode cX7_isLeading 9 = .ok (.getfield 11, 3) := by decide +kernel
theorem dX7_isLeading_12 : decode cX7_isLeading 12 = .ok (.iload_n 1, 1) := by decide +kernel
theorem dX7_isLeading_13 : decode cX7_isLeading 13 = .ok (.aaload, 1) := by decide +kernel
theorem dX7_isLeading_14 : decode cX7_isLeading 14 = .ok (.getfield 89, 3) := by decide +kernel
theorem dX7_isLeading_17 : decode cX7_isLeading 17 = .ok (.iconst 2, 1) := by decide +kernel
theorem dX7_isLeading_18 : decode cX7_isLeading 18 = .ok (.if_icmp .ne 7, 3) := by decide +kernel
theorem dX7_isLeading_21 : decode cX7_isLeading 21 = .ok (.iconst 1, 1) := by decide +kernel
theorem dX7_isLeading_22 : decode cX7_isLeading 22 = .ok (.goto 4, 3) := by decide +kernel
theorem dX7_isLeading_25 : decode cX7_isLeading 25 = .ok (.iconst 0, 1) := by decide +kernel
theorem dX7_isLeading_26 : decode cX7_isLeading 26 = .ok (.ireturn, 1) := by decide +kernel
theorem dX7_most_0 : decode cX7_most 0 = .ok (.aload_n 0, 1) := by decide +kernel
theorem dX7_most_1 : decode cX7_most 1 = .ok (.getfield 51, 3) := by decide +kernel
theorem dX7_most_4 : decode cX7_most 4 = .ok (.ifCond .ne 7, 3) := by decide +kernel
theorem dX7_most_7 : decode cX7_most 7 = .ok (.iconst 0, 1) := by decide +kernel
theorem dX7_most_8 : decode cX7_most 8 = .ok (.goto 11, 3) := by decide +kernel
theorem dX7_most_11 : decode cX7_most 11 = .ok (.aload_n 0, 1) := by decide +kernel
theorem dX7_most_12 : decode cX7_most 12 = .ok (.getfield 51, 3) := by decide +kernel
theorem dX7_most_15 : decode cX7_most 15 = .ok (.iconst 2, 1) := by decide +kernel
theorem dX7_most_16 : decode cX7_most 16 = .ok (.idiv, 1) := by decide +kernel
theorem dX7_most_17 : decode cX7_most 17 = .ok (.iconst 1, 1) := by decide +kernel
theorem dX7_most_18 : decode cX7_most 18 = .ok (.iadd, 1) := by decide +kernel
theorem dX7_most_19 : decode cX7_most 19 = .ok (.ireturn, 1) := by decide +kernel
theorem dX7_countUp_0 : decode cX7_countUp 0 = .ok (.iconst 0, 1) := by decide +kernel
theorem dX7_countUp_1 : decode cX7_countUp 1 = .ok (.istore_n 1, 1) := by decide +kernel
theorem dX7_countUp_2 : decode cX7_countUp 2 = .ok (.iconst 0, 1) := by decide +kernel
theorem dX7_countUp_3 : decode cX7_countUp 3 = .ok (.istore_n 2, 1) := by decide +kernel
theorem dX7_countUp_4 : decode cX7_countUp 4 = .ok (.iload_n 2, 1) := by decide +kernel
theorem dX7_countUp_5 : decode cX7_countUp 5 = .ok (.aload_n 0, 1) := by decide +kernel
theorem dX7_countUp_6 : decode cX7_countUp 6 = .ok (.getfield 44, 3) := by decide +kernel
theorem dX7_countUp_9 : decode cX7_countUp 9 = .ok (.if_icmp .ge 25, 3) := by decide +kernel
theorem dX7_countUp_12 : decode cX7_countUp 12 = .ok (.iload_n 1, 1) := by decide +kernel
theorem dX7_countUp_13 : decode cX7_countUp 13 = .ok (.aload_n 0, 1) := by decide +kernel
theorem dX7_countUp_14 : decode cX7_countUp 14 = .ok (.iload_n 2, 1) := by decide +kernel
theorem dX7_countUp_15 : decode cX7_countUp 15 = .ok (.invokevirtual 86, 3) := by decide +kernel
theorem dX7_countUp_18 : decode cX7_countUp 18 = .ok (.ifCond .eq 7, 3) := by decide +kernel
theorem dX7_countUp_21 : decode cX7_countUp 21 = .ok (.iconst 1, 1) := by decide +kernel
theorem dX7_countUp_22 : decode cX7_countUp 22 = .ok (.goto 4, 3) := by decide +kernel
theorem dX7_countUp_25 : decode cX7_countUp 25 = .ok (.iconst 0, 1) := by decide +kernel
theorem dX7_countUp_26 : decode cX7_countUp 26 = .ok (.iadd, 1) := by decide +kernel
theorem dX7_countUp_27 : decode cX7_countUp 27 = .ok (.istore_n 1, 1) := by decide +kernel
theorem dX7_countUp_28 : decode cX7_countUp 28 = .ok (.iinc 2 1, 3) := by decide +kernel
theorem dX7_countUp_31 : decode cX7_countUp 31 = .ok (.goto (-27), 3) := by decide +kernel
theorem dX7_countUp_34 : decode cX7_countUp 34 = .ok (.iload_n 1, 1) := by decide +kernel
theorem dX7_countUp_35 : decode cX7_countUp 35 = .ok (.ireturn, 1) := by decide +kernel
theorem dX7_askBy_0 : decode cX7_askBy 0 = .ok (.aload_n 0, 1) := by decide +kernel
theorem dX7_askBy_1 : decode cX7_askBy 1 = .ok (.getfield 11, 3) := by decide +kernel
theorem dX7_askBy_4 : decode cX7_askBy 4 = .ok (.iload_n 1, 1) := by decide +kernel
theorem dX7_askBy_5 : decode cX7_askBy 5 = .ok (.aaload, 1) := by decide +kernel
theorem dX7_askBy_6 : decode cX7_askBy 6 = .ok (.astore_n 2, 1) := by decide +kernel
theorem dX7_askBy_7 : decode cX7_askBy 7 = .ok (.bipush 40, 2) := by decide +kernel
theorem dX7_askBy_9 : decode cX7_askBy 9 = .ok (.aload_n 0, 1) := by decide +kernel
theorem dX7_askBy_10 : decode cX7_askBy 10 = .ok (.getfield 21, 3) := by decide +kernel
theorem dX7_askBy_13 : decode cX7_askBy 13 = .ok (.invokevirtual 92, 3) := by decide +kernel
theorem dX7_askBy_16 : decode cX7_askBy 16 = .ok (.isub, 1) := by decide +kernel
theorem dX7_askBy_17 : decode cX7_askBy 17 = .ok (.istore_n 3, 1) := by decide +kernel
theorem dX7_askBy_18 : decode cX7_askBy 18 = .ok (.aload_n 2, 1) := by decide +kernel
theorem dX7_askBy_19 : decode cX7_askBy 19 = .ok (.getfield 82, 3) := by decide +kernel
theorem dX7_askBy_22 : decode cX7_askBy 22 = .ok (.ifCond .ne 28, 3) := by decide +kernel
theorem dX7_askBy_25 : decode cX7_askBy 25 = .ok (.aload_n 2, 1) := by decide +kernel
theorem dX7_askBy_26 : decode cX7_askBy 26 = .ok (.getfield 95, 3) := by decide +kernel
theorem dX7_askBy_29 : decode cX7_askBy 29 = .ok (.ifCond .eq 21, 3) := by decide +kernel
theorem dX7_askBy_32 : decode cX7_askBy 32 = .ok (.aload_n 2, 1) := by decide +kernel
theorem dX7_askBy_33 : decode cX7_askBy 33 = .ok (.getfield 89, 3) := by decide +kernel
theorem dX7_askBy_36 : decode cX7_askBy 36 = .ok (.iconst 2, 1) := by decide +kernel
theorem dX7_askBy_37 : decode cX7_askBy 37 = .ok (.if_icmp .eq 13, 3) := by decide +kernel
theorem dX7_askBy_40 : decode cX7_askBy 40 = .ok (.iload_n 3, 1) := by decide +kernel
theorem dX7_askBy_41 : decode cX7_askBy 41 = .ok (.aload_n 0, 1) := by decide +kernel
theorem dX7_askBy_42 : decode cX7_askBy 42 = .ok (.getfield 51, 3) := by decide +kernel
theorem dX7_askBy_45 : decode cX7_askBy 45 = .ok (.iconst 1, 1) := by decide +kernel
theorem dX7_askBy_46 : decode cX7_askBy 46 = .ok (.isub, 1) := by decide +kernel
theorem dX7_askBy_47 : decode cX7_askBy 47 = .ok (.if_icmp .ge 5, 3) := by decide +kernel
theorem dX7_askBy_50 : decode cX7_askBy 50 = .ok (.iconst (-1), 1) := by decide +kernel
theorem dX7_askBy_51 : decode cX7_askBy 51 = .ok (.ireturn, 1) := by decide +kernel
theorem dX7_askBy_52 : decode cX7_askBy 52 = .ok (.aload_n 2, 1) := by decide +kernel
theorem dX7_askBy_53 : decode cX7_askBy 53 = .ok (.aload_n 2, 1) := by decide +kernel
theorem dX7_askBy_54 : decode cX7_askBy 54 = .ok (.getfield 98, 3) := by decide +kernel
theorem dX7_askBy_57 : decode cX7_askBy 57 = .ok (.iconst 1, 1) := by decide +kernel
theorem dX7_askBy_58 : decode cX7_askBy 58 = .ok (.iadd, 1) := by decide +kernel
theorem dX7_askBy_59 : decode cX7_askBy 59 = .ok (.invokevirtual 101, 3) := by decide +kernel
theorem dX7_askBy_62 : decode cX7_askBy 62 = .ok (.aload_n 2, 1) := by decide +kernel
theorem dX7_askBy_63 : decode cX7_askBy 63 = .ok (.iload_n 1, 1) := by decide +kernel
theorem dX7_askBy_64 : decode cX7_askBy 64 = .ok (.putfield 105, 3) := by decide +kernel
theorem dX7_askBy_67 : decode cX7_askBy 67 = .ok (.aload_n 2, 1) := by decide +kernel
theorem dX7_askBy_68 : decode cX7_askBy 68 = .ok (.iconst 1, 1) := by decide +kernel
theorem dX7_askBy_69 : decode cX7_askBy 69 = .ok (.putfield 89, 3) := by decide +kernel
theorem dX7_askBy_72 : decode cX7_askBy 72 = .ok (.aload_n 2, 1) := by decide +kernel
theorem dX7_askBy_73 : decode cX7_askBy 73 = .ok (.iconst 1, 1) := by decide +kernel
theorem dX7_askBy_74 : decode cX7_askBy 74 = .ok (.iload_n 1, 1) := by decide +kernel
theorem dX7_askBy_75 : decode cX7_askBy 75 = .ok (.ishl, 1) := by decide +kernel
theorem dX7_askBy_76 : decode cX7_askBy 76 = .ok (.putfield 108, 3) := by decide +kernel
theorem dX7_askBy_79 : decode cX7_askBy 79 = .ok (.iconst 0, 1) := by decide +kernel
theorem dX7_askBy_80 : decode cX7_askBy 80 = .ok (.istore 4, 2) := by decide +kernel
theorem dX7_askBy_82 : decode cX7_askBy 82 = .ok (.iload 4, 2) := by decide +kernel
theorem dX7_askBy_84 : decode cX7_askBy 84 = .ok (.aload_n 0, 1) := by decide +kernel
theorem dX7_askBy_85 : decode cX7_askBy 85 = .ok (.getfield 44, 3) := by decide +kernel
theorem dX7_askBy_88 : decode cX7_askBy 88 = .ok (.if_icmp .ge 35, 3) := by decide +kernel
theorem dX7_askBy_91 : decode cX7_askBy 91 = .ok (.iload 4, 2) := by decide +kernel
theorem dX7_askBy_93 : decode cX7_askBy 93 = .ok (.iload_n 1, 1) := by decide +kernel
theorem dX7_askBy_94 : decode cX7_askBy 94 = .ok (.if_icmp .eq 23, 3) := by decide +kernel
theorem dX7_askBy_97 : decode cX7_askBy 97 = .ok (.aload_n 0, 1) := by decide +kernel
theorem dX7_askBy_98 : decode cX7_askBy 98 = .ok (.getfield 11, 3) := by decide +kernel
theorem dX7_askBy_101 : decode cX7_askBy 101 = .ok (.iload 4, 2) := by decide +kernel
theorem dX7_askBy_103 : decode cX7_askBy 103 = .ok (.aaload, 1) := by decide +kernel
theorem dX7_askBy_104 : decode cX7_askBy 104 = .ok (.getfield 95, 3) := by decide +kernel
theorem dX7_askBy_107 : decode cX7_askBy 107 = .ok (.ifCond .eq 10, 3) := by decide +kernel
theorem dX7_askBy_110 : decode cX7_askBy 110 = .ok (.aload_n 0, 1) := by decide +kernel
theorem dX7_askBy_111 : decode cX7_askBy 111 = .ok (.iload_n 1, 1) := by decide +kernel
theorem dX7_askBy_112 : decode cX7_askBy 112 = .ok (.iload 4, 2) := by decide +kernel
theorem dX7_askBy_114 : decode cX7_askBy 114 = .ok (.invokevirtual 111, 3) := by decide +kernel
theorem dX7_askBy_117 : decode cX7_askBy 117 = .ok (.iinc 4 1, 3) := by decide +kernel
theorem dX7_askBy_120 : decode cX7_askBy 120 = .ok (.goto (-38), 3) := by decide +kernel
theorem dX7_askBy_123 : decode cX7_askBy 123 = .ok (.aload_n 0, 1) := by decide +kernel
theorem dX7_askBy_124 : decode cX7_askBy 124 = .ok (.aload_n 2, 1) := by decide +kernel
theorem dX7_askBy_125 : decode cX7_askBy 125 = .ok (.invokevirtual 115, 3) := by decide +kernel
theorem dX7_askBy_128 : decode cX7_askBy 128 = .ok (.aload_n 2, 1) := by decide +kernel
theorem dX7_askBy_129 : decode cX7_askBy 129 = .ok (.getfield 98, 3) := by decide +kernel
theorem dX7_askBy_132 : decode cX7_askBy 132 = .ok (.ireturn, 1) := by decide +kernel
theorem dX7_sendAsk_0 : decode cX7_sendAsk 0 = .ok (.aload_n 0, 1) := by decide +kernel
theorem dX7_sendAsk_1 : decode cX7_sendAsk 1 = .ok (.iconst 0, 1) := by decide +kernel
theorem dX7_sendAsk_2 : decode cX7_sendAsk 2 = .ok (.iload_n 1, 1) := by decide +kernel
theorem dX7_sendAsk_3 : decode cX7_sendAsk 3 = .ok (.iload_n 2, 1) := by decide +kernel
theorem dX7_sendAsk_4 : decode cX7_sendAsk 4 = .ok (.invokevirtual 118, 3) := by decide +kernel
theorem dX7_sendAsk_7 : decode cX7_sendAsk 7 = .ok (.astore_n 3, 1) := by decide +kernel
theorem dX7_sendAsk_8 : decode cX7_sendAsk 8 = .ok (.aload_n 3, 1) := by decide +kernel
theorem dX7_sendAsk_9 : decode cX7_sendAsk 9 = .ok (.ifnull 34, 3) := by decide +kernel
theorem dX7_sendAsk_12 : decode cX7_sendAsk 12 = .ok (.aload_n 0, 1) := by decide +kernel
theorem dX7_sendAsk_13 : decode cX7_sendAsk 13 = .ok (.getfield 11, 3) := by decide +kernel
theorem dX7_sendAsk_16 : decode cX7_sendAsk 16 = .ok (.iload_n 1, 1) := by decide +kernel
theorem dX7_sendAsk_17 : decode cX7_sendAsk 17 = .ok (.aaload, 1) := by decide +kernel
theorem dX7_sendAsk_18 : decode cX7_sendAsk 18 = .ok (.astore 4, 2) := by decide +kernel
theorem dX7_sendAsk_20 : decode cX7_sendAsk 20 = .ok (.aload_n 3, 1) := by decide +kernel
theorem dX7_sendAsk_21 : decode cX7_sendAsk 21 = .ok (.aload 4, 2) := by decide +kernel
theorem dX7_sendAsk_23 : decode cX7_sendAsk 23 = .ok (.getfield 122, 3) := by decide +kernel
theorem dX7_sendAsk_26 : decode cX7_sendAsk 26 = .ok (.putfield 125, 3) := by decide +kernel
theorem dX7_sendAsk_29 : decode cX7_sendAsk 29 = .ok (.aload_n 3, 1) := by decide +kernel
theorem dX7_sendAsk_30 : decode cX7_sendAsk 30 = .ok (.aload 4, 2) := by decide +kernel
theorem dX7_sendAsk_32 : decode cX7_sendAsk 32 = .ok (.aload 4, 2) := by decide +kernel
theorem dX7_sendAsk_34 : decode cX7_sendAsk 34 = .ok (.getfield 122, 3) := by decide +kernel
theorem dX7_sendAsk_37 : decode cX7_sendAsk 37 = .ok (.invokevirtual 130, 3) := by decide +kernel
theorem dX7_sendAsk_40 : decode cX7_sendAsk 40 = .ok (.putfield 134, 3) := by decide +kernel
theorem dX7_sendAsk_43 : decode cX7_sendAsk 43 = .ok (.return_, 1) := by decide +kernel
theorem dX7_leadIfChosen_0 : decode cX7_leadIfChosen 0 = .ok (.aload_n 1, 1) := by decide +kernel
theorem dX7_leadIfChosen_1 : decode cX7_leadIfChosen 1 = .ok (.getfield 89, 3) := by decide +kernel
theorem dX7_leadIfChosen_4 : decode cX7_leadIfChosen 4 = .ok (.iconst 1, 1) := by decide +kernel
theorem dX7_leadIfChosen_5 : decode cX7_leadIfChosen 5 = .ok (.if_icmp .ne 21, 3) := by decide +kernel
theorem dX7_leadIfChosen_8 : decode cX7_leadIfChosen 8 = .ok (.aload_n 1, 1) := by decide +kernel
theorem dX7_leadIfChosen_9 : decode cX7_leadIfChosen 9 = .ok (.getfield 108, 3) := by decide +kernel
theorem dX7_leadIfChosen_12 : decode cX7_leadIfChosen 12 = .ok (.invokestatic 137, 3) := by decide +kernel
theorem dX7_leadIfChosen_15 : decode cX7_leadIfChosen 15 = .ok (.aload_n 0, 1) := by decide +kernel
theorem dX7_leadIfChosen_16 : decode cX7_leadIfChosen 16 = .ok (.invokevirtual 142, 3) := by decide +kernel
theorem dX7_leadIfChosen_19 : decode cX7_leadIfChosen 19 = .ok (.if_icmp .lt 7, 3) := by decide +kernel
theorem dX7_leadIfChosen_22 : decode cX7_leadIfChosen 22 = .ok (.aload_n 1, 1) := by decide +kernel
theorem dX7_leadIfChosen_23 : decode cX7_leadIfChosen 23 = .ok (.invokevirtual 145, 3) := by decide +kernel
theorem dX7_leadIfChosen_26 : decode cX7_leadIfChosen 26 = .ok (.return_, 1) := by decide +kernel
theorem dX7_send_0 : decode cX7_send 0 = .ok (.aload_n 0, 1) := by decide +kernel
theorem dX7_send_1 : decode cX7_send 1 = .ok (.getfield 21, 3) := by decide +kernel
theorem dX7_send_4 : decode cX7_send 4 = .ok (.invokevirtual 148, 3) := by decide +kernel
theorem dX7_send_7 : decode cX7_send 7 = .ok (.istore 4, 2) := by decide +kernel
theorem dX7_send_9 : decode cX7_send 9 = .ok (.iload 4, 2) := by decide +kernel
theorem dX7_send_11 : decode cX7_send 11 = .ok (.iconst (-1), 1) := by decide +kernel
theorem dX7_send_12 : decode cX7_send 12 = .ok (.if_icmp .ne 5, 3) := by decide +kernel
theorem dX7_send_15 : decode cX7_send 15 = .ok (.aconst_null, 1) := by decide +kernel
theorem dX7_send_16 : decode cX7_send 16 = .ok (.areturn, 1) := by decide +kernel
theorem dX7_send_17 : decode cX7_send 17 = .ok (.aload_n 0, 1) := by decide +kernel
theorem dX7_send_18 : decode cX7_send 18 = .ok (.getfield 21, 3) := by decide +kernel
theorem dX7_send_21 : decode cX7_send 21 = .ok (.getfield 151, 3) := by decide +kernel
theorem dX7_send_24 : decode cX7_send 24 = .ok (.iload 4, 2) := by decide +kernel
theorem dX7_send_26 : decode cX7_send 26 = .ok (.aaload, 1) := by decide +kernel
theorem dX7_send_27 : decode cX7_send 27 = .ok (.astore 5, 2) := by decide +kernel
theorem dX7_send_29 : decode cX7_send 29 = .ok (.aload 5, 2) := by decide +kernel
theorem dX7_send_31 : decode cX7_send 31 = .ok (.iload_n 1, 1) := by decide +kernel
theorem dX7_send_32 : decode cX7_send 32 = .ok (.iload_n 2, 1) := by decide +kernel
theorem dX7_send_33 : decode cX7_send 33 = .ok (.iload_n 3, 1) := by decide +kernel
theorem dX7_send_34 : decode cX7_send 34 = .ok (.aload_n 0, 1) := by decide +kernel
theorem dX7_send_35 : decode cX7_send 35 = .ok (.getfield 11, 3) := by decide +kernel
theorem dX7_send_38 : decode cX7_send 38 = .ok (.iload_n 2, 1) := by decide +kernel
theorem dX7_send_39 : decode cX7_send 39 = .ok (.aaload, 1) := by decide +kernel
theorem dX7_send_40 : decode cX7_send 40 = .ok (.getfield 98, 3) := by decide +kernel
theorem dX7_send_43 : decode cX7_send 43 = .ok (.invokevirtual 155, 3) := by decide +kernel
theorem dX7_send_46 : decode cX7_send 46 = .ok (.aload 5, 2) := by decide +kernel
theorem dX7_send_48 : decode cX7_send 48 = .ok (.areturn, 1) := by decide +kernel
theorem dX7_addCommand_0 : decode cX7_addCommand 0 = .ok (.aload_n 0, 1) := by decide +kernel
theorem dX7_addCommand_1 : decode cX7_addCommand 1 = .ok (.getfield 11, 3) := by decide +kernel
theorem dX7_addCommand_4 : decode cX7_addCommand 4 = .ok (.iload_n 1, 1) := by decide +kernel
theorem dX7_addCommand_5 : decode cX7_addCommand 5 = .ok (.aaload, 1) := by decide +kernel
theorem dX7_addCommand_6 : decode cX7_addCommand 6 = .ok (.astore 7, 2) := by decide +kernel
theorem dX7_addCommand_8 : decode cX7_addCommand 8 = .ok (.aload 7, 2) := by decide +kernel
theorem dX7_addCommand_10 : decode cX7_addCommand 10 = .ok (.invokevirtual 159, 3) := by decide +kernel
theorem dX7_addCommand_13 : decode cX7_addCommand 13 = .ok (.istore 8, 2) := by decide +kernel
theorem dX7_addCommand_15 : decode cX7_addCommand 15 = .ok (.iload 8, 2) := by decide +kernel
theorem dX7_addCommand_17 : decode cX7_addCommand 17 = .ok (.iconst (-1), 1) := by decide +kernel
theorem dX7_addCommand_18 : decode cX7_addCommand 18 = .ok (.if_icmp .ne 5, 3) := by decide +kernel
theorem dX7_addCommand_21 : decode cX7_addCommand 21 = .ok (.iconst (-1), 1) := by decide +kernel
theorem dX7_addCommand_22 : decode cX7_addCommand 22 = .ok (.ireturn, 1) := by decide +kernel
theorem dX7_addCommand_23 : decode cX7_addCommand 23 = .ok (.aload 7, 2) := by decide +kernel
theorem dX7_addCommand_25 : decode cX7_addCommand 25 = .ok (.getfield 162, 3) := by decide +kernel
theorem dX7_addCommand_28 : decode cX7_addCommand 28 = .ok (.iload 8, 2) := by decide +kernel
theorem dX7_addCommand_30 : decode cX7_addCommand 30 = .ok (.iconst 0, 1) := by decide +kernel
theorem dX7_addCommand_31 : decode cX7_addCommand 31 = .ok (.iadd, 1) := by decide +kernel
theorem dX7_addCommand_32 : decode cX7_addCommand 32 = .ok (.aload 7, 2) := by decide +kernel
theorem dX7_addCommand_34 : decode cX7_addCommand 34 = .ok (.getfield 98, 3) := by decide +kernel
theorem dX7_addCommand_37 : decode cX7_addCommand 37 = .ok (.iastore, 1) := by decide +kernel
theorem dX7_addCommand_38 : decode cX7_addCommand 38 = .ok (.aload 7, 2) := by decide +kernel
theorem dX7_addCommand_40 : decode cX7_addCommand 40 = .ok (.getfield 162, 3) := by decide +kernel
theorem dX7_addCommand_43 : decode cX7_addCommand 43 = .ok (.iload 8, 2) := by decide +kernel
theorem dX7_addCommand_45 : decode cX7_addCommand 45 = .ok (.iconst 1, 1) := by decide +kernel
theorem dX7_addCommand_46 : decode cX7_addCommand 46 = .ok (.iadd, 1) := by decide +kernel
theorem dX7_addCommand_47 : decode cX7_addCommand 47 = .ok (.iload_n 2, 1) := by decide +kernel
theorem dX7_addCommand_48 : decode cX7_addCommand 48 = .ok (.iastore, 1) := by decide +kernel
theorem dX7_addCommand_49 : decode cX7_addCommand 49 = .ok (.aload 7, 2) := by decide +kernel
theorem dX7_addCommand_51 : decode cX7_addCommand 51 = .ok (.getfield 162, 3) := by decide +kernel
theorem dX7_addCommand_54 : decode cX7_addCommand 54 = .ok (.iload 8, 2) := by decide +kernel
theorem dX7_addCommand_56 : decode cX7_addCommand 56 = .ok (.iconst 2, 1) := by decide +kernel
theorem dX7_addCommand_57 : decode cX7_addCommand 57 = .ok (.iadd, 1) := by decide +kernel
theorem dX7_addCommand_58 : decode cX7_addCommand 58 = .ok (.iload_n 3, 1) := by decide +kernel
theorem dX7_addCommand_59 : decode cX7_addCommand 59 = .ok (.iastore, 1) := by decide +kernel
theorem dX7_addCommand_60 : decode cX7_addCommand 60 = .ok (.aload 7, 2) := by decide +kernel
theorem dX7_addCommand_62 : decode cX7_addCommand 62 = .ok (.getfield 162, 3) := by decide +kernel
theorem dX7_addCommand_65 : decode cX7_addCommand 65 = .ok (.iload 8, 2) := by decide +kernel
theorem dX7_addCommand_67 : decode cX7_addCommand 67 = .ok (.iconst 3, 1) := by decide +kernel
theorem dX7_addCommand_68 : decode cX7_addCommand 68 = .ok (.iadd, 1) := by decide +kernel
theorem dX7_addCommand_69 : decode cX7_addCommand 69 = .ok (.iload 4, 2) := by decide +kernel
theorem dX7_addCommand_71 : decode cX7_addCommand 71 = .ok (.iastore, 1) := by decide +kernel
theorem dX7_addCommand_72 : decode cX7_addCommand 72 = .ok (.aload 7, 2) := by decide +kernel
theorem dX7_addCommand_74 : decode cX7_addCommand 74 = .ok (.getfield 162, 3) := by decide +kernel
theorem dX7_addCommand_77 : decode cX7_addCommand 77 = .ok (.iload 8, 2) := by decide +kernel
theorem dX7_addCommand_79 : decode cX7_addCommand 79 = .ok (.iconst 4, 1) := by decide +kernel
theorem dX7_addCommand_80 : decode cX7_addCommand 80 = .ok (.iadd, 1) := by decide +kernel
theorem dX7_addCommand_81 : decode cX7_addCommand 81 = .ok (.iload 5, 2) := by decide +kernel
theorem dX7_addCommand_83 : decode cX7_addCommand 83 = .ok (.iastore, 1) := by decide +kernel
theorem dX7_addCommand_84 : decode cX7_addCommand 84 = .ok (.aload 7, 2) := by decide +kernel
theorem dX7_addCommand_86 : decode cX7_addCommand 86 = .ok (.getfield 162, 3) := by decide +kernel
theorem dX7_addCommand_89 : decode cX7_addCommand 89 = .ok (.iload 8, 2) := by decide +kernel
theorem dX7_addCommand_91 : decode cX7_addCommand 91 = .ok (.iconst 5, 1) := by decide +kernel
theorem dX7_addCommand_92 : decode cX7_addCommand 92 = .ok (.iadd, 1) := by decide +kernel
theorem dX7_addCommand_93 : decode cX7_addCommand 93 = .ok (.iload 6, 2) := by decide +kernel
theorem dX7_addCommand_95 : decode cX7_addCommand 95 = .ok (.iastore, 1) := by decide +kernel
theorem dX7_addCommand_96 : decode cX7_addCommand 96 = .ok (.aload_n 0, 1) := by decide +kernel
theorem dX7_addCommand_97 : decode cX7_addCommand 97 = .ok (.iload_n 1, 1) := by decide +kernel
theorem dX7_addCommand_98 : decode cX7_addCommand 98 = .ok (.invokevirtual 166, 3) := by decide +kernel
theorem dX7_addCommand_101 : decode cX7_addCommand 101 = .ok (.aload 7, 2) := by decide +kernel
theorem dX7_addCommand_103 : decode cX7_addCommand 103 = .ok (.getfield 122, 3) := by decide +kernel
theorem dX7_addCommand_106 : decode cX7_addCommand 106 = .ok (.ireturn, 1) := by decide +kernel
theorem dX7_settle_0 : decode cX7_settle 0 = .ok (.aload_n 0, 1) := by decide +kernel
theorem dX7_settle_1 : decode cX7_settle 1 = .ok (.getfield 11, 3) := by decide +kernel
theorem dX7_settle_4 : decode cX7_settle 4 = .ok (.iload_n 1, 1) := by decide +kernel
theorem dX7_settle_5 : decode cX7_settle 5 = .ok (.aaload, 1) := by decide +kernel
theorem dX7_settle_6 : decode cX7_settle 6 = .ok (.astore_n 2, 1) := by decide +kernel
theorem dX7_settle_7 : decode cX7_settle 7 = .ok (.aload_n 2, 1) := by decide +kernel
theorem dX7_settle_8 : decode cX7_settle 8 = .ok (.getfield 122, 3) := by decide +kernel
theorem dX7_settle_11 : decode cX7_settle 11 = .ok (.istore_n 3, 1) := by decide +kernel
theorem dX7_settle_12 : decode cX7_settle 12 = .ok (.iload_n 3, 1) := by decide +kernel
theorem dX7_settle_13 : decode cX7_settle 13 = .ok (.aload_n 2, 1) := by decide +kernel
theorem dX7_settle_14 : decode cX7_settle 14 = .ok (.getfield 169, 3) := by decide +kernel
theorem dX7_settle_17 : decode cX7_settle 17 = .ok (.if_icmp .le 40, 3) := by decide +kernel
theorem dX7_settle_20 : decode cX7_settle 20 = .ok (.aload_n 2, 1) := by decide +kernel
theorem dX7_settle_21 : decode cX7_settle 21 = .ok (.iload_n 3, 1) := by decide +kernel
theorem dX7_settle_22 : decode cX7_settle 22 = .ok (.invokevirtual 130, 3) := by decide +kernel
theorem dX7_settle_25 : decode cX7_settle 25 = .ok (.aload_n 2, 1) := by decide +kernel
theorem dX7_settle_26 : decode cX7_settle 26 = .ok (.getfield 98, 3) := by decide +kernel
theorem dX7_settle_29 : decode cX7_settle 29 = .ok (.if_icmp .ne 22, 3) := by decide +kernel
theorem dX7_settle_32 : decode cX7_settle 32 = .ok (.aload_n 0, 1) := by decide +kernel
theorem dX7_settle_33 : decode cX7_settle 33 = .ok (.iload_n 1, 1) := by decide +kernel
theorem dX7_settle_34 : decode cX7_settle 34 = .ok (.iload_n 3, 1) := by decide +kernel
theorem dX7_settle_35 : decode cX7_settle 35 = .ok (.invokevirtual 172, 3) := by decide +kernel
theorem dX7_settle_38 : decode cX7_settle 38 = .ok (.aload_n 0, 1) := by decide +kernel
theorem dX7_settle_39 : decode cX7_settle 39 = .ok (.invokevirtual 142, 3) := by decide +kernel
theorem dX7_settle_42 : decode cX7_settle 42 = .ok (.if_icmp .lt 9, 3) := by decide +kernel
theorem dX7_settle_45 : decode cX7_settle 45 = .ok (.aload_n 2, 1) := by decide +kernel
theorem dX7_settle_46 : decode cX7_settle 46 = .ok (.iload_n 3, 1) := by decide +kernel
theorem dX7_settle_47 : decode cX7_settle 47 = .ok (.invokevirtual 175, 3) := by decide +kernel
theorem dX7_settle_50 : decode cX7_settle 50 = .ok (.return_, 1) := by decide +kernel
theorem dX7_settle_51 : decode cX7_settle 51 = .ok (.iinc 3 (-1), 3) := by decide +kernel
theorem dX7_settle_54 : decode cX7_settle 54 = .ok (.goto (-42), 3) := by decide +kernel
theorem dX7_settle_57 : decode cX7_settle 57 = .ok (.return_, 1) := by decide +kernel
theorem dX7_countSure_0 : decode cX7_countSure 0 = .ok (.iconst 0, 1) := by decide +kernel
theorem dX7_countSure_1 : decode cX7_countSure 1 = .ok (.istore_n 3, 1) := by decide +kernel
theorem dX7_countSure_2 : decode cX7_countSure 2 = .ok (.iconst 0, 1) := by decide +kernel
theorem dX7_countSure_3 : decode cX7_countSure 3 = .ok (.istore 4, 2) := by decide +kernel
theorem dX7_countSure_5 : decode cX7_countSure 5 = .ok (.iload 4, 2) := by decide +kernel
theorem dX7_countSure_7 : decode cX7_countSure 7 = .ok (.aload_n 0, 1) := by decide +kernel
theorem dX7_countSure_8 : decode cX7_countSure 8 = .ok (.getfield 44, 3) := by decide +kernel
theorem dX7_countSure_11 : decode cX7_countSure 11 = .ok (.if_icmp .ge 47, 3) := by decide +kernel
theorem dX7_countSure_14 : decode cX7_countSure 14 = .ok (.aload_n 0, 1) := by decide +kernel
theorem dX7_countSure_15 : decode cX7_countSure 15 = .ok (.getfield 11, 3) := by decide +kernel
theorem dX7_countSure_18 : decode cX7_countSure 18 = .ok (.iload 4, 2) := by decide +kernel
theorem dX7_countSure_20 : decode cX7_countSure 20 = .ok (.aaload, 1) := by decide +kernel
theorem dX7_countSure_21 : decode cX7_countSure 21 = .ok (.getfield 95, 3) := by decide +kernel
theorem dX7_countSure_24 : decode cX7_countSure 24 = .ok (.ifCond .eq 28, 3) := by decide +kernel
theorem dX7_countSure_27 : decode cX7_countSure 27 = .ok (.iload 4, 2) := by decide +kernel
theorem dX7_countSure_29 : decode cX7_countSure 29 = .ok (.iload_n 1, 1) := by decide +kernel
theorem dX7_countSure_30 : decode cX7_countSure 30 = .ok (.if_icmp .eq 19, 3) := by decide +kernel
theorem dX7_countSure_33 : decode cX7_countSure 33 = .ok (.aload_n 0, 1) := by decide +kernel
theorem dX7_countSure_34 : decode cX7_countSure 34 = .ok (.getfield 11, 3) := by decide +kernel
theorem dX7_countSure_37 : decode cX7_countSure 37 = .ok (.iload_n 1, 1) := by decide +kernel
theorem dX7_countSure_38 : decode cX7_countSure 38 = .ok (.aaload, 1) := by decide +kernel
theorem dX7_countSure_39 : decode cX7_countSure 39 = .ok (.getfield 178, 3) := by decide +kernel
theorem dX7_countSure_42 : decode cX7_countSure 42 = .ok (.iload 4, 2) := by decide +kernel
theorem dX7_countSure_44 : decode cX7_countSure 44 = .ok (.iaload, 1) := by decide +kernel
theorem dX7_countSure_45 : decode cX7_countSure 45 = .ok (.iload_n 2, 1) := by decide +kernel
theorem dX7_countSure_46 : decode cX7_countSure 46 = .ok (.if_icmp .lt 6, 3) := by decide +kernel
theorem dX7_countSure_49 : decode cX7_countSure 49 = .ok (.iinc 3 1, 3) := by decide +kernel
theorem dX7_countSure_52 : decode cX7_countSure 52 = .ok (.iinc 4 1, 3) := by decide +kernel
theorem dX7_countSure_55 : decode cX7_countSure 55 = .ok (.goto (-50), 3) := by decide +kernel
theorem dX7_countSure_58 : decode cX7_countSure 58 = .ok (.iload_n 3, 1) := by decide +kernel
theorem dX7_countSure_59 : decode cX7_countSure 59 = .ok (.ireturn, 1) := by decide +kernel
theorem dX7_sendOn_0 : decode cX7_sendOn 0 = .ok (.aload_n 0, 1) := by decide +kernel
theorem dX7_sendOn_1 : decode cX7_sendOn 1 = .ok (.getfield 11, 3) := by decide +kernel
theorem dX7_sendOn_4 : decode cX7_sendOn 4 = .ok (.iload_n 1, 1) := by decide +kernel
theorem dX7_sendOn_5 : decode cX7_sendOn 5 = .ok (.aaload, 1) := by decide +kernel
theorem dX7_sendOn_6 : decode cX7_sendOn 6 = .ok (.astore_n 3, 1) := by decide +kernel
theorem dX7_sendOn_7 : decode cX7_sendOn 7 = .ok (.aload_n 0, 1) := by decide +kernel
theorem dX7_sendOn_8 : decode cX7_sendOn 8 = .ok (.getfield 21, 3) := by decide +kernel
theorem dX7_sendOn_11 : decode cX7_sendOn 11 = .ok (.invokevirtual 148, 3) := by decide +kernel
theorem dX7_sendOn_14 : decode cX7_sendOn 14 = .ok (.istore 4, 2) := by decide +kernel
theorem dX7_sendOn_16 : decode cX7_sendOn 16 = .ok (.aload_n 0, 1) := by decide +kernel
theorem dX7_sendOn_17 : decode cX7_sendOn 17 = .ok (.aload_n 3, 1) := by decide +kernel
theorem dX7_sendOn_18 : decode cX7_sendOn 18 = .ok (.getfield 181, 3) := by decide +kernel
theorem dX7_sendOn_21 : decode cX7_sendOn 21 = .ok (.iload_n 2, 1) := by decide +kernel
theorem dX7_sendOn_22 : decode cX7_sendOn 22 = .ok (.iaload, 1) := by decide +kernel
theorem dX7_sendOn_23 : decode cX7_sendOn 23 = .ok (.aload_n 3, 1) := by decide +kernel
theorem dX7_sendOn_24 : decode cX7_sendOn 24 = .ok (.getfield 184, 3) := by decide +kernel
theorem dX7_sendOn_27 : decode cX7_sendOn 27 = .ok (.if_icmp .gt 7, 3) := by decide +kernel
theorem dX7_sendOn_30 : decode cX7_sendOn 30 = .ok (.iconst 4, 1) := by decide +kernel
theorem dX7_sendOn_31 : decode cX7_sendOn 31 = .ok (.goto 4, 3) := by decide +kernel
theorem dX7_sendOn_34 : decode cX7_sendOn 34 = .ok (.iconst 2, 1) := by decide +kernel
theorem dX7_sendOn_35 : decode cX7_sendOn 35 = .ok (.iload_n 1, 1) := by decide +kernel
theorem dX7_sendOn_36 : decode cX7_sendOn 36 = .ok (.iload_n 2, 1) := by decide +kernel
theorem dX7_sendOn_37 : decode cX7_sendOn 37 = .ok (.invokevirtual 118, 3) := by decide +kernel
theorem dX7_sendOn_40 : decode cX7_sendOn 40 = .ok (.astore 5, 2) := by decide +kernel
theorem dX7_sendOn_42 : decode cX7_sendOn 42 = .ok (.aload 5, 2) := by decide +kernel
theorem dX7_sendOn_44 : decode cX7_sendOn 44 = .ok (.ifnonnull 5, 3) := by decide +kernel
theorem dX7_sendOn_47 : decode cX7_sendOn 47 = .ok (.iconst (-1), 1) := by decide +kernel
theorem dX7_sendOn_48 : decode cX7_sendOn 48 = .ok (.ireturn, 1) := by decide +kernel
theorem dX7_sendOn_49 : decode cX7_sendOn 49 = .ok (.aload_n 3, 1) := by decide +kernel
theorem dX7_sendOn_50 : decode cX7_sendOn 50 = .ok (.dup, 1) := by decide +kernel
theorem dX7_sendOn_51 : decode cX7_sendOn 51 = .ok (.getfield 187, 3) := by decide +kernel
theorem dX7_sendOn_54 : decode cX7_sendOn 54 = .ok (.iconst 1, 1) := by decide +kernel
theorem dX7_sendOn_55 : decode cX7_sendOn 55 = .ok (.iadd, 1) := by decide +kernel
theorem dX7_sendOn_56 : decode cX7_sendOn 56 = .ok (.putfield 187, 3) := by decide +kernel
theorem dX7_sendOn_59 : decode cX7_sendOn 59 = .ok (.aload 5, 2) := by decide +kernel
theorem dX7_sendOn_61 : decode cX7_sendOn 61 = .ok (.aload_n 3, 1) := by decide +kernel
theorem dX7_sendOn_62 : decode cX7_sendOn 62 = .ok (.getfield 187, 3) := by decide +kernel
theorem dX7_sendOn_65 : decode cX7_sendOn 65 = .ok (.putfield 190, 3) := by decide +kernel
theorem dX7_sendOn_68 : decode cX7_sendOn 68 = .ok (.aload 5, 2) := by decide +kernel
theorem dX7_sendOn_70 : decode cX7_sendOn 70 = .ok (.getfield 191, 3) := by decide +kernel
theorem dX7_sendOn_73 : decode cX7_sendOn 73 = .ok (.iconst 4, 1) := by decide +kernel
theorem dX7_sendOn_74 : decode cX7_sendOn 74 = .ok (.if_icmp .ne 12, 3) := by decide +kernel
theorem dX7_sendOn_77 : decode cX7_sendOn 77 = .ok (.aload 5, 2) := by decide +kernel
theorem dX7_sendOn_79 : decode cX7_sendOn 79 = .ok (.aload_n 3, 1) := by decide +kernel
theorem dX7_sendOn_80 : decode cX7_sendOn 80 = .ok (.invokevirtual 194, 3) := by decide +kernel
theorem dX7_sendOn_83 : decode cX7_sendOn 83 = .ok (.goto 15, 3) := by decide +kernel
theorem dX7_sendOn_86 : decode cX7_sendOn 86 = .ok (.aload 5, 2) := by decide +kernel
theorem dX7_sendOn_88 : decode cX7_sendOn 88 = .ok (.aload_n 3, 1) := by decide +kernel
theorem dX7_sendOn_89 : decode cX7_sendOn 89 = .ok (.aload_n 3, 1) := by decide +kernel
theorem dX7_sendOn_90 : decode cX7_sendOn 90 = .ok (.getfield 181, 3) := by decide +kernel
theorem dX7_sendOn_93 : decode cX7_sendOn 93 = .ok (.iload_n 2, 1) := by decide +kernel
theorem dX7_sendOn_94 : decode cX7_sendOn 94 = .ok (.iaload, 1) := by decide +kernel
theorem dX7_sendOn_95 : decode cX7_sendOn 95 = .ok (.invokevirtual 197, 3) := by decide +kernel
theorem dX7_sendOn_98 : decode cX7_sendOn 98 = .ok (.iload 4, 2) := by decide +kernel
theorem dX7_sendOn_100 : decode cX7_sendOn 100 = .ok (.ireturn, 1) := by decide +kernel
theorem dX7_deliverFrom_0 : decode cX7_deliverFrom 0 = .ok (.aload_n 0, 1) := by decide +kernel
theorem dX7_deliverFrom_1 : decode cX7_deliverFrom 1 = .ok (.getfield 21, 3) := by decide +kernel
theorem dX7_deliverFrom_4 : decode cX7_deliverFrom 4 = .ok (.iload_n 1, 1) := by decide +kernel
theorem dX7_deliverFrom_5 : decode cX7_deliverFrom 5 = .ok (.invokevirtual 201, 3) := by decide +kernel
theorem dX7_deliverFrom_8 : decode cX7_deliverFrom 8 = .ok (.astore_n 2, 1) := by decide +kernel
theorem dX7_deliverFrom_9 : decode cX7_deliverFrom 9 = .ok (.aload_n 0, 1) := by decide +kernel
theorem dX7_deliverFrom_10 : decode cX7_deliverFrom 10 = .ok (.aload_n 2, 1) := by decide +kernel
theorem dX7_deliverFrom_11 : decode cX7_deliverFrom 11 = .ok (.getfield 205, 3) := by decide +kernel
theorem dX7_deliverFrom_14 : decode cX7_deliverFrom 14 = .ok (.invokevirtual 86, 3) := by decide +kernel
theorem dX7_deliverFrom_17 : decode cX7_deliverFrom 17 = .ok (.ifCond .eq 14, 3) := by decide +kernel
theorem dX7_deliverFrom_20 : decode cX7_deliverFrom 20 = .ok (.aload_n 0, 1) := by decide +kernel
theorem dX7_deliverFrom_21 : decode cX7_deliverFrom 21 = .ok (.aload_n 2, 1) := by decide +kernel
theorem dX7_deliverFrom_22 : decode cX7_deliverFrom 22 = .ok (.getfield 208, 3) := by decide +kernel
theorem dX7_deliverFrom_25 : decode cX7_deliverFrom 25 = .ok (.invokevirtual 78, 3) := by decide +kernel
theorem dX7_deliverFrom_28 : decode cX7_deliverFrom 28 = .ok (.ifCond .ne 5, 3) := by decide +kernel
theorem dX7_deliverFrom_31 : decode cX7_deliverFrom 31 = .ok (.iconst 0, 1) := by decide +kernel
theorem dX7_deliverFrom_32 : decode cX7_deliverFrom 32 = .ok (.ireturn, 1) := by decide +kernel
theorem dX7_deliverFrom_33 : decode cX7_deliverFrom 33 = .ok (.aload_n 0, 1) := by decide +kernel
theorem dX7_deliverFrom_34 : decode cX7_deliverFrom 34 = .ok (.getfield 11, 3) := by decide +kernel
theorem dX7_deliverFrom_37 : decode cX7_deliverFrom 37 = .ok (.aload_n 2, 1) := by decide +kernel
theorem dX7_deliverFrom_38 : decode cX7_deliverFrom 38 = .ok (.getfield 205, 3) := by decide +kernel
theorem dX7_deliverFrom_41 : decode cX7_deliverFrom 41 = .ok (.aaload, 1) := by decide +kernel
theorem dX7_deliverFrom_42 : decode cX7_deliverFrom 42 = .ok (.astore_n 3, 1) := by decide +kernel
theorem dX7_deliverFrom_43 : decode cX7_deliverFrom 43 = .ok (.aload_n 2, 1) := by decide +kernel
theorem dX7_deliverFrom_44 : decode cX7_deliverFrom 44 = .ok (.getfield 211, 3) := by decide +kernel
theorem dX7_deliverFrom_47 : decode cX7_deliverFrom 47 = .ok (.aload_n 3, 1) := by decide +kernel
theorem dX7_deliverFrom_48 : decode cX7_deliverFrom 48 = .ok (.getfield 98, 3) := by decide +kernel
theorem dX7_deliverFrom_51 : decode cX7_deliverFrom 51 = .ok (.if_icmp .le 11, 3) := by decide +kernel
theorem dX7_deliverFrom_54 : decode cX7_deliverFrom 54 = .ok (.aload_n 3, 1) := by decide +kernel
theorem dX7_deliverFrom_55 : decode cX7_deliverFrom 55 = .ok (.aload_n 2, 1) := by decide +kernel
theorem dX7_deliverFrom_56 : decode cX7_deliverFrom 56 = .ok (.getfield 211, 3) := by decide +kernel
theorem dX7_deliverFrom_59 : decode cX7_deliverFrom 59 = .ok (.invokevirtual 101, 3) := by decide +kernel
theorem dX7_deliverFrom_62 : decode cX7_deliverFrom 62 = .ok (.aload_n 2, 1) := by decide +kernel
theorem dX7_deliverFrom_63 : decode cX7_deliverFrom 63 = .ok (.getfield 191, 3) := by decide +kernel
theorem dX7_deliverFrom_66 : decode cX7_deliverFrom 66 = .ok (.tableswitch 51 0 3 #[30, 37, 51, 44], 30) := by decide +kernel
theorem dX7_deliverFrom_96 : decode cX7_deliverFrom 96 = .ok (.aload_n 0, 1) := by decide +kernel
theorem dX7_deliverFrom_97 : decode cX7_deliverFrom 97 = .ok (.aload_n 3, 1) := by decide +kernel
theorem dX7_deliverFrom_98 : decode cX7_deliverFrom 98 = .ok (.aload_n 2, 1) := by decide +kernel
theorem dX7_deliverFrom_99 : decode cX7_deliverFrom 99 = .ok (.invokevirtual 212, 3) := by decide +kernel
theorem dX7_deliverFrom_102 : decode cX7_deliverFrom 102 = .ok (.ireturn, 1) := by decide +kernel
theorem dX7_deliverFrom_103 : decode cX7_deliverFrom 103 = .ok (.aload_n 0, 1) := by decide +kernel
theorem dX7_deliverFrom_104 : decode cX7_deliverFrom 104 = .ok (.aload_n 3, 1) := by decide +kernel
theorem dX7_deliverFrom_105 : decode cX7_deliverFrom 105 = .ok (.aload_n 2, 1) := by decide +kernel
theorem dX7_deliverFrom_106 : decode cX7_deliverFrom 106 = .ok (.invokevirtual 216, 3) := by decide +kernel
theorem dX7_deliverFrom_109 : decode cX7_deliverFrom 109 = .ok (.ireturn, 1) := by decide +kernel
theorem dX7_deliverFrom_110 : decode cX7_deliverFrom 110 = .ok (.aload_n 0, 1) := by decide +kernel
theorem dX7_deliverFrom_111 : decode cX7_deliverFrom 111 = .ok (.aload_n 3, 1) := by decide +kernel
theorem dX7_deliverFrom_112 : decode cX7_deliverFrom 112 = .ok (.aload_n 2, 1) := by decide +kernel
theorem dX7_deliverFrom_113 : decode cX7_deliverFrom 113 = .ok (.invokevirtual 219, 3) := by decide +kernel
theorem dX7_deliverFrom_116 : decode cX7_deliverFrom 116 = .ok (.ireturn, 1) := by decide +kernel
theorem dX7_deliverFrom_117 : decode cX7_deliverFrom 117 = .ok (.aload_n 0, 1) := by decide +kernel
theorem dX7_deliverFrom_118 : decode cX7_deliverFrom 118 = .ok (.aload_n 3, 1) := by decide +kernel
theorem dX7_deliverFrom_119 : decode cX7_deliverFrom 119 = .ok (.aload_n 2, 1) := by decide +kernel
theorem dX7_deliverFrom_120 : decode cX7_deliverFrom 120 = .ok (.invokevirtual 222, 3) := by decide +kernel
theorem dX7_deliverFrom_123 : decode cX7_deliverFrom 123 = .ok (.ireturn, 1) := by decide +kernel
theorem dX7_reply_0 : decode cX7_reply 0 = .ok (.aload_n 0, 1) := by decide +kernel
theorem dX7_reply_1 : decode cX7_reply 1 = .ok (.iload_n 2, 1) := by decide +kernel
theorem dX7_reply_2 : decode cX7_reply 2 = .ok (.aload_n 1, 1) := by decide +kernel
theorem dX7_reply_3 : decode cX7_reply 3 = .ok (.getfield 205, 3) := by decide +kernel
theorem dX7_reply_6 : decode cX7_reply 6 = .ok (.aload_n 1, 1) := by decide +kernel
theorem dX7_reply_7 : decode cX7_reply 7 = .ok (.getfield 208, 3) := by decide +kernel
theorem dX7_reply_10 : decode cX7_reply 10 = .ok (.invokevirtual 118, 3) := by decide +kernel
theorem dX7_reply_13 : decode cX7_reply 13 = .ok (.astore 5, 2) := by decide +kernel
theorem dX7_reply_15 : decode cX7_reply 15 = .ok (.aload 5, 2) := by decide +kernel
theorem dX7_reply_17 : decode cX7_reply 17 = .ok (.ifnonnull 5, 3) := by decide +kernel
theorem dX7_reply_20 : decode cX7_reply 20 = .ok (.iconst 0, 1) := by decide +kernel
theorem dX7_reply_21 : decode cX7_reply 21 = .ok (.ireturn, 1) := by decide +kernel
theorem dX7_reply_22 : decode cX7_reply 22 = .ok (.aload 5, 2) := by decide +kernel
theorem dX7_reply_24 : decode cX7_reply 24 = .ok (.iload_n 3, 1) := by decide +kernel
theorem dX7_reply_25 : decode cX7_reply 25 = .ok (.ifCond .eq 7, 3) := by decide +kernel
theorem dX7_reply_28 : decode cX7_reply 28 = .ok (.iconst 1, 1) := by decide +kernel
theorem dX7_reply_29 : decode cX7_reply 29 = .ok (.goto 4, 3) := by decide +kernel
theorem dX7_reply_32 : decode cX7_reply 32 = .ok (.iconst 0, 1) := by decide +kernel
theorem dX7_reply_33 : decode cX7_reply 33 = .ok (.putfield 125, 3) := by decide +kernel
theorem dX7_reply_36 : decode cX7_reply 36 = .ok (.aload 5, 2) := by decide +kernel
theorem dX7_reply_38 : decode cX7_reply 38 = .ok (.iload 4, 2) := by decide +kernel
theorem dX7_reply_40 : decode cX7_reply 40 = .ok (.putfield 134, 3) := by decide +kernel
theorem dX7_reply_43 : decode cX7_reply 43 = .ok (.aload 5, 2) := by decide +kernel
theorem dX7_reply_45 : decode cX7_reply 45 = .ok (.aload_n 1, 1) := by decide +kernel
theorem dX7_reply_46 : decode cX7_reply 46 = .ok (.getfield 190, 3) := by decide +kernel
theorem dX7_reply_49 : decode cX7_reply 49 = .ok (.putfield 190, 3) := by decide +kernel
theorem dX7_reply_52 : decode cX7_reply 52 = .ok (.iconst 1, 1) := by decide +kernel
theorem dX7_reply_53 : decode cX7_reply 53 = .ok (.ireturn, 1) := by decide +kernel
theorem dX7_takeAsk_0 : decode cX7_takeAsk 0 = .ok (.aload_n 1, 1) := by decide +kernel
theorem dX7_takeAsk_1 : decode cX7_takeAsk 1 = .ok (.getfield 105, 3) := by decide +kernel
theorem dX7_takeAsk_4 : decode cX7_takeAsk 4 = .ok (.iconst (-1), 1) := by decide +kernel
theorem dX7_takeAsk_5 : decode cX7_takeAsk 5 = .ok (.if_icmp .eq 14, 3) := by decide +kernel
theorem dX7_takeAsk_8 : decode cX7_takeAsk 8 = .ok (.aload_n 1, 1) := by decide +kernel
theorem dX7_takeAsk_9 : decode cX7_takeAsk 9 = .ok (.getfield 105, 3) := by decide +kernel
theorem dX7_takeAsk_12 : decode cX7_takeAsk 12 = .ok (.aload_n 2, 1) := by decide +kernel
theorem dX7_takeAsk_13 : decode cX7_takeAsk 13 = .ok (.getfield 208, 3) := by decide +kernel
theorem dX7_takeAsk_16 : decode cX7_takeAsk 16 = .ok (.if_icmp .ne 7, 3) := by decide +kernel
theorem dX7_takeAsk_19 : decode cX7_takeAsk 19 = .ok (.iconst 1, 1) := by decide +kernel
theorem dX7_takeAsk_20 : decode cX7_takeAsk 20 = .ok (.goto 4, 3) := by decide +kernel
theorem dX7_takeAsk_23 : decode cX7_takeAsk 23 = .ok (.iconst 0, 1) := by decide +kernel
theorem dX7_takeAsk_24 : decode cX7_takeAsk 24 = .ok (.istore_n 3, 1) := by decide +kernel
theorem dX7_takeAsk_25 : decode cX7_takeAsk 25 = .ok (.aload_n 1, 1) := by decide +kernel
theorem dX7_takeAsk_26 : decode cX7_takeAsk 26 = .ok (.getfield 95, 3) := by decide +kernel
theorem dX7_takeAsk_29 : decode cX7_takeAsk 29 = .ok (.ifCond .eq 31, 3) := by decide +kernel
theorem dX7_takeAsk_32 : decode cX7_takeAsk 32 = .ok (.aload_n 1, 1) := by decide +kernel
theorem dX7_takeAsk_33 : decode cX7_takeAsk 33 = .ok (.getfield 98, 3) := by decide +kernel
theorem dX7_takeAsk_36 : decode cX7_takeAsk 36 = .ok (.aload_n 2, 1) := by decide +kernel
theorem dX7_takeAsk_37 : decode cX7_takeAsk 37 = .ok (.getfield 211, 3) := by decide +kernel
theorem dX7_takeAsk_40 : decode cX7_takeAsk 40 = .ok (.if_icmp .ne 20, 3) := by decide +kernel
theorem dX7_takeAsk_43 : decode cX7_takeAsk 43 = .ok (.iload_n 3, 1) := by decide +kernel
theorem dX7_takeAsk_44 : decode cX7_takeAsk 44 = .ok (.ifCond .eq 16, 3) := by decide +kernel
theorem dX7_takeAsk_47 : decode cX7_takeAsk 47 = .ok (.aload_n 0, 1) := by decide +kernel
theorem dX7_takeAsk_48 : decode cX7_takeAsk 48 = .ok (.aload_n 1, 1) := by decide +kernel
theorem dX7_takeAsk_49 : decode cX7_takeAsk 49 = .ok (.aload_n 2, 1) := by decide +kernel
theorem dX7_takeAsk_50 : decode cX7_takeAsk 50 = .ok (.invokevirtual 225, 3) := by decide +kernel
theorem dX7_takeAsk_53 : decode cX7_takeAsk 53 = .ok (.ifCond .ne 7, 3) := by decide +kernel
theorem dX7_takeAsk_56 : decode cX7_takeAsk 56 = .ok (.iconst 1, 1) := by decide +kernel
theorem dX7_takeAsk_57 : decode cX7_takeAsk 57 = .ok (.goto 4, 3) := by decide +kernel
theorem dX7_takeAsk_60 : decode cX7_takeAsk 60 = .ok (.iconst 0, 1) := by decide +kernel
theorem dX7_takeAsk_61 : decode cX7_takeAsk 61 = .ok (.istore 4, 2) := by decide +kernel
theorem dX7_takeAsk_63 : decode cX7_takeAsk 63 = .ok (.iload 4, 2) := by decide +kernel
theorem dX7_takeAsk_65 : decode cX7_takeAsk 65 = .ok (.ifCond .eq 11, 3) := by decide +kernel
theorem dX7_takeAsk_68 : decode cX7_takeAsk 68 = .ok (.aload_n 1, 1) := by decide +kernel
theorem dX7_takeAsk_69 : decode cX7_takeAsk 69 = .ok (.aload_n 2, 1) := by decide +kernel
theorem dX7_takeAsk_70 : decode cX7_takeAsk 70 = .ok (.getfield 208, 3) := by decide +kernel
theorem dX7_takeAsk_73 : decode cX7_takeAsk 73 = .ok (.putfield 105, 3) := by decide +kernel
theorem dX7_takeAsk_76 : decode cX7_takeAsk 76 = .ok (.aload_n 0, 1) := by decide +kernel
theorem dX7_takeAsk_77 : decode cX7_takeAsk 77 = .ok (.aload_n 2, 1) := by decide +kernel
theorem dX7_takeAsk_78 : decode cX7_takeAsk 78 = .ok (.iconst 1, 1) := by decide +kernel
theorem dX7_takeAsk_79 : decode cX7_takeAsk 79 = .ok (.iload 4, 2) := by decide +kernel
theorem dX7_takeAsk_81 : decode cX7_takeAsk 81 = .ok (.iconst 0, 1) := by decide +kernel
theorem dX7_takeAsk_82 : decode cX7_takeAsk 82 = .ok (.invokevirtual 229, 3) := by decide +kernel
theorem dX7_takeAsk_85 : decode cX7_takeAsk 85 = .ok (.ireturn, 1) := by decide +kernel
theorem dX7_isAhead_0 : decode cX7_isAhead 0 = .ok (.aload_n 1, 1) := by decide +kernel
theorem dX7_isAhead_1 : decode cX7_isAhead 1 = .ok (.aload_n 1, 1) := by decide +kernel
theorem dX7_isAhead_2 : decode cX7_isAhead 2 = .ok (.getfield 122, 3) := by decide +kernel
theorem dX7_isAhead_5 : decode cX7_isAhead 5 = .ok (.invokevirtual 130, 3) := by decide +kernel
theorem dX7_isAhead_8 : decode cX7_isAhead 8 = .ok (.istore_n 3, 1) := by decide +kernel
theorem dX7_isAhead_9 : decode cX7_isAhead 9 = .ok (.iload_n 3, 1) := by decide +kernel
theorem dX7_isAhead_10 : decode cX7_isAhead 10 = .ok (.aload_n 2, 1) := by decide +kernel
theorem dX7_isAhead_11 : decode cX7_isAhead 11 = .ok (.getfield 134, 3) := by decide +kernel
theorem dX7_isAhead_14 : decode cX7_isAhead 14 = .ok (.if_icmp .gt 22, 3) := by decide +kernel
theorem dX7_isAhead_17 : decode cX7_isAhead 17 = .ok (.iload_n 3, 1) := by decide +kernel
theorem dX7_isAhead_18 : decode cX7_isAhead 18 = .ok (.aload_n 2, 1) := by decide +kernel
theorem dX7_isAhead_19 : decode cX7_isAhead 19 = .ok (.getfield 134, 3) := by decide +kernel
theorem dX7_isAhead_22 : decode cX7_isAhead 22 = .ok (.if_icmp .ne 18, 3) := by decide +kernel
theorem dX7_isAhead_25 : decode cX7_isAhead 25 = .ok (.aload_n 1, 1) := by decide +kernel
theorem dX7_isAhead_26 : decode cX7_isAhead 26 = .ok (.getfield 122, 3) := by decide +kernel
theorem dX7_isAhead_29 : decode cX7_isAhead 29 = .ok (.aload_n 2, 1) := by decide +kernel
theorem dX7_isAhead_30 : decode cX7_isAhead 30 = .ok (.getfield 125, 3) := by decide +kernel
theorem dX7_isAhead_33 : decode cX7_isAhead 33 = .ok (.if_icmp .le 7, 3) := by decide +kernel
theorem dX7_isAhead_36 : decode cX7_isAhead 36 = .ok (.iconst 1, 1) := by decide +kernel
theorem dX7_isAhead_37 : decode cX7_isAhead 37 = .ok (.goto 4, 3) := by decide +kernel
theorem dX7_isAhead_40 : decode cX7_isAhead 40 = .ok (.iconst 0, 1) := by decide +kernel
theorem dX7_isAhead_41 : decode cX7_isAhead 41 = .ok (.ireturn, 1) := by decide +kernel
theorem dX7_takeBallot_0 : decode cX7_takeBallot 0 = .ok (.aload_n 1, 1) := by decide +kernel
theorem dX7_takeBallot_1 : decode cX7_takeBallot 1 = .ok (.getfield 89, 3) := by decide +kernel
theorem dX7_takeBallot_4 : decode cX7_takeBallot 4 = .ok (.iconst 1, 1) := by decide +kernel
theorem dX7_takeBallot_5 : decode cX7_takeBallot 5 = .ok (.if_icmp .ne 42, 3) := by decide +kernel
theorem dX7_takeBallot_8 : decode cX7_takeBallot 8 = .ok (.aload_n 1, 1) := by decide +kernel
theorem dX7_takeBallot_9 : decode cX7_takeBallot 9 = .ok (.getfield 98, 3) := by decide +kernel
theorem dX7_takeBallot_12 : decode cX7_takeBallot 12 = .ok (.aload_n 2, 1) := by decide +kernel
theorem dX7_takeBallot_13 : decode cX7_takeBallot 13 = .ok (.getfield 211, 3) := by decide +kernel
theorem dX7_takeBallot_16 : decode cX7_takeBallot 16 = .ok (.if_icmp .ne 31, 3) := by decide +kernel
theorem dX7_takeBallot_19 : decode cX7_takeBallot 19 = .ok (.aload_n 2, 1) := by decide +kernel
theorem dX7_takeBallot_20 : decode cX7_takeBallot 20 = .ok (.getfield 125, 3) := by decide +kernel
theorem dX7_takeBallot_23 : decode cX7_takeBallot 23 = .ok (.iconst 1, 1) := by decide +kernel
theorem dX7_takeBallot_24 : decode cX7_takeBallot 24 = .ok (.if_icmp .ne 23, 3) := by decide +kernel
theorem dX7_takeBallot_27 : decode cX7_takeBallot 27 = .ok (.aload_n 1, 1) := by decide +kernel
theorem dX7_takeBallot_28 : decode cX7_takeBallot 28 = .ok (.dup, 1) := by decide +kernel
theorem dX7_takeBallot_29 : decode cX7_takeBallot 29 = .ok (.getfield 108, 3) := by decide +kernel
theorem dX7_takeBallot_32 : decode cX7_takeBallot 32 = .ok (.iconst 1, 1) := by decide +kernel
theorem dX7_takeBallot_33 : decode cX7_takeBallot 33 = .ok (.aload_n 2, 1) := by decide +kernel
theorem dX7_takeBallot_34 : decode cX7_takeBallot 34 = .ok (.getfield 208, 3) := by decide +kernel
theorem dX7_takeBallot_37 : decode cX7_takeBallot 37 = .ok (.ishl, 1) := by decide +kernel
theorem dX7_takeBallot_38 : decode cX7_takeBallot 38 = .ok (.ior, 1) := by decide +kernel
theorem dX7_takeBallot_39 : decode cX7_takeBallot 39 = .ok (.putfield 108, 3) := by decide +kernel
theorem dX7_takeBallot_42 : decode cX7_takeBallot 42 = .ok (.aload_n 0, 1) := by decide +kernel
theorem dX7_takeBallot_43 : decode cX7_takeBallot 43 = .ok (.aload_n 1, 1) := by decide +kernel
theorem dX7_takeBallot_44 : decode cX7_takeBallot 44 = .ok (.invokevirtual 115, 3) := by decide +kernel
theorem dX7_takeBallot_47 : decode cX7_takeBallot 47 = .ok (.iconst 0, 1) := by decide +kernel
theorem dX7_takeBallot_48 : decode cX7_takeBallot 48 = .ok (.ireturn, 1) := by decide +kernel
theorem dX7_takeAnswer_0 : decode cX7_takeAnswer 0 = .ok (.aload_n 1, 1) := by decide +kernel
theorem dX7_takeAnswer_1 : decode cX7_takeAnswer 1 = .ok (.getfield 89, 3) := by decide +kernel
theorem dX7_takeAnswer_4 : decode cX7_takeAnswer 4 = .ok (.iconst 2, 1) := by decide +kernel
theorem dX7_takeAnswer_5 : decode cX7_takeAnswer 5 = .ok (.if_icmp .ne 14, 3) := by decide +kernel
theorem dX7_takeAnswer_8 : decode cX7_takeAnswer 8 = .ok (.aload_n 1, 1) := by decide +kernel
theorem dX7_takeAnswer_9 : decode cX7_takeAnswer 9 = .ok (.getfield 98, 3) := by decide +kernel
theorem dX7_takeAnswer_12 : decode cX7_takeAnswer 12 = .ok (.aload_n 2, 1) := by decide +kernel
theorem dX7_takeAnswer_13 : decode cX7_takeAnswer 13 = .ok (.getfield 211, 3) := by decide +kernel
theorem dX7_takeAnswer_16 : decode cX7_takeAnswer 16 = .ok (.if_icmp .eq 5, 3) := by decide +kernel
theorem dX7_takeAnswer_19 : decode cX7_takeAnswer 19 = .ok (.iconst 0, 1) := by decide +kernel
theorem dX7_takeAnswer_20 : decode cX7_takeAnswer 20 = .ok (.ireturn, 1) := by decide +kernel
theorem dX7_takeAnswer_21 : decode cX7_takeAnswer 21 = .ok (.aload_n 2, 1) := by decide +kernel
theorem dX7_takeAnswer_22 : decode cX7_takeAnswer 22 = .ok (.getfield 208, 3) := by decide +kernel
theorem dX7_takeAnswer_25 : decode cX7_takeAnswer 25 = .ok (.istore_n 3, 1) := by decide +kernel
theorem dX7_takeAnswer_26 : decode cX7_takeAnswer 26 = .ok (.aload_n 1, 1) := by decide +kernel
theorem dX7_takeAnswer_27 : decode cX7_takeAnswer 27 = .ok (.getfield 233, 3) := by decide +kernel
theorem dX7_takeAnswer_30 : decode cX7_takeAnswer 30 = .ok (.iload_n 3, 1) := by decide +kernel
theorem dX7_takeAnswer_31 : decode cX7_takeAnswer 31 = .ok (.aload_n 1, 1) := by decide +kernel
theorem dX7_takeAnswer_32 : decode cX7_takeAnswer 32 = .ok (.getfield 233, 3) := by decide +kernel
theorem dX7_takeAnswer_35 : decode cX7_takeAnswer 35 = .ok (.iload_n 3, 1) := by decide +kernel
theorem dX7_takeAnswer_36 : decode cX7_takeAnswer 36 = .ok (.iaload, 1) := by decide +kernel
theorem dX7_takeAnswer_37 : decode cX7_takeAnswer 37 = .ok (.aload_n 2, 1) := by decide +kernel
theorem dX7_takeAnswer_38 : decode cX7_takeAnswer 38 = .ok (.getfield 190, 3) := by decide +kernel
theorem dX7_takeAnswer_41 : decode cX7_takeAnswer 41 = .ok (.invokestatic 236, 3) := by decide +kernel
theorem dX7_takeAnswer_44 : decode cX7_takeAnswer 44 = .ok (.iastore, 1) := by decide +kernel
theorem dX7_takeAnswer_45 : decode cX7_takeAnswer 45 = .ok (.aload_n 2, 1) := by decide +kernel
theorem dX7_takeAnswer_46 : decode cX7_takeAnswer 46 = .ok (.getfield 125, 3) := by decide +kernel
theorem dX7_takeAnswer_49 : decode cX7_takeAnswer 49 = .ok (.iconst 1, 1) := by decide +kernel
theorem dX7_takeAnswer_50 : decode cX7_takeAnswer 50 = .ok (.if_icmp .ne 39, 3) := by decide +kernel
theorem dX7_takeAnswer_53 : decode cX7_takeAnswer 53 = .ok (.aload_n 1, 1) := by decide +kernel
theorem dX7_takeAnswer_54 : decode cX7_takeAnswer 54 = .ok (.getfield 178, 3) := by decide +kernel
theorem dX7_takeAnswer_57 : decode cX7_takeAnswer 57 = .ok (.iload_n 3, 1) := by decide +kernel
theorem dX7_takeAnswer_58 : decode cX7_takeAnswer 58 = .ok (.aload_n 1, 1) := by decide +kernel
theorem dX7_takeAnswer_59 : decode cX7_takeAnswer 59 = .ok (.getfield 178, 3) := by decide +kernel
theorem dX7_takeAnswer_62 : decode cX7_takeAnswer 62 = .ok (.iload_n 3, 1) := by decide +kernel
theorem dX7_takeAnswer_63 : decode cX7_takeAnswer 63 = .ok (.iaload, 1) := by decide +kernel
theorem dX7_takeAnswer_64 : decode cX7_takeAnswer 64 = .ok (.aload_n 2, 1) := by decide +kernel
theorem dX7_takeAnswer_65 : decode cX7_takeAnswer 65 = .ok (.getfield 134, 3) := by decide +kernel
theorem dX7_takeAnswer_68 : decode cX7_takeAnswer 68 = .ok (.invokestatic 236, 3) := by decide +kernel
theorem dX7_takeAnswer_71 : decode cX7_takeAnswer 71 = .ok (.iastore, 1) := by decide +kernel
theorem dX7_takeAnswer_72 : decode cX7_takeAnswer 72 = .ok (.aload_n 1, 1) := by decide +kernel
theorem dX7_takeAnswer_73 : decode cX7_takeAnswer 73 = .ok (.getfield 181, 3) := by decide +kernel
theorem dX7_takeAnswer_76 : decode cX7_takeAnswer 76 = .ok (.iload_n 3, 1) := by decide +kernel
theorem dX7_takeAnswer_77 : decode cX7_takeAnswer 77 = .ok (.aload_n 1, 1) := by decide +kernel
theorem dX7_takeAnswer_78 : decode cX7_takeAnswer 78 = .ok (.getfield 178, 3) := by decide +kernel
theorem dX7_takeAnswer_81 : decode cX7_takeAnswer 81 = .ok (.iload_n 3, 1) := by decide +kernel
theorem dX7_takeAnswer_82 : decode cX7_takeAnswer 82 = .ok (.iaload, 1) := by decide +kernel
theorem dX7_takeAnswer_83 : decode cX7_takeAnswer 83 = .ok (.iconst 1, 1) := by decide +kernel
theorem dX7_takeAnswer_84 : decode cX7_takeAnswer 84 = .ok (.iadd, 1) := by decide +kernel
theorem dX7_takeAnswer_85 : decode cX7_takeAnswer 85 = .ok (.iastore, 1) := by decide +kernel
theorem dX7_takeAnswer_86 : decode cX7_takeAnswer 86 = .ok (.goto 30, 3) := by decide +kernel
theorem dX7_takeAnswer_89 : decode cX7_takeAnswer 89 = .ok (.aload_n 1, 1) := by decide +kernel
theorem dX7_takeAnswer_90 : decode cX7_takeAnswer 90 = .ok (.getfield 181, 3) := by decide +kernel
theorem dX7_takeAnswer_93 : decode cX7_takeAnswer 93 = .ok (.iload_n 3, 1) := by decide +kernel
theorem dX7_takeAnswer_94 : decode cX7_takeAnswer 94 = .ok (.iconst 1, 1) := by decide +kernel
theorem dX7_takeAnswer_95 : decode cX7_takeAnswer 95 = .ok (.aload_n 1, 1) := by decide +kernel
theorem dX7_takeAnswer_96 : decode cX7_takeAnswer 96 = .ok (.getfield 181, 3) := by decide +kernel
theorem dX7_takeAnswer_99 : decode cX7_takeAnswer 99 = .ok (.iload_n 3, 1) := by decide +kernel
theorem dX7_takeAnswer_100 : decode cX7_takeAnswer 100 = .ok (.iaload, 1) := by decide +kernel
theorem dX7_takeAnswer_101 : decode cX7_takeAnswer 101 = .ok (.iconst 1, 1) := by decide +kernel
theorem dX7_takeAnswer_102 : decode cX7_takeAnswer 102 = .ok (.isub, 1) := by decide +kernel
theorem dX7_takeAnswer_103 : decode cX7_takeAnswer 103 = .ok (.aload_n 2, 1) := by decide +kernel
theorem dX7_takeAnswer_104 : decode cX7_takeAnswer 104 = .ok (.getfield 134, 3) := by decide +kernel
theorem dX7_takeAnswer_107 : decode cX7_takeAnswer 107 = .ok (.iconst 1, 1) := by decide +kernel
theorem dX7_takeAnswer_108 : decode cX7_takeAnswer 108 = .ok (.iadd, 1) := by decide +kernel
theorem dX7_takeAnswer_109 : decode cX7_takeAnswer 109 = .ok (.invokestatic 38, 3) := by decide +kernel
theorem dX7_takeAnswer_112 : decode cX7_takeAnswer 112 = .ok (.invokestatic 236, 3) := by decide +kernel
theorem dX7_takeAnswer_115 : decode cX7_takeAnswer 115 = .ok (.iastore, 1) := by decide +kernel
theorem dX7_takeAnswer_116 : decode cX7_takeAnswer 116 = .ok (.aload_n 0, 1) := by decide +kernel
theorem dX7_takeAnswer_117 : decode cX7_takeAnswer 117 = .ok (.aload_n 2, 1) := by decide +kernel
theorem dX7_takeAnswer_118 : decode cX7_takeAnswer 118 = .ok (.getfield 205, 3) := by decide +kernel
theorem dX7_takeAnswer_121 : decode cX7_takeAnswer 121 = .ok (.invokevirtual 166, 3) := by decide +kernel
theorem dX7_takeAnswer_124 : decode cX7_takeAnswer 124 = .ok (.iconst 0, 1) := by decide +kernel
theorem dX7_takeAnswer_125 : decode cX7_takeAnswer 125 = .ok (.ireturn, 1) := by decide +kernel
theorem dX7_takeFromLeader_0 : decode cX7_takeFromLeader 0 = .ok (.aload_n 2, 1) := by decide +kernel
theorem dX7_takeFromLeader_1 : decode cX7_takeFromLeader 1 = .ok (.getfield 211, 3) := by decide +kernel
theorem dX7_takeFromLeader_4 : decode cX7_takeFromLeader 4 = .ok (.aload_n 1, 1) := by decide +kernel
theorem dX7_takeFromLeader_5 : decode cX7_takeFromLeader 5 = .ok (.getfield 98, 3) := by decide +kernel
theorem dX7_takeFromLeader_8 : decode cX7_takeFromLeader 8 = .ok (.if_icmp .ge 12, 3) := by decide +kernel
theorem dX7_takeFromLeader_11 : decode cX7_takeFromLeader 11 = .ok (.aload_n 0, 1) := by decide +kernel
theorem dX7_takeFromLeader_12 : decode cX7_takeFromLeader 12 = .ok (.aload_n 2, 1) := by decide +kernel
theorem dX7_takeFromLeader_13 : decode cX7_takeFromLeader 13 = .ok (.iconst 3, 1) := by decide +kernel
theorem dX7_takeFromLeader_14 : decode cX7_takeFromLeader 14 = .ok (.iconst 0, 1) := by decide +kernel
theorem dX7_takeFromLeader_15 : decode cX7_takeFromLeader 15 = .ok (.iconst 0, 1) := by decide +kernel
theorem dX7_takeFromLeader_16 : decode cX7_takeFromLeader 16 = .ok (.invokevirtual 229, 3) := by decide +kernel
theorem dX7_takeFromLeader_19 : decode cX7_takeFromLeader 19 = .ok (.ireturn, 1) := by decide +kernel
theorem dX7_takeFromLeader_20 : decode cX7_takeFromLeader 20 = .ok (.aload_n 1, 1) := by decide +kernel
theorem dX7_takeFromLeader_21 : decode cX7_takeFromLeader 21 = .ok (.getfield 89, 3) := by decide +kernel
theorem dX7_takeFromLeader_24 : decode cX7_takeFromLeader 24 = .ok (.iconst 2, 1) := by decide +kernel
theorem dX7_takeFromLeader_25 : decode cX7_takeFromLeader 25 = .ok (.if_icmp .ne 5, 3) := by decide +kernel
theorem dX7_takeFromLeader_28 : decode cX7_takeFromLeader 28 = .ok (.iconst 0, 1) := by decide +kernel
theorem dX7_takeFromLeader_29 : decode cX7_takeFromLeader 29 = .ok (.ireturn, 1) := by decide +kernel
theorem dX7_takeFromLeader_30 : decode cX7_takeFromLeader 30 = .ok (.aload_n 1, 1) := by decide +kernel
theorem dX7_takeFromLeader_31 : decode cX7_takeFromLeader 31 = .ok (.invokevirtual 239, 3) := by decide +kernel
theorem dX7_takeFromLeader_34 : decode cX7_takeFromLeader 34 = .ok (.aload_n 2, 1) := by decide +kernel
theorem dX7_takeFromLeader_35 : decode cX7_takeFromLeader 35 = .ok (.getfield 191, 3) := by decide +kernel
theorem dX7_takeFromLeader_38 : decode cX7_takeFromLeader 38 = .ok (.iconst 4, 1) := by decide +kernel
theorem dX7_takeFromLeader_39 : decode cX7_takeFromLeader 39 = .ok (.if_icmp .ne 10, 3) := by decide +kernel
theorem dX7_takeFromLeader_42 : decode cX7_takeFromLeader 42 = .ok (.aload_n 0, 1) := by decide +kernel
theorem dX7_takeFromLeader_43 : decode cX7_takeFromLeader 43 = .ok (.aload_n 1, 1) := by decide +kernel
theorem dX7_takeFromLeader_44 : decode cX7_takeFromLeader 44 = .ok (.aload_n 2, 1) := by decide +kernel
theorem dX7_takeFromLeader_45 : decode cX7_takeFromLeader 45 = .ok (.invokevirtual 242, 3) := by decide +kernel
theorem dX7_takeFromLeader_48 : decode cX7_takeFromLeader 48 = .ok (.ireturn, 1) := by decide +kernel
theorem dX7_takeFromLeader_49 : decode cX7_takeFromLeader 49 = .ok (.aload_n 0, 1) := by decide +kernel
theorem dX7_takeFromLeader_50 : decode cX7_takeFromLeader 50 = .ok (.aload_n 1, 1) := by decide +kernel
theorem dX7_takeFromLeader_51 : decode cX7_takeFromLeader 51 = .ok (.aload_n 2, 1) := by decide +kernel
theorem dX7_takeFromLeader_52 : decode cX7_takeFromLeader 52 = .ok (.invokevirtual 245, 3) := by decide +kernel
theorem dX7_takeFromLeader_55 : decode cX7_takeFromLeader 55 = .ok (.ireturn, 1) := by decide +kernel
theorem dX7_takeFolding_0 : decode cX7_takeFolding 0 = .ok (.aload_n 2, 1) := by decide +kernel
theorem dX7_takeFolding_1 : decode cX7_takeFolding 1 = .ok (.getfield 125, 3) := by decide +kernel
theorem dX7_takeFolding_4 : decode cX7_takeFolding 4 = .ok (.aload_n 1, 1) := by decide +kernel
theorem dX7_takeFolding_5 : decode cX7_takeFolding 5 = .ok (.getfield 169, 3) := by decide +kernel
theorem dX7_takeFolding_8 : decode cX7_takeFolding 8 = .ok (.if_icmp .le 19, 3) := by decide +kernel
theorem dX7_takeFolding_11 : decode cX7_takeFolding 11 = .ok (.aload_n 1, 1) := by decide +kernel
theorem dX7_takeFolding_12 : decode cX7_takeFolding 12 = .ok (.aload_n 2, 1) := by decide +kernel
theorem dX7_takeFolding_13 : decode cX7_takeFolding 13 = .ok (.getfield 125, 3) := by decide +kernel
theorem dX7_takeFolding_16 : decode cX7_takeFolding 16 = .ok (.aload_n 2, 1) := by decide +kernel
theorem dX7_takeFolding_17 : decode cX7_takeFolding 17 = .ok (.getfield 134, 3) := by decide +kernel
theorem dX7_takeFolding_20 : decode cX7_takeFolding 20 = .ok (.aload_n 2, 1) := by decide +kernel
theorem dX7_takeFolding_21 : decode cX7_takeFolding 21 = .ok (.getfield 248, 3) := by decide +kernel
theorem dX7_takeFolding_24 : decode cX7_takeFolding 24 = .ok (.invokevirtual 252, 3) := by decide +kernel
theorem dX7_takeFolding_27 : decode cX7_takeFolding 27 = .ok (.aload_n 0, 1) := by decide +kernel
theorem dX7_takeFolding_28 : decode cX7_takeFolding 28 = .ok (.aload_n 2, 1) := by decide +kernel
theorem dX7_takeFolding_29 : decode cX7_takeFolding 29 = .ok (.iconst 3, 1) := by decide +kernel
theorem dX7_takeFolding_30 : decode cX7_takeFolding 30 = .ok (.iconst 1, 1) := by decide +kernel
theorem dX7_takeFolding_31 : decode cX7_takeFolding 31 = .ok (.aload_n 2, 1) := by decide +kernel
theorem dX7_takeFolding_32 : decode cX7_takeFolding 32 = .ok (.getfield 125, 3) := by decide +kernel
theorem dX7_takeFolding_35 : decode cX7_takeFolding 35 = .ok (.invokevirtual 229, 3) := by decide +kernel
theorem dX7_takeFolding_38 : decode cX7_takeFolding 38 = .ok (.ireturn, 1) := by decide +kernel
theorem dX7_takeAppend_0 : decode cX7_takeAppend 0 = .ok (.aload_n 2, 1) := by decide +kernel
theorem dX7_takeAppend_1 : decode cX7_takeAppend 1 = .ok (.getfield 125, 3) := by decide +kernel
theorem dX7_takeAppend_4 : decode cX7_takeAppend 4 = .ok (.istore_n 3, 1) := by decide +kernel
theorem dX7_takeAppend_5 : decode cX7_takeAppend 5 = .ok (.iload_n 3, 1) := by decide +kernel
theorem dX7_takeAppend_6 : decode cX7_takeAppend 6 = .ok (.aload_n 1, 1) := by decide +kernel
theorem dX7_takeAppend_7 : decode cX7_takeAppend 7 = .ok (.getfield 122, 3) := by decide +kernel
theorem dX7_takeAppend_10 : decode cX7_takeAppend 10 = .ok (.if_icmp .gt 23, 3) := by decide +kernel
theorem dX7_takeAppend_13 : decode cX7_takeAppend 13 = .ok (.iload_n 3, 1) := by decide +kernel
theorem dX7_takeAppend_14 : decode cX7_takeAppend 14 = .ok (.aload_n 1, 1) := by decide +kernel
theorem dX7_takeAppend_15 : decode cX7_takeAppend 15 = .ok (.getfield 184, 3) := by decide +kernel
theorem dX7_takeAppend_18 : decode cX7_takeAppend 18 = .ok (.if_icmp .le 42, 3) := by decide +kernel
theorem dX7_takeAppend_21 : decode cX7_takeAppend 21 = .ok (.aload_n 1, 1) := by decide +kernel
theorem dX7_takeAppend_22 : decode cX7_takeAppend 22 = .ok (.iload_n 3, 1) := by decide +kernel
theorem dX7_takeAppend_23 : decode cX7_takeAppend 23 = .ok (.invokevirtual 130, 3) := by decide +kernel
theorem dX7_takeAppend_26 : decode cX7_takeAppend 26 = .ok (.aload_n 2, 1) := by decide +kernel
theorem dX7_takeAppend_27 : decode cX7_takeAppend 27 = .ok (.getfield 134, 3) := by decide +kernel
theorem dX7_takeAppend_30 : decode cX7_takeAppend 30 = .ok (.if_icmp .eq 30, 3) := by decide +kernel
theorem dX7_takeAppend_33 : decode cX7_takeAppend 33 = .ok (.aload_n 1, 1) := by decide +kernel
theorem dX7_takeAppend_34 : decode cX7_takeAppend 34 = .ok (.iload_n 3, 1) := by decide +kernel
theorem dX7_takeAppend_35 : decode cX7_takeAppend 35 = .ok (.invokevirtual 255, 3) := by decide +kernel
theorem dX7_takeAppend_38 : decode cX7_takeAppend 38 = .ok (.aload_n 0, 1) := by decide +kernel
theorem dX7_takeAppend_39 : decode cX7_takeAppend 39 = .ok (.aload_n 2, 1) := by decide +kernel
theorem dX7_takeAppend_40 : decode cX7_takeAppend 40 = .ok (.iconst 3, 1) := by decide +kernel
theorem dX7_takeAppend_41 : decode cX7_takeAppend 41 = .ok (.iconst 0, 1) := by decide +kernel
theorem dX7_takeAppend_42 : decode cX7_takeAppend 42 = .ok (.iconst 0, 1) := by decide +kernel
theorem dX7_takeAppend_43 : decode cX7_takeAppend 43 = .ok (.aload_n 1, 1) := by decide +kernel
theorem dX7_takeAppend_44 : decode cX7_takeAppend 44 = .ok (.getfield 122, 3) := by decide +kernel
theorem dX7_takeAppend_47 : decode cX7_takeAppend 47 = .ok (.iload_n 3, 1) := by decide +kernel
theorem dX7_takeAppend_48 : decode cX7_takeAppend 48 = .ok (.iconst 1, 1) := by decide +kernel
theorem dX7_takeAppend_49 : decode cX7_takeAppend 49 = .ok (.isub, 1) := by decide +kernel
theorem dX7_takeAppend_50 : decode cX7_takeAppend 50 = .ok (.invokestatic 38, 3) := by decide +kernel
theorem dX7_takeAppend_53 : decode cX7_takeAppend 53 = .ok (.invokestatic 236, 3) := by decide +kernel
theorem dX7_takeAppend_56 : decode cX7_takeAppend 56 = .ok (.invokevirtual 229, 3) := by decide +kernel
theorem dX7_takeAppend_59 : decode cX7_takeAppend 59 = .ok (.ireturn, 1) := by decide +kernel
theorem dX7_takeAppend_60 : decode cX7_takeAppend 60 = .ok (.aload_n 0, 1) := by decide +kernel
theorem dX7_takeAppend_61 : decode cX7_takeAppend 61 = .ok (.aload_n 1, 1) := by decide +kernel
theorem dX7_takeAppend_62 : decode cX7_takeAppend 62 = .ok (.aload_n 2, 1) := by decide +kernel
theorem dX7_takeAppend_63 : decode cX7_takeAppend 63 = .ok (.invokevirtual 258, 3) := by decide +kernel
theorem dX7_takeAppend_66 : decode cX7_takeAppend 66 = .ok (.istore 4, 2) := by decide +kernel
theorem dX7_takeAppend_68 : decode cX7_takeAppend 68 = .ok (.aload_n 1, 1) := by decide +kernel
theorem dX7_takeAppend_69 : decode cX7_takeAppend 69 = .ok (.aload_n 2, 1) := by decide +kernel
theorem dX7_takeAppend_70 : decode cX7_takeAppend 70 = .ok (.getfield 260, 3) := by decide +kernel
theorem dX7_takeAppend_73 : decode cX7_takeAppend 73 = .ok (.iload 4, 2) := by decide +kernel
theorem dX7_takeAppend_75 : decode cX7_takeAppend 75 = .ok (.invokestatic 38, 3) := by decide +kernel
theorem dX7_takeAppend_78 : decode cX7_takeAppend 78 = .ok (.invokevirtual 175, 3) := by decide +kernel
theorem dX7_takeAppend_81 : decode cX7_takeAppend 81 = .ok (.aload_n 0, 1) := by decide +kernel
theorem dX7_takeAppend_82 : decode cX7_takeAppend 82 = .ok (.aload_n 2, 1) := by decide +kernel
theorem dX7_takeAppend_83 : decode cX7_takeAppend 83 = .ok (.iconst 3, 1) := by decide +kernel
theorem dX7_takeAppend_84 : decode cX7_takeAppend 84 = .ok (.iconst 1, 1) := by decide +kernel
theorem dX7_takeAppend_85 : decode cX7_takeAppend 85 = .ok (.iload 4, 2) := by decide +kernel
theorem dX7_takeAppend_87 : decode cX7_takeAppend 87 = .ok (.invokevirtual 229, 3) := by decide +kernel
theorem dX7_takeAppend_90 : decode cX7_takeAppend 90 = .ok (.ireturn, 1) := by decide +kernel
theorem dX7_takeEntries_0 : decode cX7_takeEntries 0 = .ok (.aload_n 2, 1) := by decide +kernel
theorem dX7_takeEntries_1 : decode cX7_takeEntries 1 = .ok (.getfield 125, 3) := by decide +kernel
theorem dX7_takeEntries_4 : decode cX7_takeEntries 4 = .ok (.istore_n 3, 1) := by decide +kernel
theorem dX7_takeEntries_5 : decode cX7_takeEntries 5 = .ok (.iconst 0, 1) := by decide +kernel
theorem dX7_takeEntries_6 : decode cX7_takeEntries 6 = .ok (.istore 4, 2) := by decide +kernel
theorem dX7_takeEntries_8 : decode cX7_takeEntries 8 = .ok (.iload 4, 2) := by decide +kernel
theorem dX7_takeEntries_10 : decode cX7_takeEntries 10 = .ok (.aload_n 2, 1) := by decide +kernel
theorem dX7_takeEntries_11 : decode cX7_takeEntries 11 = .ok (.getfield 261, 3) := by decide +kernel
theorem dX7_takeEntries_14 : decode cX7_takeEntries 14 = .ok (.if_icmp .ge 87, 3) := by decide +kernel
theorem dX7_takeEntries_17 : decode cX7_takeEntries 17 = .ok (.iload 4, 2) := by decide +kernel
theorem dX7_takeEntries_19 : decode cX7_takeEntries 19 = .ok (.iconst 5, 1) := by decide +kernel
theorem dX7_takeEntries_20 : decode cX7_takeEntries 20 = .ok (.if_icmp .ge 81, 3) := by decide +kernel
theorem dX7_takeEntries_23 : decode cX7_takeEntries 23 = .ok (.iload_n 3, 1) := by decide +kernel
theorem dX7_takeEntries_24 : decode cX7_takeEntries 24 = .ok (.iconst 1, 1) := by decide +kernel
theorem dX7_takeEntries_25 : decode cX7_takeEntries 25 = .ok (.iadd, 1) := by decide +kernel
theorem dX7_takeEntries_26 : decode cX7_takeEntries 26 = .ok (.istore 5, 2) := by decide +kernel
theorem dX7_takeEntries_28 : decode cX7_takeEntries 28 = .ok (.iload 5, 2) := by decide +kernel
theorem dX7_takeEntries_30 : decode cX7_takeEntries 30 = .ok (.aload_n 1, 1) := by decide +kernel
theorem dX7_takeEntries_31 : decode cX7_takeEntries 31 = .ok (.getfield 184, 3) := by decide +kernel
theorem dX7_takeEntries_34 : decode cX7_takeEntries 34 = .ok (.if_icmp .le 58, 3) := by decide +kernel
theorem dX7_takeEntries_37 : decode cX7_takeEntries 37 = .ok (.aload_n 1, 1) := by decide +kernel
theorem dX7_takeEntries_38 : decode cX7_takeEntries 38 = .ok (.iload 5, 2) := by decide +kernel
theorem dX7_takeEntries_40 : decode cX7_takeEntries 40 = .ok (.invokevirtual 130, 3) := by decide +kernel
theorem dX7_takeEntries_43 : decode cX7_takeEntries 43 = .ok (.aload_n 2, 1) := by decide +kernel
theorem dX7_takeEntries_44 : decode cX7_takeEntries 44 = .ok (.iload 4, 2) := by decide +kernel
theorem dX7_takeEntries_46 : decode cX7_takeEntries 46 = .ok (.invokevirtual 262, 3) := by decide +kernel
theorem dX7_takeEntries_49 : decode cX7_takeEntries 49 = .ok (.if_icmp .eq 43, 3) := by decide +kernel
theorem dX7_takeEntries_52 : decode cX7_takeEntries 52 = .ok (.aload_n 1, 1) := by decide +kernel
theorem dX7_takeEntries_53 : decode cX7_takeEntries 53 = .ok (.iload 5, 2) := by decide +kernel
theorem dX7_takeEntries_55 : decode cX7_takeEntries 55 = .ok (.invokevirtual 255, 3) := by decide +kernel
theorem dX7_takeEntries_58 : decode cX7_takeEntries 58 = .ok (.aload_n 1, 1) := by decide +kernel
theorem dX7_takeEntries_59 : decode cX7_takeEntries 59 = .ok (.invokevirtual 159, 3) := by decide +kernel
theorem dX7_takeEntries_62 : decode cX7_takeEntries 62 = .ok (.istore 6, 2) := by decide +kernel
theorem dX7_takeEntries_64 : decode cX7_takeEntries 64 = .ok (.iload 6, 2) := by decide +kernel
theorem dX7_takeEntries_66 : decode cX7_takeEntries 66 = .ok (.iconst (-1), 1) := by decide +kernel
theorem dX7_takeEntries_67 : decode cX7_takeEntries 67 = .ok (.if_icmp .ne 5, 3) := by decide +kernel
theorem dX7_takeEntries_70 : decode cX7_takeEntries 70 = .ok (.iload_n 3, 1) := by decide +kernel
theorem dX7_takeEntries_71 : decode cX7_takeEntries 71 = .ok (.ireturn, 1) := by decide +kernel
theorem dX7_takeEntries_72 : decode cX7_takeEntries 72 = .ok (.aload_n 2, 1) := by decide +kernel
theorem dX7_takeEntries_73 : decode cX7_takeEntries 73 = .ok (.getfield 265, 3) := by decide +kernel
theorem dX7_takeEntries_76 : decode cX7_takeEntries 76 = .ok (.iload 4, 2) := by decide +kernel
theorem dX7_takeEntries_78 : decode cX7_takeEntries 78 = .ok (.bipush 6, 2) := by decide +kernel
theorem dX7_takeEntries_80 : decode cX7_takeEntries 80 = .ok (.imul, 1) := by decide +kernel
theorem dX7_takeEntries_81 : decode cX7_takeEntries 81 = .ok (.aload_n 1, 1) := by decide +kernel
theorem dX7_takeEntries_82 : decode cX7_takeEntries 82 = .ok (.getfield 162, 3) := by decide +kernel
theorem dX7_takeEntries_85 : decode cX7_takeEntries 85 = .ok (.iload 6, 2) := by decide +kernel
theorem dX7_takeEntries_87 : decode cX7_takeEntries 87 = .ok (.bipush 6, 2) := by decide +kernel
theorem dX7_takeEntries_89 : decode cX7_takeEntries 89 = .ok (.invokestatic 266, 3) := by decide +kernel
theorem dX7_takeEntries_92 : decode cX7_takeEntries 92 = .ok (.iload 5, 2) := by decide +kernel
theorem dX7_takeEntries_94 : decode cX7_takeEntries 94 = .ok (.istore_n 3, 1) := by decide +kernel
theorem dX7_takeEntries_95 : decode cX7_takeEntries 95 = .ok (.iinc 4 1, 3) := by decide +kernel
theorem dX7_takeEntries_98 : decode cX7_takeEntries 98 = .ok (.goto (-90), 3) := by decide +kernel
theorem dX7_takeEntries_101 : decode cX7_takeEntries 101 = .ok (.iload_n 3, 1) := by decide +kernel
theorem dX7_takeEntries_102 : decode cX7_takeEntries 102 = .ok (.ireturn, 1) := by decide +kernel
theorem dX7_beginRead_0 : decode cX7_beginRead 0 = .ok (.aload_n 0, 1) := by decide +kernel
theorem dX7_beginRead_1 : decode cX7_beginRead 1 = .ok (.getfield 11, 3) := by decide +kernel
theorem dX7_beginRead_4 : decode cX7_beginRead 4 = .ok (.iload_n 1, 1) := by decide +kernel
theorem dX7_beginRead_5 : decode cX7_beginRead 5 = .ok (.aaload, 1) := by decide +kernel
theorem dX7_beginRead_6 : decode cX7_beginRead 6 = .ok (.astore_n 3, 1) := by decide +kernel
theorem dX7_beginRead_7 : decode cX7_beginRead 7 = .ok (.aload_n 3, 1) := by decide +kernel
theorem dX7_beginRead_8 : decode cX7_beginRead 8 = .ok (.aload_n 3, 1) := by decide +kernel
theorem dX7_beginRead_9 : decode cX7_beginRead 9 = .ok (.getfield 169, 3) := by decide +kernel
theorem dX7_beginRead_12 : decode cX7_beginRead 12 = .ok (.invokevirtual 130, 3) := by decide +kernel
theorem dX7_beginRead_15 : decode cX7_beginRead 15 = .ok (.aload_n 3, 1) := by decide +kernel
theorem dX7_beginRead_16 : decode cX7_beginRead 16 = .ok (.getfield 98, 3) := by decide +kernel
theorem dX7_beginRead_19 : decode cX7_beginRead 19 = .ok (.if_icmp .eq 5, 3) := by decide +kernel
theorem dX7_beginRead_22 : decode cX7_beginRead 22 = .ok (.iconst (-1), 1) := by decide +kernel
theorem dX7_beginRead_23 : decode cX7_beginRead 23 = .ok (.ireturn, 1) := by decide +kernel
theorem dX7_beginRead_24 : decode cX7_beginRead 24 = .ok (.aload_n 0, 1) := by decide +kernel
theorem dX7_beginRead_25 : decode cX7_beginRead 25 = .ok (.getfield 28, 3) := by decide +kernel
theorem dX7_beginRead_28 : decode cX7_beginRead 28 = .ok (.iload_n 1, 1) := by decide +kernel
theorem dX7_beginRead_29 : decode cX7_beginRead 29 = .ok (.iload_n 2, 1) := by decide +kernel
theorem dX7_beginRead_30 : decode cX7_beginRead 30 = .ok (.aload_n 3, 1) := by decide +kernel
theorem dX7_beginRead_31 : decode cX7_beginRead 31 = .ok (.getfield 98, 3) := by decide +kernel
theorem dX7_beginRead_34 : decode cX7_beginRead 34 = .ok (.aload_n 3, 1) := by decide +kernel
theorem dX7_beginRead_35 : decode cX7_beginRead 35 = .ok (.getfield 187, 3) := by decide +kernel
theorem dX7_beginRead_38 : decode cX7_beginRead 38 = .ok (.invokevirtual 272, 3) := by decide +kernel
theorem dX7_beginRead_41 : decode cX7_beginRead 41 = .ok (.ireturn, 1) := by decide +kernel
theorem dX7_isGood_0 : decode cX7_isGood 0 = .ok (.aload_n 0, 1) := by decide +kernel
theorem dX7_isGood_1 : decode cX7_isGood 1 = .ok (.getfield 28, 3) := by decide +kernel
theorem dX7_isGood_4 : decode cX7_isGood 4 = .ok (.getfield 276, 3) := by decide +kernel
theorem dX7_isGood_7 : decode cX7_isGood 7 = .ok (.iload_n 1, 1) := by decide +kernel
theorem dX7_isGood_8 : decode cX7_isGood 8 = .ok (.iaload, 1) := by decide +kernel
theorem dX7_isGood_9 : decode cX7_isGood 9 = .ok (.istore_n 2, 1) := by decide +kernel
theorem dX7_isGood_10 : decode cX7_isGood 10 = .ok (.aload_n 0, 1) := by decide +kernel
theorem dX7_isGood_11 : decode cX7_isGood 11 = .ok (.iload_n 2, 1) := by decide +kernel
theorem dX7_isGood_12 : decode cX7_isGood 12 = .ok (.invokevirtual 279, 3) := by decide +kernel
theorem dX7_isGood_15 : decode cX7_isGood 15 = .ok (.ifCond .eq 24, 3) := by decide +kernel
theorem dX7_isGood_18 : decode cX7_isGood 18 = .ok (.aload_n 0, 1) := by decide +kernel
theorem dX7_isGood_19 : decode cX7_isGood 19 = .ok (.getfield 11, 3) := by decide +kernel
theorem dX7_isGood_22 : decode cX7_isGood 22 = .ok (.iload_n 2, 1) := by decide +kernel
theorem dX7_isGood_23 : decode cX7_isGood 23 = .ok (.aaload, 1) := by decide +kernel
theorem dX7_isGood_24 : decode cX7_isGood 24 = .ok (.getfield 98, 3) := by decide +kernel
theorem dX7_isGood_27 : decode cX7_isGood 27 = .ok (.aload_n 0, 1) := by decide +kernel
theorem dX7_isGood_28 : decode cX7_isGood 28 = .ok (.getfield 28, 3) := by decide +kernel
theorem dX7_isGood_31 : decode cX7_isGood 31 = .ok (.getfield 282, 3) := by decide +kernel
theorem dX7_isGood_34 : decode cX7_isGood 34 = .ok (.iload_n 1, 1) := by decide +kernel
theorem dX7_isGood_35 : decode cX7_isGood 35 = .ok (.iaload, 1) := by decide +kernel
theorem dX7_isGood_36 : decode cX7_isGood 36 = .ok (.if_icmp .eq 5, 3) := by decide +kernel
theorem dX7_isGood_39 : decode cX7_isGood 39 = .ok (.iconst 0, 1) := by decide +kernel
theorem dX7_isGood_40 : decode cX7_isGood 40 = .ok (.ireturn, 1) := by decide +kernel
theorem dX7_isGood_41 : decode cX7_isGood 41 = .ok (.iconst 0, 1) := by decide +kernel
theorem dX7_isGood_42 : decode cX7_isGood 42 = .ok (.istore_n 3, 1) := by decide +kernel
theorem dX7_isGood_43 : decode cX7_isGood 43 = .ok (.iconst 0, 1) := by decide +kernel
theorem dX7_isGood_44 : decode cX7_isGood 44 = .ok (.istore 4, 2) := by decide +kernel
theorem dX7_isGood_46 : decode cX7_isGood 46 = .ok (.iload 4, 2) := by decide +kernel
theorem dX7_isGood_48 : decode cX7_isGood 48 = .ok (.aload_n 0, 1) := by decide +kernel
theorem dX7_isGood_49 : decode cX7_isGood 49 = .ok (.getfield 44, 3) := by decide +kernel
theorem dX7_isGood_52 : decode cX7_isGood 52 = .ok (.if_icmp .ge 55, 3) := by decide +kernel
theorem dX7_isGood_55 : decode cX7_isGood 55 = .ok (.aload_n 0, 1) := by decide +kernel
theorem dX7_isGood_56 : decode cX7_isGood 56 = .ok (.getfield 11, 3) := by decide +kernel
theorem dX7_isGood_59 : decode cX7_isGood 59 = .ok (.iload 4, 2) := by decide +kernel
theorem dX7_isGood_61 : decode cX7_isGood 61 = .ok (.aaload, 1) := by decide +kernel
theorem dX7_isGood_62 : decode cX7_isGood 62 = .ok (.getfield 95, 3) := by decide +kernel
theorem dX7_isGood_65 : decode cX7_isGood 65 = .ok (.ifCond .eq 36, 3) := by decide +kernel
theorem dX7_isGood_68 : decode cX7_isGood 68 = .ok (.iload 4, 2) := by decide +kernel
theorem dX7_isGood_70 : decode cX7_isGood 70 = .ok (.iload_n 2, 1) := by decide +kernel
theorem dX7_isGood_71 : decode cX7_isGood 71 = .ok (.if_icmp .eq 27, 3) := by decide +kernel
theorem dX7_isGood_74 : decode cX7_isGood 74 = .ok (.aload_n 0, 1) := by decide +kernel
theorem dX7_isGood_75 : decode cX7_isGood 75 = .ok (.getfield 11, 3) := by decide +kernel
theorem dX7_isGood_78 : decode cX7_isGood 78 = .ok (.iload_n 2, 1) := by decide +kernel
theorem dX7_isGood_79 : decode cX7_isGood 79 = .ok (.aaload, 1) := by decide +kernel
theorem dX7_isGood_80 : decode cX7_isGood 80 = .ok (.getfield 233, 3) := by decide +kernel
theorem dX7_isGood_83 : decode cX7_isGood 83 = .ok (.iload 4, 2) := by decide +kernel
theorem dX7_isGood_85 : decode cX7_isGood 85 = .ok (.iaload, 1) := by decide +kernel
theorem dX7_isGood_86 : decode cX7_isGood 86 = .ok (.aload_n 0, 1) := by decide +kernel
theorem dX7_isGood_87 : decode cX7_isGood 87 = .ok (.getfield 28, 3) := by decide +kernel
theorem dX7_isGood_90 : decode cX7_isGood 90 = .ok (.getfield 284, 3) := by decide +kernel
theorem dX7_isGood_93 : decode cX7_isGood 93 = .ok (.iload_n 1, 1) := by decide +kernel
theorem dX7_isGood_94 : decode cX7_isGood 94 = .ok (.iaload, 1) := by decide +kernel
theorem dX7_isGood_95 : decode cX7_isGood 95 = .ok (.if_icmp .le 6, 3) := by decide +kernel
theorem dX7_isGood_98 : decode cX7_isGood 98 = .ok (.iinc 3 1, 3) := by decide +kernel
theorem dX7_isGood_101 : decode cX7_isGood 101 = .ok (.iinc 4 1, 3) := by decide +kernel
theorem dX7_isGood_104 : decode cX7_isGood 104 = .ok (.goto (-58), 3) := by decide +kernel
theorem dX7_isGood_107 : decode cX7_isGood 107 = .ok (.iload_n 3, 1) := by decide +kernel
theorem dX7_isGood_108 : decode cX7_isGood 108 = .ok (.aload_n 0, 1) := by decide +kernel
theorem dX7_isGood_109 : decode cX7_isGood 109 = .ok (.invokevirtual 142, 3) := by decide +kernel
theorem dX7_isGood_112 : decode cX7_isGood 112 = .ok (.if_icmp .lt 7, 3) := by decide +kernel
theorem dX7_isGood_115 : decode cX7_isGood 115 = .ok (.iconst 1, 1) := by decide +kernel
theorem dX7_isGood_116 : decode cX7_isGood 116 = .ok (.goto 4, 3) := by decide +kernel
theorem dX7_isGood_119 : decode cX7_isGood 119 = .ok (.iconst 0, 1) := by decide +kernel
theorem dX7_isGood_120 : decode cX7_isGood 120 = .ok (.ireturn, 1) := by decide +kernel
theorem dX7_readCell_0 : decode cX7_readCell 0 = .ok (.aload_n 0, 1) := by decide +kernel
theorem dX7_readCell_1 : decode cX7_readCell 1 = .ok (.getfield 28, 3) := by decide +kernel
theorem dX7_readCell_4 : decode cX7_readCell 4 = .ok (.getfield 276, 3) := by decide +kernel
theorem dX7_readCell_7 : decode cX7_readCell 7 = .ok (.iload_n 1, 1) := by decide +kernel
theorem dX7_readCell_8 : decode cX7_readCell 8 = .ok (.iaload, 1) := by decide +kernel
theorem dX7_readCell_9 : decode cX7_readCell 9 = .ok (.istore_n 2, 1) := by decide +kernel
theorem dX7_readCell_10 : decode cX7_readCell 10 = .ok (.aload_n 0, 1) := by decide +kernel
theorem dX7_readCell_11 : decode cX7_readCell 11 = .ok (.iload_n 2, 1) := by decide +kernel
theorem dX7_readCell_12 : decode cX7_readCell 12 = .ok (.invokevirtual 78, 3) := by decide +kernel
theorem dX7_readCell_15 : decode cX7_readCell 15 = .ok (.ifCond .eq 27, 3) := by decide +kernel
theorem dX7_readCell_18 : decode cX7_readCell 18 = .ok (.aload_n 0, 1) := by decide +kernel
theorem dX7_readCell_19 : decode cX7_readCell 19 = .ok (.getfield 11, 3) := by decide +kernel
theorem dX7_readCell_22 : decode cX7_readCell 22 = .ok (.iload_n 2, 1) := by decide +kernel
theorem dX7_readCell_23 : decode cX7_readCell 23 = .ok (.aaload, 1) := by decide +kernel
theorem dX7_readCell_24 : decode cX7_readCell 24 = .ok (.getfield 286, 3) := by decide +kernel
theorem dX7_readCell_27 : decode cX7_readCell 27 = .ok (.aload_n 0, 1) := by decide +kernel
theorem dX7_readCell_28 : decode cX7_readCell 28 = .ok (.getfield 28, 3) := by decide +kernel
theorem dX7_readCell_31 : decode cX7_readCell 31 = .ok (.getfield 289, 3) := by decide +kernel
theorem dX7_readCell_34 : decode cX7_readCell 34 = .ok (.iload_n 1, 1) := by decide +kernel
theorem dX7_readCell_35 : decode cX7_readCell 35 = .ok (.iaload, 1) := by decide +kernel
theorem dX7_readCell_36 : decode cX7_readCell 36 = .ok (.invokevirtual 292, 3) := by decide +kernel
theorem dX7_readCell_39 : decode cX7_readCell 39 = .ok (.goto 6, 3) := by decide +kernel
theorem dX7_readCell_42 : decode cX7_readCell 42 = .ok (.ldc_w 297, 3) := by decide +kernel
theorem dX7_readCell_45 : decode cX7_readCell 45 = .ok (.ireturn, 1) := by decide +kernel
end
section
theorem dX8_init_0 : decode cX8_init 0 = .ok (.aload_n 0, 1) := by decide +kernel
theorem dX8_init_1 : decode cX8_init 1 = .ok (.invokespecial 1, 3) := by decide +kernel
theorem dX8_init_4 : decode cX8_init 4 = .ok (.aload_n 0, 1) := by decide +kernel
theorem dX8_init_5 : decode cX8_init 5 = .ok (.new 7, 3) := by decide +kernel
theorem dX8_init_8 : decode cX8_init 8 = .ok (.dup, 1) := by decide +kernel
theorem dX8_init_9 : decode cX8_init 9 = .ok (.invokespecial 9, 3) := by decide +kernel
theorem dX8_init_12 : decode cX8_init 12 = .ok (.putfield 10, 3) := by decide +kernel
theorem dX8_init_15 : decode cX8_init 15 = .ok (.aload_n 0, 1) := by decide +kernel
theorem dX8_init_16 : decode cX8_init 16 = .ok (.new 16, 3) := by decide +kernel
theorem dX8_init_19 : decode cX8_init 19 = .ok (.dup, 1) := by decide +kernel
theorem dX8_init_20 : decode cX8_init 20 = .ok (.invokespecial 18, 3) := by decide +kernel
theorem dX8_init_23 : decode cX8_init 23 = .ok (.putfield 19, 3) := by decide +kernel
theorem dX8_init_26 : decode cX8_init 26 = .ok (.aload_n 0, 1) := by decide +kernel
theorem dX8_init_27 : decode cX8_init 27 = .ok (.iconst 3, 1) := by decide +kernel
theorem dX8_init_28 : decode cX8_init 28 = .ok (.anewarray 16, 3) := by decide +kernel
theorem dX8_init_31 : decode cX8_init 31 = .ok (.putfield 23, 3) := by decide +kernel
theorem dX8_init_34 : decode cX8_init 34 = .ok (.aload_n 0, 1) := by decide +kernel
theorem dX8_init_35 : decode cX8_init 35 = .ok (.iconst 3, 1) := by decide +kernel
theorem dX8_init_36 : decode cX8_init 36 = .ok (.newarray .boolean, 2) := by decide +kernel
theorem dX8_init_38 : decode cX8_init 38 = .ok (.putfield 27, 3) := by decide +kernel
theorem dX8_init_41 : decode cX8_init 41 = .ok (.aload_n 0, 1) := by decide +kernel
theorem dX8_init_42 : decode cX8_init 42 = .ok (.new 31, 3) := by decide +kernel
theorem dX8_init_45 : decode cX8_init 45 = .ok (.dup, 1) := by decide +kernel
theorem dX8_init_46 : decode cX8_init 46 = .ok (.invokespecial 33, 3) := by decide +kernel
theorem dX8_init_49 : decode cX8_init 49 = .ok (.putfield 34, 3) := by decide +kernel
theorem dX8_init_52 : decode cX8_init 52 = .ok (.return_, 1) := by decide +kernel
theorem dX8_feed_0 : decode cX8_feed 0 = .ok (.aload_n 0, 1) := by decide +kernel
theorem dX8_feed_1 : decode cX8_feed 1 = .ok (.getfield 10, 3) := by decide +kernel
theorem dX8_feed_4 : decode cX8_feed 4 = .ok (.bipush 20, 2) := by decide +kernel
theorem dX8_feed_6 : decode cX8_feed 6 = .ok (.invokevirtual 38, 3) := by decide +kernel
theorem dX8_feed_9 : decode cX8_feed 9 = .ok (.ifCond .ne 5, 3) := by decide +kernel
theorem dX8_feed_12 : decode cX8_feed 12 = .ok (.iconst (-1), 1) := by decide +kernel
theorem dX8_feed_13 : decode cX8_feed 13 = .ok (.ireturn, 1) := by decide +kernel
theorem dX8_feed_14 : decode cX8_feed 14 = .ok (.aload_n 0, 1) := by decide +kernel
theorem dX8_feed_15 : decode cX8_feed 15 = .ok (.getfield 10, 3) := by decide +kernel
theorem dX8_feed_18 : decode cX8_feed 18 = .ok (.iload_n 1, 1) := by decide +kernel
theorem dX8_feed_19 : decode cX8_feed 19 = .ok (.invokevirtual 42, 3) := by decide +kernel
theorem dX8_feed_22 : decode cX8_feed 22 = .ok (.aload_n 0, 1) := by decide +kernel
theorem dX8_feed_23 : decode cX8_feed 23 = .ok (.getfield 10, 3) := by decide +kernel
theorem dX8_feed_26 : decode cX8_feed 26 = .ok (.iload_n 2, 1) := by decide +kernel
theorem dX8_feed_27 : decode cX8_feed 27 = .ok (.invokevirtual 42, 3) := by decide +kernel
theorem dX8_feed_30 : decode cX8_feed 30 = .ok (.aload_n 0, 1) := by decide +kernel
theorem dX8_feed_31 : decode cX8_feed 31 = .ok (.getfield 10, 3) := by decide +kernel
theorem dX8_feed_34 : decode cX8_feed 34 = .ok (.iload_n 3, 1) := by decide +kernel
theorem dX8_feed_35 : decode cX8_feed 35 = .ok (.invokevirtual 42, 3) := by decide +kernel
theorem dX8_feed_38 : decode cX8_feed 38 = .ok (.aload_n 0, 1) := by decide +kernel
theorem dX8_feed_39 : decode cX8_feed 39 = .ok (.getfield 10, 3) := by decide +kernel
theorem dX8_feed_42 : decode cX8_feed 42 = .ok (.iload 4, 2) := by decide +kernel
theorem dX8_feed_44 : decode cX8_feed 44 = .ok (.invokevirtual 42, 3) := by decide +kernel
theorem dX8_feed_47 : decode cX8_feed 47 = .ok (.aload_n 0, 1) := by decide +kernel
theorem dX8_feed_48 : decode cX8_feed 48 = .ok (.getfield 10, 3) := by decide +kernel
theorem dX8_feed_51 : decode cX8_feed 51 = .ok (.iload 5, 2) := by decide +kernel
theorem dX8_feed_53 : decode cX8_feed 53 = .ok (.invokevirtual 42, 3) := by decide +kernel
theorem dX8_feed_56 : decode cX8_feed 56 = .ok (.aload_n 0, 1) := by decide +kernel
theorem dX8_feed_57 : decode cX8_feed 57 = .ok (.getfield 10, 3) := by decide +kernel
theorem dX8_feed_60 : decode cX8_feed 60 = .ok (.getfield 46, 3) := by decide +kernel
theorem dX8_feed_63 : decode cX8_feed 63 = .ok (.ireturn, 1) := by decide +kernel
theorem dX8_end_0 : decode cX8_end 0 = .ok (.iload_n 1, 1) := by decide +kernel
theorem dX8_end_1 : decode cX8_end 1 = .ok (.ifCond .lt 14, 3) := by decide +kernel
theorem dX8_end_4 : decode cX8_end 4 = .ok (.iload_n 1, 1) := by decide +kernel
theorem dX8_end_5 : decode cX8_end 5 = .ok (.aload_n 0, 1) := by decide +kernel
theorem dX8_end_6 : decode cX8_end 6 = .ok (.getfield 10, 3) := by decide +kernel
theorem dX8_end_9 : decode cX8_end 9 = .ok (.getfield 46, 3) := by decide +kernel
theorem dX8_end_12 : decode cX8_end 12 = .ok (.if_icmp .le 5, 3) := by decide +kernel
theorem dX8_end_15 : decode cX8_end 15 = .ok (.iconst (-1), 1) := by decide +kernel
theorem dX8_end_16 : decode cX8_end 16 = .ok (.ireturn, 1) := by decide +kernel
theorem dX8_end_17 : decode cX8_end 17 = .ok (.aload_n 0, 1) := by decide +kernel
theorem dX8_end_18 : decode cX8_end 18 = .ok (.getfield 10, 3) := by decide +kernel
theorem dX8_end_21 : decode cX8_end 21 = .ok (.iload_n 1, 1) := by decide +kernel
theorem dX8_end_22 : decode cX8_end 22 = .ok (.putfield 46, 3) := by decide +kernel
theorem dX8_end_25 : decode cX8_end 25 = .ok (.iload_n 1, 1) := by decide +kernel
theorem dX8_end_26 : decode cX8_end 26 = .ok (.ireturn, 1) := by decide +kernel
theorem dX8_keepers_0 : decode cX8_keepers 0 = .ok (.aload_n 0, 1) := by decide +kernel
theorem dX8_keepers_1 : decode cX8_keepers 1 = .ok (.getfield 10, 3) := by decide +kernel
theorem dX8_keepers_4 : decode cX8_keepers 4 = .ok (.invokevirtual 50, 3) := by decide +kernel
theorem dX8_keepers_7 : decode cX8_keepers 7 = .ok (.aload_n 0, 1) := by decide +kernel
theorem dX8_keepers_8 : decode cX8_keepers 8 = .ok (.getfield 10, 3) := by decide +kernel
theorem dX8_keepers_11 : decode cX8_keepers 11 = .ok (.getfield 53, 3) := by decide +kernel
theorem dX8_keepers_14 : decode cX8_keepers 14 = .ok (.ifCond .eq 5, 3) := by decide +kernel
theorem dX8_keepers_17 : decode cX8_keepers 17 = .ok (.iconst (-1), 1) := by decide +kernel
theorem dX8_keepers_18 : decode cX8_keepers 18 = .ok (.ireturn, 1) := by decide +kernel
theorem dX8_keepers_19 : decode cX8_keepers 19 = .ok (.aload_n 0, 1) := by decide +kernel
theorem dX8_keepers_20 : decode cX8_keepers 20 = .ok (.getfield 19, 3) := by decide +kernel
theorem dX8_keepers_23 : decode cX8_keepers 23 = .ok (.aload_n 0, 1) := by decide +kernel
theorem dX8_keepers_24 : decode cX8_keepers 24 = .ok (.getfield 10, 3) := by decide +kernel
theorem dX8_keepers_27 : decode cX8_keepers 27 = .ok (.invokevirtual 56, 3) := by decide +kernel
theorem dX8_keepers_30 : decode cX8_keepers 30 = .ok (.iconst 0, 1) := by decide +kernel
theorem dX8_keepers_31 : decode cX8_keepers 31 = .ok (.istore_n 1, 1) := by decide +kernel
theorem dX8_keepers_32 : decode cX8_keepers 32 = .ok (.iload_n 1, 1) := by decide +kernel
theorem dX8_keepers_33 : decode cX8_keepers 33 = .ok (.iconst 3, 1) := by decide +kernel
theorem dX8_keepers_34 : decode cX8_keepers 34 = .ok (.if_icmp .ge 16, 3) := by decide +kernel
theorem dX8_keepers_37 : decode cX8_keepers 37 = .ok (.aload_n 0, 1) := by decide +kernel
theorem dX8_keepers_38 : decode cX8_keepers 38 = .ok (.getfield 27, 3) := by decide +kernel
theorem dX8_keepers_41 : decode cX8_keepers 41 = .ok (.iload_n 1, 1) := by decide +kernel
theorem dX8_keepers_42 : decode cX8_keepers 42 = .ok (.iconst 0, 1) := by decide +kernel
theorem dX8_keepers_43 : decode cX8_keepers 43 = .ok (.bastore, 1) := by decide +kernel
theorem dX8_keepers_44 : decode cX8_keepers 44 = .ok (.iinc 1 1, 3) := by decide +kernel
theorem dX8_keepers_47 : decode cX8_keepers 47 = .ok (.goto (-15), 3) := by decide +kernel
theorem dX8_keepers_50 : decode cX8_keepers 50 = .ok (.aload_n 0, 1) := by decide +kernel
theorem dX8_keepers_51 : decode cX8_keepers 51 = .ok (.getfield 19, 3) := by decide +kernel
theorem dX8_keepers_54 : decode cX8_keepers 54 = .ok (.getfield 60, 3) := by decide +kernel
theorem dX8_keepers_57 : decode cX8_keepers 57 = .ok (.ireturn, 1) := by decide +kernel
theorem dX8_fault_0 : decode cX8_fault 0 = .ok (.iload_n 1, 1) := by decide +kernel
theorem dX8_fault_1 : decode cX8_fault 1 = .ok (.lookupswitch 43 #[(0, 27), (1, 35)], 27) := by decide +kernel
theorem dX8_fault_28 : decode cX8_fault 28 = .ok (.aload_n 0, 1) := by decide +kernel
theorem dX8_fault_29 : decode cX8_fault 29 = .ok (.getfield 10, 3) := by decide +kernel
theorem dX8_fault_32 : decode cX8_fault 32 = .ok (.getfield 53, 3) := by decide +kernel
theorem dX8_fault_35 : decode cX8_fault 35 = .ok (.ireturn, 1) := by decide +kernel
theorem dX8_fault_36 : decode cX8_fault 36 = .ok (.aload_n 0, 1) := by decide +kernel
theorem dX8_fault_37 : decode cX8_fault 37 = .ok (.getfield 10, 3) := by decide +kernel
theorem dX8_fault_40 : decode cX8_fault 40 = .ok (.getfield 63, 3) := by decide +kernel
theorem dX8_fault_43 : decode cX8_fault 43 = .ok (.ireturn, 1) := by decide +kernel
theorem dX8_fault_44 : decode cX8_fault 44 = .ok (.iconst (-1), 1) := by decide +kernel
theorem dX8_fault_45 : decode cX8_fault 45 = .ok (.ireturn, 1) := by decide +kernel
theorem dX8_ask_0 : decode cX8_ask 0 = .ok (.aload_n 0, 1) := by decide +kernel
theorem dX8_ask_1 : decode cX8_ask 1 = .ok (.getfield 19, 3) := by decide +kernel
theorem dX8_ask_4 : decode cX8_ask 4 = .ok (.iload_n 1, 1) := by decide +kernel
theorem dX8_ask_5 : decode cX8_ask 5 = .ok (.invokevirtual 66, 3) := by decide +kernel
theorem dX8_ask_8 : decode cX8_ask 8 = .ok (.ifCond .eq 14, 3) := by decide +kernel
theorem dX8_ask_11 : decode cX8_ask 11 = .ok (.aload_n 0, 1) := by decide +kernel
theorem dX8_ask_12 : decode cX8_ask 12 = .ok (.getfield 19, 3) := by decide +kernel
theorem dX8_ask_15 : decode cX8_ask 15 = .ok (.iload_n 1, 1) := by decide +kernel
theorem dX8_ask_16 : decode cX8_ask 16 = .ok (.invokevirtual 69, 3) := by decide +kernel
theorem dX8_ask_19 : decode cX8_ask 19 = .ok (.goto 4, 3) := by decide +kernel
theorem dX8_ask_22 : decode cX8_ask 22 = .ok (.iconst (-1), 1) := by decide +kernel
theorem dX8_ask_23 : decode cX8_ask 23 = .ok (.ireturn, 1) := by decide +kernel
theorem dX8_deliver_0 : decode cX8_deliver 0 = .ok (.aload_n 0, 1) := by decide +kernel
theorem dX8_deliver_1 : decode cX8_deliver 1 = .ok (.getfield 19, 3) := by decide +kernel
theorem dX8_deliver_4 : decode cX8_deliver 4 = .ok (.getfield 73, 3) := by decide +kernel
theorem dX8_deliver_7 : decode cX8_deliver 7 = .ok (.iload_n 1, 1) := by decide +kernel
theorem dX8_deliver_8 : decode cX8_deliver 8 = .ok (.invokevirtual 77, 3) := by decide +kernel
theorem dX8_deliver_11 : decode cX8_deliver 11 = .ok (.ifCond .eq 14, 3) := by decide +kernel
theorem dX8_deliver_14 : decode cX8_deliver 14 = .ok (.aload_n 0, 1) := by decide +kernel
theorem dX8_deliver_15 : decode cX8_deliver 15 = .ok (.getfield 19, 3) := by decide +kernel
theorem dX8_deliver_18 : decode cX8_deliver 18 = .ok (.iload_n 1, 1) := by decide +kernel
theorem dX8_deliver_19 : decode cX8_deliver 19 = .ok (.invokevirtual 82, 3) := by decide +kernel
theorem dX8_deliver_22 : decode cX8_deliver 22 = .ok (.goto 4, 3) := by decide +kernel
theorem dX8_deliver_25 : decode cX8_deliver 25 = .ok (.iconst (-1), 1) := by decide +kernel
theorem dX8_deliver_26 : decode cX8_deliver 26 = .ok (.ireturn, 1) := by decide +kernel
theorem dX8_drop_0 : decode cX8_drop 0 = .ok (.aload_n 0, 1) := by decide +kernel
theorem dX8_drop_1 : decode cX8_drop 1 = .ok (.getfield 19, 3) := by decide +kernel
theorem dX8_drop_4 : decode cX8_drop 4 = .ok (.getfield 73, 3) := by decide +kernel
theorem dX8_drop_7 : decode cX8_drop 7 = .ok (.iload_n 1, 1) := by decide +kernel
theorem dX8_drop_8 : decode cX8_drop 8 = .ok (.invokevirtual 77, 3) := by decide +kernel
theorem dX8_drop_11 : decode cX8_drop 11 = .ok (.ifCond .ne 5, 3) := by decide +kernel
theorem dX8_drop_14 : decode cX8_drop 14 = .ok (.iconst (-1), 1) := by decide +kernel
theorem dX8_drop_15 : decode cX8_drop 15 = .ok (.ireturn, 1) := by decide +kernel
theorem dX8_drop_16 : decode cX8_drop 16 = .ok (.aload_n 0, 1) := by decide +kernel
theorem dX8_drop_17 : decode cX8_drop 17 = .ok (.getfield 19, 3) := by decide +kernel
theorem dX8_drop_20 : decode cX8_drop 20 = .ok (.getfield 73, 3) := by decide +kernel
theorem dX8_drop_23 : decode cX8_drop 23 = .ok (.getfield 85, 3) := by decide +kernel
theorem dX8_drop_26 : decode cX8_drop 26 = .ok (.iload_n 1, 1) := by decide +kernel
theorem dX8_drop_27 : decode cX8_drop 27 = .ok (.aaload, 1) := by decide +kernel
theorem dX8_drop_28 : decode cX8_drop 28 = .ok (.getfield 89, 3) := by decide +kernel
theorem dX8_drop_31 : decode cX8_drop 31 = .ok (.istore_n 2, 1) := by decide +kernel
theorem dX8_drop_32 : decode cX8_drop 32 = .ok (.aload_n 0, 1) := by decide +kernel
theorem dX8_drop_33 : decode cX8_drop 33 = .ok (.getfield 19, 3) := by decide +kernel
theorem dX8_drop_36 : decode cX8_drop 36 = .ok (.getfield 73, 3) := by decide +kernel
theorem dX8_drop_39 : decode cX8_drop 39 = .ok (.getfield 85, 3) := by decide +kernel
theorem dX8_drop_42 : decode cX8_drop 42 = .ok (.iload_n 1, 1) := by decide +kernel
theorem dX8_drop_43 : decode cX8_drop 43 = .ok (.aaload, 1) := by decide +kernel
theorem dX8_drop_44 : decode cX8_drop 44 = .ok (.iconst (-1), 1) := by decide +kernel
theorem dX8_drop_45 : decode cX8_drop 45 = .ok (.putfield 89, 3) := by decide +kernel
theorem dX8_drop_48 : decode cX8_drop 48 = .ok (.iload_n 2, 1) := by decide +kernel
theorem dX8_drop_49 : decode cX8_drop 49 = .ok (.ireturn, 1) := by decide +kernel
theorem dX8_twice_0 : decode cX8_twice 0 = .ok (.aload_n 0, 1) := by decide +kernel
theorem dX8_twice_1 : decode cX8_twice 1 = .ok (.getfield 19, 3) := by decide +kernel
theorem dX8_twice_4 : decode cX8_twice 4 = .ok (.getfield 73, 3) := by decide +kernel
theorem dX8_twice_7 : decode cX8_twice 7 = .ok (.invokevirtual 94, 3) := by decide +kernel
theorem dX8_twice_10 : decode cX8_twice 10 = .ok (.istore_n 2, 1) := by decide +kernel
theorem dX8_twice_11 : decode cX8_twice 11 = .ok (.aload_n 0, 1) := by decide +kernel
theorem dX8_twice_12 : decode cX8_twice 12 = .ok (.getfield 19, 3) := by decide +kernel
theorem dX8_twice_15 : decode cX8_twice 15 = .ok (.getfield 73, 3) := by decide +kernel
theorem dX8_twice_18 : decode cX8_twice 18 = .ok (.iload_n 1, 1) := by decide +kernel
theorem dX8_twice_19 : decode cX8_twice 19 = .ok (.invokevirtual 77, 3) := by decide +kernel
theorem dX8_twice_22 : decode cX8_twice 22 = .ok (.ifCond .eq 8, 3) := by decide +kernel
theorem dX8_twice_25 : decode cX8_twice 25 = .ok (.iload_n 2, 1) := by decide +kernel
theorem dX8_twice_26 : decode cX8_twice 26 = .ok (.iconst (-1), 1) := by decide +kernel
theorem dX8_twice_27 : decode cX8_twice 27 = .ok (.if_icmp .ne 5, 3) := by decide +kernel
theorem dX8_twice_30 : decode cX8_twice 30 = .ok (.iconst (-1), 1) := by decide +kernel
theorem dX8_twice_31 : decode cX8_twice 31 = .ok (.ireturn, 1) := by decide +kernel
theorem dX8_twice_32 : decode cX8_twice 32 = .ok (.aload_n 0, 1) := by decide +kernel
theorem dX8_twice_33 : decode cX8_twice 33 = .ok (.getfield 19, 3) := by decide +kernel
theorem dX8_twice_36 : decode cX8_twice 36 = .ok (.getfield 73, 3) := by decide +kernel
theorem dX8_twice_39 : decode cX8_twice 39 = .ok (.getfield 85, 3) := by decide +kernel
theorem dX8_twice_42 : decode cX8_twice 42 = .ok (.iload_n 2, 1) := by decide +kernel
theorem dX8_twice_43 : decode cX8_twice 43 = .ok (.aaload, 1) := by decide +kernel
theorem dX8_twice_44 : decode cX8_twice 44 = .ok (.aload_n 0, 1) := by decide +kernel
theorem dX8_twice_45 : decode cX8_twice 45 = .ok (.getfield 19, 3) := by decide +kernel
theorem dX8_twice_48 : decode cX8_twice 48 = .ok (.getfield 73, 3) := by decide +kernel
theorem dX8_twice_51 : decode cX8_twice 51 = .ok (.getfield 85, 3) := by decide +kernel
theorem dX8_twice_54 : decode cX8_twice 54 = .ok (.iload_n 1, 1) := by decide +kernel
theorem dX8_twice_55 : decode cX8_twice 55 = .ok (.aaload, 1) := by decide +kernel
theorem dX8_twice_56 : decode cX8_twice 56 = .ok (.invokevirtual 98, 3) := by decide +kernel
theorem dX8_twice_59 : decode cX8_twice 59 = .ok (.iload_n 2, 1) := by decide +kernel
theorem dX8_twice_60 : decode cX8_twice 60 = .ok (.ireturn, 1) := by decide +kernel
theorem dX8_fall_0 : decode cX8_fall 0 = .ok (.aload_n 0, 1) := by decide +kernel
theorem dX8_fall_1 : decode cX8_fall 1 = .ok (.getfield 19, 3) := by decide +kernel
theorem dX8_fall_4 : decode cX8_fall 4 = .ok (.iload_n 1, 1) := by decide +kernel
theorem dX8_fall_5 : decode cX8_fall 5 = .ok (.invokevirtual 102, 3) := by decide +kernel
theorem dX8_fall_8 : decode cX8_fall 8 = .ok (.ifCond .ne 5, 3) := by decide +kernel
theorem dX8_fall_11 : decode cX8_fall 11 = .ok (.iconst 0, 1) := by decide +kernel
theorem dX8_fall_12 : decode cX8_fall 12 = .ok (.ireturn, 1) := by decide +kernel
theorem dX8_fall_13 : decode cX8_fall 13 = .ok (.aload_n 0, 1) := by decide +kernel
theorem dX8_fall_14 : decode cX8_fall 14 = .ok (.getfield 19, 3) := by decide +kernel
theorem dX8_fall_17 : decode cX8_fall 17 = .ok (.getfield 105, 3) := by decide +kernel
theorem dX8_fall_20 : decode cX8_fall 20 = .ok (.iload_n 1, 1) := by decide +kernel
theorem dX8_fall_21 : decode cX8_fall 21 = .ok (.aaload, 1) := by decide +kernel
theorem dX8_fall_22 : decode cX8_fall 22 = .ok (.invokevirtual 109, 3) := by decide +kernel
theorem dX8_fall_25 : decode cX8_fall 25 = .ok (.iconst 1, 1) := by decide +kernel
theorem dX8_fall_26 : decode cX8_fall 26 = .ok (.ireturn, 1) := by decide +kernel
theorem dX8_rise_0 : decode cX8_rise 0 = .ok (.aload_n 0, 1) := by decide +kernel
theorem dX8_rise_1 : decode cX8_rise 1 = .ok (.getfield 19, 3) := by decide +kernel
theorem dX8_rise_4 : decode cX8_rise 4 = .ok (.iload_n 1, 1) := by decide +kernel
theorem dX8_rise_5 : decode cX8_rise 5 = .ok (.invokevirtual 66, 3) := by decide +kernel
theorem dX8_rise_8 : decode cX8_rise 8 = .ok (.ifCond .eq 18, 3) := by decide +kernel
theorem dX8_rise_11 : decode cX8_rise 11 = .ok (.aload_n 0, 1) := by decide +kernel
theorem dX8_rise_12 : decode cX8_rise 12 = .ok (.getfield 19, 3) := by decide +kernel
theorem dX8_rise_15 : decode cX8_rise 15 = .ok (.getfield 105, 3) := by decide +kernel
theorem dX8_rise_18 : decode cX8_rise 18 = .ok (.iload_n 1, 1) := by decide +kernel
theorem dX8_rise_19 : decode cX8_rise 19 = .ok (.aaload, 1) := by decide +kernel
theorem dX8_rise_20 : decode cX8_rise 20 = .ok (.getfield 114, 3) := by decide +kernel
theorem dX8_rise_23 : decode cX8_rise 23 = .ok (.ifCond .ne 5, 3) := by decide +kernel
theorem dX8_rise_26 : decode cX8_rise 26 = .ok (.iconst 0, 1) := by decide +kernel
theorem dX8_rise_27 : decode cX8_rise 27 = .ok (.ireturn, 1) := by decide +kernel
theorem dX8_rise_28 : decode cX8_rise 28 = .ok (.aload_n 0, 1) := by decide +kernel
theorem dX8_rise_29 : decode cX8_rise 29 = .ok (.getfield 19, 3) := by decide +kernel
theorem dX8_rise_32 : decode cX8_rise 32 = .ok (.getfield 105, 3) := by decide +kernel
theorem dX8_rise_35 : decode cX8_rise 35 = .ok (.iload_n 1, 1) := by decide +kernel
theorem dX8_rise_36 : decode cX8_rise 36 = .ok (.aaload, 1) := by decide +kernel
theorem dX8_rise_37 : decode cX8_rise 37 = .ok (.iconst 0, 1) := by decide +kernel
theorem dX8_rise_38 : decode cX8_rise 38 = .ok (.putfield 114, 3) := by decide +kernel
theorem dX8_rise_41 : decode cX8_rise 41 = .ok (.iconst 1, 1) := by decide +kernel
theorem dX8_rise_42 : decode cX8_rise 42 = .ok (.ireturn, 1) := by decide +kernel
theorem dX8_command_0 : decode cX8_command 0 = .ok (.aload_n 0, 1) := by decide +kernel
theorem dX8_command_1 : decode cX8_command 1 = .ok (.getfield 19, 3) := by decide +kernel
theorem dX8_command_4 : decode cX8_command 4 = .ok (.iload_n 1, 1) := by decide +kernel
theorem dX8_command_5 : decode cX8_command 5 = .ok (.invokevirtual 118, 3) := by decide +kernel
theorem dX8_command_8 : decode cX8_command 8 = .ok (.ifCond .eq 15, 3) := by decide +kernel
theorem dX8_command_11 : decode cX8_command 11 = .ok (.iload_n 2, 1) := by decide +kernel
theorem dX8_command_12 : decode cX8_command 12 = .ok (.iload_n 3, 1) := by decide +kernel
theorem dX8_command_13 : decode cX8_command 13 = .ok (.iload 4, 2) := by decide +kernel
theorem dX8_command_15 : decode cX8_command 15 = .ok (.iload 5, 2) := by decide +kernel
theorem dX8_command_17 : decode cX8_command 17 = .ok (.invokestatic 121, 3) := by decide +kernel
theorem dX8_command_20 : decode cX8_command 20 = .ok (.ifCond .ne 5, 3) := by decide +kernel
theorem dX8_command_23 : decode cX8_command 23 = .ok (.iconst (-1), 1) := by decide +kernel
theorem dX8_command_24 : decode cX8_command 24 = .ok (.ireturn, 1) := by decide +kernel
theorem dX8_command_25 : decode cX8_command 25 = .ok (.aload_n 0, 1) := by decide +kernel
theorem dX8_command_26 : decode cX8_command 26 = .ok (.getfield 19, 3) := by decide +kernel
theorem dX8_command_29 : decode cX8_command 29 = .ok (.iload_n 1, 1) := by decide +kernel
theorem dX8_command_30 : decode cX8_command 30 = .ok (.iload_n 2, 1) := by decide +kernel
theorem dX8_command_31 : decode cX8_command 31 = .ok (.iload_n 3, 1) := by decide +kernel
theorem dX8_command_32 : decode cX8_command 32 = .ok (.iload 4, 2) := by decide +kernel
theorem dX8_command_34 : decode cX8_command 34 = .ok (.iload 5, 2) := by decide +kernel
theorem dX8_command_36 : decode cX8_command 36 = .ok (.iload 6, 2) := by decide +kernel
theorem dX8_command_38 : decode cX8_command 38 = .ok (.invokevirtual 125, 3) := by decide +kernel
theorem dX8_command_41 : decode cX8_command 41 = .ok (.ireturn, 1) := by decide +kernel
theorem dX8_append_0 : decode cX8_append 0 = .ok (.aload_n 0, 1) := by decide +kernel
theorem dX8_append_1 : decode cX8_append 1 = .ok (.getfield 19, 3) := by decide +kernel
theorem dX8_append_4 : decode cX8_append 4 = .ok (.iload_n 1, 1) := by decide +kernel
theorem dX8_append_5 : decode cX8_append 5 = .ok (.invokevirtual 118, 3) := by decide +kernel
theorem dX8_append_8 : decode cX8_append 8 = .ok (.ifCond .eq 19, 3) := by decide +kernel
theorem dX8_append_11 : decode cX8_append 11 = .ok (.aload_n 0, 1) := by decide +kernel
theorem dX8_append_12 : decode cX8_append 12 = .ok (.getfield 19, 3) := by decide +kernel
theorem dX8_append_15 : decode cX8_append 15 = .ok (.iload_n 2, 1) := by decide +kernel
theorem dX8_append_16 : decode cX8_append 16 = .ok (.invokevirtual 66, 3) := by decide +kernel
theorem dX8_append_19 : decode cX8_append 19 = .ok (.ifCond .eq 8, 3) := by decide +kernel
theorem dX8_append_22 : decode cX8_append 22 = .ok (.iload_n 1, 1) := by decide +kernel
theorem dX8_append_23 : decode cX8_append 23 = .ok (.iload_n 2, 1) := by decide +kernel
theorem dX8_append_24 : decode cX8_append 24 = .ok (.if_icmp .ne 5, 3) := by decide +kernel
theorem dX8_append_27 : decode cX8_append 27 = .ok (.iconst (-1), 1) := by decide +kernel
theorem dX8_append_28 : decode cX8_append 28 = .ok (.ireturn, 1) := by decide +kernel
theorem dX8_append_29 : decode cX8_append 29 = .ok (.aload_n 0, 1) := by decide +kernel
theorem dX8_append_30 : decode cX8_append 30 = .ok (.getfield 19, 3) := by decide +kernel
theorem dX8_append_33 : decode cX8_append 33 = .ok (.iload_n 1, 1) := by decide +kernel
theorem dX8_append_34 : decode cX8_append 34 = .ok (.iload_n 2, 1) := by decide +kernel
theorem dX8_append_35 : decode cX8_append 35 = .ok (.invokevirtual 129, 3) := by decide +kernel
theorem dX8_append_38 : decode cX8_append 38 = .ok (.ireturn, 1) := by decide +kernel
theorem dX8_fold_0 : decode cX8_fold 0 = .ok (.aload_n 0, 1) := by decide +kernel
theorem dX8_fold_1 : decode cX8_fold 1 = .ok (.getfield 19, 3) := by decide +kernel
theorem dX8_fold_4 : decode cX8_fold 4 = .ok (.iload_n 1, 1) := by decide +kernel
theorem dX8_fold_5 : decode cX8_fold 5 = .ok (.invokevirtual 102, 3) := by decide +kernel
theorem dX8_fold_8 : decode cX8_fold 8 = .ok (.ifCond .ne 5, 3) := by decide +kernel
theorem dX8_fold_11 : decode cX8_fold 11 = .ok (.iconst (-1), 1) := by decide +kernel
theorem dX8_fold_12 : decode cX8_fold 12 = .ok (.ireturn, 1) := by decide +kernel
theorem dX8_fold_13 : decode cX8_fold 13 = .ok (.aload_n 0, 1) := by decide +kernel
theorem dX8_fold_14 : decode cX8_fold 14 = .ok (.getfield 19, 3) := by decide +kernel
theorem dX8_fold_17 : decode cX8_fold 17 = .ok (.getfield 105, 3) := by decide +kernel
theorem dX8_fold_20 : decode cX8_fold 20 = .ok (.iload_n 1, 1) := by decide +kernel
theorem dX8_fold_21 : decode cX8_fold 21 = .ok (.aaload, 1) := by decide +kernel
theorem dX8_fold_22 : decode cX8_fold 22 = .ok (.astore_n 3, 1) := by decide +kernel
theorem dX8_fold_23 : decode cX8_fold 23 = .ok (.iload_n 2, 1) := by decide +kernel
theorem dX8_fold_24 : decode cX8_fold 24 = .ok (.aload_n 3, 1) := by decide +kernel
theorem dX8_fold_25 : decode cX8_fold 25 = .ok (.getfield 133, 3) := by decide +kernel
theorem dX8_fold_28 : decode cX8_fold 28 = .ok (.if_icmp .le 11, 3) := by decide +kernel
theorem dX8_fold_31 : decode cX8_fold 31 = .ok (.iload_n 2, 1) := by decide +kernel
theorem dX8_fold_32 : decode cX8_fold 32 = .ok (.aload_n 3, 1) := by decide +kernel
theorem dX8_fold_33 : decode cX8_fold 33 = .ok (.getfield 136, 3) := by decide +kernel
theorem dX8_fold_36 : decode cX8_fold 36 = .ok (.if_icmp .le 5, 3) := by decide +kernel
theorem dX8_fold_39 : decode cX8_fold 39 = .ok (.iconst (-1), 1) := by decide +kernel
theorem dX8_fold_40 : decode cX8_fold 40 = .ok (.ireturn, 1) := by decide +kernel
theorem dX8_fold_41 : decode cX8_fold 41 = .ok (.aload_n 3, 1) := by decide +kernel
theorem dX8_fold_42 : decode cX8_fold 42 = .ok (.iload_n 2, 1) := by decide +kernel
theorem dX8_fold_43 : decode cX8_fold 43 = .ok (.invokevirtual 139, 3) := by decide +kernel
theorem dX8_fold_46 : decode cX8_fold 46 = .ok (.aload_n 3, 1) := by decide +kernel
theorem dX8_fold_47 : decode cX8_fold 47 = .ok (.getfield 142, 3) := by decide +kernel
theorem dX8_fold_50 : decode cX8_fold 50 = .ok (.aload_n 3, 1) := by decide +kernel
theorem dX8_fold_51 : decode cX8_fold 51 = .ok (.getfield 133, 3) := by decide +kernel
theorem dX8_fold_54 : decode cX8_fold 54 = .ok (.isub, 1) := by decide +kernel
theorem dX8_fold_55 : decode cX8_fold 55 = .ok (.ireturn, 1) := by decide +kernel
theorem dX8_read_0 : decode cX8_read 0 = .ok (.aload_n 0, 1) := by decide +kernel
theorem dX8_read_1 : decode cX8_read 1 = .ok (.getfield 19, 3) := by decide +kernel
theorem dX8_read_4 : decode cX8_read 4 = .ok (.iload_n 1, 1) := by decide +kernel
theorem dX8_read_5 : decode cX8_read 5 = .ok (.invokevirtual 118, 3) := by decide +kernel
theorem dX8_read_8 : decode cX8_read 8 = .ok (.ifCond .eq 10, 3) := by decide +kernel
theorem dX8_read_11 : decode cX8_read 11 = .ok (.iload_n 2, 1) := by decide +kernel
theorem dX8_read_12 : decode cX8_read 12 = .ok (.invokestatic 145, 3) := by decide +kernel
theorem dX8_read_15 : decode cX8_read 15 = .ok (.ifCond .ne 5, 3) := by decide +kernel
theorem dX8_read_18 : decode cX8_read 18 = .ok (.iconst (-1), 1) := by decide +kernel
theorem dX8_read_19 : decode cX8_read 19 = .ok (.ireturn, 1) := by decide +kernel
theorem dX8_read_20 : decode cX8_read 20 = .ok (.aload_n 0, 1) := by decide +kernel
theorem dX8_read_21 : decode cX8_read 21 = .ok (.getfield 19, 3) := by decide +kernel
theorem dX8_read_24 : decode cX8_read 24 = .ok (.iload_n 1, 1) := by decide +kernel
theorem dX8_read_25 : decode cX8_read 25 = .ok (.iload_n 2, 1) := by decide +kernel
theorem dX8_read_26 : decode cX8_read 26 = .ok (.invokevirtual 148, 3) := by decide +kernel
theorem dX8_read_29 : decode cX8_read 29 = .ok (.ireturn, 1) := by decide +kernel
theorem dX8_good_0 : decode cX8_good 0 = .ok (.aload_n 0, 1) := by decide +kernel
theorem dX8_good_1 : decode cX8_good 1 = .ok (.getfield 19, 3) := by decide +kernel
theorem dX8_good_4 : decode cX8_good 4 = .ok (.getfield 151, 3) := by decide +kernel
theorem dX8_good_7 : decode cX8_good 7 = .ok (.iload_n 1, 1) := by decide +kernel
theorem dX8_good_8 : decode cX8_good 8 = .ok (.invokevirtual 155, 3) := by decide +kernel
theorem dX8_good_11 : decode cX8_good 11 = .ok (.ifCond .eq 25, 3) := by decide +kernel
theorem dX8_good_14 : decode cX8_good 14 = .ok (.aload_n 0, 1) := by decide +kernel
theorem dX8_good_15 : decode cX8_good 15 = .ok (.getfield 19, 3) := by decide +kernel
theorem dX8_good_18 : decode cX8_good 18 = .ok (.iload_n 1, 1) := by decide +kernel
theorem dX8_good_19 : decode cX8_good 19 = .ok (.invokevirtual 160, 3) := by decide +kernel
theorem dX8_good_22 : decode cX8_good 22 = .ok (.ifCond .eq 14, 3) := by decide +kernel
theorem dX8_good_25 : decode cX8_good 25 = .ok (.aload_n 0, 1) := by decide +kernel
theorem dX8_good_26 : decode cX8_good 26 = .ok (.getfield 19, 3) := by decide +kernel
theorem dX8_good_29 : decode cX8_good 29 = .ok (.iload_n 1, 1) := by decide +kernel
theorem dX8_good_30 : decode cX8_good 30 = .ok (.invokevirtual 163, 3) := by decide +kernel
theorem dX8_good_33 : decode cX8_good 33 = .ok (.goto 5, 3) := by decide +kernel
theorem dX8_good_36 : decode cX8_good 36 = .ok (.ldc 166, 2) := by decide +kernel
theorem dX8_good_38 : decode cX8_good 38 = .ok (.ireturn, 1) := by decide +kernel
theorem dX8_keeper_0 : decode cX8_keeper 0 = .ok (.aload_n 0, 1) := by decide +kernel
theorem dX8_keeper_1 : decode cX8_keeper 1 = .ok (.getfield 19, 3) := by decide +kernel
theorem dX8_keeper_4 : decode cX8_keeper 4 = .ok (.iload_n 1, 1) := by decide +kernel
theorem dX8_keeper_5 : decode cX8_keeper 5 = .ok (.invokevirtual 66, 3) := by decide +kernel
theorem dX8_keeper_8 : decode cX8_keeper 8 = .ok (.ifCond .eq 19, 3) := by decide +kernel
theorem dX8_keeper_11 : decode cX8_keeper 11 = .ok (.aload_n 0, 1) := by decide +kernel
theorem dX8_keeper_12 : decode cX8_keeper 12 = .ok (.getfield 19, 3) := by decide +kernel
theorem dX8_keeper_15 : decode cX8_keeper 15 = .ok (.getfield 105, 3) := by decide +kernel
theorem dX8_keeper_18 : decode cX8_keeper 18 = .ok (.iload_n 1, 1) := by decide +kernel
theorem dX8_keeper_19 : decode cX8_keeper 19 = .ok (.aaload, 1) := by decide +kernel
theorem dX8_keeper_20 : decode cX8_keeper 20 = .ok (.iload_n 2, 1) := by decide +kernel
theorem dX8_keeper_21 : decode cX8_keeper 21 = .ok (.invokevirtual 167, 3) := by decide +kernel
theorem dX8_keeper_24 : decode cX8_keeper 24 = .ok (.goto 5, 3) := by decide +kernel
theorem dX8_keeper_27 : decode cX8_keeper 27 = .ok (.bipush (-2), 2) := by decide +kernel
theorem dX8_keeper_29 : decode cX8_keeper 29 = .ok (.ireturn, 1) := by decide +kernel
theorem dX8_entry_0 : decode cX8_entry 0 = .ok (.aload_n 0, 1) := by decide +kernel
theorem dX8_entry_1 : decode cX8_entry 1 = .ok (.getfield 19, 3) := by decide +kernel
theorem dX8_entry_4 : decode cX8_entry 4 = .ok (.iload_n 1, 1) := by decide +kernel
theorem dX8_entry_5 : decode cX8_entry 5 = .ok (.invokevirtual 66, 3) := by decide +kernel
theorem dX8_entry_8 : decode cX8_entry 8 = .ok (.ifCond .eq 12, 3) := by decide +kernel
theorem dX8_entry_11 : decode cX8_entry 11 = .ok (.iload_n 3, 1) := by decide +kernel
theorem dX8_entry_12 : decode cX8_entry 12 = .ok (.ifCond .lt 8, 3) := by decide +kernel
theorem dX8_entry_15 : decode cX8_entry 15 = .ok (.iload_n 3, 1) := by decide +kernel
theorem dX8_entry_16 : decode cX8_entry 16 = .ok (.iconst 5, 1) := by decide +kernel
theorem dX8_entry_17 : decode cX8_entry 17 = .ok (.if_icmp .le 6, 3) := by decide +kernel
theorem dX8_entry_20 : decode cX8_entry 20 = .ok (.ldc 166, 2) := by decide +kernel
theorem dX8_entry_22 : decode cX8_entry 22 = .ok (.ireturn, 1) := by decide +kernel
theorem dX8_entry_23 : decode cX8_entry 23 = .ok (.aload_n 0, 1) := by decide +kernel
theorem dX8_entry_24 : decode cX8_entry 24 = .ok (.getfield 19, 3) := by decide +kernel
theorem dX8_entry_27 : decode cX8_entry 27 = .ok (.getfield 105, 3) := by decide +kernel
theorem dX8_entry_30 : decode cX8_entry 30 = .ok (.iload_n 1, 1) := by decide +kernel
theorem dX8_entry_31 : decode cX8_entry 31 = .ok (.aaload, 1) := by decide +kernel
theorem dX8_entry_32 : decode cX8_entry 32 = .ok (.iload_n 2, 1) := by decide +kernel
theorem dX8_entry_33 : decode cX8_entry 33 = .ok (.iload_n 3, 1) := by decide +kernel
theorem dX8_entry_34 : decode cX8_entry 34 = .ok (.invokevirtual 170, 3) := by decide +kernel
theorem dX8_entry_37 : decode cX8_entry 37 = .ok (.ireturn, 1) := by decide +kernel
theorem dX8_state_0 : decode cX8_state 0 = .ok (.aload_n 0, 1) := by decide +kernel
theorem dX8_state_1 : decode cX8_state 1 = .ok (.getfield 19, 3) := by decide +kernel
theorem dX8_state_4 : decode cX8_state 4 = .ok (.iload_n 1, 1) := by decide +kernel
theorem dX8_state_5 : decode cX8_state 5 = .ok (.invokevirtual 66, 3) := by decide +kernel
theorem dX8_state_8 : decode cX8_state 8 = .ok (.ifCond .eq 29, 3) := by decide +kernel
theorem dX8_state_11 : decode cX8_state 11 = .ok (.iload_n 2, 1) := by decide +kernel
theorem dX8_state_12 : decode cX8_state 12 = .ok (.invokestatic 145, 3) := by decide +kernel
theorem dX8_state_15 : decode cX8_state 15 = .ok (.ifCond .eq 22, 3) := by decide +kernel
theorem dX8_state_18 : decode cX8_state 18 = .ok (.aload_n 0, 1) := by decide +kernel
theorem dX8_state_19 : decode cX8_state 19 = .ok (.getfield 19, 3) := by decide +kernel
theorem dX8_state_22 : decode cX8_state 22 = .ok (.getfield 105, 3) := by decide +kernel
theorem dX8_state_25 : decode cX8_state 25 = .ok (.iload_n 1, 1) := by decide +kernel
theorem dX8_state_26 : decode cX8_state 26 = .ok (.aaload, 1) := by decide +kernel
theorem dX8_state_27 : decode cX8_state 27 = .ok (.getfield 173, 3) := by decide +kernel
theorem dX8_state_30 : decode cX8_state 30 = .ok (.iload_n 2, 1) := by decide +kernel
theorem dX8_state_31 : decode cX8_state 31 = .ok (.invokevirtual 177, 3) := by decide +kernel
theorem dX8_state_34 : decode cX8_state 34 = .ok (.goto 5, 3) := by decide +kernel
theorem dX8_state_37 : decode cX8_state 37 = .ok (.ldc 166, 2) := by decide +kernel
theorem dX8_state_39 : decode cX8_state 39 = .ok (.ireturn, 1) := by decide +kernel
theorem dX8_client_0 : decode cX8_client 0 = .ok (.aload_n 0, 1) := by decide +kernel
theorem dX8_client_1 : decode cX8_client 1 = .ok (.getfield 19, 3) := by decide +kernel
theorem dX8_client_4 : decode cX8_client 4 = .ok (.iload_n 1, 1) := by decide +kernel
theorem dX8_client_5 : decode cX8_client 5 = .ok (.invokevirtual 66, 3) := by decide +kernel
theorem dX8_client_8 : decode cX8_client 8 = .ok (.ifCond .eq 10, 3) := by decide +kernel
theorem dX8_client_11 : decode cX8_client 11 = .ok (.iload_n 2, 1) := by decide +kernel
theorem dX8_client_12 : decode cX8_client 12 = .ok (.invokestatic 182, 3) := by decide +kernel
theorem dX8_client_15 : decode cX8_client 15 = .ok (.ifCond .ne 6, 3) := by decide +kernel
theorem dX8_client_18 : decode cX8_client 18 = .ok (.ldc 166, 2) := by decide +kernel
theorem dX8_client_20 : decode cX8_client 20 = .ok (.ireturn, 1) := by decide +kernel
theorem dX8_client_21 : decode cX8_client 21 = .ok (.aload_n 0, 1) := by decide +kernel
theorem dX8_client_22 : decode cX8_client 22 = .ok (.getfield 19, 3) := by decide +kernel
theorem dX8_client_25 : decode cX8_client 25 = .ok (.getfield 105, 3) := by decide +kernel
theorem dX8_client_28 : decode cX8_client 28 = .ok (.iload_n 1, 1) := by decide +kernel
theorem dX8_client_29 : decode cX8_client 29 = .ok (.aaload, 1) := by decide +kernel
theorem dX8_client_30 : decode cX8_client 30 = .ok (.getfield 173, 3) := by decide +kernel
theorem dX8_client_33 : decode cX8_client 33 = .ok (.astore 4, 2) := by decide +kernel
theorem dX8_client_35 : decode cX8_client 35 = .ok (.iload_n 3, 1) := by decide +kernel
theorem dX8_client_36 : decode cX8_client 36 = .ok (.lookupswitch 42 #[(0, 28), (1, 35)], 28) := by decide +kernel
theorem dX8_client_64 : decode cX8_client 64 = .ok (.aload 4, 2) := by decide +kernel
theorem dX8_client_66 : decode cX8_client 66 = .ok (.iload_n 2, 1) := by decide +kernel
theorem dX8_client_67 : decode cX8_client 67 = .ok (.invokevirtual 185, 3) := by decide +kernel
theorem dX8_client_70 : decode cX8_client 70 = .ok (.ireturn, 1) := by decide +kernel
theorem dX8_client_71 : decode cX8_client 71 = .ok (.aload 4, 2) := by decide +kernel
theorem dX8_client_73 : decode cX8_client 73 = .ok (.iload_n 2, 1) := by decide +kernel
theorem dX8_client_74 : decode cX8_client 74 = .ok (.invokevirtual 188, 3) := by decide +kernel
theorem dX8_client_77 : decode cX8_client 77 = .ok (.ireturn, 1) := by decide +kernel
theorem dX8_client_78 : decode cX8_client 78 = .ok (.ldc 166, 2) := by decide +kernel
theorem dX8_client_80 : decode cX8_client 80 = .ok (.ireturn, 1) := by decide +kernel
theorem dX8_peer_0 : decode cX8_peer 0 = .ok (.aload_n 0, 1) := by decide +kernel
theorem dX8_peer_1 : decode cX8_peer 1 = .ok (.getfield 19, 3) := by decide +kernel
theorem dX8_peer_4 : decode cX8_peer 4 = .ok (.iload_n 1, 1) := by decide +kernel
theorem dX8_peer_5 : decode cX8_peer 5 = .ok (.invokevirtual 118, 3) := by decide +kernel
theorem dX8_peer_8 : decode cX8_peer 8 = .ok (.ifCond .eq 19, 3) := by decide +kernel
theorem dX8_peer_11 : decode cX8_peer 11 = .ok (.aload_n 0, 1) := by decide +kernel
theorem dX8_peer_12 : decode cX8_peer 12 = .ok (.getfield 19, 3) := by decide +kernel
theorem dX8_peer_15 : decode cX8_peer 15 = .ok (.iload_n 2, 1) := by decide +kernel
theorem dX8_peer_16 : decode cX8_peer 16 = .ok (.invokevirtual 66, 3) := by decide +kernel
theorem dX8_peer_19 : decode cX8_peer 19 = .ok (.ifCond .eq 8, 3) := by decide +kernel
theorem dX8_peer_22 : decode cX8_peer 22 = .ok (.iload_n 1, 1) := by decide +kernel
theorem dX8_peer_23 : decode cX8_peer 23 = .ok (.iload_n 2, 1) := by decide +kernel
theorem dX8_peer_24 : decode cX8_peer 24 = .ok (.if_icmp .ne 5, 3) := by decide +kernel
theorem dX8_peer_27 : decode cX8_peer 27 = .ok (.iconst (-1), 1) := by decide +kernel
theorem dX8_peer_28 : decode cX8_peer 28 = .ok (.ireturn, 1) := by decide +kernel
theorem dX8_peer_29 : decode cX8_peer 29 = .ok (.aload_n 0, 1) := by decide +kernel
theorem dX8_peer_30 : decode cX8_peer 30 = .ok (.getfield 19, 3) := by decide +kernel
theorem dX8_peer_33 : decode cX8_peer 33 = .ok (.getfield 105, 3) := by decide +kernel
theorem dX8_peer_36 : decode cX8_peer 36 = .ok (.iload_n 1, 1) := by decide +kernel
theorem dX8_peer_37 : decode cX8_peer 37 = .ok (.aaload, 1) := by decide +kernel
theorem dX8_peer_38 : decode cX8_peer 38 = .ok (.astore 4, 2) := by decide +kernel
theorem dX8_peer_40 : decode cX8_peer 40 = .ok (.iload_n 3, 1) := by decide +kernel
theorem dX8_peer_41 : decode cX8_peer 41 = .ok (.tableswitch 51 0 2 #[27, 35, 43], 27) := by decide +kernel
theorem dX8_peer_68 : decode cX8_peer 68 = .ok (.aload 4, 2) := by decide +kernel
theorem dX8_peer_70 : decode cX8_peer 70 = .ok (.getfield 191, 3) := by decide +kernel
theorem dX8_peer_73 : decode cX8_peer 73 = .ok (.iload_n 2, 1) := by decide +kernel
theorem dX8_peer_74 : decode cX8_peer 74 = .ok (.iaload, 1) := by decide +kernel
theorem dX8_peer_75 : decode cX8_peer 75 = .ok (.ireturn, 1) := by decide +kernel
theorem dX8_peer_76 : decode cX8_peer 76 = .ok (.aload 4, 2) := by decide +kernel
theorem dX8_peer_78 : decode cX8_peer 78 = .ok (.getfield 195, 3) := by decide +kernel
theorem dX8_peer_81 : decode cX8_peer 81 = .ok (.iload_n 2, 1) := by decide +kernel
theorem dX8_peer_82 : decode cX8_peer 82 = .ok (.iaload, 1) := by decide +kernel
theorem dX8_peer_83 : decode cX8_peer 83 = .ok (.ireturn, 1) := by decide +kernel
theorem dX8_peer_84 : decode cX8_peer 84 = .ok (.aload 4, 2) := by decide +kernel
theorem dX8_peer_86 : decode cX8_peer 86 = .ok (.getfield 198, 3) := by decide +kernel
theorem dX8_peer_89 : decode cX8_peer 89 = .ok (.iload_n 2, 1) := by decide +kernel
theorem dX8_peer_90 : decode cX8_peer 90 = .ok (.iaload, 1) := by decide +kernel
theorem dX8_peer_91 : decode cX8_peer 91 = .ok (.ireturn, 1) := by decide +kernel
theorem dX8_peer_92 : decode cX8_peer 92 = .ok (.iconst (-1), 1) := by decide +kernel
theorem dX8_peer_93 : decode cX8_peer 93 = .ok (.ireturn, 1) := by decide +kernel
theorem dX8_slot_0 : decode cX8_slot 0 = .ok (.aload_n 0, 1) := by decide +kernel
theorem dX8_slot_1 : decode cX8_slot 1 = .ok (.getfield 19, 3) := by decide +kernel
theorem dX8_slot_4 : decode cX8_slot 4 = .ok (.getfield 73, 3) := by decide +kernel
theorem dX8_slot_7 : decode cX8_slot 7 = .ok (.iload_n 1, 1) := by decide +kernel
theorem dX8_slot_8 : decode cX8_slot 8 = .ok (.invokevirtual 77, 3) := by decide +kernel
theorem dX8_slot_11 : decode cX8_slot 11 = .ok (.ifCond .eq 22, 3) := by decide +kernel
theorem dX8_slot_14 : decode cX8_slot 14 = .ok (.aload_n 0, 1) := by decide +kernel
theorem dX8_slot_15 : decode cX8_slot 15 = .ok (.getfield 19, 3) := by decide +kernel
theorem dX8_slot_18 : decode cX8_slot 18 = .ok (.getfield 73, 3) := by decide +kernel
theorem dX8_slot_21 : decode cX8_slot 21 = .ok (.getfield 85, 3) := by decide +kernel
theorem dX8_slot_24 : decode cX8_slot 24 = .ok (.iload_n 1, 1) := by decide +kernel
theorem dX8_slot_25 : decode cX8_slot 25 = .ok (.aaload, 1) := by decide +kernel
theorem dX8_slot_26 : decode cX8_slot 26 = .ok (.iload_n 2, 1) := by decide +kernel
theorem dX8_slot_27 : decode cX8_slot 27 = .ok (.invokevirtual 201, 3) := by decide +kernel
theorem dX8_slot_30 : decode cX8_slot 30 = .ok (.goto 4, 3) := by decide +kernel
theorem dX8_slot_33 : decode cX8_slot 33 = .ok (.iconst (-1), 1) := by decide +kernel
theorem dX8_slot_34 : decode cX8_slot 34 = .ok (.ireturn, 1) := by decide +kernel
theorem dX8_note_0 : decode cX8_note 0 = .ok (.iload_n 1, 1) := by decide +kernel
theorem dX8_note_1 : decode cX8_note 1 = .ok (.ifCond .lt 32, 3) := by decide +kernel
theorem dX8_note_4 : decode cX8_note 4 = .ok (.iload_n 2, 1) := by decide +kernel
theorem dX8_note_5 : decode cX8_note 5 = .ok (.iload_n 1, 1) := by decide +kernel
theorem dX8_note_6 : decode cX8_note 6 = .ok (.if_icmp .lt 27, 3) := by decide +kernel
theorem dX8_note_9 : decode cX8_note 9 = .ok (.iload_n 2, 1) := by decide +kernel
theorem dX8_note_10 : decode cX8_note 10 = .ok (.sipush 9999, 3) := by decide +kernel
theorem dX8_note_13 : decode cX8_note 13 = .ok (.if_icmp .gt 20, 3) := by decide +kernel
theorem dX8_note_16 : decode cX8_note 16 = .ok (.iload_n 3, 1) := by decide +kernel
theorem dX8_note_17 : decode cX8_note 17 = .ok (.invokestatic 202, 3) := by decide +kernel
theorem dX8_note_20 : decode cX8_note 20 = .ok (.ifCond .eq 13, 3) := by decide +kernel
theorem dX8_note_23 : decode cX8_note 23 = .ok (.aload_n 0, 1) := by decide +kernel
theorem dX8_note_24 : decode cX8_note 24 = .ok (.getfield 34, 3) := by decide +kernel
theorem dX8_note_27 : decode cX8_note 27 = .ok (.invokevirtual 205, 3) := by decide +kernel
theorem dX8_note_30 : decode cX8_note 30 = .ok (.ifCond .eq 5, 3) := by decide +kernel
theorem dX8_note_33 : decode cX8_note 33 = .ok (.iconst (-1), 1) := by decide +kernel
theorem dX8_note_34 : decode cX8_note 34 = .ok (.ireturn, 1) := by decide +kernel
theorem dX8_note_35 : decode cX8_note 35 = .ok (.aload_n 0, 1) := by decide +kernel
theorem dX8_note_36 : decode cX8_note 36 = .ok (.getfield 34, 3) := by decide +kernel
theorem dX8_note_39 : decode cX8_note 39 = .ok (.iload_n 1, 1) := by decide +kernel
theorem dX8_note_40 : decode cX8_note 40 = .ok (.iload_n 2, 1) := by decide +kernel
theorem dX8_note_41 : decode cX8_note 41 = .ok (.iload_n 3, 1) := by decide +kernel
theorem dX8_note_42 : decode cX8_note 42 = .ok (.iload 4, 2) := by decide +kernel
theorem dX8_note_44 : decode cX8_note 44 = .ok (.iload 5, 2) := by decide +kernel
theorem dX8_note_46 : decode cX8_note 46 = .ok (.invokevirtual 208, 3) := by decide +kernel
theorem dX8_note_49 : decode cX8_note 49 = .ok (.ireturn, 1) := by decide +kernel
theorem dX8_hush_0 : decode cX8_hush 0 = .ok (.aload_n 0, 1) := by decide +kernel
theorem dX8_hush_1 : decode cX8_hush 1 = .ok (.getfield 34, 3) := by decide +kernel
theorem dX8_hush_4 : decode cX8_hush 4 = .ok (.invokevirtual 212, 3) := by decide +kernel
theorem dX8_hush_7 : decode cX8_hush 7 = .ok (.ireturn, 1) := by decide +kernel
theorem dX8_judge_0 : decode cX8_judge 0 = .ok (.aload_n 0, 1) := by decide +kernel
theorem dX8_judge_1 : decode cX8_judge 1 = .ok (.getfield 34, 3) := by decide +kernel
theorem dX8_judge_4 : decode cX8_judge 4 = .ok (.invokevirtual 215, 3) := by decide +kernel
theorem dX8_judge_7 : decode cX8_judge 7 = .ok (.ifCond .eq 7, 3) := by decide +kernel
theorem dX8_judge_10 : decode cX8_judge 10 = .ok (.iconst 1, 1) := by decide +kernel
theorem dX8_judge_11 : decode cX8_judge 11 = .ok (.goto 4, 3) := by decide +kernel
theorem dX8_judge_14 : decode cX8_judge 14 = .ok (.iconst 0, 1) := by decide +kernel
theorem dX8_judge_15 : decode cX8_judge 15 = .ok (.ireturn, 1) := by decide +kernel
theorem dX8_order_0 : decode cX8_order 0 = .ok (.iload_n 1, 1) := by decide +kernel
theorem dX8_order_1 : decode cX8_order 1 = .ok (.ifCond .lt 24, 3) := by decide +kernel
theorem dX8_order_4 : decode cX8_order 4 = .ok (.iload_n 1, 1) := by decide +kernel
theorem dX8_order_5 : decode cX8_order 5 = .ok (.aload_n 0, 1) := by decide +kernel
theorem dX8_order_6 : decode cX8_order 6 = .ok (.getfield 34, 3) := by decide +kernel
theorem dX8_order_9 : decode cX8_order 9 = .ok (.getfield 218, 3) := by decide +kernel
theorem dX8_order_12 : decode cX8_order 12 = .ok (.if_icmp .ge 13, 3) := by decide +kernel
theorem dX8_order_15 : decode cX8_order 15 = .ok (.aload_n 0, 1) := by decide +kernel
theorem dX8_order_16 : decode cX8_order 16 = .ok (.getfield 34, 3) := by decide +kernel
theorem dX8_order_19 : decode cX8_order 19 = .ok (.invokevirtual 215, 3) := by decide +kernel
theorem dX8_order_22 : decode cX8_order 22 = .ok (.ifCond .ne 5, 3) := by decide +kernel
theorem dX8_order_25 : decode cX8_order 25 = .ok (.iconst (-1), 1) := by decide +kernel
theorem dX8_order_26 : decode cX8_order 26 = .ok (.ireturn, 1) := by decide +kernel
theorem dX8_order_27 : decode cX8_order 27 = .ok (.aload_n 0, 1) := by decide +kernel
theorem dX8_order_28 : decode cX8_order 28 = .ok (.getfield 34, 3) := by decide +kernel
theorem dX8_order_31 : decode cX8_order 31 = .ok (.getfield 221, 3) := by decide +kernel
theorem dX8_order_34 : decode cX8_order 34 = .ok (.iload_n 1, 1) := by decide +kernel
theorem dX8_order_35 : decode cX8_order 35 = .ok (.iaload, 1) := by decide +kernel
theorem dX8_order_36 : decode cX8_order 36 = .ok (.ireturn, 1) := by decide +kernel
theorem dX8_image_0 : decode cX8_image 0 = .ok (.iload_n 1, 1) := by decide +kernel
theorem dX8_image_1 : decode cX8_image 1 = .ok (.invokestatic 224, 3) := by decide +kernel
theorem dX8_image_4 : decode cX8_image 4 = .ok (.ifCond .ne 5, 3) := by decide +kernel
theorem dX8_image_7 : decode cX8_image 7 = .ok (.iconst (-1), 1) := by decide +kernel
theorem dX8_image_8 : decode cX8_image 8 = .ok (.ireturn, 1) := by decide +kernel
theorem dX8_image_9 : decode cX8_image 9 = .ok (.aload_n 0, 1) := by decide +kernel
theorem dX8_image_10 : decode cX8_image 10 = .ok (.getfield 23, 3) := by decide +kernel
theorem dX8_image_13 : decode cX8_image 13 = .ok (.iload_n 1, 1) := by decide +kernel
theorem dX8_image_14 : decode cX8_image 14 = .ok (.aaload, 1) := by decide +kernel
theorem dX8_image_15 : decode cX8_image 15 = .ok (.ifnonnull 16, 3) := by decide +kernel
theorem dX8_image_18 : decode cX8_image 18 = .ok (.aload_n 0, 1) := by decide +kernel
theorem dX8_image_19 : decode cX8_image 19 = .ok (.getfield 23, 3) := by decide +kernel
theorem dX8_image_22 : decode cX8_image 22 = .ok (.iload_n 1, 1) := by decide +kernel
theorem dX8_image_23 : decode cX8_image 23 = .ok (.new 16, 3) := by decide +kernel
theorem dX8_image_26 : decode cX8_image 26 = .ok (.dup, 1) := by decide +kernel
theorem dX8_image_27 : decode cX8_image 27 = .ok (.invokespecial 18, 3) := by decide +kernel
theorem dX8_image_30 : decode cX8_image 30 = .ok (.aastore, 1) := by decide +kernel
theorem dX8_image_31 : decode cX8_image 31 = .ok (.aload_n 0, 1) := by decide +kernel
theorem dX8_image_32 : decode cX8_image 32 = .ok (.getfield 23, 3) := by decide +kernel
theorem dX8_image_35 : decode cX8_image 35 = .ok (.iload_n 1, 1) := by decide +kernel
theorem dX8_image_36 : decode cX8_image 36 = .ok (.aaload, 1) := by decide +kernel
theorem dX8_image_37 : decode cX8_image 37 = .ok (.aload_n 0, 1) := by decide +kernel
theorem dX8_image_38 : decode cX8_image 38 = .ok (.getfield 19, 3) := by decide +kernel
theorem dX8_image_41 : decode cX8_image 41 = .ok (.invokevirtual 227, 3) := by decide +kernel
theorem dX8_image_44 : decode cX8_image 44 = .ok (.aload_n 0, 1) := by decide +kernel
theorem dX8_image_45 : decode cX8_image 45 = .ok (.getfield 27, 3) := by decide +kernel
theorem dX8_image_48 : decode cX8_image 48 = .ok (.iload_n 1, 1) := by decide +kernel
theorem dX8_image_49 : decode cX8_image 49 = .ok (.iconst 1, 1) := by decide +kernel
theorem dX8_image_50 : decode cX8_image 50 = .ok (.bastore, 1) := by decide +kernel
theorem dX8_image_51 : decode cX8_image 51 = .ok (.aload_n 0, 1) := by decide +kernel
theorem dX8_image_52 : decode cX8_image 52 = .ok (.getfield 19, 3) := by decide +kernel
theorem dX8_image_55 : decode cX8_image 55 = .ok (.getfield 73, 3) := by decide +kernel
theorem dX8_image_58 : decode cX8_image 58 = .ok (.invokevirtual 230, 3) := by decide +kernel
theorem dX8_image_61 : decode cX8_image 61 = .ok (.ireturn, 1) := by decide +kernel
theorem dX8_back_0 : decode cX8_back 0 = .ok (.iload_n 1, 1) := by decide +kernel
theorem dX8_back_1 : decode cX8_back 1 = .ok (.invokestatic 224, 3) := by decide +kernel
theorem dX8_back_4 : decode cX8_back 4 = .ok (.ifCond .eq 21, 3) := by decide +kernel
theorem dX8_back_7 : decode cX8_back 7 = .ok (.aload_n 0, 1) := by decide +kernel
theorem dX8_back_8 : decode cX8_back 8 = .ok (.getfield 27, 3) := by decide +kernel
theorem dX8_back_11 : decode cX8_back 11 = .ok (.iload_n 1, 1) := by decide +kernel
theorem dX8_back_12 : decode cX8_back 12 = .ok (.baload, 1) := by decide +kernel
theorem dX8_back_13 : decode cX8_back 13 = .ok (.ifCond .eq 12, 3) := by decide +kernel
theorem dX8_back_16 : decode cX8_back 16 = .ok (.aload_n 0, 1) := by decide +kernel
theorem dX8_back_17 : decode cX8_back 17 = .ok (.getfield 23, 3) := by decide +kernel
theorem dX8_back_20 : decode cX8_back 20 = .ok (.iload_n 1, 1) := by decide +kernel
theorem dX8_back_21 : decode cX8_back 21 = .ok (.aaload, 1) := by decide +kernel
theorem dX8_back_22 : decode cX8_back 22 = .ok (.ifnonnull 5, 3) := by decide +kernel
theorem dX8_back_25 : decode cX8_back 25 = .ok (.iconst (-1), 1) := by decide +kernel
theorem dX8_back_26 : decode cX8_back 26 = .ok (.ireturn, 1) := by decide +kernel
theorem dX8_back_27 : decode cX8_back 27 = .ok (.aload_n 0, 1) := by decide +kernel
theorem dX8_back_28 : decode cX8_back 28 = .ok (.getfield 19, 3) := by decide +kernel
theorem dX8_back_31 : decode cX8_back 31 = .ok (.aload_n 0, 1) := by decide +kernel
theorem dX8_back_32 : decode cX8_back 32 = .ok (.getfield 23, 3) := by decide +kernel
theorem dX8_back_35 : decode cX8_back 35 = .ok (.iload_n 1, 1) := by decide +kernel
theorem dX8_back_36 : decode cX8_back 36 = .ok (.aaload, 1) := by decide +kernel
theorem dX8_back_37 : decode cX8_back 37 = .ok (.invokevirtual 227, 3) := by decide +kernel
theorem dX8_back_40 : decode cX8_back 40 = .ok (.aload_n 0, 1) := by decide +kernel
theorem dX8_back_41 : decode cX8_back 41 = .ok (.getfield 19, 3) := by decide +kernel
theorem dX8_back_44 : decode cX8_back 44 = .ok (.getfield 73, 3) := by decide +kernel
theorem dX8_back_47 : decode cX8_back 47 = .ok (.invokevirtual 230, 3) := by decide +kernel
theorem dX8_back_50 : decode cX8_back 50 = .ok (.ireturn, 1) := by decide +kernel
theorem dX8_about_0 : decode cX8_about 0 = .ok (.iload_n 1, 1) := by decide +kernel
theorem dX8_about_1 : decode cX8_about 1 = .ok (.tableswitch 117 0 7 #[47, 55, 63, 71, 82, 93, 101, 109], 47) := by decide +kernel
theorem dX8_about_48 : decode cX8_about 48 = .ok (.aload_n 0, 1) := by decide +kernel
theorem dX8_about_49 : decode cX8_about 49 = .ok (.getfield 19, 3) := by decide +kernel
theorem dX8_about_52 : decode cX8_about 52 = .ok (.getfield 60, 3) := by decide +kernel
theorem dX8_about_55 : decode cX8_about 55 = .ok (.ireturn, 1) := by decide +kernel
theorem dX8_about_56 : decode cX8_about 56 = .ok (.aload_n 0, 1) := by decide +kernel
theorem dX8_about_57 : decode cX8_about 57 = .ok (.getfield 19, 3) := by decide +kernel
theorem dX8_about_60 : decode cX8_about 60 = .ok (.getfield 233, 3) := by decide +kernel
theorem dX8_about_63 : decode cX8_about 63 = .ok (.ireturn, 1) := by decide +kernel
theorem dX8_about_64 : decode cX8_about 64 = .ok (.aload_n 0, 1) := by decide +kernel
theorem dX8_about_65 : decode cX8_about 65 = .ok (.getfield 19, 3) := by decide +kernel
theorem dX8_about_68 : decode cX8_about 68 = .ok (.invokevirtual 236, 3) := by decide +kernel
theorem dX8_about_71 : decode cX8_about 71 = .ok (.ireturn, 1) := by decide +kernel
theorem dX8_about_72 : decode cX8_about 72 = .ok (.aload_n 0, 1) := by decide +kernel
theorem dX8_about_73 : decode cX8_about 73 = .ok (.getfield 19, 3) := by decide +kernel
theorem dX8_about_76 : decode cX8_about 76 = .ok (.getfield 73, 3) := by decide +kernel
theorem dX8_about_79 : decode cX8_about 79 = .ok (.invokevirtual 230, 3) := by decide +kernel
theorem dX8_about_82 : decode cX8_about 82 = .ok (.ireturn, 1) := by decide +kernel
theorem dX8_about_83 : decode cX8_about 83 = .ok (.aload_n 0, 1) := by decide +kernel
theorem dX8_about_84 : decode cX8_about 84 = .ok (.getfield 19, 3) := by decide +kernel
theorem dX8_about_87 : decode cX8_about 87 = .ok (.getfield 151, 3) := by decide +kernel
theorem dX8_about_90 : decode cX8_about 90 = .ok (.getfield 239, 3) := by decide +kernel
theorem dX8_about_93 : decode cX8_about 93 = .ok (.ireturn, 1) := by decide +kernel
theorem dX8_about_94 : decode cX8_about 94 = .ok (.aload_n 0, 1) := by decide +kernel
theorem dX8_about_95 : decode cX8_about 95 = .ok (.getfield 34, 3) := by decide +kernel
theorem dX8_about_98 : decode cX8_about 98 = .ok (.getfield 218, 3) := by decide +kernel
theorem dX8_about_101 : decode cX8_about 101 = .ok (.ireturn, 1) := by decide +kernel
theorem dX8_about_102 : decode cX8_about 102 = .ok (.aload_n 0, 1) := by decide +kernel
theorem dX8_about_103 : decode cX8_about 103 = .ok (.getfield 10, 3) := by decide +kernel
theorem dX8_about_106 : decode cX8_about 106 = .ok (.getfield 46, 3) := by decide +kernel
theorem dX8_about_109 : decode cX8_about 109 = .ok (.ireturn, 1) := by decide +kernel
theorem dX8_about_110 : decode cX8_about 110 = .ok (.aload_n 0, 1) := by decide +kernel
theorem dX8_about_111 : decode cX8_about 111 = .ok (.getfield 19, 3) := by decide +kernel
theorem dX8_about_114 : decode cX8_about 114 = .ok (.invokevirtual 240, 3) := by decide +kernel
theorem dX8_about_117 : decode cX8_about 117 = .ok (.ireturn, 1) := by decide +kernel
theorem dX8_about_118 : decode cX8_about 118 = .ok (.iconst (-1), 1) := by decide +kernel
theorem dX8_about_119 : decode cX8_about 119 = .ok (.ireturn, 1) := by decide +kernel
theorem dX8_canBe_0 : decode cX8_canBe 0 = .ok (.iload_n 0, 1) := by decide +kernel
theorem dX8_canBe_1 : decode cX8_canBe 1 = .ok (.invokestatic 182, 3) := by decide +kernel
theorem dX8_canBe_4 : decode cX8_canBe 4 = .ok (.ifCond .eq 32, 3) := by decide +kernel
theorem dX8_canBe_7 : decode cX8_canBe 7 = .ok (.iload_n 1, 1) := by decide +kernel
theorem dX8_canBe_8 : decode cX8_canBe 8 = .ok (.iconst 1, 1) := by decide +kernel
theorem dX8_canBe_9 : decode cX8_canBe 9 = .ok (.if_icmp .lt 27, 3) := by decide +kernel
theorem dX8_canBe_12 : decode cX8_canBe 12 = .ok (.iload_n 1, 1) := by decide +kernel
theorem dX8_canBe_13 : decode cX8_canBe 13 = .ok (.bipush 99, 2) := by decide +kernel
theorem dX8_canBe_15 : decode cX8_canBe 15 = .ok (.if_icmp .gt 21, 3) := by decide +kernel
theorem dX8_canBe_18 : decode cX8_canBe 18 = .ok (.iload_n 2, 1) := by decide +kernel
theorem dX8_canBe_19 : decode cX8_canBe 19 = .ok (.invokestatic 202, 3) := by decide +kernel
theorem dX8_canBe_22 : decode cX8_canBe 22 = .ok (.ifCond .eq 14, 3) := by decide +kernel
theorem dX8_canBe_25 : decode cX8_canBe 25 = .ok (.iload_n 3, 1) := by decide +kernel
theorem dX8_canBe_26 : decode cX8_canBe 26 = .ok (.invokestatic 145, 3) := by decide +kernel
theorem dX8_canBe_29 : decode cX8_canBe 29 = .ok (.ifCond .eq 7, 3) := by decide +kernel
theorem dX8_canBe_32 : decode cX8_canBe 32 = .ok (.iconst 1, 1) := by decide +kernel
theorem dX8_canBe_33 : decode cX8_canBe 33 = .ok (.goto 4, 3) := by decide +kernel
theorem dX8_canBe_36 : decode cX8_canBe 36 = .ok (.iconst 0, 1) := by decide +kernel
theorem dX8_canBe_37 : decode cX8_canBe 37 = .ok (.ireturn, 1) := by decide +kernel
theorem dX8_isClient_0 : decode cX8_isClient 0 = .ok (.iload_n 0, 1) := by decide +kernel
theorem dX8_isClient_1 : decode cX8_isClient 1 = .ok (.ifCond .lt 13, 3) := by decide +kernel
theorem dX8_isClient_4 : decode cX8_isClient 4 = .ok (.iload_n 0, 1) := by decide +kernel
theorem dX8_isClient_5 : decode cX8_isClient 5 = .ok (.bipush 6, 2) := by decide +kernel
theorem dX8_isClient_7 : decode cX8_isClient 7 = .ok (.if_icmp .ge 7, 3) := by decide +kernel
theorem dX8_isClient_10 : decode cX8_isClient 10 = .ok (.iconst 1, 1) := by decide +kernel
theorem dX8_isClient_11 : decode cX8_isClient 11 = .ok (.goto 4, 3) := by decide +kernel
theorem dX8_isClient_14 : decode cX8_isClient 14 = .ok (.iconst 0, 1) := by decide +kernel
theorem dX8_isClient_15 : decode cX8_isClient 15 = .ok (.ireturn, 1) := by decide +kernel
theorem dX8_isWhat_0 : decode cX8_isWhat 0 = .ok (.iload_n 0, 1) := by decide +kernel
theorem dX8_isWhat_1 : decode cX8_isWhat 1 = .ok (.ifCond .lt 12, 3) := by decide +kernel
theorem dX8_isWhat_4 : decode cX8_isWhat 4 = .ok (.iload_n 0, 1) := by decide +kernel
theorem dX8_isWhat_5 : decode cX8_isWhat 5 = .ok (.iconst 3, 1) := by decide +kernel
theorem dX8_isWhat_6 : decode cX8_isWhat 6 = .ok (.if_icmp .gt 7, 3) := by decide +kernel
theorem dX8_isWhat_9 : decode cX8_isWhat 9 = .ok (.iconst 1, 1) := by decide +kernel
theorem dX8_isWhat_10 : decode cX8_isWhat 10 = .ok (.goto 4, 3) := by decide +kernel
theorem dX8_isWhat_13 : decode cX8_isWhat 13 = .ok (.iconst 0, 1) := by decide +kernel
theorem dX8_isWhat_14 : decode cX8_isWhat 14 = .ok (.ireturn, 1) := by decide +kernel
theorem dX8_isCell_0 : decode cX8_isCell 0 = .ok (.iload_n 0, 1) := by decide +kernel
theorem dX8_isCell_1 : decode cX8_isCell 1 = .ok (.ifCond .lt 13, 3) := by decide +kernel
theorem dX8_isCell_4 : decode cX8_isCell 4 = .ok (.iload_n 0, 1) := by decide +kernel
theorem dX8_isCell_5 : decode cX8_isCell 5 = .ok (.bipush 8, 2) := by decide +kernel
theorem dX8_isCell_7 : decode cX8_isCell 7 = .ok (.if_icmp .ge 7, 3) := by decide +kernel
theorem dX8_isCell_10 : decode cX8_isCell 10 = .ok (.iconst 1, 1) := by decide +kernel
theorem dX8_isCell_11 : decode cX8_isCell 11 = .ok (.goto 4, 3) := by decide +kernel
theorem dX8_isCell_14 : decode cX8_isCell 14 = .ok (.iconst 0, 1) := by decide +kernel
theorem dX8_isCell_15 : decode cX8_isCell 15 = .ok (.ireturn, 1) := by decide +kernel
theorem dX8_isBox_0 : decode cX8_isBox 0 = .ok (.iload_n 0, 1) := by decide +kernel
theorem dX8_isBox_1 : decode cX8_isBox 1 = .ok (.ifCond .lt 12, 3) := by decide +kernel
theorem dX8_isBox_4 : decode cX8_isBox 4 = .ok (.iload_n 0, 1) := by decide +kernel
theorem dX8_isBox_5 : decode cX8_isBox 5 = .ok (.iconst 3, 1) := by decide +kernel
theorem dX8_isBox_6 : decode cX8_isBox 6 = .ok (.if_icmp .ge 7, 3) := by decide +kernel
theorem dX8_isBox_9 : decode cX8_isBox 9 = .ok (.iconst 1, 1) := by decide +kernel
theorem dX8_isBox_10 : decode cX8_isBox 10 = .ok (.goto 4, 3) := by decide +kernel
theorem dX8_isBox_13 : decode cX8_isBox 13 = .ok (.iconst 0, 1) := by decide +kernel
theorem dX8_isBox_14 : decode cX8_isBox 14 = .ok (.ireturn, 1) := by decide +kernel
theorem dX8_cellBehind_0 : decode cX8_cellBehind 0 = .ok (.iload_n 0, 1) := by decide +kernel
theorem dX8_cellBehind_1 : decode cX8_cellBehind 1 = .ok (.tableswitch 39 0 2 #[27, 29, 33], 27) := by decide +kernel
theorem dX8_cellBehind_28 : decode cX8_cellBehind 28 = .ok (.iload_n 2, 1) := by decide +kernel
theorem dX8_cellBehind_29 : decode cX8_cellBehind 29 = .ok (.ireturn, 1) := by decide +kernel
theorem dX8_cellBehind_30 : decode cX8_cellBehind 30 = .ok (.iload_n 1, 1) := by decide +kernel
theorem dX8_cellBehind_31 : decode cX8_cellBehind 31 = .ok (.iload_n 2, 1) := by decide +kernel
theorem dX8_cellBehind_32 : decode cX8_cellBehind 32 = .ok (.iadd, 1) := by decide +kernel
theorem dX8_cellBehind_33 : decode cX8_cellBehind 33 = .ok (.ireturn, 1) := by decide +kernel
theorem dX8_cellBehind_34 : decode cX8_cellBehind 34 = .ok (.iload_n 1, 1) := by decide +kernel
theorem dX8_cellBehind_35 : decode cX8_cellBehind 35 = .ok (.iload_n 2, 1) := by decide +kernel
theorem dX8_cellBehind_36 : decode cX8_cellBehind 36 = .ok (.invokestatic 243, 3) := by decide +kernel
theorem dX8_cellBehind_39 : decode cX8_cellBehind 39 = .ok (.ireturn, 1) := by decide +kernel
theorem dX8_cellBehind_40 : decode cX8_cellBehind 40 = .ok (.iload_n 1, 1) := by decide +kernel
theorem dX8_cellBehind_41 : decode cX8_cellBehind 41 = .ok (.ifCond .ne 7, 3) := by decide +kernel
theorem dX8_cellBehind_44 : decode cX8_cellBehind 44 = .ok (.iload_n 2, 1) := by decide +kernel
theorem dX8_cellBehind_45 : decode cX8_cellBehind 45 = .ok (.goto 4, 3) := by decide +kernel
theorem dX8_cellBehind_48 : decode cX8_cellBehind 48 = .ok (.iload_n 1, 1) := by decide +kernel
theorem dX8_cellBehind_49 : decode cX8_cellBehind 49 = .ok (.ireturn, 1) := by decide +kernel
theorem dX8_answerTo_0 : decode cX8_answerTo 0 = .ok (.iload_n 0, 1) := by decide +kernel
theorem dX8_answerTo_1 : decode cX8_answerTo 1 = .ok (.lookupswitch 39 #[(0, 27), (3, 29)], 27) := by decide +kernel
theorem dX8_answerTo_28 : decode cX8_answerTo 28 = .ok (.iload_n 1, 1) := by decide +kernel
theorem dX8_answerTo_29 : decode cX8_answerTo 29 = .ok (.ireturn, 1) := by decide +kernel
theorem dX8_answerTo_30 : decode cX8_answerTo 30 = .ok (.iload_n 1, 1) := by decide +kernel
theorem dX8_answerTo_31 : decode cX8_answerTo 31 = .ok (.ifCond .ne 7, 3) := by decide +kernel
theorem dX8_answerTo_34 : decode cX8_answerTo 34 = .ok (.iconst 1, 1) := by decide +kernel
theorem dX8_answerTo_35 : decode cX8_answerTo 35 = .ok (.goto 4, 3) := by decide +kernel
theorem dX8_answerTo_38 : decode cX8_answerTo 38 = .ok (.iconst 0, 1) := by decide +kernel
theorem dX8_answerTo_39 : decode cX8_answerTo 39 = .ok (.ireturn, 1) := by decide +kernel
theorem dX8_answerTo_40 : decode cX8_answerTo 40 = .ok (.iload_n 2, 1) := by decide +kernel
theorem dX8_answerTo_41 : decode cX8_answerTo 41 = .ok (.ireturn, 1) := by decide +kernel
theorem dJ6_bitCount_0f7a4_0 : decode cJ6_bitCount_0f7a4 0 = .ok (.iload_n 0, 1) := by decide +kernel
theorem dJ6_bitCount_0f7a4_1 : decode cJ6_bitCount_0f7a4 1 = .ok (.iload_n 0, 1) := by decide +kernel
theorem dJ6_bitCount_0f7a4_2 : decode cJ6_bitCount_0f7a4 2 = .ok (.iconst 1, 1) := by decide +kernel
theorem dJ6_bitCount_0f7a4_3 : decode cJ6_bitCount_0f7a4 3 = .ok (.iushr, 1) := by decide +kernel
theorem dJ6_bitCount_0f7a4_4 : decode cJ6_bitCount_0f7a4 4 = .ok (.ldc_w 265, 3) := by decide +kernel
theorem dJ6_bitCount_0f7a4_7 : decode cJ6_bitCount_0f7a4 7 = .ok (.iand, 1) := by decide +kernel
theorem dJ6_bitCount_0f7a4_8 : decode cJ6_bitCount_0f7a4 8 = .ok (.isub, 1) := by decide +kernel
theorem dJ6_bitCount_0f7a4_9 : decode cJ6_bitCount_0f7a4 9 = .ok (.istore_n 0, 1) := by decide +kernel
theorem dJ6_bitCount_0f7a4_10 : decode cJ6_bitCount_0f7a4 10 = .ok (.iload_n 0, 1) := by decide +kernel
theorem dJ6_bitCount_0f7a4_11 : decode cJ6_bitCount_0f7a4 11 = .ok (.ldc_w 266, 3) := by decide +kernel
theorem dJ6_bitCount_0f7a4_14 : decode cJ6_bitCount_0f7a4 14 = .ok (.iand, 1) := by decide +kernel
theorem dJ6_bitCount_0f7a4_15 : decode cJ6_bitCount_0f7a4 15 = .ok (.iload_n 0, 1) := by decide +kernel
theorem dJ6_bitCount_0f7a4_16 : decode cJ6_bitCount_0f7a4 16 = .ok (.iconst 2, 1) := by decide +kernel
theorem dJ6_bitCount_0f7a4_17 : decode cJ6_bitCount_0f7a4 17 = .ok (.iushr, 1) := by decide +kernel
theorem dJ6_bitCount_0f7a4_18 : decode cJ6_bitCount_0f7a4 18 = .ok (.ldc_w 266, 3) := by decide +kernel
theorem dJ6_bitCount_0f7a4_21 : decode cJ6_bitCount_0f7a4 21 = .ok (.iand, 1) := by decide +kernel
theorem dJ6_bitCount_0f7a4_22 : decode cJ6_bitCount_0f7a4 22 = .ok (.iadd, 1) := by decide +kernel
theorem dJ6_bitCount_0f7a4_23 : decode cJ6_bitCount_0f7a4 23 = .ok (.istore_n 0, 1) := by decide +kernel
theorem dJ6_bitCount_0f7a4_24 : decode cJ6_bitCount_0f7a4 24 = .ok (.iload_n 0, 1) := by decide +kernel
theorem dJ6_bitCount_0f7a4_25 : decode cJ6_bitCount_0f7a4 25 = .ok (.iload_n 0, 1) := by decide +kernel
theorem dJ6_bitCount_0f7a4_26 : decode cJ6_bitCount_0f7a4 26 = .ok (.iconst 4, 1) := by decide +kernel
theorem dJ6_bitCount_0f7a4_27 : decode cJ6_bitCount_0f7a4 27 = .ok (.iushr, 1) := by decide +kernel
theorem dJ6_bitCount_0f7a4_28 : decode cJ6_bitCount_0f7a4 28 = .ok (.iadd, 1) := by decide +kernel
theorem dJ6_bitCount_0f7a4_29 : decode cJ6_bitCount_0f7a4 29 = .ok (.ldc_w 267, 3) := by decide +kernel
theorem dJ6_bitCount_0f7a4_32 : decode cJ6_bitCount_0f7a4 32 = .ok (.iand, 1) := by decide +kernel
theorem dJ6_bitCount_0f7a4_33 : decode cJ6_bitCount_0f7a4 33 = .ok (.istore_n 0, 1) := by decide +kernel
theorem dJ6_bitCount_0f7a4_34 : decode cJ6_bitCount_0f7a4 34 = .ok (.iload_n 0, 1) := by decide +kernel
theorem dJ6_bitCount_0f7a4_35 : decode cJ6_bitCount_0f7a4 35 = .ok (.iload_n 0, 1) := by decide +kernel
theorem dJ6_bitCount_0f7a4_36 : decode cJ6_bitCount_0f7a4 36 = .ok (.bipush 8, 2) := by decide +kernel
theorem dJ6_bitCount_0f7a4_38 : decode cJ6_bitCount_0f7a4 38 = .ok (.iushr, 1) := by decide +kernel
theorem dJ6_bitCount_0f7a4_39 : decode cJ6_bitCount_0f7a4 39 = .ok (.iadd, 1) := by decide +kernel
theorem dJ6_bitCount_0f7a4_40 : decode cJ6_bitCount_0f7a4 40 = .ok (.istore_n 0, 1) := by decide +kernel
theorem dJ6_bitCount_0f7a4_41 : decode cJ6_bitCount_0f7a4 41 = .ok (.iload_n 0, 1) := by decide +kernel
theorem dJ6_bitCount_0f7a4_42 : decode cJ6_bitCount_0f7a4 42 = .ok (.iload_n 0, 1) := by decide +kernel
theorem dJ6_bitCount_0f7a4_43 : decode cJ6_bitCount_0f7a4 43 = .ok (.bipush 16, 2) := by decide +kernel
theorem dJ6_bitCount_0f7a4_45 : decode cJ6_bitCount_0f7a4 45 = .ok (.iushr, 1) := by decide +kernel
theorem dJ6_bitCount_0f7a4_46 : decode cJ6_bitCount_0f7a4 46 = .ok (.iadd, 1) := by decide +kernel
theorem dJ6_bitCount_0f7a4_47 : decode cJ6_bitCount_0f7a4 47 = .ok (.istore_n 0, 1) := by decide +kernel
theorem dJ6_bitCount_0f7a4_48 : decode cJ6_bitCount_0f7a4 48 = .ok (.iload_n 0, 1) := by decide +kernel
theorem dJ6_bitCount_0f7a4_49 : decode cJ6_bitCount_0f7a4 49 = .ok (.bipush 63, 2) := by decide +kernel
theorem dJ6_bitCount_0f7a4_51 : decode cJ6_bitCount_0f7a4 51 = .ok (.iand, 1) := by decide +kernel
theorem dJ6_bitCount_0f7a4_52 : decode cJ6_bitCount_0f7a4 52 = .ok (.ireturn, 1) := by decide +kernel
theorem dJ9_max_7cf53_0 : decode cJ9_max_7cf53 0 = .ok (.iload_n 0, 1) := by decide +kernel
theorem dJ9_max_7cf53_1 : decode cJ9_max_7cf53 1 = .ok (.iload_n 1, 1) := by decide +kernel
theorem dJ9_max_7cf53_2 : decode cJ9_max_7cf53 2 = .ok (.if_icmp .lt 7, 3) := by decide +kernel
theorem dJ9_max_7cf53_5 : decode cJ9_max_7cf53 5 = .ok (.iload_n 0, 1) := by decide +kernel
theorem dJ9_max_7cf53_6 : decode cJ9_max_7cf53 6 = .ok (.goto 4, 3) := by decide +kernel
theorem dJ9_max_7cf53_9 : decode cJ9_max_7cf53 9 = .ok (.iload_n 1, 1) := by decide +kernel
theorem dJ9_max_7cf53_10 : decode cJ9_max_7cf53 10 = .ok (.ireturn, 1) := by decide +kernel
theorem dJ9_min_7cf53_0 : decode cJ9_min_7cf53 0 = .ok (.iload_n 0, 1) := by decide +kernel
theorem dJ9_min_7cf53_1 : decode cJ9_min_7cf53 1 = .ok (.iload_n 1, 1) := by decide +kernel
theorem dJ9_min_7cf53_2 : decode cJ9_min_7cf53 2 = .ok (.if_icmp .gt 7, 3) := by decide +kernel
theorem dJ9_min_7cf53_5 : decode cJ9_min_7cf53 5 = .ok (.iload_n 0, 1) := by decide +kernel
theorem dJ9_min_7cf53_6 : decode cJ9_min_7cf53 6 = .ok (.goto 4, 3) := by decide +kernel
theorem dJ9_min_7cf53_9 : decode cJ9_min_7cf53 9 = .ok (.iload_n 1, 1) := by decide +kernel
theorem dJ9_min_7cf53_10 : decode cJ9_min_7cf53 10 = .ok (.ireturn, 1) := by decide +kernel
theorem dJ0_length_8abf5_0 : decode cJ0_length_8abf5 0 = .ok (.aload_n 0, 1) := by decide +kernel
theorem dJ0_length_8abf5_1 : decode cJ0_length_8abf5 1 = .ok (.getfield 9, 3) := by decide +kernel
theorem dJ0_length_8abf5_4 : decode cJ0_length_8abf5 4 = .ok (.arraylength, 1) := by decide +kernel
theorem dJ0_length_8abf5_5 : decode cJ0_length_8abf5 5 = .ok (.aload_n 0, 1) := by decide +kernel
theorem dJ0_length_8abf5_6 : decode cJ0_length_8abf5 6 = .ok (.invokevirtual 335, 3) := by decide +kernel
theorem dJ0_length_8abf5_9 : decode cJ0_length_8abf5 9 = .ok (.ishr, 1) := by decide +kernel
theorem dJ0_length_8abf5_10 : decode cJ0_length_8abf5 10 = .ok (.ireturn, 1) := by decide +kernel
theorem dJ0_charAt_5068e_0 : decode cJ0_charAt_5068e 0 = .ok (.aload_n 0, 1) := by decide +kernel
theorem dJ0_charAt_5068e_1 : decode cJ0_charAt_5068e 1 = .ok (.invokevirtual 492, 3) := by decide +kernel
theorem dJ0_charAt_5068e_4 : decode cJ0_charAt_5068e 4 = .ok (.ifCond .eq 12, 3) := by decide +kernel
theorem dJ0_charAt_5068e_7 : decode cJ0_charAt_5068e 7 = .ok (.aload_n 0, 1) := by decide +kernel
theorem dJ0_charAt_5068e_8 : decode cJ0_charAt_5068e 8 = .ok (.getfield 9, 3) := by decide +kernel
theorem dJ0_charAt_5068e_11 : decode cJ0_charAt_5068e 11 = .ok (.iload_n 1, 1) := by decide +kernel
theorem dJ0_charAt_5068e_12 : decode cJ0_charAt_5068e 12 = .ok (.invokestatic 495, 3) := by decide +kernel
theorem dJ0_charAt_5068e_15 : decode cJ0_charAt_5068e 15 = .ok (.ireturn, 1) := by decide +kernel
theorem dJ0_charAt_5068e_16 : decode cJ0_charAt_5068e 16 = .ok (.aload_n 0, 1) := by decide +kernel
theorem dJ0_charAt_5068e_17 : decode cJ0_charAt_5068e 17 = .ok (.getfield 9, 3) := by decide +kernel
theorem dJ0_charAt_5068e_20 : decode cJ0_charAt_5068e 20 = .ok (.iload_n 1, 1) := by decide +kernel
theorem dJ0_charAt_5068e_21 : decode cJ0_charAt_5068e 21 = .ok (.invokestatic 498, 3) := by decide +kernel
theorem dJ0_charAt_5068e_24 : decode cJ0_charAt_5068e 24 = .ok (.ireturn, 1) := by decide +kernel
theorem dJ0_coder_7d493_0 : decode cJ0_coder_7d493 0 = .ok (.getstatic 38, 3) := by decide +kernel
theorem dJ0_coder_7d493_3 : decode cJ0_coder_7d493 3 = .ok (.ifCond .eq 10, 3) := by decide +kernel
theorem dJ0_coder_7d493_6 : decode cJ0_coder_7d493 6 = .ok (.aload_n 0, 1) := by decide +kernel
theorem dJ0_coder_7d493_7 : decode cJ0_coder_7d493 7 = .ok (.getfield 15, 3) := by decide +kernel
theorem dJ0_coder_7d493_10 : decode cJ0_coder_7d493 10 = .ok (.goto 4, 3) := by decide +kernel
theorem dJ0_coder_7d493_13 : decode cJ0_coder_7d493 13 = .ok (.iconst 1, 1) := by decide +kernel
theorem dJ0_coder_7d493_14 : decode cJ0_coder_7d493 14 = .ok (.ireturn, 1) := by decide +kernel
theorem dJ0_isLatin1_aae02_0 : decode cJ0_isLatin1_aae02 0 = .ok (.getstatic 38, 3) := by decide +kernel
theorem dJ0_isLatin1_aae02_3 : decode cJ0_isLatin1_aae02 3 = .ok (.ifCond .eq 14, 3) := by decide +kernel
theorem dJ0_isLatin1_aae02_6 : decode cJ0_isLatin1_aae02 6 = .ok (.aload_n 0, 1) := by decide +kernel
theorem dJ0_isLatin1_aae02_7 : decode cJ0_isLatin1_aae02 7 = .ok (.getfield 15, 3) := by decide +kernel
theorem dJ0_isLatin1_aae02_10 : decode cJ0_isLatin1_aae02 10 = .ok (.ifCond .ne 7, 3) := by decide +kernel
theorem dJ0_isLatin1_aae02_13 : decode cJ0_isLatin1_aae02 13 = .ok (.iconst 1, 1) := by decide +kernel
theorem dJ0_isLatin1_aae02_14 : decode cJ0_isLatin1_aae02 14 = .ok (.goto 4, 3) := by decide +kernel
theorem dJ0_isLatin1_aae02_17 : decode cJ0_isLatin1_aae02 17 = .ok (.iconst 0, 1) := by decide +kernel
theorem dJ0_isLatin1_aae02_18 : decode cJ0_isLatin1_aae02 18 = .ok (.ireturn, 1) := by decide +kernel
theorem dJ0_checkIndex_df160_0 : decode cJ0_checkIndex_df160 0 = .ok (.iload_n 0, 1) := by decide +kernel
theorem dJ0_checkIndex_df160_1 : decode cJ0_checkIndex_df160 1 = .ok (.iload_n 1, 1) := by decide +kernel
theorem dJ0_checkIndex_df160_2 : decode cJ0_checkIndex_df160 2 = .ok (.getstatic 1053, 3) := by decide +kernel
theorem dJ0_checkIndex_df160_5 : decode cJ0_checkIndex_df160 5 = .ok (.invokestatic 1059, 3) := by decide +kernel
theorem dJ0_checkIndex_df160_8 : decode cJ0_checkIndex_df160 8 = .ok (.pop, 1) := by decide +kernel
theorem dJ0_checkIndex_df160_9 : decode cJ0_checkIndex_df160 9 = .ok (.return_, 1) := by decide +kernel
theorem dJ1_charAt_3b067_0 : decode cJ1_charAt_3b067 0 = .ok (.iload_n 1, 1) := by decide +kernel
theorem dJ1_charAt_3b067_1 : decode cJ1_charAt_3b067 1 = .ok (.aload_n 0, 1) := by decide +kernel
theorem dJ1_charAt_3b067_2 : decode cJ1_charAt_3b067 2 = .ok (.arraylength, 1) := by decide +kernel
theorem dJ1_charAt_3b067_3 : decode cJ1_charAt_3b067 3 = .ok (.invokestatic 9, 3) := by decide +kernel
theorem dJ1_charAt_3b067_6 : decode cJ1_charAt_3b067 6 = .ok (.aload_n 0, 1) := by decide +kernel
theorem dJ1_charAt_3b067_7 : decode cJ1_charAt_3b067 7 = .ok (.iload_n 1, 1) := by decide +kernel
theorem dJ1_charAt_3b067_8 : decode cJ1_charAt_3b067 8 = .ok (.baload, 1) := by decide +kernel
theorem dJ1_charAt_3b067_9 : decode cJ1_charAt_3b067 9 = .ok (.sipush 255, 3) := by decide +kernel
theorem dJ1_charAt_3b067_12 : decode cJ1_charAt_3b067 12 = .ok (.iand, 1) := by decide +kernel
theorem dJ1_charAt_3b067_13 : decode cJ1_charAt_3b067 13 = .ok (.i2c, 1) := by decide +kernel
theorem dJ1_charAt_3b067_14 : decode cJ1_charAt_3b067 14 = .ok (.ireturn, 1) := by decide +kernel
theorem dJ2_getChar_3b067_0 : decode cJ2_getChar_3b067 0 = .ok (.getstatic 44, 3) := by decide +kernel
theorem dJ2_getChar_3b067_3 : decode cJ2_getChar_3b067 3 = .ok (.ifCond .ne 25, 3) := by decide +kernel
theorem dJ2_getChar_3b067_6 : decode cJ2_getChar_3b067 6 = .ok (.iload_n 1, 1) := by decide +kernel
theorem dJ2_getChar_3b067_7 : decode cJ2_getChar_3b067 7 = .ok (.ifCond .lt 11, 3) := by decide +kernel
theorem dJ2_getChar_3b067_10 : decode cJ2_getChar_3b067 10 = .ok (.iload_n 1, 1) := by decide +kernel
theorem dJ2_getChar_3b067_11 : decode cJ2_getChar_3b067 11 = .ok (.aload_n 0, 1) := by decide +kernel
theorem dJ2_getChar_3b067_12 : decode cJ2_getChar_3b067 12 = .ok (.invokestatic 48, 3) := by decide +kernel
theorem dJ2_getChar_3b067_15 : decode cJ2_getChar_3b067 15 = .ok (.if_icmp .lt 13, 3) := by decide +kernel
theorem dJ2_getChar_3b067_18 : decode cJ2_getChar_3b067 18 = .ok (.new 52, 3) := by decide +kernel
theorem dJ2_getChar_3b067_21 : decode cJ2_getChar_3b067 21 = .ok (.dup, 1) := by decide +kernel
theorem dJ2_getChar_3b067_22 : decode cJ2_getChar_3b067 22 = .ok (.ldc 54, 2) := by decide +kernel
theorem dJ2_getChar_3b067_24 : decode cJ2_getChar_3b067 24 = .ok (.invokespecial 56, 3) := by decide +kernel
theorem dJ2_getChar_3b067_27 : decode cJ2_getChar_3b067 27 = .ok (.athrow, 1) := by decide +kernel
theorem dJ2_getChar_3b067_28 : decode cJ2_getChar_3b067 28 = .ok (.iload_n 1, 1) := by decide +kernel
theorem dJ2_getChar_3b067_29 : decode cJ2_getChar_3b067 29 = .ok (.iconst 1, 1) := by decide +kernel
theorem dJ2_getChar_3b067_30 : decode cJ2_getChar_3b067 30 = .ok (.ishl, 1) := by decide +kernel
theorem dJ2_getChar_3b067_31 : decode cJ2_getChar_3b067 31 = .ok (.istore_n 1, 1) := by decide +kernel
theorem dJ2_getChar_3b067_32 : decode cJ2_getChar_3b067 32 = .ok (.aload_n 0, 1) := by decide +kernel
theorem dJ2_getChar_3b067_33 : decode cJ2_getChar_3b067 33 = .ok (.iload_n 1, 1) := by decide +kernel
theorem dJ2_getChar_3b067_34 : decode cJ2_getChar_3b067 34 = .ok (.iinc 1 1, 3) := by decide +kernel
theorem dJ2_getChar_3b067_37 : decode cJ2_getChar_3b067 37 = .ok (.baload, 1) := by decide +kernel
theorem dJ2_getChar_3b067_38 : decode cJ2_getChar_3b067 38 = .ok (.sipush 255, 3) := by decide +kernel
theorem dJ2_getChar_3b067_41 : decode cJ2_getChar_3b067 41 = .ok (.iand, 1) := by decide +kernel
theorem dJ2_getChar_3b067_42 : decode cJ2_getChar_3b067 42 = .ok (.getstatic 59, 3) := by decide +kernel
theorem dJ2_getChar_3b067_45 : decode cJ2_getChar_3b067 45 = .ok (.ishl, 1) := by decide +kernel
theorem dJ2_getChar_3b067_46 : decode cJ2_getChar_3b067 46 = .ok (.aload_n 0, 1) := by decide +kernel
theorem dJ2_getChar_3b067_47 : decode cJ2_getChar_3b067 47 = .ok (.iload_n 1, 1) := by decide +kernel
theorem dJ2_getChar_3b067_48 : decode cJ2_getChar_3b067 48 = .ok (.baload, 1) := by decide +kernel
theorem dJ2_getChar_3b067_49 : decode cJ2_getChar_3b067 49 = .ok (.sipush 255, 3) := by decide +kernel
theorem dJ2_getChar_3b067_52 : decode cJ2_getChar_3b067 52 = .ok (.iand, 1) := by decide +kernel
theorem dJ2_getChar_3b067_53 : decode cJ2_getChar_3b067 53 = .ok (.getstatic 63, 3) := by decide +kernel
theorem dJ2_getChar_3b067_56 : decode cJ2_getChar_3b067 56 = .ok (.ishl, 1) := by decide +kernel
theorem dJ2_getChar_3b067_57 : decode cJ2_getChar_3b067 57 = .ok (.ior, 1) := by decide +kernel
theorem dJ2_getChar_3b067_58 : decode cJ2_getChar_3b067 58 = .ok (.i2c, 1) := by decide +kernel
theorem dJ2_getChar_3b067_59 : decode cJ2_getChar_3b067 59 = .ok (.ireturn, 1) := by decide +kernel
theorem dJ2_length_9d52b_0 : decode cJ2_length_9d52b 0 = .ok (.aload_n 0, 1) := by decide +kernel
theorem dJ2_length_9d52b_1 : decode cJ2_length_9d52b 1 = .ok (.arraylength, 1) := by decide +kernel
theorem dJ2_length_9d52b_2 : decode cJ2_length_9d52b 2 = .ok (.iconst 1, 1) := by decide +kernel
theorem dJ2_length_9d52b_3 : decode cJ2_length_9d52b 3 = .ok (.ishr, 1) := by decide +kernel
theorem dJ2_length_9d52b_4 : decode cJ2_length_9d52b 4 = .ok (.ireturn, 1) := by decide +kernel
theorem dJ2_charAt_3b067_0 : decode cJ2_charAt_3b067 0 = .ok (.iload_n 1, 1) := by decide +kernel
theorem dJ2_charAt_3b067_1 : decode cJ2_charAt_3b067 1 = .ok (.aload_n 0, 1) := by decide +kernel
theorem dJ2_charAt_3b067_2 : decode cJ2_charAt_3b067 2 = .ok (.invokestatic 67, 3) := by decide +kernel
theorem dJ2_charAt_3b067_5 : decode cJ2_charAt_3b067 5 = .ok (.aload_n 0, 1) := by decide +kernel
theorem dJ2_charAt_3b067_6 : decode cJ2_charAt_3b067 6 = .ok (.iload_n 1, 1) := by decide +kernel
theorem dJ2_charAt_3b067_7 : decode cJ2_charAt_3b067 7 = .ok (.invokestatic 71, 3) := by decide +kernel
theorem dJ2_charAt_3b067_10 : decode cJ2_charAt_3b067 10 = .ok (.ireturn, 1) := by decide +kernel
theorem dJ2_checkIndex_2214a_0 : decode cJ2_checkIndex_2214a 0 = .ok (.iload_n 0, 1) := by decide +kernel
theorem dJ2_checkIndex_2214a_1 : decode cJ2_checkIndex_2214a 1 = .ok (.aload_n 1, 1) := by decide +kernel
theorem dJ2_checkIndex_2214a_2 : decode cJ2_checkIndex_2214a 2 = .ok (.invokestatic 48, 3) := by decide +kernel
theorem dJ2_checkIndex_2214a_5 : decode cJ2_checkIndex_2214a 5 = .ok (.invokestatic 414, 3) := by decide +kernel
theorem dJ2_checkIndex_2214a_8 : decode cJ2_checkIndex_2214a 8 = .ok (.return_, 1) := by decide +kernel
theorem dJ3_checkIndex_8e157_0 : decode cJ3_checkIndex_8e157 0 = .ok (.iload_n 0, 1) := by decide +kernel
theorem dJ3_checkIndex_8e157_1 : decode cJ3_checkIndex_8e157 1 = .ok (.ifCond .lt 8, 3) := by decide +kernel
theorem dJ3_checkIndex_8e157_4 : decode cJ3_checkIndex_8e157 4 = .ok (.iload_n 0, 1) := by decide +kernel
theorem dJ3_checkIndex_8e157_5 : decode cJ3_checkIndex_8e157 5 = .ok (.iload_n 1, 1) := by decide +kernel
theorem dJ3_checkIndex_8e157_6 : decode cJ3_checkIndex_8e157 6 = .ok (.if_icmp .lt 10, 3) := by decide +kernel
theorem dJ3_checkIndex_8e157_9 : decode cJ3_checkIndex_8e157 9 = .ok (.aload_n 2, 1) := by decide +kernel
theorem dJ3_checkIndex_8e157_10 : decode cJ3_checkIndex_8e157 10 = .ok (.iload_n 0, 1) := by decide +kernel
theorem dJ3_checkIndex_8e157_11 : decode cJ3_checkIndex_8e157 11 = .ok (.iload_n 1, 1) := by decide +kernel
theorem dJ3_checkIndex_8e157_12 : decode cJ3_checkIndex_8e157 12 = .ok (.invokestatic 95, 3) := by decide +kernel
theorem dJ3_checkIndex_8e157_15 : decode cJ3_checkIndex_8e157 15 = .ok (.athrow, 1) := by decide +kernel
theorem dJ3_checkIndex_8e157_16 : decode cJ3_checkIndex_8e157 16 = .ok (.iload_n 0, 1) := by decide +kernel
theorem dJ3_checkIndex_8e157_17 : decode cJ3_checkIndex_8e157 17 = .ok (.ireturn, 1) := by decide +kernel
end
section
theorem dX9_init_0 : decode cX9_init 0 = .ok (.aload_n 0, 1) := by decide +kernel
theorem dX9_init_1 : decode cX9_init 1 = .ok (.invokespecial 1, 3) := by decide +kernel
theorem dX9_init_4 : decode cX9_init 4 = .ok (.aload_n 0, 1) := by decide +kernel
theorem dX9_init_5 : decode cX9_init 5 = .ok (.sipush 420, 3) := by decide +kernel
theorem dX9_init_8 : decode cX9_init 8 = .ok (.newarray .byte, 2) := by decide +kernel
theorem dX9_init_10 : decode cX9_init 10 = .ok (.putfield 7, 3) := by decide +kernel
theorem dX9_init_13 : decode cX9_init 13 = .ok (.aload_n 0, 1) := by decide +kernel
theorem dX9_init_14 : decode cX9_init 14 = .ok (.sipush 400, 3) := by decide +kernel
theorem dX9_init_17 : decode cX9_init 17 = .ok (.newarray .byte, 2) := by decide +kernel
theorem dX9_init_19 : decode cX9_init 19 = .ok (.putfield 13, 3) := by decide +kernel
theorem dX9_init_22 : decode cX9_init 22 = .ok (.aload_n 0, 1) := by decide +kernel
theorem dX9_init_23 : decode cX9_init 23 = .ok (.sipush 5000, 3) := by decide +kernel
theorem dX9_init_26 : decode cX9_init 26 = .ok (.newarray .int, 2) := by decide +kernel
theorem dX9_init_28 : decode cX9_init 28 = .ok (.putfield 16, 3) := by decide +kernel
theorem dX9_init_31 : decode cX9_init 31 = .ok (.aload_n 0, 1) := by decide +kernel
theorem dX9_init_32 : decode cX9_init 32 = .ok (.sipush 15000, 3) := by decide +kernel
theorem dX9_init_35 : decode cX9_init 35 = .ok (.newarray .int, 2) := by decide +kernel
theorem dX9_init_37 : decode cX9_init 37 = .ok (.putfield 20, 3) := by decide +kernel
theorem dX9_init_40 : decode cX9_init 40 = .ok (.aload_n 0, 1) := by decide +kernel
theorem dX9_init_41 : decode cX9_init 41 = .ok (.iconst 3, 1) := by decide +kernel
theorem dX9_init_42 : decode cX9_init 42 = .ok (.newarray .boolean, 2) := by decide +kernel
theorem dX9_init_44 : decode cX9_init 44 = .ok (.putfield 23, 3) := by decide +kernel
theorem dX9_init_47 : decode cX9_init 47 = .ok (.aload_n 0, 1) := by decide +kernel
theorem dX9_init_48 : decode cX9_init 48 = .ok (.iconst (-1), 1) := by decide +kernel
theorem dX9_init_49 : decode cX9_init 49 = .ok (.putfield 27, 3) := by decide +kernel
theorem dX9_init_52 : decode cX9_init 52 = .ok (.aload_n 0, 1) := by decide +kernel
theorem dX9_init_53 : decode cX9_init 53 = .ok (.iconst 2, 1) := by decide +kernel
theorem dX9_init_54 : decode cX9_init 54 = .ok (.newarray .int, 2) := by decide +kernel
theorem dX9_init_56 : decode cX9_init 56 = .ok (.putfield 31, 3) := by decide +kernel
theorem dX9_init_59 : decode cX9_init 59 = .ok (.aload_n 0, 1) := by decide +kernel
theorem dX9_init_60 : decode cX9_init 60 = .ok (.iconst 2, 1) := by decide +kernel
theorem dX9_init_61 : decode cX9_init 61 = .ok (.newarray .int, 2) := by decide +kernel
theorem dX9_init_63 : decode cX9_init 63 = .ok (.putfield 34, 3) := by decide +kernel
theorem dX9_init_66 : decode cX9_init 66 = .ok (.aload_n 0, 1) := by decide +kernel
theorem dX9_init_67 : decode cX9_init 67 = .ok (.bipush 14, 2) := by decide +kernel
theorem dX9_init_69 : decode cX9_init 69 = .ok (.newarray .long, 2) := by decide +kernel
theorem dX9_init_71 : decode cX9_init 71 = .ok (.putfield 37, 3) := by decide +kernel
theorem dX9_init_74 : decode cX9_init 74 = .ok (.aload_n 0, 1) := by decide +kernel
theorem dX9_init_75 : decode cX9_init 75 = .ok (.bipush 64, 2) := by decide +kernel
theorem dX9_init_77 : decode cX9_init 77 = .ok (.newarray .int, 2) := by decide +kernel
theorem dX9_init_79 : decode cX9_init 79 = .ok (.putfield 41, 3) := by decide +kernel
theorem dX9_init_82 : decode cX9_init 82 = .ok (.aload_n 0, 1) := by decide +kernel
theorem dX9_init_83 : decode cX9_init 83 = .ok (.bipush 9, 2) := by decide +kernel
theorem dX9_init_85 : decode cX9_init 85 = .ok (.newarray .int, 2) := by decide +kernel
theorem dX9_init_87 : decode cX9_init 87 = .ok (.putfield 44, 3) := by decide +kernel
theorem dX9_init_90 : decode cX9_init 90 = .ok (.aload_n 0, 1) := by decide +kernel
theorem dX9_init_91 : decode cX9_init 91 = .ok (.bipush 9, 2) := by decide +kernel
theorem dX9_init_93 : decode cX9_init 93 = .ok (.newarray .int, 2) := by decide +kernel
theorem dX9_init_95 : decode cX9_init 95 = .ok (.putfield 47, 3) := by decide +kernel
theorem dX9_init_98 : decode cX9_init 98 = .ok (.aload_n 0, 1) := by decide +kernel
theorem dX9_init_99 : decode cX9_init 99 = .ok (.bipush 9, 2) := by decide +kernel
theorem dX9_init_101 : decode cX9_init 101 = .ok (.newarray .int, 2) := by decide +kernel
theorem dX9_init_103 : decode cX9_init 103 = .ok (.putfield 50, 3) := by decide +kernel
theorem dX9_init_106 : decode cX9_init 106 = .ok (.aload_n 0, 1) := by decide +kernel
theorem dX9_init_107 : decode cX9_init 107 = .ok (.bipush 9, 2) := by decide +kernel
theorem dX9_init_109 : decode cX9_init 109 = .ok (.newarray .int, 2) := by decide +kernel
theorem dX9_init_111 : decode cX9_init 111 = .ok (.putfield 53, 3) := by decide +kernel
theorem dX9_init_114 : decode cX9_init 114 = .ok (.aload_n 0, 1) := by decide +kernel
theorem dX9_init_115 : decode cX9_init 115 = .ok (.bipush 9, 2) := by decide +kernel
theorem dX9_init_117 : decode cX9_init 117 = .ok (.newarray .int, 2) := by decide +kernel
theorem dX9_init_119 : decode cX9_init 119 = .ok (.putfield 56, 3) := by decide +kernel
theorem dX9_init_122 : decode cX9_init 122 = .ok (.aload_n 0, 1) := by decide +kernel
theorem dX9_init_123 : decode cX9_init 123 = .ok (.bipush 10, 2) := by decide +kernel
theorem dX9_init_125 : decode cX9_init 125 = .ok (.newarray .int, 2) := by decide +kernel
theorem dX9_init_127 : decode cX9_init 127 = .ok (.putfield 59, 3) := by decide +kernel
theorem dX9_init_130 : decode cX9_init 130 = .ok (.aload_n 0, 1) := by decide +kernel
theorem dX9_init_131 : decode cX9_init 131 = .ok (.bipush 11, 2) := by decide +kernel
theorem dX9_init_133 : decode cX9_init 133 = .ok (.newarray .int, 2) := by decide +kernel
theorem dX9_init_135 : decode cX9_init 135 = .ok (.putfield 62, 3) := by decide +kernel
theorem dX9_init_138 : decode cX9_init 138 = .ok (.aload_n 0, 1) := by decide +kernel
theorem dX9_init_139 : decode cX9_init 139 = .ok (.invokevirtual 65, 3) := by decide +kernel
theorem dX9_init_142 : decode cX9_init 142 = .ok (.return_, 1) := by decide +kernel
theorem dX9_sign_0 : decode cX9_sign 0 = .ok (.iload_n 1, 1) := by decide +kernel
theorem dX9_sign_1 : decode cX9_sign 1 = .ok (.aload_n 0, 1) := by decide +kernel
theorem dX9_sign_2 : decode cX9_sign 2 = .ok (.getfield 68, 3) := by decide +kernel
theorem dX9_sign_5 : decode cX9_sign 5 = .ok (.if_icmp .ge 16, 3) := by decide +kernel
theorem dX9_sign_8 : decode cX9_sign 8 = .ok (.aload_n 0, 1) := by decide +kernel
theorem dX9_sign_9 : decode cX9_sign 9 = .ok (.getfield 13, 3) := by decide +kernel
theorem dX9_sign_12 : decode cX9_sign 12 = .ok (.iload_n 1, 1) := by decide +kernel
theorem dX9_sign_13 : decode cX9_sign 13 = .ok (.baload, 1) := by decide +kernel
theorem dX9_sign_14 : decode cX9_sign 14 = .ok (.sipush 255, 3) := by decide +kernel
theorem dX9_sign_17 : decode cX9_sign 17 = .ok (.iand, 1) := by decide +kernel
theorem dX9_sign_18 : decode cX9_sign 18 = .ok (.goto 4, 3) := by decide +kernel
theorem dX9_sign_21 : decode cX9_sign 21 = .ok (.iconst 0, 1) := by decide +kernel
theorem dX9_sign_22 : decode cX9_sign 22 = .ok (.ireturn, 1) := by decide +kernel
theorem dX9_isLetter_0 : decode cX9_isLetter 0 = .ok (.iload_n 0, 1) := by decide +kernel
theorem dX9_isLetter_1 : decode cX9_isLetter 1 = .ok (.bipush 97, 2) := by decide +kernel
theorem dX9_isLetter_3 : decode cX9_isLetter 3 = .ok (.if_icmp .lt 13, 3) := by decide +kernel
theorem dX9_isLetter_6 : decode cX9_isLetter 6 = .ok (.iload_n 0, 1) := by decide +kernel
theorem dX9_isLetter_7 : decode cX9_isLetter 7 = .ok (.bipush 122, 2) := by decide +kernel
theorem dX9_isLetter_9 : decode cX9_isLetter 9 = .ok (.if_icmp .gt 7, 3) := by decide +kernel
theorem dX9_isLetter_12 : decode cX9_isLetter 12 = .ok (.iconst 1, 1) := by decide +kernel
theorem dX9_isLetter_13 : decode cX9_isLetter 13 = .ok (.goto 4, 3) := by decide +kernel
theorem dX9_isLetter_16 : decode cX9_isLetter 16 = .ok (.iconst 0, 1) := by decide +kernel
theorem dX9_isLetter_17 : decode cX9_isLetter 17 = .ok (.ireturn, 1) := by decide +kernel
theorem dX9_fails_0 : decode cX9_fails 0 = .ok (.aload_n 0, 1) := by decide +kernel
theorem dX9_fails_1 : decode cX9_fails 1 = .ok (.getfield 71, 3) := by decide +kernel
theorem dX9_fails_4 : decode cX9_fails 4 = .ok (.ifCond .le 4, 3) := by decide +kernel
theorem dX9_fails_7 : decode cX9_fails 7 = .ok (.return_, 1) := by decide +kernel
theorem dX9_fails_8 : decode cX9_fails 8 = .ok (.aload_n 0, 1) := by decide +kernel
theorem dX9_fails_9 : decode cX9_fails 9 = .ok (.iload_n 1, 1) := by decide +kernel
theorem dX9_fails_10 : decode cX9_fails 10 = .ok (.putfield 71, 3) := by decide +kernel
theorem dX9_fails_13 : decode cX9_fails 13 = .ok (.aload_n 0, 1) := by decide +kernel
theorem dX9_fails_14 : decode cX9_fails 14 = .ok (.iload_n 2, 1) := by decide +kernel
theorem dX9_fails_15 : decode cX9_fails 15 = .ok (.putfield 27, 3) := by decide +kernel
theorem dX9_fails_18 : decode cX9_fails 18 = .ok (.return_, 1) := by decide +kernel
theorem dX9_isGood_0 : decode cX9_isGood 0 = .ok (.aload_n 0, 1) := by decide +kernel
theorem dX9_isGood_1 : decode cX9_isGood 1 = .ok (.getfield 71, 3) := by decide +kernel
theorem dX9_isGood_4 : decode cX9_isGood 4 = .ok (.ifCond .ne 7, 3) := by decide +kernel
theorem dX9_isGood_7 : decode cX9_isGood 7 = .ok (.iconst 1, 1) := by decide +kernel
theorem dX9_isGood_8 : decode cX9_isGood 8 = .ok (.goto 4, 3) := by decide +kernel
theorem dX9_isGood_11 : decode cX9_isGood 11 = .ok (.iconst 0, 1) := by decide +kernel
theorem dX9_isGood_12 : decode cX9_isGood 12 = .ok (.ireturn, 1) := by decide +kernel
theorem dX9_goOn_0 : decode cX9_goOn 0 = .ok (.aload_n 0, 1) := by decide +kernel
theorem dX9_goOn_1 : decode cX9_goOn 1 = .ok (.aload_n 0, 1) := by decide +kernel
theorem dX9_goOn_2 : decode cX9_goOn 2 = .ok (.getfield 74, 3) := by decide +kernel
theorem dX9_goOn_5 : decode cX9_goOn 5 = .ok (.putfield 77, 3) := by decide +kernel
theorem dX9_goOn_8 : decode cX9_goOn 8 = .ok (.aload_n 0, 1) := by decide +kernel
theorem dX9_goOn_9 : decode cX9_goOn 9 = .ok (.getfield 77, 3) := by decide +kernel
theorem dX9_goOn_12 : decode cX9_goOn 12 = .ok (.aload_n 0, 1) := by decide +kernel
theorem dX9_goOn_13 : decode cX9_goOn 13 = .ok (.getfield 68, 3) := by decide +kernel
theorem dX9_goOn_16 : decode cX9_goOn 16 = .ok (.if_icmp .ge 42, 3) := by decide +kernel
theorem dX9_goOn_19 : decode cX9_goOn 19 = .ok (.aload_n 0, 1) := by decide +kernel
theorem dX9_goOn_20 : decode cX9_goOn 20 = .ok (.aload_n 0, 1) := by decide +kernel
theorem dX9_goOn_21 : decode cX9_goOn 21 = .ok (.getfield 77, 3) := by decide +kernel
theorem dX9_goOn_24 : decode cX9_goOn 24 = .ok (.invokevirtual 80, 3) := by decide +kernel
theorem dX9_goOn_27 : decode cX9_goOn 27 = .ok (.bipush 32, 2) := by decide +kernel
theorem dX9_goOn_29 : decode cX9_goOn 29 = .ok (.if_icmp .eq 16, 3) := by decide +kernel
theorem dX9_goOn_32 : decode cX9_goOn 32 = .ok (.aload_n 0, 1) := by decide +kernel
theorem dX9_goOn_33 : decode cX9_goOn 33 = .ok (.aload_n 0, 1) := by decide +kernel
theorem dX9_goOn_34 : decode cX9_goOn 34 = .ok (.getfield 77, 3) := by decide +kernel
theorem dX9_goOn_37 : decode cX9_goOn 37 = .ok (.invokevirtual 80, 3) := by decide +kernel
theorem dX9_goOn_40 : decode cX9_goOn 40 = .ok (.bipush 10, 2) := by decide +kernel
theorem dX9_goOn_42 : decode cX9_goOn 42 = .ok (.if_icmp .ne 16, 3) := by decide +kernel
theorem dX9_goOn_45 : decode cX9_goOn 45 = .ok (.aload_n 0, 1) := by decide +kernel
theorem dX9_goOn_46 : decode cX9_goOn 46 = .ok (.dup, 1) := by decide +kernel
theorem dX9_goOn_47 : decode cX9_goOn 47 = .ok (.getfield 77, 3) := by decide +kernel
theorem dX9_goOn_50 : decode cX9_goOn 50 = .ok (.iconst 1, 1) := by decide +kernel
theorem dX9_goOn_51 : decode cX9_goOn 51 = .ok (.iadd, 1) := by decide +kernel
theorem dX9_goOn_52 : decode cX9_goOn 52 = .ok (.putfield 77, 3) := by decide +kernel
theorem dX9_goOn_55 : decode cX9_goOn 55 = .ok (.goto (-47), 3) := by decide +kernel
theorem dX9_goOn_58 : decode cX9_goOn 58 = .ok (.aload_n 0, 1) := by decide +kernel
theorem dX9_goOn_59 : decode cX9_goOn 59 = .ok (.aload_n 0, 1) := by decide +kernel
theorem dX9_goOn_60 : decode cX9_goOn 60 = .ok (.getfield 77, 3) := by decide +kernel
theorem dX9_goOn_63 : decode cX9_goOn 63 = .ok (.invokevirtual 80, 3) := by decide +kernel
theorem dX9_goOn_66 : decode cX9_goOn 66 = .ok (.istore_n 1, 1) := by decide +kernel
theorem dX9_goOn_67 : decode cX9_goOn 67 = .ok (.aload_n 0, 1) := by decide +kernel
theorem dX9_goOn_68 : decode cX9_goOn 68 = .ok (.aload_n 0, 1) := by decide +kernel
theorem dX9_goOn_69 : decode cX9_goOn 69 = .ok (.getfield 77, 3) := by decide +kernel
theorem dX9_goOn_72 : decode cX9_goOn 72 = .ok (.iconst 1, 1) := by decide +kernel
theorem dX9_goOn_73 : decode cX9_goOn 73 = .ok (.iadd, 1) := by decide +kernel
theorem dX9_goOn_74 : decode cX9_goOn 74 = .ok (.putfield 74, 3) := by decide +kernel
theorem dX9_goOn_77 : decode cX9_goOn 77 = .ok (.aload_n 0, 1) := by decide +kernel
theorem dX9_goOn_78 : decode cX9_goOn 78 = .ok (.getfield 77, 3) := by decide +kernel
theorem dX9_goOn_81 : decode cX9_goOn 81 = .ok (.aload_n 0, 1) := by decide +kernel
theorem dX9_goOn_82 : decode cX9_goOn 82 = .ok (.getfield 68, 3) := by decide +kernel
theorem dX9_goOn_85 : decode cX9_goOn 85 = .ok (.if_icmp .lt 27, 3) := by decide +kernel
theorem dX9_goOn_88 : decode cX9_goOn 88 = .ok (.aload_n 0, 1) := by decide +kernel
theorem dX9_goOn_89 : decode cX9_goOn 89 = .ok (.iconst 0, 1) := by decide +kernel
theorem dX9_goOn_90 : decode cX9_goOn 90 = .ok (.putfield 84, 3) := by decide +kernel
theorem dX9_goOn_93 : decode cX9_goOn 93 = .ok (.aload_n 0, 1) := by decide +kernel
theorem dX9_goOn_94 : decode cX9_goOn 94 = .ok (.aload_n 0, 1) := by decide +kernel
theorem dX9_goOn_95 : decode cX9_goOn 95 = .ok (.getfield 68, 3) := by decide +kernel
theorem dX9_goOn_98 : decode cX9_goOn 98 = .ok (.putfield 77, 3) := by decide +kernel
theorem dX9_goOn_101 : decode cX9_goOn 101 = .ok (.aload_n 0, 1) := by decide +kernel
theorem dX9_goOn_102 : decode cX9_goOn 102 = .ok (.aload_n 0, 1) := by decide +kernel
theorem dX9_goOn_103 : decode cX9_goOn 103 = .ok (.getfield 68, 3) := by decide +kernel
theorem dX9_goOn_106 : decode cX9_goOn 106 = .ok (.putfield 74, 3) := by decide +kernel
theorem dX9_goOn_109 : decode cX9_goOn 109 = .ok (.goto 157, 3) := by decide +kernel
theorem dX9_goOn_112 : decode cX9_goOn 112 = .ok (.iload_n 1, 1) := by decide +kernel
theorem dX9_goOn_113 : decode cX9_goOn 113 = .ok (.invokestatic 87, 3) := by decide +kernel
theorem dX9_goOn_116 : decode cX9_goOn 116 = .ok (.ifCond .eq 135, 3) := by decide +kernel
theorem dX9_goOn_119 : decode cX9_goOn 119 = .ok (.aload_n 0, 1) := by decide +kernel
theorem dX9_goOn_120 : decode cX9_goOn 120 = .ok (.aload_n 0, 1) := by decide +kernel
theorem dX9_goOn_121 : decode cX9_goOn 121 = .ok (.getfield 74, 3) := by decide +kernel
theorem dX9_goOn_124 : decode cX9_goOn 124 = .ok (.invokevirtual 80, 3) := by decide +kernel
theorem dX9_goOn_127 : decode cX9_goOn 127 = .ok (.invokestatic 87, 3) := by decide +kernel
theorem dX9_goOn_130 : decode cX9_goOn 130 = .ok (.ifCond .eq 16, 3) := by decide +kernel
theorem dX9_goOn_133 : decode cX9_goOn 133 = .ok (.aload_n 0, 1) := by decide +kernel
theorem dX9_goOn_134 : decode cX9_goOn 134 = .ok (.dup, 1) := by decide +kernel
theorem dX9_goOn_135 : decode cX9_goOn 135 = .ok (.getfield 74, 3) := by decide +kernel
theorem dX9_goOn_138 : decode cX9_goOn 138 = .ok (.iconst 1, 1) := by decide +kernel
theorem dX9_goOn_139 : decode cX9_goOn 139 = .ok (.iadd, 1) := by decide +kernel
theorem dX9_goOn_140 : decode cX9_goOn 140 = .ok (.putfield 74, 3) := by decide +kernel
theorem dX9_goOn_143 : decode cX9_goOn 143 = .ok (.goto (-24), 3) := by decide +kernel
theorem dX9_goOn_146 : decode cX9_goOn 146 = .ok (.aload_n 0, 1) := by decide +kernel
theorem dX9_goOn_147 : decode cX9_goOn 147 = .ok (.lconst 0, 1) := by decide +kernel
theorem dX9_goOn_148 : decode cX9_goOn 148 = .ok (.putfield 91, 3) := by decide +kernel
theorem dX9_goOn_151 : decode cX9_goOn 151 = .ok (.aload_n 0, 1) := by decide +kernel
theorem dX9_goOn_152 : decode cX9_goOn 152 = .ok (.getfield 77, 3) := by decide +kernel
theorem dX9_goOn_155 : decode cX9_goOn 155 = .ok (.istore_n 2, 1) := by decide +kernel
theorem dX9_goOn_156 : decode cX9_goOn 156 = .ok (.iload_n 2, 1) := by decide +kernel
theorem dX9_goOn_157 : decode cX9_goOn 157 = .ok (.aload_n 0, 1) := by decide +kernel
theorem dX9_goOn_158 : decode cX9_goOn 158 = .ok (.getfield 74, 3) := by decide +kernel
theorem dX9_goOn_161 : decode cX9_goOn 161 = .ok (.if_icmp .ge 38, 3) := by decide +kernel
theorem dX9_goOn_164 : decode cX9_goOn 164 = .ok (.iload_n 2, 1) := by decide +kernel
theorem dX9_goOn_165 : decode cX9_goOn 165 = .ok (.aload_n 0, 1) := by decide +kernel
theorem dX9_goOn_166 : decode cX9_goOn 166 = .ok (.getfield 77, 3) := by decide +kernel
theorem dX9_goOn_169 : decode cX9_goOn 169 = .ok (.bipush 8, 2) := by decide +kernel
theorem dX9_goOn_171 : decode cX9_goOn 171 = .ok (.iadd, 1) := by decide +kernel
theorem dX9_goOn_172 : decode cX9_goOn 172 = .ok (.if_icmp .ge 27, 3) := by decide +kernel
theorem dX9_goOn_175 : decode cX9_goOn 175 = .ok (.aload_n 0, 1) := by decide +kernel
theorem dX9_goOn_176 : decode cX9_goOn 176 = .ok (.aload_n 0, 1) := by decide +kernel
theorem dX9_goOn_177 : decode cX9_goOn 177 = .ok (.getfield 91, 3) := by decide +kernel
theorem dX9_goOn_180 : decode cX9_goOn 180 = .ok (.bipush 8, 2) := by decide +kernel
theorem dX9_goOn_182 : decode cX9_goOn 182 = .ok (.lshl, 1) := by decide +kernel
theorem dX9_goOn_183 : decode cX9_goOn 183 = .ok (.aload_n 0, 1) := by decide +kernel
theorem dX9_goOn_184 : decode cX9_goOn 184 = .ok (.iload_n 2, 1) := by decide +kernel
theorem dX9_goOn_185 : decode cX9_goOn 185 = .ok (.invokevirtual 80, 3) := by decide +kernel
theorem dX9_goOn_188 : decode cX9_goOn 188 = .ok (.i2l, 1) := by decide +kernel
theorem dX9_goOn_189 : decode cX9_goOn 189 = .ok (.lor, 1) := by decide +kernel
theorem dX9_goOn_190 : decode cX9_goOn 190 = .ok (.putfield 91, 3) := by decide +kernel
theorem dX9_goOn_193 : decode cX9_goOn 193 = .ok (.iinc 2 1, 3) := by decide +kernel
theorem dX9_goOn_196 : decode cX9_goOn 196 = .ok (.goto (-40), 3) := by decide +kernel
theorem dX9_goOn_199 : decode cX9_goOn 199 = .ok (.aload_n 0, 1) := by decide +kernel
theorem dX9_goOn_200 : decode cX9_goOn 200 = .ok (.aload_n 0, 1) := by decide +kernel
theorem dX9_goOn_201 : decode cX9_goOn 201 = .ok (.getfield 74, 3) := by decide +kernel
theorem dX9_goOn_204 : decode cX9_goOn 204 = .ok (.aload_n 0, 1) := by decide +kernel
theorem dX9_goOn_205 : decode cX9_goOn 205 = .ok (.getfield 77, 3) := by decide +kernel
theorem dX9_goOn_208 : decode cX9_goOn 208 = .ok (.isub, 1) := by decide +kernel
theorem dX9_goOn_209 : decode cX9_goOn 209 = .ok (.bipush 8, 2) := by decide +kernel
theorem dX9_goOn_211 : decode cX9_goOn 211 = .ok (.if_icmp .le 7, 3) := by decide +kernel
theorem dX9_goOn_214 : decode cX9_goOn 214 = .ok (.iconst 1, 1) := by decide +kernel
theorem dX9_goOn_215 : decode cX9_goOn 215 = .ok (.goto 30, 3) := by decide +kernel
theorem dX9_goOn_218 : decode cX9_goOn 218 = .ok (.aload_n 0, 1) := by decide +kernel
theorem dX9_goOn_219 : decode cX9_goOn 219 = .ok (.getfield 91, 3) := by decide +kernel
theorem dX9_goOn_222 : decode cX9_goOn 222 = .ok (.ldc2_w 95, 3) := by decide +kernel
theorem dX9_goOn_225 : decode cX9_goOn 225 = .ok (.lcmp, 1) := by decide +kernel
theorem dX9_goOn_226 : decode cX9_goOn 226 = .ok (.ifCond .eq 14, 3) := by decide +kernel
theorem dX9_goOn_229 : decode cX9_goOn 229 = .ok (.aload_n 0, 1) := by decide +kernel
theorem dX9_goOn_230 : decode cX9_goOn 230 = .ok (.getfield 91, 3) := by decide +kernel
theorem dX9_goOn_233 : decode cX9_goOn 233 = .ok (.ldc2_w 97, 3) := by decide +kernel
theorem dX9_goOn_236 : decode cX9_goOn 236 = .ok (.lcmp, 1) := by decide +kernel
theorem dX9_goOn_237 : decode cX9_goOn 237 = .ok (.ifCond .ne 7, 3) := by decide +kernel
theorem dX9_goOn_240 : decode cX9_goOn 240 = .ok (.iconst 3, 1) := by decide +kernel
theorem dX9_goOn_241 : decode cX9_goOn 241 = .ok (.goto 4, 3) := by decide +kernel
theorem dX9_goOn_244 : decode cX9_goOn 244 = .ok (.iconst 2, 1) := by decide +kernel
theorem dX9_goOn_245 : decode cX9_goOn 245 = .ok (.putfield 84, 3) := by decide +kernel
theorem dX9_goOn_248 : decode cX9_goOn 248 = .ok (.goto 18, 3) := by decide +kernel
theorem dX9_goOn_251 : decode cX9_goOn 251 = .ok (.aload_n 0, 1) := by decide +kernel
theorem dX9_goOn_252 : decode cX9_goOn 252 = .ok (.iload_n 1, 1) := by decide +kernel
theorem dX9_goOn_253 : decode cX9_goOn 253 = .ok (.bipush 59, 2) := by decide +kernel
theorem dX9_goOn_255 : decode cX9_goOn 255 = .ok (.if_icmp .ne 7, 3) := by decide +kernel
theorem dX9_goOn_258 : decode cX9_goOn 258 = .ok (.iconst 4, 1) := by decide +kernel
theorem dX9_goOn_259 : decode cX9_goOn 259 = .ok (.goto 4, 3) := by decide +kernel
theorem dX9_goOn_262 : decode cX9_goOn 262 = .ok (.iconst 1, 1) := by decide +kernel
theorem dX9_goOn_263 : decode cX9_goOn 263 = .ok (.putfield 84, 3) := by decide +kernel
theorem dX9_goOn_266 : decode cX9_goOn 266 = .ok (.return_, 1) := by decide +kernel
theorem dX9_misplaced_0 : decode cX9_misplaced 0 = .ok (.aload_n 0, 1) := by decide +kernel
theorem dX9_misplaced_1 : decode cX9_misplaced 1 = .ok (.aload_n 0, 1) := by decide +kernel
theorem dX9_misplaced_2 : decode cX9_misplaced 2 = .ok (.getfield 84, 3) := by decide +kernel
theorem dX9_misplaced_5 : decode cX9_misplaced 5 = .ok (.iconst 1, 1) := by decide +kernel
theorem dX9_misplaced_6 : decode cX9_misplaced 6 = .ok (.if_icmp .ne 7, 3) := by decide +kernel
theorem dX9_misplaced_9 : decode cX9_misplaced 9 = .ok (.iconst 1, 1) := by decide +kernel
theorem dX9_misplaced_10 : decode cX9_misplaced 10 = .ok (.goto 4, 3) := by decide +kernel
theorem dX9_misplaced_13 : decode cX9_misplaced 13 = .ok (.iconst 2, 1) := by decide +kernel
theorem dX9_misplaced_14 : decode cX9_misplaced 14 = .ok (.aload_n 0, 1) := by decide +kernel
theorem dX9_misplaced_15 : decode cX9_misplaced 15 = .ok (.getfield 77, 3) := by decide +kernel
theorem dX9_misplaced_18 : decode cX9_misplaced 18 = .ok (.invokevirtual 99, 3) := by decide +kernel
theorem dX9_misplaced_21 : decode cX9_misplaced 21 = .ok (.return_, 1) := by decide +kernel
theorem dX9_keepers_0 : decode cX9_keepers 0 = .ok (.aload_n 0, 1) := by decide +kernel
theorem dX9_keepers_1 : decode cX9_keepers 1 = .ok (.iconst 0, 1) := by decide +kernel
theorem dX9_keepers_2 : decode cX9_keepers 2 = .ok (.putfield 71, 3) := by decide +kernel
theorem dX9_keepers_5 : decode cX9_keepers 5 = .ok (.aload_n 0, 1) := by decide +kernel
theorem dX9_keepers_6 : decode cX9_keepers 6 = .ok (.iconst (-1), 1) := by decide +kernel
theorem dX9_keepers_7 : decode cX9_keepers 7 = .ok (.putfield 27, 3) := by decide +kernel
theorem dX9_keepers_10 : decode cX9_keepers 10 = .ok (.aload_n 0, 1) := by decide +kernel
theorem dX9_keepers_11 : decode cX9_keepers 11 = .ok (.aload_n 0, 1) := by decide +kernel
theorem dX9_keepers_12 : decode cX9_keepers 12 = .ok (.getfield 103, 3) := by decide +kernel
theorem dX9_keepers_15 : decode cX9_keepers 15 = .ok (.putfield 68, 3) := by decide +kernel
theorem dX9_keepers_18 : decode cX9_keepers 18 = .ok (.iconst 0, 1) := by decide +kernel
theorem dX9_keepers_19 : decode cX9_keepers 19 = .ok (.istore_n 1, 1) := by decide +kernel
theorem dX9_keepers_20 : decode cX9_keepers 20 = .ok (.iload_n 1, 1) := by decide +kernel
theorem dX9_keepers_21 : decode cX9_keepers 21 = .ok (.aload_n 0, 1) := by decide +kernel
theorem dX9_keepers_22 : decode cX9_keepers 22 = .ok (.getfield 68, 3) := by decide +kernel
theorem dX9_keepers_25 : decode cX9_keepers 25 = .ok (.if_icmp .ge 21, 3) := by decide +kernel
theorem dX9_keepers_28 : decode cX9_keepers 28 = .ok (.aload_n 0, 1) := by decide +kernel
theorem dX9_keepers_29 : decode cX9_keepers 29 = .ok (.getfield 13, 3) := by decide +kernel
theorem dX9_keepers_32 : decode cX9_keepers 32 = .ok (.iload_n 1, 1) := by decide +kernel
theorem dX9_keepers_33 : decode cX9_keepers 33 = .ok (.aload_n 0, 1) := by decide +kernel
theorem dX9_keepers_34 : decode cX9_keepers 34 = .ok (.getfield 7, 3) := by decide +kernel
theorem dX9_keepers_37 : decode cX9_keepers 37 = .ok (.iload_n 1, 1) := by decide +kernel
theorem dX9_keepers_38 : decode cX9_keepers 38 = .ok (.baload, 1) := by decide +kernel
theorem dX9_keepers_39 : decode cX9_keepers 39 = .ok (.bastore, 1) := by decide +kernel
theorem dX9_keepers_40 : decode cX9_keepers 40 = .ok (.iinc 1 1, 3) := by decide +kernel
theorem dX9_keepers_43 : decode cX9_keepers 43 = .ok (.goto (-23), 3) := by decide +kernel
theorem dX9_keepers_46 : decode cX9_keepers 46 = .ok (.aload_n 0, 1) := by decide +kernel
theorem dX9_keepers_47 : decode cX9_keepers 47 = .ok (.iconst 0, 1) := by decide +kernel
theorem dX9_keepers_48 : decode cX9_keepers 48 = .ok (.putfield 103, 3) := by decide +kernel
theorem dX9_keepers_51 : decode cX9_keepers 51 = .ok (.aload_n 0, 1) := by decide +kernel
theorem dX9_keepers_52 : decode cX9_keepers 52 = .ok (.iconst 0, 1) := by decide +kernel
theorem dX9_keepers_53 : decode cX9_keepers 53 = .ok (.putfield 74, 3) := by decide +kernel
theorem dX9_keepers_56 : decode cX9_keepers 56 = .ok (.aload_n 0, 1) := by decide +kernel
theorem dX9_keepers_57 : decode cX9_keepers 57 = .ok (.iconst 1, 1) := by decide +kernel
theorem dX9_keepers_58 : decode cX9_keepers 58 = .ok (.aload_n 0, 1) := by decide +kernel
theorem dX9_keepers_59 : decode cX9_keepers 59 = .ok (.getfield 106, 3) := by decide +kernel
theorem dX9_keepers_62 : decode cX9_keepers 62 = .ok (.isub, 1) := by decide +kernel
theorem dX9_keepers_63 : decode cX9_keepers 63 = .ok (.putfield 109, 3) := by decide +kernel
theorem dX9_keepers_66 : decode cX9_keepers 66 = .ok (.aload_n 0, 1) := by decide +kernel
theorem dX9_keepers_67 : decode cX9_keepers 67 = .ok (.getfield 31, 3) := by decide +kernel
theorem dX9_keepers_70 : decode cX9_keepers 70 = .ok (.aload_n 0, 1) := by decide +kernel
theorem dX9_keepers_71 : decode cX9_keepers 71 = .ok (.getfield 109, 3) := by decide +kernel
theorem dX9_keepers_74 : decode cX9_keepers 74 = .ok (.iconst 0, 1) := by decide +kernel
theorem dX9_keepers_75 : decode cX9_keepers 75 = .ok (.iastore, 1) := by decide +kernel
theorem dX9_keepers_76 : decode cX9_keepers 76 = .ok (.aload_n 0, 1) := by decide +kernel
theorem dX9_keepers_77 : decode cX9_keepers 77 = .ok (.getfield 34, 3) := by decide +kernel
theorem dX9_keepers_80 : decode cX9_keepers 80 = .ok (.aload_n 0, 1) := by decide +kernel
theorem dX9_keepers_81 : decode cX9_keepers 81 = .ok (.getfield 109, 3) := by decide +kernel
theorem dX9_keepers_84 : decode cX9_keepers 84 = .ok (.iconst 0, 1) := by decide +kernel
theorem dX9_keepers_85 : decode cX9_keepers 85 = .ok (.iastore, 1) := by decide +kernel
theorem dX9_keepers_86 : decode cX9_keepers 86 = .ok (.aload_n 0, 1) := by decide +kernel
theorem dX9_keepers_87 : decode cX9_keepers 87 = .ok (.invokevirtual 112, 3) := by decide +kernel
theorem dX9_keepers_90 : decode cX9_keepers 90 = .ok (.aload_n 0, 1) := by decide +kernel
theorem dX9_keepers_91 : decode cX9_keepers 91 = .ok (.invokevirtual 115, 3) := by decide +kernel
theorem dX9_keepers_94 : decode cX9_keepers 94 = .ok (.ifCond .eq 17, 3) := by decide +kernel
theorem dX9_keepers_97 : decode cX9_keepers 97 = .ok (.aload_n 0, 1) := by decide +kernel
theorem dX9_keepers_98 : decode cX9_keepers 98 = .ok (.getfield 84, 3) := by decide +kernel
theorem dX9_keepers_101 : decode cX9_keepers 101 = .ok (.ifCond .eq 10, 3) := by decide +kernel
theorem dX9_keepers_104 : decode cX9_keepers 104 = .ok (.aload_n 0, 1) := by decide +kernel
theorem dX9_keepers_105 : decode cX9_keepers 105 = .ok (.invokevirtual 119, 3) := by decide +kernel
theorem dX9_keepers_108 : decode cX9_keepers 108 = .ok (.goto (-18), 3) := by decide +kernel
theorem dX9_keepers_111 : decode cX9_keepers 111 = .ok (.aload_n 0, 1) := by decide +kernel
theorem dX9_keepers_112 : decode cX9_keepers 112 = .ok (.invokevirtual 115, 3) := by decide +kernel
theorem dX9_keepers_115 : decode cX9_keepers 115 = .ok (.ifCond .eq 36, 3) := by decide +kernel
theorem dX9_keepers_118 : decode cX9_keepers 118 = .ok (.aload_n 0, 1) := by decide +kernel
theorem dX9_keepers_119 : decode cX9_keepers 119 = .ok (.getfield 34, 3) := by decide +kernel
theorem dX9_keepers_122 : decode cX9_keepers 122 = .ok (.aload_n 0, 1) := by decide +kernel
theorem dX9_keepers_123 : decode cX9_keepers 123 = .ok (.getfield 109, 3) := by decide +kernel
theorem dX9_keepers_126 : decode cX9_keepers 126 = .ok (.iaload, 1) := by decide +kernel
theorem dX9_keepers_127 : decode cX9_keepers 127 = .ok (.invokestatic 122, 3) := by decide +kernel
theorem dX9_keepers_130 : decode cX9_keepers 130 = .ok (.aload_n 0, 1) := by decide +kernel
theorem dX9_keepers_131 : decode cX9_keepers 131 = .ok (.getfield 31, 3) := by decide +kernel
theorem dX9_keepers_134 : decode cX9_keepers 134 = .ok (.aload_n 0, 1) := by decide +kernel
theorem dX9_keepers_135 : decode cX9_keepers 135 = .ok (.getfield 109, 3) := by decide +kernel
theorem dX9_keepers_138 : decode cX9_keepers 138 = .ok (.iaload, 1) := by decide +kernel
theorem dX9_keepers_139 : decode cX9_keepers 139 = .ok (.if_icmp .ne 12, 3) := by decide +kernel
theorem dX9_keepers_142 : decode cX9_keepers 142 = .ok (.aload_n 0, 1) := by decide +kernel
theorem dX9_keepers_143 : decode cX9_keepers 143 = .ok (.iconst 4, 1) := by decide +kernel
theorem dX9_keepers_144 : decode cX9_keepers 144 = .ok (.aload_n 0, 1) := by decide +kernel
theorem dX9_keepers_145 : decode cX9_keepers 145 = .ok (.getfield 68, 3) := by decide +kernel
theorem dX9_keepers_148 : decode cX9_keepers 148 = .ok (.invokevirtual 99, 3) := by decide +kernel
theorem dX9_keepers_151 : decode cX9_keepers 151 = .ok (.aload_n 0, 1) := by decide +kernel
theorem dX9_keepers_152 : decode cX9_keepers 152 = .ok (.invokevirtual 115, 3) := by decide +kernel
theorem dX9_keepers_155 : decode cX9_keepers 155 = .ok (.ifCond .ne 5, 3) := by decide +kernel
theorem dX9_keepers_158 : decode cX9_keepers 158 = .ok (.iconst (-1), 1) := by decide +kernel
theorem dX9_keepers_159 : decode cX9_keepers 159 = .ok (.ireturn, 1) := by decide +kernel
theorem dX9_keepers_160 : decode cX9_keepers 160 = .ok (.aload_n 0, 1) := by decide +kernel
theorem dX9_keepers_161 : decode cX9_keepers 161 = .ok (.aload_n 0, 1) := by decide +kernel
theorem dX9_keepers_162 : decode cX9_keepers 162 = .ok (.getfield 109, 3) := by decide +kernel
theorem dX9_keepers_165 : decode cX9_keepers 165 = .ok (.putfield 106, 3) := by decide +kernel
theorem dX9_keepers_168 : decode cX9_keepers 168 = .ok (.aload_n 0, 1) := by decide +kernel
theorem dX9_keepers_169 : decode cX9_keepers 169 = .ok (.invokevirtual 65, 3) := by decide +kernel
theorem dX9_keepers_172 : decode cX9_keepers 172 = .ok (.aload_n 0, 1) := by decide +kernel
theorem dX9_keepers_173 : decode cX9_keepers 173 = .ok (.getfield 31, 3) := by decide +kernel
theorem dX9_keepers_176 : decode cX9_keepers 176 = .ok (.aload_n 0, 1) := by decide +kernel
theorem dX9_keepers_177 : decode cX9_keepers 177 = .ok (.getfield 106, 3) := by decide +kernel
theorem dX9_keepers_180 : decode cX9_keepers 180 = .ok (.iaload, 1) := by decide +kernel
theorem dX9_keepers_181 : decode cX9_keepers 181 = .ok (.ireturn, 1) := by decide +kernel
theorem dX9_readKeeper_0 : decode cX9_readKeeper 0 = .ok (.aload_n 0, 1) := by decide +kernel
theorem dX9_readKeeper_1 : decode cX9_readKeeper 1 = .ok (.getfield 84, 3) := by decide +kernel
theorem dX9_readKeeper_4 : decode cX9_readKeeper 4 = .ok (.iconst 3, 1) := by decide +kernel
theorem dX9_readKeeper_5 : decode cX9_readKeeper 5 = .ok (.if_icmp .ne 28, 3) := by decide +kernel
theorem dX9_readKeeper_8 : decode cX9_readKeeper 8 = .ok (.aload_n 0, 1) := by decide +kernel
theorem dX9_readKeeper_9 : decode cX9_readKeeper 9 = .ok (.getfield 91, 3) := by decide +kernel
theorem dX9_readKeeper_12 : decode cX9_readKeeper 12 = .ok (.ldc2_w 95, 3) := by decide +kernel
theorem dX9_readKeeper_15 : decode cX9_readKeeper 15 = .ok (.lcmp, 1) := by decide +kernel
theorem dX9_readKeeper_16 : decode cX9_readKeeper 16 = .ok (.ifCond .ne 17, 3) := by decide +kernel
theorem dX9_readKeeper_19 : decode cX9_readKeeper 19 = .ok (.aload_n 0, 1) := by decide +kernel
theorem dX9_readKeeper_20 : decode cX9_readKeeper 20 = .ok (.getfield 31, 3) := by decide +kernel
theorem dX9_readKeeper_23 : decode cX9_readKeeper 23 = .ok (.aload_n 0, 1) := by decide +kernel
theorem dX9_readKeeper_24 : decode cX9_readKeeper 24 = .ok (.getfield 109, 3) := by decide +kernel
theorem dX9_readKeeper_27 : decode cX9_readKeeper 27 = .ok (.iaload, 1) := by decide +kernel
theorem dX9_readKeeper_28 : decode cX9_readKeeper 28 = .ok (.bipush 7, 2) := by decide +kernel
theorem dX9_readKeeper_30 : decode cX9_readKeeper 30 = .ok (.if_icmp .ne 7, 3) := by decide +kernel
theorem dX9_readKeeper_33 : decode cX9_readKeeper 33 = .ok (.aload_n 0, 1) := by decide +kernel
theorem dX9_readKeeper_34 : decode cX9_readKeeper 34 = .ok (.invokevirtual 125, 3) := by decide +kernel
theorem dX9_readKeeper_37 : decode cX9_readKeeper 37 = .ok (.aload_n 0, 1) := by decide +kernel
theorem dX9_readKeeper_38 : decode cX9_readKeeper 38 = .ok (.invokevirtual 115, 3) := by decide +kernel
theorem dX9_readKeeper_41 : decode cX9_readKeeper 41 = .ok (.ifCond .ne 4, 3) := by decide +kernel
theorem dX9_readKeeper_44 : decode cX9_readKeeper 44 = .ok (.return_, 1) := by decide +kernel
theorem dX9_readKeeper_45 : decode cX9_readKeeper 45 = .ok (.aload_n 0, 1) := by decide +kernel
theorem dX9_readKeeper_46 : decode cX9_readKeeper 46 = .ok (.invokevirtual 112, 3) := by decide +kernel
theorem dX9_readKeeper_49 : decode cX9_readKeeper 49 = .ok (.aload_n 0, 1) := by decide +kernel
theorem dX9_readKeeper_50 : decode cX9_readKeeper 50 = .ok (.getfield 84, 3) := by decide +kernel
theorem dX9_readKeeper_53 : decode cX9_readKeeper 53 = .ok (.iconst 2, 1) := by decide +kernel
theorem dX9_readKeeper_54 : decode cX9_readKeeper 54 = .ok (.if_icmp .eq 7, 3) := by decide +kernel
theorem dX9_readKeeper_57 : decode cX9_readKeeper 57 = .ok (.aload_n 0, 1) := by decide +kernel
theorem dX9_readKeeper_58 : decode cX9_readKeeper 58 = .ok (.invokevirtual 125, 3) := by decide +kernel
theorem dX9_readKeeper_61 : decode cX9_readKeeper 61 = .ok (.iconst 0, 1) := by decide +kernel
theorem dX9_readKeeper_62 : decode cX9_readKeeper 62 = .ok (.istore_n 1, 1) := by decide +kernel
theorem dX9_readKeeper_63 : decode cX9_readKeeper 63 = .ok (.iload_n 1, 1) := by decide +kernel
theorem dX9_readKeeper_64 : decode cX9_readKeeper 64 = .ok (.aload_n 0, 1) := by decide +kernel
theorem dX9_readKeeper_65 : decode cX9_readKeeper 65 = .ok (.getfield 31, 3) := by decide +kernel
theorem dX9_readKeeper_68 : decode cX9_readKeeper 68 = .ok (.aload_n 0, 1) := by decide +kernel
theorem dX9_readKeeper_69 : decode cX9_readKeeper 69 = .ok (.getfield 109, 3) := by decide +kernel
theorem dX9_readKeeper_72 : decode cX9_readKeeper 72 = .ok (.iaload, 1) := by decide +kernel
theorem dX9_readKeeper_73 : decode cX9_readKeeper 73 = .ok (.if_icmp .ge 47, 3) := by decide +kernel
theorem dX9_readKeeper_76 : decode cX9_readKeeper 76 = .ok (.aload_n 0, 1) := by decide +kernel
theorem dX9_readKeeper_77 : decode cX9_readKeeper 77 = .ok (.invokevirtual 115, 3) := by decide +kernel
theorem dX9_readKeeper_80 : decode cX9_readKeeper 80 = .ok (.ifCond .eq 34, 3) := by decide +kernel
theorem dX9_readKeeper_83 : decode cX9_readKeeper 83 = .ok (.aload_n 0, 1) := by decide +kernel
theorem dX9_readKeeper_84 : decode cX9_readKeeper 84 = .ok (.getfield 37, 3) := by decide +kernel
theorem dX9_readKeeper_87 : decode cX9_readKeeper 87 = .ok (.bipush 7, 2) := by decide +kernel
theorem dX9_readKeeper_89 : decode cX9_readKeeper 89 = .ok (.aload_n 0, 1) := by decide +kernel
theorem dX9_readKeeper_90 : decode cX9_readKeeper 90 = .ok (.getfield 109, 3) := by decide +kernel
theorem dX9_readKeeper_93 : decode cX9_readKeeper 93 = .ok (.imul, 1) := by decide +kernel
theorem dX9_readKeeper_94 : decode cX9_readKeeper 94 = .ok (.iload_n 1, 1) := by decide +kernel
theorem dX9_readKeeper_95 : decode cX9_readKeeper 95 = .ok (.iadd, 1) := by decide +kernel
theorem dX9_readKeeper_96 : decode cX9_readKeeper 96 = .ok (.laload, 1) := by decide +kernel
theorem dX9_readKeeper_97 : decode cX9_readKeeper 97 = .ok (.aload_n 0, 1) := by decide +kernel
theorem dX9_readKeeper_98 : decode cX9_readKeeper 98 = .ok (.getfield 91, 3) := by decide +kernel
theorem dX9_readKeeper_101 : decode cX9_readKeeper 101 = .ok (.lcmp, 1) := by decide +kernel
theorem dX9_readKeeper_102 : decode cX9_readKeeper 102 = .ok (.ifCond .ne 12, 3) := by decide +kernel
theorem dX9_readKeeper_105 : decode cX9_readKeeper 105 = .ok (.aload_n 0, 1) := by decide +kernel
theorem dX9_readKeeper_106 : decode cX9_readKeeper 106 = .ok (.iconst 3, 1) := by decide +kernel
theorem dX9_readKeeper_107 : decode cX9_readKeeper 107 = .ok (.aload_n 0, 1) := by decide +kernel
theorem dX9_readKeeper_108 : decode cX9_readKeeper 108 = .ok (.getfield 77, 3) := by decide +kernel
theorem dX9_readKeeper_111 : decode cX9_readKeeper 111 = .ok (.invokevirtual 99, 3) := by decide +kernel
theorem dX9_readKeeper_114 : decode cX9_readKeeper 114 = .ok (.iinc 1 1, 3) := by decide +kernel
theorem dX9_readKeeper_117 : decode cX9_readKeeper 117 = .ok (.goto (-54), 3) := by decide +kernel
theorem dX9_readKeeper_120 : decode cX9_readKeeper 120 = .ok (.aload_n 0, 1) := by decide +kernel
theorem dX9_readKeeper_121 : decode cX9_readKeeper 121 = .ok (.invokevirtual 115, 3) := by decide +kernel
theorem dX9_readKeeper_124 : decode cX9_readKeeper 124 = .ok (.ifCond .ne 4, 3) := by decide +kernel
theorem dX9_readKeeper_127 : decode cX9_readKeeper 127 = .ok (.return_, 1) := by decide +kernel
theorem dX9_readKeeper_128 : decode cX9_readKeeper 128 = .ok (.aload_n 0, 1) := by decide +kernel
theorem dX9_readKeeper_129 : decode cX9_readKeeper 129 = .ok (.getfield 37, 3) := by decide +kernel
theorem dX9_readKeeper_132 : decode cX9_readKeeper 132 = .ok (.bipush 7, 2) := by decide +kernel
theorem dX9_readKeeper_134 : decode cX9_readKeeper 134 = .ok (.aload_n 0, 1) := by decide +kernel
theorem dX9_readKeeper_135 : decode cX9_readKeeper 135 = .ok (.getfield 109, 3) := by decide +kernel
theorem dX9_readKeeper_138 : decode cX9_readKeeper 138 = .ok (.imul, 1) := by decide +kernel
theorem dX9_readKeeper_139 : decode cX9_readKeeper 139 = .ok (.aload_n 0, 1) := by decide +kernel
theorem dX9_readKeeper_140 : decode cX9_readKeeper 140 = .ok (.getfield 31, 3) := by decide +kernel
theorem dX9_readKeeper_143 : decode cX9_readKeeper 143 = .ok (.aload_n 0, 1) := by decide +kernel
theorem dX9_readKeeper_144 : decode cX9_readKeeper 144 = .ok (.getfield 109, 3) := by decide +kernel
theorem dX9_readKeeper_147 : decode cX9_readKeeper 147 = .ok (.iaload, 1) := by decide +kernel
theorem dX9_readKeeper_148 : decode cX9_readKeeper 148 = .ok (.iadd, 1) := by decide +kernel
theorem dX9_readKeeper_149 : decode cX9_readKeeper 149 = .ok (.aload_n 0, 1) := by decide +kernel
theorem dX9_readKeeper_150 : decode cX9_readKeeper 150 = .ok (.getfield 91, 3) := by decide +kernel
theorem dX9_readKeeper_153 : decode cX9_readKeeper 153 = .ok (.lastore, 1) := by decide +kernel
theorem dX9_readKeeper_154 : decode cX9_readKeeper 154 = .ok (.aload_n 0, 1) := by decide +kernel
theorem dX9_readKeeper_155 : decode cX9_readKeeper 155 = .ok (.invokevirtual 112, 3) := by decide +kernel
theorem dX9_readKeeper_158 : decode cX9_readKeeper 158 = .ok (.aload_n 0, 1) := by decide +kernel
theorem dX9_readKeeper_159 : decode cX9_readKeeper 159 = .ok (.getfield 84, 3) := by decide +kernel
theorem dX9_readKeeper_162 : decode cX9_readKeeper 162 = .ok (.iconst 3, 1) := by decide +kernel
theorem dX9_readKeeper_163 : decode cX9_readKeeper 163 = .ok (.if_icmp .ne 41, 3) := by decide +kernel
theorem dX9_readKeeper_166 : decode cX9_readKeeper 166 = .ok (.aload_n 0, 1) := by decide +kernel
theorem dX9_readKeeper_167 : decode cX9_readKeeper 167 = .ok (.getfield 91, 3) := by decide +kernel
theorem dX9_readKeeper_170 : decode cX9_readKeeper 170 = .ok (.ldc2_w 97, 3) := by decide +kernel
theorem dX9_readKeeper_173 : decode cX9_readKeeper 173 = .ok (.lcmp, 1) := by decide +kernel
theorem dX9_readKeeper_174 : decode cX9_readKeeper 174 = .ok (.ifCond .ne 30, 3) := by decide +kernel
theorem dX9_readKeeper_177 : decode cX9_readKeeper 177 = .ok (.aload_n 0, 1) := by decide +kernel
theorem dX9_readKeeper_178 : decode cX9_readKeeper 178 = .ok (.getfield 34, 3) := by decide +kernel
theorem dX9_readKeeper_181 : decode cX9_readKeeper 181 = .ok (.aload_n 0, 1) := by decide +kernel
theorem dX9_readKeeper_182 : decode cX9_readKeeper 182 = .ok (.getfield 109, 3) := by decide +kernel
theorem dX9_readKeeper_185 : decode cX9_readKeeper 185 = .ok (.dup2, 1) := by decide +kernel
theorem dX9_readKeeper_186 : decode cX9_readKeeper 186 = .ok (.iaload, 1) := by decide +kernel
theorem dX9_readKeeper_187 : decode cX9_readKeeper 187 = .ok (.iconst 1, 1) := by decide +kernel
theorem dX9_readKeeper_188 : decode cX9_readKeeper 188 = .ok (.aload_n 0, 1) := by decide +kernel
theorem dX9_readKeeper_189 : decode cX9_readKeeper 189 = .ok (.getfield 31, 3) := by decide +kernel
theorem dX9_readKeeper_192 : decode cX9_readKeeper 192 = .ok (.aload_n 0, 1) := by decide +kernel
theorem dX9_readKeeper_193 : decode cX9_readKeeper 193 = .ok (.getfield 109, 3) := by decide +kernel
theorem dX9_readKeeper_196 : decode cX9_readKeeper 196 = .ok (.iaload, 1) := by decide +kernel
theorem dX9_readKeeper_197 : decode cX9_readKeeper 197 = .ok (.ishl, 1) := by decide +kernel
theorem dX9_readKeeper_198 : decode cX9_readKeeper 198 = .ok (.ior, 1) := by decide +kernel
theorem dX9_readKeeper_199 : decode cX9_readKeeper 199 = .ok (.iastore, 1) := by decide +kernel
theorem dX9_readKeeper_200 : decode cX9_readKeeper 200 = .ok (.aload_n 0, 1) := by decide +kernel
theorem dX9_readKeeper_201 : decode cX9_readKeeper 201 = .ok (.invokevirtual 112, 3) := by decide +kernel
theorem dX9_readKeeper_204 : decode cX9_readKeeper 204 = .ok (.aload_n 0, 1) := by decide +kernel
theorem dX9_readKeeper_205 : decode cX9_readKeeper 205 = .ok (.getfield 84, 3) := by decide +kernel
theorem dX9_readKeeper_208 : decode cX9_readKeeper 208 = .ok (.iconst 4, 1) := by decide +kernel
theorem dX9_readKeeper_209 : decode cX9_readKeeper 209 = .ok (.if_icmp .eq 7, 3) := by decide +kernel
theorem dX9_readKeeper_212 : decode cX9_readKeeper 212 = .ok (.aload_n 0, 1) := by decide +kernel
theorem dX9_readKeeper_213 : decode cX9_readKeeper 213 = .ok (.invokevirtual 125, 3) := by decide +kernel
theorem dX9_readKeeper_216 : decode cX9_readKeeper 216 = .ok (.aload_n 0, 1) := by decide +kernel
theorem dX9_readKeeper_217 : decode cX9_readKeeper 217 = .ok (.invokevirtual 115, 3) := by decide +kernel
theorem dX9_readKeeper_220 : decode cX9_readKeeper 220 = .ok (.ifCond .ne 4, 3) := by decide +kernel
theorem dX9_readKeeper_223 : decode cX9_readKeeper 223 = .ok (.return_, 1) := by decide +kernel
theorem dX9_readKeeper_224 : decode cX9_readKeeper 224 = .ok (.aload_n 0, 1) := by decide +kernel
theorem dX9_readKeeper_225 : decode cX9_readKeeper 225 = .ok (.invokevirtual 112, 3) := by decide +kernel
theorem dX9_readKeeper_228 : decode cX9_readKeeper 228 = .ok (.aload_n 0, 1) := by decide +kernel
theorem dX9_readKeeper_229 : decode cX9_readKeeper 229 = .ok (.getfield 31, 3) := by decide +kernel
theorem dX9_readKeeper_232 : decode cX9_readKeeper 232 = .ok (.aload_n 0, 1) := by decide +kernel
theorem dX9_readKeeper_233 : decode cX9_readKeeper 233 = .ok (.getfield 109, 3) := by decide +kernel
theorem dX9_readKeeper_236 : decode cX9_readKeeper 236 = .ok (.dup2, 1) := by decide +kernel
theorem dX9_readKeeper_237 : decode cX9_readKeeper 237 = .ok (.iaload, 1) := by decide +kernel
theorem dX9_readKeeper_238 : decode cX9_readKeeper 238 = .ok (.iconst 1, 1) := by decide +kernel
theorem dX9_readKeeper_239 : decode cX9_readKeeper 239 = .ok (.iadd, 1) := by decide +kernel
theorem dX9_readKeeper_240 : decode cX9_readKeeper 240 = .ok (.iastore, 1) := by decide +kernel
theorem dX9_readKeeper_241 : decode cX9_readKeeper 241 = .ok (.return_, 1) := by decide +kernel
theorem dX9_fault_0 : decode cX9_fault 0 = .ok (.iload_n 1, 1) := by decide +kernel
theorem dX9_fault_1 : decode cX9_fault 1 = .ok (.ifCond .ne 10, 3) := by decide +kernel
theorem dX9_fault_4 : decode cX9_fault 4 = .ok (.aload_n 0, 1) := by decide +kernel
theorem dX9_fault_5 : decode cX9_fault 5 = .ok (.getfield 71, 3) := by decide +kernel
theorem dX9_fault_8 : decode cX9_fault 8 = .ok (.goto 16, 3) := by decide +kernel
theorem dX9_fault_11 : decode cX9_fault 11 = .ok (.iload_n 1, 1) := by decide +kernel
theorem dX9_fault_12 : decode cX9_fault 12 = .ok (.iconst 1, 1) := by decide +kernel
theorem dX9_fault_13 : decode cX9_fault 13 = .ok (.if_icmp .ne 10, 3) := by decide +kernel
theorem dX9_fault_16 : decode cX9_fault 16 = .ok (.aload_n 0, 1) := by decide +kernel
theorem dX9_fault_17 : decode cX9_fault 17 = .ok (.getfield 27, 3) := by decide +kernel
theorem dX9_fault_20 : decode cX9_fault 20 = .ok (.goto 4, 3) := by decide +kernel
theorem dX9_fault_23 : decode cX9_fault 23 = .ok (.iconst (-1), 1) := by decide +kernel
theorem dX9_fault_24 : decode cX9_fault 24 = .ok (.ireturn, 1) := by decide +kernel
theorem dX9_isIn_0 : decode cX9_isIn 0 = .ok (.iload_n 0, 1) := by decide +kernel
theorem dX9_isIn_1 : decode cX9_isIn 1 = .ok (.iload_n 1, 1) := by decide +kernel
theorem dX9_isIn_2 : decode cX9_isIn 2 = .ok (.if_icmp .lt 12, 3) := by decide +kernel
theorem dX9_isIn_5 : decode cX9_isIn 5 = .ok (.iload_n 0, 1) := by decide +kernel
theorem dX9_isIn_6 : decode cX9_isIn 6 = .ok (.iload_n 2, 1) := by decide +kernel
theorem dX9_isIn_7 : decode cX9_isIn 7 = .ok (.if_icmp .gt 7, 3) := by decide +kernel
theorem dX9_isIn_10 : decode cX9_isIn 10 = .ok (.iconst 1, 1) := by decide +kernel
theorem dX9_isIn_11 : decode cX9_isIn 11 = .ok (.goto 4, 3) := by decide +kernel
theorem dX9_isIn_14 : decode cX9_isIn 14 = .ok (.iconst 0, 1) := by decide +kernel
theorem dX9_isIn_15 : decode cX9_isIn 15 = .ok (.ireturn, 1) := by decide +kernel
theorem dX9_bitsOf_0 : decode cX9_bitsOf 0 = .ok (.iconst 0, 1) := by decide +kernel
theorem dX9_bitsOf_1 : decode cX9_bitsOf 1 = .ok (.istore_n 1, 1) := by decide +kernel
theorem dX9_bitsOf_2 : decode cX9_bitsOf 2 = .ok (.iconst 0, 1) := by decide +kernel
theorem dX9_bitsOf_3 : decode cX9_bitsOf 3 = .ok (.istore_n 2, 1) := by decide +kernel
theorem dX9_bitsOf_4 : decode cX9_bitsOf 4 = .ok (.iload_n 2, 1) := by decide +kernel
theorem dX9_bitsOf_5 : decode cX9_bitsOf 5 = .ok (.bipush 31, 2) := by decide +kernel
theorem dX9_bitsOf_7 : decode cX9_bitsOf 7 = .ok (.if_icmp .ge 17, 3) := by decide +kernel
theorem dX9_bitsOf_10 : decode cX9_bitsOf 10 = .ok (.iload_n 1, 1) := by decide +kernel
theorem dX9_bitsOf_11 : decode cX9_bitsOf 11 = .ok (.iload_n 0, 1) := by decide +kernel
theorem dX9_bitsOf_12 : decode cX9_bitsOf 12 = .ok (.iload_n 2, 1) := by decide +kernel
theorem dX9_bitsOf_13 : decode cX9_bitsOf 13 = .ok (.ishr, 1) := by decide +kernel
theorem dX9_bitsOf_14 : decode cX9_bitsOf 14 = .ok (.iconst 1, 1) := by decide +kernel
theorem dX9_bitsOf_15 : decode cX9_bitsOf 15 = .ok (.iand, 1) := by decide +kernel
theorem dX9_bitsOf_16 : decode cX9_bitsOf 16 = .ok (.iadd, 1) := by decide +kernel
theorem dX9_bitsOf_17 : decode cX9_bitsOf 17 = .ok (.istore_n 1, 1) := by decide +kernel
theorem dX9_bitsOf_18 : decode cX9_bitsOf 18 = .ok (.iinc 2 1, 3) := by decide +kernel
theorem dX9_bitsOf_21 : decode cX9_bitsOf 21 = .ok (.goto (-17), 3) := by decide +kernel
theorem dX9_bitsOf_24 : decode cX9_bitsOf 24 = .ok (.iload_n 1, 1) := by decide +kernel
theorem dX9_bitsOf_25 : decode cX9_bitsOf 25 = .ok (.ireturn, 1) := by decide +kernel
theorem dX9_many_0 : decode cX9_many 0 = .ok (.aload_n 0, 1) := by decide +kernel
theorem dX9_many_1 : decode cX9_many 1 = .ok (.getfield 31, 3) := by decide +kernel
theorem dX9_many_4 : decode cX9_many 4 = .ok (.aload_n 0, 1) := by decide +kernel
theorem dX9_many_5 : decode cX9_many 5 = .ok (.getfield 106, 3) := by decide +kernel
theorem dX9_many_8 : decode cX9_many 8 = .ok (.iaload, 1) := by decide +kernel
theorem dX9_many_9 : decode cX9_many 9 = .ok (.ireturn, 1) := by decide +kernel
theorem dX9_isKeeper_0 : decode cX9_isKeeper 0 = .ok (.iload_n 1, 1) := by decide +kernel
theorem dX9_isKeeper_1 : decode cX9_isKeeper 1 = .ok (.iconst 0, 1) := by decide +kernel
theorem dX9_isKeeper_2 : decode cX9_isKeeper 2 = .ok (.aload_n 0, 1) := by decide +kernel
theorem dX9_isKeeper_3 : decode cX9_isKeeper 3 = .ok (.invokevirtual 128, 3) := by decide +kernel
theorem dX9_isKeeper_6 : decode cX9_isKeeper 6 = .ok (.iconst 1, 1) := by decide +kernel
theorem dX9_isKeeper_7 : decode cX9_isKeeper 7 = .ok (.isub, 1) := by decide +kernel
theorem dX9_isKeeper_8 : decode cX9_isKeeper 8 = .ok (.invokestatic 132, 3) := by decide +kernel
theorem dX9_isKeeper_11 : decode cX9_isKeeper 11 = .ok (.ireturn, 1) := by decide +kernel
theorem dX9_isVoter_0 : decode cX9_isVoter 0 = .ok (.aload_n 0, 1) := by decide +kernel
theorem dX9_isVoter_1 : decode cX9_isVoter 1 = .ok (.getfield 34, 3) := by decide +kernel
theorem dX9_isVoter_4 : decode cX9_isVoter 4 = .ok (.aload_n 0, 1) := by decide +kernel
theorem dX9_isVoter_5 : decode cX9_isVoter 5 = .ok (.getfield 106, 3) := by decide +kernel
theorem dX9_isVoter_8 : decode cX9_isVoter 8 = .ok (.iaload, 1) := by decide +kernel
theorem dX9_isVoter_9 : decode cX9_isVoter 9 = .ok (.iload_n 1, 1) := by decide +kernel
theorem dX9_isVoter_10 : decode cX9_isVoter 10 = .ok (.ishr, 1) := by decide +kernel
theorem dX9_isVoter_11 : decode cX9_isVoter 11 = .ok (.iconst 1, 1) := by decide +kernel
theorem dX9_isVoter_12 : decode cX9_isVoter 12 = .ok (.iand, 1) := by decide +kernel
theorem dX9_isVoter_13 : decode cX9_isVoter 13 = .ok (.ifCond .ne 7, 3) := by decide +kernel
theorem dX9_isVoter_16 : decode cX9_isVoter 16 = .ok (.iconst 1, 1) := by decide +kernel
theorem dX9_isVoter_17 : decode cX9_isVoter 17 = .ok (.goto 4, 3) := by decide +kernel
theorem dX9_isVoter_20 : decode cX9_isVoter 20 = .ok (.iconst 0, 1) := by decide +kernel
theorem dX9_isVoter_21 : decode cX9_isVoter 21 = .ok (.ireturn, 1) := by decide +kernel
theorem dX9_voters_0 : decode cX9_voters 0 = .ok (.aload_n 0, 1) := by decide +kernel
theorem dX9_voters_1 : decode cX9_voters 1 = .ok (.invokevirtual 128, 3) := by decide +kernel
theorem dX9_voters_4 : decode cX9_voters 4 = .ok (.aload_n 0, 1) := by decide +kernel
theorem dX9_voters_5 : decode cX9_voters 5 = .ok (.getfield 34, 3) := by decide +kernel
theorem dX9_voters_8 : decode cX9_voters 8 = .ok (.aload_n 0, 1) := by decide +kernel
theorem dX9_voters_9 : decode cX9_voters 9 = .ok (.getfield 106, 3) := by decide +kernel
theorem dX9_voters_12 : decode cX9_voters 12 = .ok (.iaload, 1) := by decide +kernel
theorem dX9_voters_13 : decode cX9_voters 13 = .ok (.invokestatic 122, 3) := by decide +kernel
theorem dX9_voters_16 : decode cX9_voters 16 = .ok (.isub, 1) := by decide +kernel
theorem dX9_voters_17 : decode cX9_voters 17 = .ok (.ireturn, 1) := by decide +kernel
theorem dX9_most_0 : decode cX9_most 0 = .ok (.aload_n 0, 1) := by decide +kernel
theorem dX9_most_1 : decode cX9_most 1 = .ok (.invokevirtual 128, 3) := by decide +kernel
theorem dX9_most_4 : decode cX9_most 4 = .ok (.ifCond .ne 7, 3) := by decide +kernel
theorem dX9_most_7 : decode cX9_most 7 = .ok (.iconst 0, 1) := by decide +kernel
theorem dX9_most_8 : decode cX9_most 8 = .ok (.goto 11, 3) := by decide +kernel
theorem dX9_most_11 : decode cX9_most 11 = .ok (.aload_n 0, 1) := by decide +kernel
theorem dX9_most_12 : decode cX9_most 12 = .ok (.invokevirtual 136, 3) := by decide +kernel
theorem dX9_most_15 : decode cX9_most 15 = .ok (.iconst 2, 1) := by decide +kernel
theorem dX9_most_16 : decode cX9_most 16 = .ok (.idiv, 1) := by decide +kernel
theorem dX9_most_17 : decode cX9_most 17 = .ok (.iconst 1, 1) := by decide +kernel
theorem dX9_most_18 : decode cX9_most 18 = .ok (.iadd, 1) := by decide +kernel
theorem dX9_most_19 : decode cX9_most 19 = .ok (.ireturn, 1) := by decide +kernel
theorem dX9_begin_0 : decode cX9_begin 0 = .ok (.iconst 0, 1) := by decide +kernel
theorem dX9_begin_1 : decode cX9_begin 1 = .ok (.istore_n 1, 1) := by decide +kernel
theorem dX9_begin_2 : decode cX9_begin 2 = .ok (.iload_n 1, 1) := by decide +kernel
theorem dX9_begin_3 : decode cX9_begin 3 = .ok (.sipush 5000, 3) := by decide +kernel
theorem dX9_begin_6 : decode cX9_begin 6 = .ok (.if_icmp .ge 16, 3) := by decide +kernel
theorem dX9_begin_9 : decode cX9_begin 9 = .ok (.aload_n 0, 1) := by decide +kernel
theorem dX9_begin_10 : decode cX9_begin 10 = .ok (.getfield 16, 3) := by decide +kernel
theorem dX9_begin_13 : decode cX9_begin 13 = .ok (.iload_n 1, 1) := by decide +kernel
theorem dX9_begin_14 : decode cX9_begin 14 = .ok (.iconst 0, 1) := by decide +kernel
theorem dX9_begin_15 : decode cX9_begin 15 = .ok (.iastore, 1) := by decide +kernel
theorem dX9_begin_16 : decode cX9_begin 16 = .ok (.iinc 1 1, 3) := by decide +kernel
theorem dX9_begin_19 : decode cX9_begin 19 = .ok (.goto (-17), 3) := by decide +kernel
theorem dX9_begin_22 : decode cX9_begin 22 = .ok (.iconst 0, 1) := by decide +kernel
theorem dX9_begin_23 : decode cX9_begin 23 = .ok (.istore_n 1, 1) := by decide +kernel
theorem dX9_begin_24 : decode cX9_begin 24 = .ok (.iload_n 1, 1) := by decide +kernel
theorem dX9_begin_25 : decode cX9_begin 25 = .ok (.bipush 7, 2) := by decide +kernel
theorem dX9_begin_27 : decode cX9_begin 27 = .ok (.if_icmp .ge 16, 3) := by decide +kernel
theorem dX9_begin_30 : decode cX9_begin 30 = .ok (.aload_n 0, 1) := by decide +kernel
theorem dX9_begin_31 : decode cX9_begin 31 = .ok (.iload_n 1, 1) := by decide +kernel
theorem dX9_begin_32 : decode cX9_begin 32 = .ok (.iconst 1, 1) := by decide +kernel
theorem dX9_begin_33 : decode cX9_begin 33 = .ok (.iconst (-1), 1) := by decide +kernel
theorem dX9_begin_34 : decode cX9_begin 34 = .ok (.invokevirtual 139, 3) := by decide +kernel
theorem dX9_begin_37 : decode cX9_begin 37 = .ok (.iinc 1 1, 3) := by decide +kernel
theorem dX9_begin_40 : decode cX9_begin 40 = .ok (.goto (-16), 3) := by decide +kernel
theorem dX9_begin_43 : decode cX9_begin 43 = .ok (.iconst 0, 1) := by decide +kernel
theorem dX9_begin_44 : decode cX9_begin 44 = .ok (.istore_n 1, 1) := by decide +kernel
theorem dX9_begin_45 : decode cX9_begin 45 = .ok (.iload_n 1, 1) := by decide +kernel
theorem dX9_begin_46 : decode cX9_begin 46 = .ok (.bipush 40, 2) := by decide +kernel
theorem dX9_begin_48 : decode cX9_begin 48 = .ok (.if_icmp .ge 23, 3) := by decide +kernel
theorem dX9_begin_51 : decode cX9_begin 51 = .ok (.aload_n 0, 1) := by decide +kernel
theorem dX9_begin_52 : decode cX9_begin 52 = .ok (.getfield 16, 3) := by decide +kernel
theorem dX9_begin_55 : decode cX9_begin 55 = .ok (.sipush 2240, 3) := by decide +kernel
theorem dX9_begin_58 : decode cX9_begin 58 = .ok (.bipush 64, 2) := by decide +kernel
theorem dX9_begin_60 : decode cX9_begin 60 = .ok (.iload_n 1, 1) := by decide +kernel
theorem dX9_begin_61 : decode cX9_begin 61 = .ok (.imul, 1) := by decide +kernel
theorem dX9_begin_62 : decode cX9_begin 62 = .ok (.iadd, 1) := by decide +kernel
theorem dX9_begin_63 : decode cX9_begin 63 = .ok (.iconst (-1), 1) := by decide +kernel
theorem dX9_begin_64 : decode cX9_begin 64 = .ok (.iastore, 1) := by decide +kernel
theorem dX9_begin_65 : decode cX9_begin 65 = .ok (.iinc 1 1, 3) := by decide +kernel
theorem dX9_begin_68 : decode cX9_begin 68 = .ok (.goto (-23), 3) := by decide +kernel
theorem dX9_begin_71 : decode cX9_begin 71 = .ok (.iconst 0, 1) := by decide +kernel
theorem dX9_begin_72 : decode cX9_begin 72 = .ok (.istore_n 1, 1) := by decide +kernel
theorem dX9_begin_73 : decode cX9_begin 73 = .ok (.iload_n 1, 1) := by decide +kernel
theorem dX9_begin_74 : decode cX9_begin 74 = .ok (.iconst 3, 1) := by decide +kernel
theorem dX9_begin_75 : decode cX9_begin 75 = .ok (.if_icmp .ge 16, 3) := by decide +kernel
theorem dX9_begin_78 : decode cX9_begin 78 = .ok (.aload_n 0, 1) := by decide +kernel
theorem dX9_begin_79 : decode cX9_begin 79 = .ok (.getfield 23, 3) := by decide +kernel
theorem dX9_begin_82 : decode cX9_begin 82 = .ok (.iload_n 1, 1) := by decide +kernel
theorem dX9_begin_83 : decode cX9_begin 83 = .ok (.iconst 0, 1) := by decide +kernel
theorem dX9_begin_84 : decode cX9_begin 84 = .ok (.bastore, 1) := by decide +kernel
theorem dX9_begin_85 : decode cX9_begin 85 = .ok (.iinc 1 1, 3) := by decide +kernel
theorem dX9_begin_88 : decode cX9_begin 88 = .ok (.goto (-15), 3) := by decide +kernel
theorem dX9_begin_91 : decode cX9_begin 91 = .ok (.return_, 1) := by decide +kernel
theorem dX9_of_0 : decode cX9_of 0 = .ok (.aload_n 0, 1) := by decide +kernel
theorem dX9_of_1 : decode cX9_of 1 = .ok (.getfield 16, 3) := by decide +kernel
theorem dX9_of_4 : decode cX9_of 4 = .ok (.sipush 320, 3) := by decide +kernel
theorem dX9_of_7 : decode cX9_of 7 = .ok (.iload_n 1, 1) := by decide +kernel
theorem dX9_of_8 : decode cX9_of 8 = .ok (.imul, 1) := by decide +kernel
theorem dX9_of_9 : decode cX9_of 9 = .ok (.iload_n 2, 1) := by decide +kernel
theorem dX9_of_10 : decode cX9_of 10 = .ok (.iadd, 1) := by decide +kernel
theorem dX9_of_11 : decode cX9_of 11 = .ok (.iaload, 1) := by decide +kernel
theorem dX9_of_12 : decode cX9_of 12 = .ok (.ireturn, 1) := by decide +kernel
theorem dX9_put_0 : decode cX9_put 0 = .ok (.aload_n 0, 1) := by decide +kernel
theorem dX9_put_1 : decode cX9_put 1 = .ok (.getfield 16, 3) := by decide +kernel
theorem dX9_put_4 : decode cX9_put 4 = .ok (.sipush 320, 3) := by decide +kernel
theorem dX9_put_7 : decode cX9_put 7 = .ok (.iload_n 1, 1) := by decide +kernel
theorem dX9_put_8 : decode cX9_put 8 = .ok (.imul, 1) := by decide +kernel
theorem dX9_put_9 : decode cX9_put 9 = .ok (.iload_n 2, 1) := by decide +kernel
theorem dX9_put_10 : decode cX9_put 10 = .ok (.iadd, 1) := by decide +kernel
theorem dX9_put_11 : decode cX9_put 11 = .ok (.iload_n 3, 1) := by decide +kernel
theorem dX9_put_12 : decode cX9_put 12 = .ok (.iastore, 1) := by decide +kernel
theorem dX9_put_13 : decode cX9_put 13 = .ok (.return_, 1) := by decide +kernel
theorem dX9_isUp_0 : decode cX9_isUp 0 = .ok (.aload_n 0, 1) := by decide +kernel
theorem dX9_isUp_1 : decode cX9_isUp 1 = .ok (.iload_n 1, 1) := by decide +kernel
theorem dX9_isUp_2 : decode cX9_isUp 2 = .ok (.invokevirtual 143, 3) := by decide +kernel
theorem dX9_isUp_5 : decode cX9_isUp 5 = .ok (.ifCond .eq 17, 3) := by decide +kernel
theorem dX9_isUp_8 : decode cX9_isUp 8 = .ok (.aload_n 0, 1) := by decide +kernel
theorem dX9_isUp_9 : decode cX9_isUp 9 = .ok (.iload_n 1, 1) := by decide +kernel
theorem dX9_isUp_10 : decode cX9_isUp 10 = .ok (.bipush 9, 2) := by decide +kernel
theorem dX9_isUp_12 : decode cX9_isUp 12 = .ok (.invokevirtual 146, 3) := by decide +kernel
theorem dX9_isUp_15 : decode cX9_isUp 15 = .ok (.ifCond .ne 7, 3) := by decide +kernel
theorem dX9_isUp_18 : decode cX9_isUp 18 = .ok (.iconst 1, 1) := by decide +kernel
theorem dX9_isUp_19 : decode cX9_isUp 19 = .ok (.goto 4, 3) := by decide +kernel
theorem dX9_isUp_22 : decode cX9_isUp 22 = .ok (.iconst 0, 1) := by decide +kernel
theorem dX9_isUp_23 : decode cX9_isUp 23 = .ok (.ireturn, 1) := by decide +kernel
theorem dX9_doesLead_0 : decode cX9_doesLead 0 = .ok (.aload_n 0, 1) := by decide +kernel
theorem dX9_doesLead_1 : decode cX9_doesLead 1 = .ok (.iload_n 1, 1) := by decide +kernel
theorem dX9_doesLead_2 : decode cX9_doesLead 2 = .ok (.invokevirtual 150, 3) := by decide +kernel
theorem dX9_doesLead_5 : decode cX9_doesLead 5 = .ok (.ifCond .eq 17, 3) := by decide +kernel
theorem dX9_doesLead_8 : decode cX9_doesLead 8 = .ok (.aload_n 0, 1) := by decide +kernel
theorem dX9_doesLead_9 : decode cX9_doesLead 9 = .ok (.iload_n 1, 1) := by decide +kernel
theorem dX9_doesLead_10 : decode cX9_doesLead 10 = .ok (.iconst 5, 1) := by decide +kernel
theorem dX9_doesLead_11 : decode cX9_doesLead 11 = .ok (.invokevirtual 146, 3) := by decide +kernel
theorem dX9_doesLead_14 : decode cX9_doesLead 14 = .ok (.iconst 2, 1) := by decide +kernel
theorem dX9_doesLead_15 : decode cX9_doesLead 15 = .ok (.if_icmp .ne 7, 3) := by decide +kernel
theorem dX9_doesLead_18 : decode cX9_doesLead 18 = .ok (.iconst 1, 1) := by decide +kernel
theorem dX9_doesLead_19 : decode cX9_doesLead 19 = .ok (.goto 4, 3) := by decide +kernel
theorem dX9_doesLead_22 : decode cX9_doesLead 22 = .ok (.iconst 0, 1) := by decide +kernel
theorem dX9_doesLead_23 : decode cX9_doesLead 23 = .ok (.ireturn, 1) := by decide +kernel
theorem dX9_entryAt_0 : decode cX9_entryAt 0 = .ok (.sipush 320, 3) := by decide +kernel
theorem dX9_entryAt_3 : decode cX9_entryAt 3 = .ok (.iload_n 1, 1) := by decide +kernel
theorem dX9_entryAt_4 : decode cX9_entryAt 4 = .ok (.imul, 1) := by decide +kernel
theorem dX9_entryAt_5 : decode cX9_entryAt 5 = .ok (.bipush 80, 2) := by decide +kernel
theorem dX9_entryAt_7 : decode cX9_entryAt 7 = .ok (.iadd, 1) := by decide +kernel
theorem dX9_entryAt_8 : decode cX9_entryAt 8 = .ok (.bipush 6, 2) := by decide +kernel
theorem dX9_entryAt_10 : decode cX9_entryAt 10 = .ok (.iload_n 2, 1) := by decide +kernel
theorem dX9_entryAt_11 : decode cX9_entryAt 11 = .ok (.aload_n 0, 1) := by decide +kernel
theorem dX9_entryAt_12 : decode cX9_entryAt 12 = .ok (.iload_n 1, 1) := by decide +kernel
theorem dX9_entryAt_13 : decode cX9_entryAt 13 = .ok (.iconst 2, 1) := by decide +kernel
theorem dX9_entryAt_14 : decode cX9_entryAt 14 = .ok (.invokevirtual 146, 3) := by decide +kernel
theorem dX9_entryAt_17 : decode cX9_entryAt 17 = .ok (.isub, 1) := by decide +kernel
theorem dX9_entryAt_18 : decode cX9_entryAt 18 = .ok (.iconst 1, 1) := by decide +kernel
theorem dX9_entryAt_19 : decode cX9_entryAt 19 = .ok (.isub, 1) := by decide +kernel
theorem dX9_entryAt_20 : decode cX9_entryAt 20 = .ok (.imul, 1) := by decide +kernel
theorem dX9_entryAt_21 : decode cX9_entryAt 21 = .ok (.iadd, 1) := by decide +kernel
theorem dX9_entryAt_22 : decode cX9_entryAt 22 = .ok (.ireturn, 1) := by decide +kernel
theorem dX9_termOf_0 : decode cX9_termOf 0 = .ok (.iload_n 2, 1) := by decide +kernel
theorem dX9_termOf_1 : decode cX9_termOf 1 = .ok (.aload_n 0, 1) := by decide +kernel
theorem dX9_termOf_2 : decode cX9_termOf 2 = .ok (.iload_n 1, 1) := by decide +kernel
theorem dX9_termOf_3 : decode cX9_termOf 3 = .ok (.iconst 2, 1) := by decide +kernel
theorem dX9_termOf_4 : decode cX9_termOf 4 = .ok (.invokevirtual 146, 3) := by decide +kernel
theorem dX9_termOf_7 : decode cX9_termOf 7 = .ok (.if_icmp .gt 12, 3) := by decide +kernel
theorem dX9_termOf_10 : decode cX9_termOf 10 = .ok (.aload_n 0, 1) := by decide +kernel
theorem dX9_termOf_11 : decode cX9_termOf 11 = .ok (.iload_n 1, 1) := by decide +kernel
theorem dX9_termOf_12 : decode cX9_termOf 12 = .ok (.iconst 3, 1) := by decide +kernel
theorem dX9_termOf_13 : decode cX9_termOf 13 = .ok (.invokevirtual 146, 3) := by decide +kernel
theorem dX9_termOf_16 : decode cX9_termOf 16 = .ok (.goto 14, 3) := by decide +kernel
theorem dX9_termOf_19 : decode cX9_termOf 19 = .ok (.aload_n 0, 1) := by decide +kernel
theorem dX9_termOf_20 : decode cX9_termOf 20 = .ok (.getfield 16, 3) := by decide +kernel
theorem dX9_termOf_23 : decode cX9_termOf 23 = .ok (.aload_n 0, 1) := by decide +kernel
theorem dX9_termOf_24 : decode cX9_termOf 24 = .ok (.iload_n 1, 1) := by decide +kernel
theorem dX9_termOf_25 : decode cX9_termOf 25 = .ok (.iload_n 2, 1) := by decide +kernel
theorem dX9_termOf_26 : decode cX9_termOf 26 = .ok (.invokevirtual 153, 3) := by decide +kernel
theorem dX9_termOf_29 : decode cX9_termOf 29 = .ok (.iaload, 1) := by decide +kernel
theorem dX9_termOf_30 : decode cX9_termOf 30 = .ok (.ireturn, 1) := by decide +kernel
theorem dX9_copy_0 : decode cX9_copy 0 = .ok (.iconst 0, 1) := by decide +kernel
theorem dX9_copy_1 : decode cX9_copy 1 = .ok (.istore 4, 2) := by decide +kernel
theorem dX9_copy_3 : decode cX9_copy 3 = .ok (.iload 4, 2) := by decide +kernel
theorem dX9_copy_5 : decode cX9_copy 5 = .ok (.iload_n 3, 1) := by decide +kernel
theorem dX9_copy_6 : decode cX9_copy 6 = .ok (.if_icmp .ge 27, 3) := by decide +kernel
theorem dX9_copy_9 : decode cX9_copy 9 = .ok (.aload_n 0, 1) := by decide +kernel
theorem dX9_copy_10 : decode cX9_copy 10 = .ok (.getfield 16, 3) := by decide +kernel
theorem dX9_copy_13 : decode cX9_copy 13 = .ok (.iload_n 2, 1) := by decide +kernel
theorem dX9_copy_14 : decode cX9_copy 14 = .ok (.iload 4, 2) := by decide +kernel
theorem dX9_copy_16 : decode cX9_copy 16 = .ok (.iadd, 1) := by decide +kernel
theorem dX9_copy_17 : decode cX9_copy 17 = .ok (.aload_n 0, 1) := by decide +kernel
theorem dX9_copy_18 : decode cX9_copy 18 = .ok (.getfield 16, 3) := by decide +kernel
theorem dX9_copy_21 : decode cX9_copy 21 = .ok (.iload_n 1, 1) := by decide +kernel
theorem dX9_copy_22 : decode cX9_copy 22 = .ok (.iload 4, 2) := by decide +kernel
theorem dX9_copy_24 : decode cX9_copy 24 = .ok (.iadd, 1) := by decide +kernel
theorem dX9_copy_25 : decode cX9_copy 25 = .ok (.iaload, 1) := by decide +kernel
theorem dX9_copy_26 : decode cX9_copy 26 = .ok (.iastore, 1) := by decide +kernel
theorem dX9_copy_27 : decode cX9_copy 27 = .ok (.iinc 4 1, 3) := by decide +kernel
theorem dX9_copy_30 : decode cX9_copy 30 = .ok (.goto (-27), 3) := by decide +kernel
theorem dX9_copy_33 : decode cX9_copy 33 = .ok (.return_, 1) := by decide +kernel
theorem dX9_works_0 : decode cX9_works 0 = .ok (.iload_n 1, 1) := by decide +kernel
theorem dX9_works_1 : decode cX9_works 1 = .ok (.bipush 8, 2) := by decide +kernel
theorem dX9_works_3 : decode cX9_works 3 = .ok (.iadd, 1) := by decide +kernel
theorem dX9_works_4 : decode cX9_works 4 = .ok (.iconst 2, 1) := by decide +kernel
theorem dX9_works_5 : decode cX9_works 5 = .ok (.aload_n 0, 1) := by decide +kernel
theorem dX9_works_6 : decode cX9_works 6 = .ok (.getfield 16, 3) := by decide +kernel
theorem dX9_works_9 : decode cX9_works 9 = .ok (.iload_n 2, 1) := by decide +kernel
theorem dX9_works_10 : decode cX9_works 10 = .ok (.iconst 1, 1) := by decide +kernel
theorem dX9_works_11 : decode cX9_works 11 = .ok (.iadd, 1) := by decide +kernel
theorem dX9_works_12 : decode cX9_works 12 = .ok (.iaload, 1) := by decide +kernel
theorem dX9_works_13 : decode cX9_works 13 = .ok (.imul, 1) := by decide +kernel
theorem dX9_works_14 : decode cX9_works 14 = .ok (.iadd, 1) := by decide +kernel
theorem dX9_works_15 : decode cX9_works 15 = .ok (.istore_n 3, 1) := by decide +kernel
theorem dX9_works_16 : decode cX9_works 16 = .ok (.iload_n 1, 1) := by decide +kernel
theorem dX9_works_17 : decode cX9_works 17 = .ok (.aload_n 0, 1) := by decide +kernel
theorem dX9_works_18 : decode cX9_works 18 = .ok (.getfield 16, 3) := by decide +kernel
theorem dX9_works_21 : decode cX9_works 21 = .ok (.iload_n 2, 1) := by decide +kernel
theorem dX9_works_22 : decode cX9_works 22 = .ok (.iconst 4, 1) := by decide +kernel
theorem dX9_works_23 : decode cX9_works 23 = .ok (.iadd, 1) := by decide +kernel
theorem dX9_works_24 : decode cX9_works 24 = .ok (.iaload, 1) := by decide +kernel
theorem dX9_works_25 : decode cX9_works 25 = .ok (.iadd, 1) := by decide +kernel
theorem dX9_works_26 : decode cX9_works 26 = .ok (.istore 4, 2) := by decide +kernel
theorem dX9_works_28 : decode cX9_works 28 = .ok (.aload_n 0, 1) := by decide +kernel
theorem dX9_works_29 : decode cX9_works 29 = .ok (.getfield 16, 3) := by decide +kernel
theorem dX9_works_32 : decode cX9_works 32 = .ok (.iload_n 2, 1) := by decide +kernel
theorem dX9_works_33 : decode cX9_works 33 = .ok (.iconst 5, 1) := by decide +kernel
theorem dX9_works_34 : decode cX9_works 34 = .ok (.iadd, 1) := by decide +kernel
theorem dX9_works_35 : decode cX9_works 35 = .ok (.iaload, 1) := by decide +kernel
theorem dX9_works_36 : decode cX9_works 36 = .ok (.istore 5, 2) := by decide +kernel
theorem dX9_works_38 : decode cX9_works 38 = .ok (.aload_n 0, 1) := by decide +kernel
theorem dX9_works_39 : decode cX9_works 39 = .ok (.getfield 16, 3) := by decide +kernel
theorem dX9_works_42 : decode cX9_works 42 = .ok (.iload_n 2, 1) := by decide +kernel
theorem dX9_works_43 : decode cX9_works 43 = .ok (.iconst 2, 1) := by decide +kernel
theorem dX9_works_44 : decode cX9_works 44 = .ok (.iadd, 1) := by decide +kernel
theorem dX9_works_45 : decode cX9_works 45 = .ok (.iaload, 1) := by decide +kernel
theorem dX9_works_46 : decode cX9_works 46 = .ok (.aload_n 0, 1) := by decide +kernel
theorem dX9_works_47 : decode cX9_works 47 = .ok (.getfield 16, 3) := by decide +kernel
theorem dX9_works_50 : decode cX9_works 50 = .ok (.iload_n 3, 1) := by decide +kernel
theorem dX9_works_51 : decode cX9_works 51 = .ok (.iaload, 1) := by decide +kernel
theorem dX9_works_52 : decode cX9_works 52 = .ok (.if_icmp .gt 4, 3) := by decide +kernel
theorem dX9_works_55 : decode cX9_works 55 = .ok (.return_, 1) := by decide +kernel
theorem dX9_works_56 : decode cX9_works 56 = .ok (.aload_n 0, 1) := by decide +kernel
theorem dX9_works_57 : decode cX9_works 57 = .ok (.getfield 16, 3) := by decide +kernel
theorem dX9_works_60 : decode cX9_works 60 = .ok (.iload 4, 2) := by decide +kernel
theorem dX9_works_62 : decode cX9_works 62 = .ok (.iaload, 1) := by decide +kernel
theorem dX9_works_63 : decode cX9_works 63 = .ok (.istore 6, 2) := by decide +kernel
theorem dX9_works_65 : decode cX9_works 65 = .ok (.aload_n 0, 1) := by decide +kernel
theorem dX9_works_66 : decode cX9_works 66 = .ok (.getfield 16, 3) := by decide +kernel
theorem dX9_works_69 : decode cX9_works 69 = .ok (.iload 4, 2) := by decide +kernel
theorem dX9_works_71 : decode cX9_works 71 = .ok (.aload_n 0, 1) := by decide +kernel
theorem dX9_works_72 : decode cX9_works 72 = .ok (.getfield 16, 3) := by decide +kernel
theorem dX9_works_75 : decode cX9_works 75 = .ok (.iload_n 2, 1) := by decide +kernel
theorem dX9_works_76 : decode cX9_works 76 = .ok (.iconst 3, 1) := by decide +kernel
theorem dX9_works_77 : decode cX9_works 77 = .ok (.iadd, 1) := by decide +kernel
theorem dX9_works_78 : decode cX9_works 78 = .ok (.iaload, 1) := by decide +kernel
theorem dX9_works_79 : decode cX9_works 79 = .ok (.iload 6, 2) := by decide +kernel
theorem dX9_works_81 : decode cX9_works 81 = .ok (.iload 5, 2) := by decide +kernel
theorem dX9_works_83 : decode cX9_works 83 = .ok (.invokestatic 156, 3) := by decide +kernel
theorem dX9_works_86 : decode cX9_works 86 = .ok (.iastore, 1) := by decide +kernel
theorem dX9_works_87 : decode cX9_works 87 = .ok (.aload_n 0, 1) := by decide +kernel
theorem dX9_works_88 : decode cX9_works 88 = .ok (.getfield 16, 3) := by decide +kernel
theorem dX9_works_91 : decode cX9_works 91 = .ok (.iload_n 3, 1) := by decide +kernel
theorem dX9_works_92 : decode cX9_works 92 = .ok (.aload_n 0, 1) := by decide +kernel
theorem dX9_works_93 : decode cX9_works 93 = .ok (.getfield 16, 3) := by decide +kernel
theorem dX9_works_96 : decode cX9_works 96 = .ok (.iload_n 2, 1) := by decide +kernel
theorem dX9_works_97 : decode cX9_works 97 = .ok (.iconst 2, 1) := by decide +kernel
theorem dX9_works_98 : decode cX9_works 98 = .ok (.iadd, 1) := by decide +kernel
theorem dX9_works_99 : decode cX9_works 99 = .ok (.iaload, 1) := by decide +kernel
theorem dX9_works_100 : decode cX9_works 100 = .ok (.iastore, 1) := by decide +kernel
theorem dX9_works_101 : decode cX9_works 101 = .ok (.aload_n 0, 1) := by decide +kernel
theorem dX9_works_102 : decode cX9_works 102 = .ok (.getfield 16, 3) := by decide +kernel
theorem dX9_works_105 : decode cX9_works 105 = .ok (.iload_n 3, 1) := by decide +kernel
theorem dX9_works_106 : decode cX9_works 106 = .ok (.iconst 1, 1) := by decide +kernel
theorem dX9_works_107 : decode cX9_works 107 = .ok (.iadd, 1) := by decide +kernel
theorem dX9_works_108 : decode cX9_works 108 = .ok (.aload_n 0, 1) := by decide +kernel
theorem dX9_works_109 : decode cX9_works 109 = .ok (.getfield 16, 3) := by decide +kernel
theorem dX9_works_112 : decode cX9_works 112 = .ok (.iload_n 2, 1) := by decide +kernel
theorem dX9_works_113 : decode cX9_works 113 = .ok (.iconst 3, 1) := by decide +kernel
theorem dX9_works_114 : decode cX9_works 114 = .ok (.iadd, 1) := by decide +kernel
theorem dX9_works_115 : decode cX9_works 115 = .ok (.iaload, 1) := by decide +kernel
theorem dX9_works_116 : decode cX9_works 116 = .ok (.iload 6, 2) := by decide +kernel
theorem dX9_works_118 : decode cX9_works 118 = .ok (.iload 5, 2) := by decide +kernel
theorem dX9_works_120 : decode cX9_works 120 = .ok (.invokestatic 160, 3) := by decide +kernel
theorem dX9_works_123 : decode cX9_works 123 = .ok (.iastore, 1) := by decide +kernel
theorem dX9_works_124 : decode cX9_works 124 = .ok (.return_, 1) := by decide +kernel
theorem dX9_after_0 : decode cX9_after 0 = .ok (.iload_n 0, 1) := by decide +kernel
theorem dX9_after_1 : decode cX9_after 1 = .ok (.ifCond .ne 5, 3) := by decide +kernel
theorem dX9_after_4 : decode cX9_after 4 = .ok (.iload_n 2, 1) := by decide +kernel
theorem dX9_after_5 : decode cX9_after 5 = .ok (.ireturn, 1) := by decide +kernel
theorem dX9_after_6 : decode cX9_after 6 = .ok (.iload_n 0, 1) := by decide +kernel
theorem dX9_after_7 : decode cX9_after 7 = .ok (.iconst 1, 1) := by decide +kernel
theorem dX9_after_8 : decode cX9_after 8 = .ok (.if_icmp .ne 7, 3) := by decide +kernel
theorem dX9_after_11 : decode cX9_after 11 = .ok (.iload_n 1, 1) := by decide +kernel
theorem dX9_after_12 : decode cX9_after 12 = .ok (.iload_n 2, 1) := by decide +kernel
theorem dX9_after_13 : decode cX9_after 13 = .ok (.iadd, 1) := by decide +kernel
theorem dX9_after_14 : decode cX9_after 14 = .ok (.ireturn, 1) := by decide +kernel
theorem dX9_after_15 : decode cX9_after 15 = .ok (.iload_n 0, 1) := by decide +kernel
theorem dX9_after_16 : decode cX9_after 16 = .ok (.iconst 2, 1) := by decide +kernel
theorem dX9_after_17 : decode cX9_after 17 = .ok (.if_icmp .ne 14, 3) := by decide +kernel
theorem dX9_after_20 : decode cX9_after 20 = .ok (.iload_n 2, 1) := by decide +kernel
theorem dX9_after_21 : decode cX9_after 21 = .ok (.iload_n 1, 1) := by decide +kernel
theorem dX9_after_22 : decode cX9_after 22 = .ok (.if_icmp .le 7, 3) := by decide +kernel
theorem dX9_after_25 : decode cX9_after 25 = .ok (.iload_n 2, 1) := by decide +kernel
theorem dX9_after_26 : decode cX9_after 26 = .ok (.goto 4, 3) := by decide +kernel
theorem dX9_after_29 : decode cX9_after 29 = .ok (.iload_n 1, 1) := by decide +kernel
theorem dX9_after_30 : decode cX9_after 30 = .ok (.ireturn, 1) := by decide +kernel
theorem dX9_after_31 : decode cX9_after 31 = .ok (.iload_n 1, 1) := by decide +kernel
theorem dX9_after_32 : decode cX9_after 32 = .ok (.ifCond .ne 7, 3) := by decide +kernel
theorem dX9_after_35 : decode cX9_after 35 = .ok (.iload_n 2, 1) := by decide +kernel
theorem dX9_after_36 : decode cX9_after 36 = .ok (.goto 4, 3) := by decide +kernel
theorem dX9_after_39 : decode cX9_after 39 = .ok (.iload_n 1, 1) := by decide +kernel
theorem dX9_after_40 : decode cX9_after 40 = .ok (.ireturn, 1) := by decide +kernel
theorem dX9_answers_0 : decode cX9_answers 0 = .ok (.iload_n 0, 1) := by decide +kernel
theorem dX9_answers_1 : decode cX9_answers 1 = .ok (.ifCond .ne 7, 3) := by decide +kernel
theorem dX9_answers_4 : decode cX9_answers 4 = .ok (.iload_n 1, 1) := by decide +kernel
theorem dX9_answers_5 : decode cX9_answers 5 = .ok (.goto 26, 3) := by decide +kernel
theorem dX9_answers_8 : decode cX9_answers 8 = .ok (.iload_n 0, 1) := by decide +kernel
theorem dX9_answers_9 : decode cX9_answers 9 = .ok (.iconst 3, 1) := by decide +kernel
theorem dX9_answers_10 : decode cX9_answers 10 = .ok (.if_icmp .ne 15, 3) := by decide +kernel
theorem dX9_answers_13 : decode cX9_answers 13 = .ok (.iload_n 1, 1) := by decide +kernel
theorem dX9_answers_14 : decode cX9_answers 14 = .ok (.ifCond .ne 7, 3) := by decide +kernel
theorem dX9_answers_17 : decode cX9_answers 17 = .ok (.iconst 1, 1) := by decide +kernel
theorem dX9_answers_18 : decode cX9_answers 18 = .ok (.goto 13, 3) := by decide +kernel
theorem dX9_answers_21 : decode cX9_answers 21 = .ok (.iconst 0, 1) := by decide +kernel
theorem dX9_answers_22 : decode cX9_answers 22 = .ok (.goto 9, 3) := by decide +kernel
theorem dX9_answers_25 : decode cX9_answers 25 = .ok (.iload_n 0, 1) := by decide +kernel
theorem dX9_answers_26 : decode cX9_answers 26 = .ok (.iload_n 1, 1) := by decide +kernel
theorem dX9_answers_27 : decode cX9_answers 27 = .ok (.iload_n 2, 1) := by decide +kernel
theorem dX9_answers_28 : decode cX9_answers 28 = .ok (.invokestatic 156, 3) := by decide +kernel
theorem dX9_answers_31 : decode cX9_answers 31 = .ok (.ireturn, 1) := by decide +kernel
theorem dX9_doneTo_0 : decode cX9_doneTo 0 = .ok (.aload_n 0, 1) := by decide +kernel
theorem dX9_doneTo_1 : decode cX9_doneTo 1 = .ok (.iload_n 1, 1) := by decide +kernel
theorem dX9_doneTo_2 : decode cX9_doneTo 2 = .ok (.bipush 6, 2) := by decide +kernel
theorem dX9_doneTo_4 : decode cX9_doneTo 4 = .ok (.invokevirtual 146, 3) := by decide +kernel
theorem dX9_doneTo_7 : decode cX9_doneTo 7 = .ok (.iconst 1, 1) := by decide +kernel
theorem dX9_doneTo_8 : decode cX9_doneTo 8 = .ok (.iadd, 1) := by decide +kernel
theorem dX9_doneTo_9 : decode cX9_doneTo 9 = .ok (.istore_n 3, 1) := by decide +kernel
theorem dX9_doneTo_10 : decode cX9_doneTo 10 = .ok (.iload_n 3, 1) := by decide +kernel
theorem dX9_doneTo_11 : decode cX9_doneTo 11 = .ok (.iload_n 2, 1) := by decide +kernel
theorem dX9_doneTo_12 : decode cX9_doneTo 12 = .ok (.if_icmp .gt 27, 3) := by decide +kernel
theorem dX9_doneTo_15 : decode cX9_doneTo 15 = .ok (.aload_n 0, 1) := by decide +kernel
theorem dX9_doneTo_16 : decode cX9_doneTo 16 = .ok (.sipush 320, 3) := by decide +kernel
theorem dX9_doneTo_19 : decode cX9_doneTo 19 = .ok (.iload_n 1, 1) := by decide +kernel
theorem dX9_doneTo_20 : decode cX9_doneTo 20 = .ok (.imul, 1) := by decide +kernel
theorem dX9_doneTo_21 : decode cX9_doneTo 21 = .ok (.bipush 30, 2) := by decide +kernel
theorem dX9_doneTo_23 : decode cX9_doneTo 23 = .ok (.iadd, 1) := by decide +kernel
theorem dX9_doneTo_24 : decode cX9_doneTo 24 = .ok (.aload_n 0, 1) := by decide +kernel
theorem dX9_doneTo_25 : decode cX9_doneTo 25 = .ok (.iload_n 1, 1) := by decide +kernel
theorem dX9_doneTo_26 : decode cX9_doneTo 26 = .ok (.iload_n 3, 1) := by decide +kernel
theorem dX9_doneTo_27 : decode cX9_doneTo 27 = .ok (.invokevirtual 153, 3) := by decide +kernel
theorem dX9_doneTo_30 : decode cX9_doneTo 30 = .ok (.invokevirtual 163, 3) := by decide +kernel
theorem dX9_doneTo_33 : decode cX9_doneTo 33 = .ok (.iinc 3 1, 3) := by decide +kernel
theorem dX9_doneTo_36 : decode cX9_doneTo 36 = .ok (.goto (-26), 3) := by decide +kernel
theorem dX9_doneTo_39 : decode cX9_doneTo 39 = .ok (.iload_n 2, 1) := by decide +kernel
theorem dX9_doneTo_40 : decode cX9_doneTo 40 = .ok (.aload_n 0, 1) := by decide +kernel
theorem dX9_doneTo_41 : decode cX9_doneTo 41 = .ok (.iload_n 1, 1) := by decide +kernel
theorem dX9_doneTo_42 : decode cX9_doneTo 42 = .ok (.bipush 6, 2) := by decide +kernel
theorem dX9_doneTo_44 : decode cX9_doneTo 44 = .ok (.invokevirtual 146, 3) := by decide +kernel
theorem dX9_doneTo_47 : decode cX9_doneTo 47 = .ok (.if_icmp .le 11, 3) := by decide +kernel
theorem dX9_doneTo_50 : decode cX9_doneTo 50 = .ok (.aload_n 0, 1) := by decide +kernel
theorem dX9_doneTo_51 : decode cX9_doneTo 51 = .ok (.iload_n 1, 1) := by decide +kernel
theorem dX9_doneTo_52 : decode cX9_doneTo 52 = .ok (.bipush 6, 2) := by decide +kernel
theorem dX9_doneTo_54 : decode cX9_doneTo 54 = .ok (.iload_n 2, 1) := by decide +kernel
theorem dX9_doneTo_55 : decode cX9_doneTo 55 = .ok (.invokevirtual 139, 3) := by decide +kernel
theorem dX9_doneTo_58 : decode cX9_doneTo 58 = .ok (.return_, 1) := by decide +kernel
theorem dX9_isSure_0 : decode cX9_isSure 0 = .ok (.iconst 0, 1) := by decide +kernel
theorem dX9_isSure_1 : decode cX9_isSure 1 = .ok (.istore_n 3, 1) := by decide +kernel
theorem dX9_isSure_2 : decode cX9_isSure 2 = .ok (.iconst 0, 1) := by decide +kernel
theorem dX9_isSure_3 : decode cX9_isSure 3 = .ok (.istore 4, 2) := by decide +kernel
theorem dX9_isSure_5 : decode cX9_isSure 5 = .ok (.iload 4, 2) := by decide +kernel
theorem dX9_isSure_7 : decode cX9_isSure 7 = .ok (.aload_n 0, 1) := by decide +kernel
theorem dX9_isSure_8 : decode cX9_isSure 8 = .ok (.invokevirtual 128, 3) := by decide +kernel
theorem dX9_isSure_11 : decode cX9_isSure 11 = .ok (.if_icmp .ge 46, 3) := by decide +kernel
theorem dX9_isSure_14 : decode cX9_isSure 14 = .ok (.iload_n 3, 1) := by decide +kernel
theorem dX9_isSure_15 : decode cX9_isSure 15 = .ok (.aload_n 0, 1) := by decide +kernel
theorem dX9_isSure_16 : decode cX9_isSure 16 = .ok (.iload 4, 2) := by decide +kernel
theorem dX9_isSure_18 : decode cX9_isSure 18 = .ok (.invokevirtual 166, 3) := by decide +kernel
theorem dX9_isSure_21 : decode cX9_isSure 21 = .ok (.ifCond .eq 27, 3) := by decide +kernel
theorem dX9_isSure_24 : decode cX9_isSure 24 = .ok (.iload 4, 2) := by decide +kernel
theorem dX9_isSure_26 : decode cX9_isSure 26 = .ok (.iload_n 1, 1) := by decide +kernel
theorem dX9_isSure_27 : decode cX9_isSure 27 = .ok (.if_icmp .eq 17, 3) := by decide +kernel
theorem dX9_isSure_30 : decode cX9_isSure 30 = .ok (.aload_n 0, 1) := by decide +kernel
theorem dX9_isSure_31 : decode cX9_isSure 31 = .ok (.iload_n 1, 1) := by decide +kernel
theorem dX9_isSure_32 : decode cX9_isSure 32 = .ok (.bipush 57, 2) := by decide +kernel
theorem dX9_isSure_34 : decode cX9_isSure 34 = .ok (.iload 4, 2) := by decide +kernel
theorem dX9_isSure_36 : decode cX9_isSure 36 = .ok (.iadd, 1) := by decide +kernel
theorem dX9_isSure_37 : decode cX9_isSure 37 = .ok (.invokevirtual 146, 3) := by decide +kernel
theorem dX9_isSure_40 : decode cX9_isSure 40 = .ok (.iload_n 2, 1) := by decide +kernel
theorem dX9_isSure_41 : decode cX9_isSure 41 = .ok (.if_icmp .lt 7, 3) := by decide +kernel
theorem dX9_isSure_44 : decode cX9_isSure 44 = .ok (.iconst 1, 1) := by decide +kernel
theorem dX9_isSure_45 : decode cX9_isSure 45 = .ok (.goto 4, 3) := by decide +kernel
theorem dX9_isSure_48 : decode cX9_isSure 48 = .ok (.iconst 0, 1) := by decide +kernel
theorem dX9_isSure_49 : decode cX9_isSure 49 = .ok (.iadd, 1) := by decide +kernel
theorem dX9_isSure_50 : decode cX9_isSure 50 = .ok (.istore_n 3, 1) := by decide +kernel
theorem dX9_isSure_51 : decode cX9_isSure 51 = .ok (.iinc 4 1, 3) := by decide +kernel
theorem dX9_isSure_54 : decode cX9_isSure 54 = .ok (.goto (-49), 3) := by decide +kernel
theorem dX9_isSure_57 : decode cX9_isSure 57 = .ok (.iload_n 3, 1) := by decide +kernel
theorem dX9_isSure_58 : decode cX9_isSure 58 = .ok (.aload_n 0, 1) := by decide +kernel
theorem dX9_isSure_59 : decode cX9_isSure 59 = .ok (.invokevirtual 169, 3) := by decide +kernel
theorem dX9_isSure_62 : decode cX9_isSure 62 = .ok (.if_icmp .lt 7, 3) := by decide +kernel
theorem dX9_isSure_65 : decode cX9_isSure 65 = .ok (.iconst 1, 1) := by decide +kernel
theorem dX9_isSure_66 : decode cX9_isSure 66 = .ok (.goto 4, 3) := by decide +kernel
theorem dX9_isSure_69 : decode cX9_isSure 69 = .ok (.iconst 0, 1) := by decide +kernel
theorem dX9_isSure_70 : decode cX9_isSure 70 = .ok (.ireturn, 1) := by decide +kernel
theorem dX9_settles_0 : decode cX9_settles 0 = .ok (.aload_n 0, 1) := by decide +kernel
theorem dX9_settles_1 : decode cX9_settles 1 = .ok (.iload_n 1, 1) := by decide +kernel
theorem dX9_settles_2 : decode cX9_settles 2 = .ok (.iconst 5, 1) := by decide +kernel
theorem dX9_settles_3 : decode cX9_settles 3 = .ok (.invokevirtual 146, 3) := by decide +kernel
theorem dX9_settles_6 : decode cX9_settles 6 = .ok (.iconst 2, 1) := by decide +kernel
theorem dX9_settles_7 : decode cX9_settles 7 = .ok (.if_icmp .eq 4, 3) := by decide +kernel
theorem dX9_settles_10 : decode cX9_settles 10 = .ok (.return_, 1) := by decide +kernel
theorem dX9_settles_11 : decode cX9_settles 11 = .ok (.aload_n 0, 1) := by decide +kernel
theorem dX9_settles_12 : decode cX9_settles 12 = .ok (.iload_n 1, 1) := by decide +kernel
theorem dX9_settles_13 : decode cX9_settles 13 = .ok (.iconst 4, 1) := by decide +kernel
theorem dX9_settles_14 : decode cX9_settles 14 = .ok (.invokevirtual 146, 3) := by decide +kernel
theorem dX9_settles_17 : decode cX9_settles 17 = .ok (.istore_n 2, 1) := by decide +kernel
theorem dX9_settles_18 : decode cX9_settles 18 = .ok (.iload_n 2, 1) := by decide +kernel
theorem dX9_settles_19 : decode cX9_settles 19 = .ok (.aload_n 0, 1) := by decide +kernel
theorem dX9_settles_20 : decode cX9_settles 20 = .ok (.iload_n 1, 1) := by decide +kernel
theorem dX9_settles_21 : decode cX9_settles 21 = .ok (.bipush 6, 2) := by decide +kernel
theorem dX9_settles_23 : decode cX9_settles 23 = .ok (.invokevirtual 146, 3) := by decide +kernel
theorem dX9_settles_26 : decode cX9_settles 26 = .ok (.if_icmp .le 43, 3) := by decide +kernel
theorem dX9_settles_29 : decode cX9_settles 29 = .ok (.aload_n 0, 1) := by decide +kernel
theorem dX9_settles_30 : decode cX9_settles 30 = .ok (.iload_n 1, 1) := by decide +kernel
theorem dX9_settles_31 : decode cX9_settles 31 = .ok (.iload_n 2, 1) := by decide +kernel
theorem dX9_settles_32 : decode cX9_settles 32 = .ok (.invokevirtual 172, 3) := by decide +kernel
theorem dX9_settles_35 : decode cX9_settles 35 = .ok (.aload_n 0, 1) := by decide +kernel
theorem dX9_settles_36 : decode cX9_settles 36 = .ok (.iload_n 1, 1) := by decide +kernel
theorem dX9_settles_37 : decode cX9_settles 37 = .ok (.iconst 0, 1) := by decide +kernel
theorem dX9_settles_38 : decode cX9_settles 38 = .ok (.invokevirtual 146, 3) := by decide +kernel
theorem dX9_settles_41 : decode cX9_settles 41 = .ok (.if_icmp .ne 22, 3) := by decide +kernel
theorem dX9_settles_44 : decode cX9_settles 44 = .ok (.aload_n 0, 1) := by decide +kernel
theorem dX9_settles_45 : decode cX9_settles 45 = .ok (.iload_n 1, 1) := by decide +kernel
theorem dX9_settles_46 : decode cX9_settles 46 = .ok (.iload_n 2, 1) := by decide +kernel
theorem dX9_settles_47 : decode cX9_settles 47 = .ok (.invokevirtual 175, 3) := by decide +kernel
theorem dX9_settles_50 : decode cX9_settles 50 = .ok (.ifCond .ne 6, 3) := by decide +kernel
theorem dX9_settles_53 : decode cX9_settles 53 = .ok (.goto 10, 3) := by decide +kernel
theorem dX9_settles_56 : decode cX9_settles 56 = .ok (.aload_n 0, 1) := by decide +kernel
theorem dX9_settles_57 : decode cX9_settles 57 = .ok (.iload_n 1, 1) := by decide +kernel
theorem dX9_settles_58 : decode cX9_settles 58 = .ok (.iload_n 2, 1) := by decide +kernel
theorem dX9_settles_59 : decode cX9_settles 59 = .ok (.invokevirtual 179, 3) := by decide +kernel
theorem dX9_settles_62 : decode cX9_settles 62 = .ok (.return_, 1) := by decide +kernel
theorem dX9_settles_63 : decode cX9_settles 63 = .ok (.iinc 2 (-1), 3) := by decide +kernel
theorem dX9_settles_66 : decode cX9_settles 66 = .ok (.goto (-48), 3) := by decide +kernel
theorem dX9_settles_69 : decode cX9_settles 69 = .ok (.return_, 1) := by decide +kernel
theorem dX9_leads_0 : decode cX9_leads 0 = .ok (.aload_n 0, 1) := by decide +kernel
theorem dX9_leads_1 : decode cX9_leads 1 = .ok (.iload_n 1, 1) := by decide +kernel
theorem dX9_leads_2 : decode cX9_leads 2 = .ok (.bipush 7, 2) := by decide +kernel
theorem dX9_leads_4 : decode cX9_leads 4 = .ok (.invokevirtual 146, 3) := by decide +kernel
theorem dX9_leads_7 : decode cX9_leads 7 = .ok (.invokestatic 122, 3) := by decide +kernel
theorem dX9_leads_10 : decode cX9_leads 10 = .ok (.aload_n 0, 1) := by decide +kernel
theorem dX9_leads_11 : decode cX9_leads 11 = .ok (.invokevirtual 169, 3) := by decide +kernel
theorem dX9_leads_14 : decode cX9_leads 14 = .ok (.if_icmp .ge 4, 3) := by decide +kernel
theorem dX9_leads_17 : decode cX9_leads 17 = .ok (.return_, 1) := by decide +kernel
theorem dX9_leads_18 : decode cX9_leads 18 = .ok (.aload_n 0, 1) := by decide +kernel
theorem dX9_leads_19 : decode cX9_leads 19 = .ok (.iload_n 1, 1) := by decide +kernel
theorem dX9_leads_20 : decode cX9_leads 20 = .ok (.iconst 5, 1) := by decide +kernel
theorem dX9_leads_21 : decode cX9_leads 21 = .ok (.iconst 2, 1) := by decide +kernel
theorem dX9_leads_22 : decode cX9_leads 22 = .ok (.invokevirtual 139, 3) := by decide +kernel
theorem dX9_leads_25 : decode cX9_leads 25 = .ok (.aload_n 0, 1) := by decide +kernel
theorem dX9_leads_26 : decode cX9_leads 26 = .ok (.iload_n 1, 1) := by decide +kernel
theorem dX9_leads_27 : decode cX9_leads 27 = .ok (.bipush 8, 2) := by decide +kernel
theorem dX9_leads_29 : decode cX9_leads 29 = .ok (.iconst 0, 1) := by decide +kernel
theorem dX9_leads_30 : decode cX9_leads 30 = .ok (.invokevirtual 139, 3) := by decide +kernel
theorem dX9_leads_33 : decode cX9_leads 33 = .ok (.iconst 0, 1) := by decide +kernel
theorem dX9_leads_34 : decode cX9_leads 34 = .ok (.istore_n 2, 1) := by decide +kernel
theorem dX9_leads_35 : decode cX9_leads 35 = .ok (.iload_n 2, 1) := by decide +kernel
theorem dX9_leads_36 : decode cX9_leads 36 = .ok (.bipush 7, 2) := by decide +kernel
theorem dX9_leads_38 : decode cX9_leads 38 = .ok (.if_icmp .ge 46, 3) := by decide +kernel
theorem dX9_leads_41 : decode cX9_leads 41 = .ok (.aload_n 0, 1) := by decide +kernel
theorem dX9_leads_42 : decode cX9_leads 42 = .ok (.iload_n 1, 1) := by decide +kernel
theorem dX9_leads_43 : decode cX9_leads 43 = .ok (.bipush 50, 2) := by decide +kernel
theorem dX9_leads_45 : decode cX9_leads 45 = .ok (.iload_n 2, 1) := by decide +kernel
theorem dX9_leads_46 : decode cX9_leads 46 = .ok (.iadd, 1) := by decide +kernel
theorem dX9_leads_47 : decode cX9_leads 47 = .ok (.aload_n 0, 1) := by decide +kernel
theorem dX9_leads_48 : decode cX9_leads 48 = .ok (.iload_n 1, 1) := by decide +kernel
theorem dX9_leads_49 : decode cX9_leads 49 = .ok (.iconst 4, 1) := by decide +kernel
theorem dX9_leads_50 : decode cX9_leads 50 = .ok (.invokevirtual 146, 3) := by decide +kernel
theorem dX9_leads_53 : decode cX9_leads 53 = .ok (.iconst 1, 1) := by decide +kernel
theorem dX9_leads_54 : decode cX9_leads 54 = .ok (.iadd, 1) := by decide +kernel
theorem dX9_leads_55 : decode cX9_leads 55 = .ok (.invokevirtual 139, 3) := by decide +kernel
theorem dX9_leads_58 : decode cX9_leads 58 = .ok (.aload_n 0, 1) := by decide +kernel
theorem dX9_leads_59 : decode cX9_leads 59 = .ok (.iload_n 1, 1) := by decide +kernel
theorem dX9_leads_60 : decode cX9_leads 60 = .ok (.bipush 57, 2) := by decide +kernel
theorem dX9_leads_62 : decode cX9_leads 62 = .ok (.iload_n 2, 1) := by decide +kernel
theorem dX9_leads_63 : decode cX9_leads 63 = .ok (.iadd, 1) := by decide +kernel
theorem dX9_leads_64 : decode cX9_leads 64 = .ok (.iconst 0, 1) := by decide +kernel
theorem dX9_leads_65 : decode cX9_leads 65 = .ok (.invokevirtual 139, 3) := by decide +kernel
theorem dX9_leads_68 : decode cX9_leads 68 = .ok (.aload_n 0, 1) := by decide +kernel
theorem dX9_leads_69 : decode cX9_leads 69 = .ok (.iload_n 1, 1) := by decide +kernel
theorem dX9_leads_70 : decode cX9_leads 70 = .ok (.bipush 64, 2) := by decide +kernel
theorem dX9_leads_72 : decode cX9_leads 72 = .ok (.iload_n 2, 1) := by decide +kernel
theorem dX9_leads_73 : decode cX9_leads 73 = .ok (.iadd, 1) := by decide +kernel
theorem dX9_leads_74 : decode cX9_leads 74 = .ok (.iconst 0, 1) := by decide +kernel
theorem dX9_leads_75 : decode cX9_leads 75 = .ok (.invokevirtual 139, 3) := by decide +kernel
theorem dX9_leads_78 : decode cX9_leads 78 = .ok (.iinc 2 1, 3) := by decide +kernel
theorem dX9_leads_81 : decode cX9_leads 81 = .ok (.goto (-46), 3) := by decide +kernel
theorem dX9_leads_84 : decode cX9_leads 84 = .ok (.aload_n 0, 1) := by decide +kernel
theorem dX9_leads_85 : decode cX9_leads 85 = .ok (.iload_n 1, 1) := by decide +kernel
theorem dX9_leads_86 : decode cX9_leads 86 = .ok (.invokevirtual 182, 3) := by decide +kernel
theorem dX9_leads_89 : decode cX9_leads 89 = .ok (.return_, 1) := by decide +kernel
theorem dX9_slotOf_0 : decode cX9_slotOf 0 = .ok (.aload_n 0, 1) := by decide +kernel
theorem dX9_slotOf_1 : decode cX9_slotOf 1 = .ok (.getfield 16, 3) := by decide +kernel
theorem dX9_slotOf_4 : decode cX9_slotOf 4 = .ok (.sipush 2240, 3) := by decide +kernel
theorem dX9_slotOf_7 : decode cX9_slotOf 7 = .ok (.bipush 64, 2) := by decide +kernel
theorem dX9_slotOf_9 : decode cX9_slotOf 9 = .ok (.iload_n 1, 1) := by decide +kernel
theorem dX9_slotOf_10 : decode cX9_slotOf 10 = .ok (.imul, 1) := by decide +kernel
theorem dX9_slotOf_11 : decode cX9_slotOf 11 = .ok (.iadd, 1) := by decide +kernel
theorem dX9_slotOf_12 : decode cX9_slotOf 12 = .ok (.iload_n 2, 1) := by decide +kernel
theorem dX9_slotOf_13 : decode cX9_slotOf 13 = .ok (.iadd, 1) := by decide +kernel
theorem dX9_slotOf_14 : decode cX9_slotOf 14 = .ok (.iaload, 1) := by decide +kernel
theorem dX9_slotOf_15 : decode cX9_slotOf 15 = .ok (.ireturn, 1) := by decide +kernel
theorem dX9_putSlot_0 : decode cX9_putSlot 0 = .ok (.aload_n 0, 1) := by decide +kernel
theorem dX9_putSlot_1 : decode cX9_putSlot 1 = .ok (.getfield 16, 3) := by decide +kernel
theorem dX9_putSlot_4 : decode cX9_putSlot 4 = .ok (.sipush 2240, 3) := by decide +kernel
theorem dX9_putSlot_7 : decode cX9_putSlot 7 = .ok (.bipush 64, 2) := by decide +kernel
theorem dX9_putSlot_9 : decode cX9_putSlot 9 = .ok (.iload_n 1, 1) := by decide +kernel
theorem dX9_putSlot_10 : decode cX9_putSlot 10 = .ok (.imul, 1) := by decide +kernel
theorem dX9_putSlot_11 : decode cX9_putSlot 11 = .ok (.iadd, 1) := by decide +kernel
theorem dX9_putSlot_12 : decode cX9_putSlot 12 = .ok (.iload_n 2, 1) := by decide +kernel
theorem dX9_putSlot_13 : decode cX9_putSlot 13 = .ok (.iadd, 1) := by decide +kernel
theorem dX9_putSlot_14 : decode cX9_putSlot 14 = .ok (.iload_n 3, 1) := by decide +kernel
theorem dX9_putSlot_15 : decode cX9_putSlot 15 = .ok (.iastore, 1) := by decide +kernel
theorem dX9_putSlot_16 : decode cX9_putSlot 16 = .ok (.return_, 1) := by decide +kernel
theorem dX9_hasLetter_0 : decode cX9_hasLetter 0 = .ok (.iload_n 1, 1) := by decide +kernel
theorem dX9_hasLetter_1 : decode cX9_hasLetter 1 = .ok (.iconst 0, 1) := by decide +kernel
theorem dX9_hasLetter_2 : decode cX9_hasLetter 2 = .ok (.bipush 39, 2) := by decide +kernel
theorem dX9_hasLetter_4 : decode cX9_hasLetter 4 = .ok (.invokestatic 132, 3) := by decide +kernel
theorem dX9_hasLetter_7 : decode cX9_hasLetter 7 = .ok (.ifCond .eq 16, 3) := by decide +kernel
theorem dX9_hasLetter_10 : decode cX9_hasLetter 10 = .ok (.aload_n 0, 1) := by decide +kernel
theorem dX9_hasLetter_11 : decode cX9_hasLetter 11 = .ok (.iload_n 1, 1) := by decide +kernel
theorem dX9_hasLetter_12 : decode cX9_hasLetter 12 = .ok (.iconst 0, 1) := by decide +kernel
theorem dX9_hasLetter_13 : decode cX9_hasLetter 13 = .ok (.invokevirtual 186, 3) := by decide +kernel
theorem dX9_hasLetter_16 : decode cX9_hasLetter 16 = .ok (.ifCond .lt 7, 3) := by decide +kernel
theorem dX9_hasLetter_19 : decode cX9_hasLetter 19 = .ok (.iconst 1, 1) := by decide +kernel
theorem dX9_hasLetter_20 : decode cX9_hasLetter 20 = .ok (.goto 4, 3) := by decide +kernel
theorem dX9_hasLetter_23 : decode cX9_hasLetter 23 = .ok (.iconst 0, 1) := by decide +kernel
theorem dX9_hasLetter_24 : decode cX9_hasLetter 24 = .ok (.ireturn, 1) := by decide +kernel
theorem dX9_empty_0 : decode cX9_empty 0 = .ok (.iconst 0, 1) := by decide +kernel
theorem dX9_empty_1 : decode cX9_empty 1 = .ok (.istore_n 1, 1) := by decide +kernel
theorem dX9_empty_2 : decode cX9_empty 2 = .ok (.iload_n 1, 1) := by decide +kernel
theorem dX9_empty_3 : decode cX9_empty 3 = .ok (.bipush 40, 2) := by decide +kernel
theorem dX9_empty_5 : decode cX9_empty 5 = .ok (.if_icmp .ge 20, 3) := by decide +kernel
theorem dX9_empty_8 : decode cX9_empty 8 = .ok (.aload_n 0, 1) := by decide +kernel
theorem dX9_empty_9 : decode cX9_empty 9 = .ok (.iload_n 1, 1) := by decide +kernel
theorem dX9_empty_10 : decode cX9_empty 10 = .ok (.iconst 0, 1) := by decide +kernel
theorem dX9_empty_11 : decode cX9_empty 11 = .ok (.invokevirtual 186, 3) := by decide +kernel
theorem dX9_empty_14 : decode cX9_empty 14 = .ok (.ifCond .ge 5, 3) := by decide +kernel
theorem dX9_empty_17 : decode cX9_empty 17 = .ok (.iload_n 1, 1) := by decide +kernel
theorem dX9_empty_18 : decode cX9_empty 18 = .ok (.ireturn, 1) := by decide +kernel
theorem dX9_empty_19 : decode cX9_empty 19 = .ok (.iinc 1 1, 3) := by decide +kernel
theorem dX9_empty_22 : decode cX9_empty 22 = .ok (.goto (-20), 3) := by decide +kernel
theorem dX9_empty_25 : decode cX9_empty 25 = .ok (.iconst (-1), 1) := by decide +kernel
theorem dX9_empty_26 : decode cX9_empty 26 = .ok (.ireturn, 1) := by decide +kernel
theorem dX9_letters_0 : decode cX9_letters 0 = .ok (.iconst 0, 1) := by decide +kernel
theorem dX9_letters_1 : decode cX9_letters 1 = .ok (.istore_n 1, 1) := by decide +kernel
theorem dX9_letters_2 : decode cX9_letters 2 = .ok (.iconst 0, 1) := by decide +kernel
theorem dX9_letters_3 : decode cX9_letters 3 = .ok (.istore_n 2, 1) := by decide +kernel
theorem dX9_letters_4 : decode cX9_letters 4 = .ok (.iload_n 2, 1) := by decide +kernel
theorem dX9_letters_5 : decode cX9_letters 5 = .ok (.bipush 40, 2) := by decide +kernel
theorem dX9_letters_7 : decode cX9_letters 7 = .ok (.if_icmp .ge 26, 3) := by decide +kernel
theorem dX9_letters_10 : decode cX9_letters 10 = .ok (.iload_n 1, 1) := by decide +kernel
theorem dX9_letters_11 : decode cX9_letters 11 = .ok (.aload_n 0, 1) := by decide +kernel
theorem dX9_letters_12 : decode cX9_letters 12 = .ok (.iload_n 2, 1) := by decide +kernel
theorem dX9_letters_13 : decode cX9_letters 13 = .ok (.iconst 0, 1) := by decide +kernel
theorem dX9_letters_14 : decode cX9_letters 14 = .ok (.invokevirtual 186, 3) := by decide +kernel
theorem dX9_letters_17 : decode cX9_letters 17 = .ok (.ifCond .lt 7, 3) := by decide +kernel
theorem dX9_letters_20 : decode cX9_letters 20 = .ok (.iconst 1, 1) := by decide +kernel
theorem dX9_letters_21 : decode cX9_letters 21 = .ok (.goto 4, 3) := by decide +kernel
theorem dX9_letters_24 : decode cX9_letters 24 = .ok (.iconst 0, 1) := by decide +kernel
theorem dX9_letters_25 : decode cX9_letters 25 = .ok (.iadd, 1) := by decide +kernel
theorem dX9_letters_26 : decode cX9_letters 26 = .ok (.istore_n 1, 1) := by decide +kernel
theorem dX9_letters_27 : decode cX9_letters 27 = .ok (.iinc 2 1, 3) := by decide +kernel
theorem dX9_letters_30 : decode cX9_letters 30 = .ok (.goto (-26), 3) := by decide +kernel
theorem dX9_letters_33 : decode cX9_letters 33 = .ok (.iload_n 1, 1) := by decide +kernel
theorem dX9_letters_34 : decode cX9_letters 34 = .ok (.ireturn, 1) := by decide +kernel
theorem dX9_sends_0 : decode cX9_sends 0 = .ok (.aload_n 0, 1) := by decide +kernel
theorem dX9_sends_1 : decode cX9_sends 1 = .ok (.invokevirtual 189, 3) := by decide +kernel
theorem dX9_sends_4 : decode cX9_sends 4 = .ok (.istore 6, 2) := by decide +kernel
theorem dX9_sends_6 : decode cX9_sends 6 = .ok (.iconst 0, 1) := by decide +kernel
theorem dX9_sends_7 : decode cX9_sends 7 = .ok (.istore 7, 2) := by decide +kernel
theorem dX9_sends_9 : decode cX9_sends 9 = .ok (.iload 7, 2) := by decide +kernel
theorem dX9_sends_11 : decode cX9_sends 11 = .ok (.bipush 64, 2) := by decide +kernel
theorem dX9_sends_13 : decode cX9_sends 13 = .ok (.if_icmp .ge 18, 3) := by decide +kernel
theorem dX9_sends_16 : decode cX9_sends 16 = .ok (.aload_n 0, 1) := by decide +kernel
theorem dX9_sends_17 : decode cX9_sends 17 = .ok (.iload 6, 2) := by decide +kernel
theorem dX9_sends_19 : decode cX9_sends 19 = .ok (.iload 7, 2) := by decide +kernel
theorem dX9_sends_21 : decode cX9_sends 21 = .ok (.iconst 0, 1) := by decide +kernel
theorem dX9_sends_22 : decode cX9_sends 22 = .ok (.invokevirtual 192, 3) := by decide +kernel
theorem dX9_sends_25 : decode cX9_sends 25 = .ok (.iinc 7 1, 3) := by decide +kernel
theorem dX9_sends_28 : decode cX9_sends 28 = .ok (.goto (-19), 3) := by decide +kernel
theorem dX9_sends_31 : decode cX9_sends 31 = .ok (.aload_n 0, 1) := by decide +kernel
theorem dX9_sends_32 : decode cX9_sends 32 = .ok (.iload 6, 2) := by decide +kernel
theorem dX9_sends_34 : decode cX9_sends 34 = .ok (.iconst 0, 1) := by decide +kernel
theorem dX9_sends_35 : decode cX9_sends 35 = .ok (.iload_n 1, 1) := by decide +kernel
theorem dX9_sends_36 : decode cX9_sends 36 = .ok (.invokevirtual 192, 3) := by decide +kernel
theorem dX9_sends_39 : decode cX9_sends 39 = .ok (.aload_n 0, 1) := by decide +kernel
theorem dX9_sends_40 : decode cX9_sends 40 = .ok (.iload 6, 2) := by decide +kernel
theorem dX9_sends_42 : decode cX9_sends 42 = .ok (.iconst 1, 1) := by decide +kernel
theorem dX9_sends_43 : decode cX9_sends 43 = .ok (.iload_n 2, 1) := by decide +kernel
theorem dX9_sends_44 : decode cX9_sends 44 = .ok (.invokevirtual 192, 3) := by decide +kernel
theorem dX9_sends_47 : decode cX9_sends 47 = .ok (.aload_n 0, 1) := by decide +kernel
theorem dX9_sends_48 : decode cX9_sends 48 = .ok (.iload 6, 2) := by decide +kernel
theorem dX9_sends_50 : decode cX9_sends 50 = .ok (.iconst 2, 1) := by decide +kernel
theorem dX9_sends_51 : decode cX9_sends 51 = .ok (.iload_n 3, 1) := by decide +kernel
theorem dX9_sends_52 : decode cX9_sends 52 = .ok (.invokevirtual 192, 3) := by decide +kernel
theorem dX9_sends_55 : decode cX9_sends 55 = .ok (.aload_n 0, 1) := by decide +kernel
theorem dX9_sends_56 : decode cX9_sends 56 = .ok (.iload 6, 2) := by decide +kernel
theorem dX9_sends_58 : decode cX9_sends 58 = .ok (.iconst 3, 1) := by decide +kernel
theorem dX9_sends_59 : decode cX9_sends 59 = .ok (.aload_n 0, 1) := by decide +kernel
theorem dX9_sends_60 : decode cX9_sends 60 = .ok (.iload_n 2, 1) := by decide +kernel
theorem dX9_sends_61 : decode cX9_sends 61 = .ok (.iconst 0, 1) := by decide +kernel
theorem dX9_sends_62 : decode cX9_sends 62 = .ok (.invokevirtual 146, 3) := by decide +kernel
theorem dX9_sends_65 : decode cX9_sends 65 = .ok (.invokevirtual 192, 3) := by decide +kernel
end
section
theorem dX9_sends_68 : decode cX9_sends 68 = .ok (.aload_n 0, 1) := by decide +kernel
theorem dX9_sends_69 : decode cX9_sends 69 = .ok (.iload 6, 2) := by decide +kernel
theorem dX9_sends_71 : decode cX9_sends 71 = .ok (.iconst 4, 1) := by decide +kernel
theorem dX9_sends_72 : decode cX9_sends 72 = .ok (.iload 4, 2) := by decide +kernel
theorem dX9_sends_74 : decode cX9_sends 74 = .ok (.invokevirtual 192, 3) := by decide +kernel
theorem dX9_sends_77 : decode cX9_sends 77 = .ok (.aload_n 0, 1) := by decide +kernel
theorem dX9_sends_78 : decode cX9_sends 78 = .ok (.iload 6, 2) := by decide +kernel
theorem dX9_sends_80 : decode cX9_sends 80 = .ok (.iconst 5, 1) := by decide +kernel
theorem dX9_sends_81 : decode cX9_sends 81 = .ok (.iload 5, 2) := by decide +kernel
theorem dX9_sends_83 : decode cX9_sends 83 = .ok (.invokevirtual 192, 3) := by decide +kernel
theorem dX9_sends_86 : decode cX9_sends 86 = .ok (.iload 6, 2) := by decide +kernel
theorem dX9_sends_88 : decode cX9_sends 88 = .ok (.ireturn, 1) := by decide +kernel
theorem dX9_ask_0 : decode cX9_ask 0 = .ok (.aload_n 0, 1) := by decide +kernel
theorem dX9_ask_1 : decode cX9_ask 1 = .ok (.iload_n 1, 1) := by decide +kernel
theorem dX9_ask_2 : decode cX9_ask 2 = .ok (.invokevirtual 150, 3) := by decide +kernel
theorem dX9_ask_5 : decode cX9_ask 5 = .ok (.ifCond .eq 37, 3) := by decide +kernel
theorem dX9_ask_8 : decode cX9_ask 8 = .ok (.aload_n 0, 1) := by decide +kernel
theorem dX9_ask_9 : decode cX9_ask 9 = .ok (.iload_n 1, 1) := by decide +kernel
theorem dX9_ask_10 : decode cX9_ask 10 = .ok (.invokevirtual 166, 3) := by decide +kernel
theorem dX9_ask_13 : decode cX9_ask 13 = .ok (.ifCond .eq 29, 3) := by decide +kernel
theorem dX9_ask_16 : decode cX9_ask 16 = .ok (.aload_n 0, 1) := by decide +kernel
theorem dX9_ask_17 : decode cX9_ask 17 = .ok (.iload_n 1, 1) := by decide +kernel
theorem dX9_ask_18 : decode cX9_ask 18 = .ok (.iconst 5, 1) := by decide +kernel
theorem dX9_ask_19 : decode cX9_ask 19 = .ok (.invokevirtual 146, 3) := by decide +kernel
theorem dX9_ask_22 : decode cX9_ask 22 = .ok (.iconst 2, 1) := by decide +kernel
theorem dX9_ask_23 : decode cX9_ask 23 = .ok (.if_icmp .eq 19, 3) := by decide +kernel
theorem dX9_ask_26 : decode cX9_ask 26 = .ok (.bipush 40, 2) := by decide +kernel
theorem dX9_ask_28 : decode cX9_ask 28 = .ok (.aload_n 0, 1) := by decide +kernel
theorem dX9_ask_29 : decode cX9_ask 29 = .ok (.invokevirtual 195, 3) := by decide +kernel
theorem dX9_ask_32 : decode cX9_ask 32 = .ok (.isub, 1) := by decide +kernel
theorem dX9_ask_33 : decode cX9_ask 33 = .ok (.aload_n 0, 1) := by decide +kernel
theorem dX9_ask_34 : decode cX9_ask 34 = .ok (.invokevirtual 136, 3) := by decide +kernel
theorem dX9_ask_37 : decode cX9_ask 37 = .ok (.iconst 1, 1) := by decide +kernel
theorem dX9_ask_38 : decode cX9_ask 38 = .ok (.isub, 1) := by decide +kernel
theorem dX9_ask_39 : decode cX9_ask 39 = .ok (.if_icmp .ge 5, 3) := by decide +kernel
theorem dX9_ask_42 : decode cX9_ask 42 = .ok (.iconst (-1), 1) := by decide +kernel
theorem dX9_ask_43 : decode cX9_ask 43 = .ok (.ireturn, 1) := by decide +kernel
theorem dX9_ask_44 : decode cX9_ask 44 = .ok (.aload_n 0, 1) := by decide +kernel
theorem dX9_ask_45 : decode cX9_ask 45 = .ok (.iload_n 1, 1) := by decide +kernel
theorem dX9_ask_46 : decode cX9_ask 46 = .ok (.iconst 0, 1) := by decide +kernel
theorem dX9_ask_47 : decode cX9_ask 47 = .ok (.aload_n 0, 1) := by decide +kernel
theorem dX9_ask_48 : decode cX9_ask 48 = .ok (.iload_n 1, 1) := by decide +kernel
theorem dX9_ask_49 : decode cX9_ask 49 = .ok (.iconst 0, 1) := by decide +kernel
theorem dX9_ask_50 : decode cX9_ask 50 = .ok (.invokevirtual 146, 3) := by decide +kernel
theorem dX9_ask_53 : decode cX9_ask 53 = .ok (.iconst 1, 1) := by decide +kernel
theorem dX9_ask_54 : decode cX9_ask 54 = .ok (.iadd, 1) := by decide +kernel
theorem dX9_ask_55 : decode cX9_ask 55 = .ok (.invokevirtual 139, 3) := by decide +kernel
theorem dX9_ask_58 : decode cX9_ask 58 = .ok (.aload_n 0, 1) := by decide +kernel
theorem dX9_ask_59 : decode cX9_ask 59 = .ok (.iload_n 1, 1) := by decide +kernel
theorem dX9_ask_60 : decode cX9_ask 60 = .ok (.iconst 1, 1) := by decide +kernel
theorem dX9_ask_61 : decode cX9_ask 61 = .ok (.iload_n 1, 1) := by decide +kernel
theorem dX9_ask_62 : decode cX9_ask 62 = .ok (.invokevirtual 139, 3) := by decide +kernel
theorem dX9_ask_65 : decode cX9_ask 65 = .ok (.aload_n 0, 1) := by decide +kernel
theorem dX9_ask_66 : decode cX9_ask 66 = .ok (.iload_n 1, 1) := by decide +kernel
theorem dX9_ask_67 : decode cX9_ask 67 = .ok (.iconst 5, 1) := by decide +kernel
theorem dX9_ask_68 : decode cX9_ask 68 = .ok (.iconst 1, 1) := by decide +kernel
theorem dX9_ask_69 : decode cX9_ask 69 = .ok (.invokevirtual 139, 3) := by decide +kernel
theorem dX9_ask_72 : decode cX9_ask 72 = .ok (.aload_n 0, 1) := by decide +kernel
theorem dX9_ask_73 : decode cX9_ask 73 = .ok (.iload_n 1, 1) := by decide +kernel
theorem dX9_ask_74 : decode cX9_ask 74 = .ok (.bipush 7, 2) := by decide +kernel
theorem dX9_ask_76 : decode cX9_ask 76 = .ok (.iconst 1, 1) := by decide +kernel
theorem dX9_ask_77 : decode cX9_ask 77 = .ok (.iload_n 1, 1) := by decide +kernel
theorem dX9_ask_78 : decode cX9_ask 78 = .ok (.ishl, 1) := by decide +kernel
theorem dX9_ask_79 : decode cX9_ask 79 = .ok (.invokevirtual 139, 3) := by decide +kernel
theorem dX9_ask_82 : decode cX9_ask 82 = .ok (.iconst 0, 1) := by decide +kernel
theorem dX9_ask_83 : decode cX9_ask 83 = .ok (.istore_n 2, 1) := by decide +kernel
theorem dX9_ask_84 : decode cX9_ask 84 = .ok (.iload_n 2, 1) := by decide +kernel
theorem dX9_ask_85 : decode cX9_ask 85 = .ok (.aload_n 0, 1) := by decide +kernel
theorem dX9_ask_86 : decode cX9_ask 86 = .ok (.invokevirtual 128, 3) := by decide +kernel
theorem dX9_ask_89 : decode cX9_ask 89 = .ok (.if_icmp .ge 47, 3) := by decide +kernel
theorem dX9_ask_92 : decode cX9_ask 92 = .ok (.iload_n 2, 1) := by decide +kernel
theorem dX9_ask_93 : decode cX9_ask 93 = .ok (.iload_n 1, 1) := by decide +kernel
theorem dX9_ask_94 : decode cX9_ask 94 = .ok (.if_icmp .eq 36, 3) := by decide +kernel
theorem dX9_ask_97 : decode cX9_ask 97 = .ok (.aload_n 0, 1) := by decide +kernel
theorem dX9_ask_98 : decode cX9_ask 98 = .ok (.iload_n 2, 1) := by decide +kernel
theorem dX9_ask_99 : decode cX9_ask 99 = .ok (.invokevirtual 166, 3) := by decide +kernel
theorem dX9_ask_102 : decode cX9_ask 102 = .ok (.ifCond .eq 28, 3) := by decide +kernel
theorem dX9_ask_105 : decode cX9_ask 105 = .ok (.aload_n 0, 1) := by decide +kernel
theorem dX9_ask_106 : decode cX9_ask 106 = .ok (.iconst 0, 1) := by decide +kernel
theorem dX9_ask_107 : decode cX9_ask 107 = .ok (.iload_n 1, 1) := by decide +kernel
theorem dX9_ask_108 : decode cX9_ask 108 = .ok (.iload_n 2, 1) := by decide +kernel
theorem dX9_ask_109 : decode cX9_ask 109 = .ok (.aload_n 0, 1) := by decide +kernel
theorem dX9_ask_110 : decode cX9_ask 110 = .ok (.iload_n 1, 1) := by decide +kernel
theorem dX9_ask_111 : decode cX9_ask 111 = .ok (.iconst 4, 1) := by decide +kernel
theorem dX9_ask_112 : decode cX9_ask 112 = .ok (.invokevirtual 146, 3) := by decide +kernel
theorem dX9_ask_115 : decode cX9_ask 115 = .ok (.aload_n 0, 1) := by decide +kernel
theorem dX9_ask_116 : decode cX9_ask 116 = .ok (.iload_n 1, 1) := by decide +kernel
theorem dX9_ask_117 : decode cX9_ask 117 = .ok (.aload_n 0, 1) := by decide +kernel
theorem dX9_ask_118 : decode cX9_ask 118 = .ok (.iload_n 1, 1) := by decide +kernel
theorem dX9_ask_119 : decode cX9_ask 119 = .ok (.iconst 4, 1) := by decide +kernel
theorem dX9_ask_120 : decode cX9_ask 120 = .ok (.invokevirtual 146, 3) := by decide +kernel
theorem dX9_ask_123 : decode cX9_ask 123 = .ok (.invokevirtual 172, 3) := by decide +kernel
theorem dX9_ask_126 : decode cX9_ask 126 = .ok (.invokevirtual 198, 3) := by decide +kernel
theorem dX9_ask_129 : decode cX9_ask 129 = .ok (.pop, 1) := by decide +kernel
theorem dX9_ask_130 : decode cX9_ask 130 = .ok (.iinc 2 1, 3) := by decide +kernel
theorem dX9_ask_133 : decode cX9_ask 133 = .ok (.goto (-49), 3) := by decide +kernel
theorem dX9_ask_136 : decode cX9_ask 136 = .ok (.aload_n 0, 1) := by decide +kernel
theorem dX9_ask_137 : decode cX9_ask 137 = .ok (.iload_n 1, 1) := by decide +kernel
theorem dX9_ask_138 : decode cX9_ask 138 = .ok (.invokevirtual 202, 3) := by decide +kernel
theorem dX9_ask_141 : decode cX9_ask 141 = .ok (.aload_n 0, 1) := by decide +kernel
theorem dX9_ask_142 : decode cX9_ask 142 = .ok (.iload_n 1, 1) := by decide +kernel
theorem dX9_ask_143 : decode cX9_ask 143 = .ok (.iconst 0, 1) := by decide +kernel
theorem dX9_ask_144 : decode cX9_ask 144 = .ok (.invokevirtual 146, 3) := by decide +kernel
theorem dX9_ask_147 : decode cX9_ask 147 = .ok (.ireturn, 1) := by decide +kernel
theorem dX9_append_0 : decode cX9_append 0 = .ok (.aload_n 0, 1) := by decide +kernel
theorem dX9_append_1 : decode cX9_append 1 = .ok (.iload_n 1, 1) := by decide +kernel
theorem dX9_append_2 : decode cX9_append 2 = .ok (.invokevirtual 205, 3) := by decide +kernel
theorem dX9_append_5 : decode cX9_append 5 = .ok (.ifCond .eq 23, 3) := by decide +kernel
theorem dX9_append_8 : decode cX9_append 8 = .ok (.aload_n 0, 1) := by decide +kernel
theorem dX9_append_9 : decode cX9_append 9 = .ok (.iload_n 2, 1) := by decide +kernel
theorem dX9_append_10 : decode cX9_append 10 = .ok (.invokevirtual 143, 3) := by decide +kernel
theorem dX9_append_13 : decode cX9_append 13 = .ok (.ifCond .eq 15, 3) := by decide +kernel
theorem dX9_append_16 : decode cX9_append 16 = .ok (.iload_n 1, 1) := by decide +kernel
theorem dX9_append_17 : decode cX9_append 17 = .ok (.iload_n 2, 1) := by decide +kernel
theorem dX9_append_18 : decode cX9_append 18 = .ok (.if_icmp .eq 10, 3) := by decide +kernel
theorem dX9_append_21 : decode cX9_append 21 = .ok (.aload_n 0, 1) := by decide +kernel
theorem dX9_append_22 : decode cX9_append 22 = .ok (.invokevirtual 189, 3) := by decide +kernel
theorem dX9_append_25 : decode cX9_append 25 = .ok (.ifCond .ge 5, 3) := by decide +kernel
theorem dX9_append_28 : decode cX9_append 28 = .ok (.iconst (-1), 1) := by decide +kernel
theorem dX9_append_29 : decode cX9_append 29 = .ok (.ireturn, 1) := by decide +kernel
theorem dX9_append_30 : decode cX9_append 30 = .ok (.aload_n 0, 1) := by decide +kernel
theorem dX9_append_31 : decode cX9_append 31 = .ok (.iload_n 1, 1) := by decide +kernel
theorem dX9_append_32 : decode cX9_append 32 = .ok (.bipush 8, 2) := by decide +kernel
theorem dX9_append_34 : decode cX9_append 34 = .ok (.aload_n 0, 1) := by decide +kernel
theorem dX9_append_35 : decode cX9_append 35 = .ok (.iload_n 1, 1) := by decide +kernel
theorem dX9_append_36 : decode cX9_append 36 = .ok (.bipush 8, 2) := by decide +kernel
theorem dX9_append_38 : decode cX9_append 38 = .ok (.invokevirtual 146, 3) := by decide +kernel
theorem dX9_append_41 : decode cX9_append 41 = .ok (.iconst 1, 1) := by decide +kernel
theorem dX9_append_42 : decode cX9_append 42 = .ok (.iadd, 1) := by decide +kernel
theorem dX9_append_43 : decode cX9_append 43 = .ok (.invokevirtual 139, 3) := by decide +kernel
theorem dX9_append_46 : decode cX9_append 46 = .ok (.aload_n 0, 1) := by decide +kernel
theorem dX9_append_47 : decode cX9_append 47 = .ok (.iload_n 1, 1) := by decide +kernel
theorem dX9_append_48 : decode cX9_append 48 = .ok (.bipush 50, 2) := by decide +kernel
theorem dX9_append_50 : decode cX9_append 50 = .ok (.iload_n 2, 1) := by decide +kernel
theorem dX9_append_51 : decode cX9_append 51 = .ok (.iadd, 1) := by decide +kernel
theorem dX9_append_52 : decode cX9_append 52 = .ok (.invokevirtual 146, 3) := by decide +kernel
theorem dX9_append_55 : decode cX9_append 55 = .ok (.istore_n 3, 1) := by decide +kernel
theorem dX9_append_56 : decode cX9_append 56 = .ok (.iload_n 3, 1) := by decide +kernel
theorem dX9_append_57 : decode cX9_append 57 = .ok (.aload_n 0, 1) := by decide +kernel
theorem dX9_append_58 : decode cX9_append 58 = .ok (.iload_n 1, 1) := by decide +kernel
theorem dX9_append_59 : decode cX9_append 59 = .ok (.iconst 2, 1) := by decide +kernel
theorem dX9_append_60 : decode cX9_append 60 = .ok (.invokevirtual 146, 3) := by decide +kernel
theorem dX9_append_63 : decode cX9_append 63 = .ok (.if_icmp .gt 7, 3) := by decide +kernel
theorem dX9_append_66 : decode cX9_append 66 = .ok (.iconst 1, 1) := by decide +kernel
theorem dX9_append_67 : decode cX9_append 67 = .ok (.goto 4, 3) := by decide +kernel
theorem dX9_append_70 : decode cX9_append 70 = .ok (.iconst 0, 1) := by decide +kernel
theorem dX9_append_71 : decode cX9_append 71 = .ok (.istore 4, 2) := by decide +kernel
theorem dX9_append_73 : decode cX9_append 73 = .ok (.iload 4, 2) := by decide +kernel
theorem dX9_append_75 : decode cX9_append 75 = .ok (.ifCond .eq 25, 3) := by decide +kernel
theorem dX9_append_78 : decode cX9_append 78 = .ok (.aload_n 0, 1) := by decide +kernel
theorem dX9_append_79 : decode cX9_append 79 = .ok (.iconst 4, 1) := by decide +kernel
theorem dX9_append_80 : decode cX9_append 80 = .ok (.iload_n 1, 1) := by decide +kernel
theorem dX9_append_81 : decode cX9_append 81 = .ok (.iload_n 2, 1) := by decide +kernel
theorem dX9_append_82 : decode cX9_append 82 = .ok (.aload_n 0, 1) := by decide +kernel
theorem dX9_append_83 : decode cX9_append 83 = .ok (.iload_n 1, 1) := by decide +kernel
theorem dX9_append_84 : decode cX9_append 84 = .ok (.iconst 2, 1) := by decide +kernel
theorem dX9_append_85 : decode cX9_append 85 = .ok (.invokevirtual 146, 3) := by decide +kernel
theorem dX9_append_88 : decode cX9_append 88 = .ok (.aload_n 0, 1) := by decide +kernel
theorem dX9_append_89 : decode cX9_append 89 = .ok (.iload_n 1, 1) := by decide +kernel
theorem dX9_append_90 : decode cX9_append 90 = .ok (.iconst 3, 1) := by decide +kernel
theorem dX9_append_91 : decode cX9_append 91 = .ok (.invokevirtual 146, 3) := by decide +kernel
theorem dX9_append_94 : decode cX9_append 94 = .ok (.invokevirtual 198, 3) := by decide +kernel
theorem dX9_append_97 : decode cX9_append 97 = .ok (.goto 21, 3) := by decide +kernel
theorem dX9_append_100 : decode cX9_append 100 = .ok (.aload_n 0, 1) := by decide +kernel
theorem dX9_append_101 : decode cX9_append 101 = .ok (.iconst 2, 1) := by decide +kernel
theorem dX9_append_102 : decode cX9_append 102 = .ok (.iload_n 1, 1) := by decide +kernel
theorem dX9_append_103 : decode cX9_append 103 = .ok (.iload_n 2, 1) := by decide +kernel
theorem dX9_append_104 : decode cX9_append 104 = .ok (.iload_n 3, 1) := by decide +kernel
theorem dX9_append_105 : decode cX9_append 105 = .ok (.iconst 1, 1) := by decide +kernel
theorem dX9_append_106 : decode cX9_append 106 = .ok (.isub, 1) := by decide +kernel
theorem dX9_append_107 : decode cX9_append 107 = .ok (.aload_n 0, 1) := by decide +kernel
theorem dX9_append_108 : decode cX9_append 108 = .ok (.iload_n 1, 1) := by decide +kernel
theorem dX9_append_109 : decode cX9_append 109 = .ok (.iload_n 3, 1) := by decide +kernel
theorem dX9_append_110 : decode cX9_append 110 = .ok (.iconst 1, 1) := by decide +kernel
theorem dX9_append_111 : decode cX9_append 111 = .ok (.isub, 1) := by decide +kernel
theorem dX9_append_112 : decode cX9_append 112 = .ok (.invokevirtual 172, 3) := by decide +kernel
theorem dX9_append_115 : decode cX9_append 115 = .ok (.invokevirtual 198, 3) := by decide +kernel
theorem dX9_append_118 : decode cX9_append 118 = .ok (.istore 5, 2) := by decide +kernel
theorem dX9_append_120 : decode cX9_append 120 = .ok (.aload_n 0, 1) := by decide +kernel
theorem dX9_append_121 : decode cX9_append 121 = .ok (.iload 5, 2) := by decide +kernel
theorem dX9_append_123 : decode cX9_append 123 = .ok (.bipush 8, 2) := by decide +kernel
theorem dX9_append_125 : decode cX9_append 125 = .ok (.aload_n 0, 1) := by decide +kernel
theorem dX9_append_126 : decode cX9_append 126 = .ok (.iload_n 1, 1) := by decide +kernel
theorem dX9_append_127 : decode cX9_append 127 = .ok (.bipush 8, 2) := by decide +kernel
theorem dX9_append_129 : decode cX9_append 129 = .ok (.invokevirtual 146, 3) := by decide +kernel
theorem dX9_append_132 : decode cX9_append 132 = .ok (.invokevirtual 192, 3) := by decide +kernel
theorem dX9_append_135 : decode cX9_append 135 = .ok (.iload 4, 2) := by decide +kernel
theorem dX9_append_137 : decode cX9_append 137 = .ok (.ifCond .eq 32, 3) := by decide +kernel
theorem dX9_append_140 : decode cX9_append 140 = .ok (.aload_n 0, 1) := by decide +kernel
theorem dX9_append_141 : decode cX9_append 141 = .ok (.sipush 320, 3) := by decide +kernel
theorem dX9_append_144 : decode cX9_append 144 = .ok (.iload_n 1, 1) := by decide +kernel
theorem dX9_append_145 : decode cX9_append 145 = .ok (.imul, 1) := by decide +kernel
theorem dX9_append_146 : decode cX9_append 146 = .ok (.bipush 10, 2) := by decide +kernel
theorem dX9_append_148 : decode cX9_append 148 = .ok (.iadd, 1) := by decide +kernel
theorem dX9_append_149 : decode cX9_append 149 = .ok (.sipush 2240, 3) := by decide +kernel
theorem dX9_append_152 : decode cX9_append 152 = .ok (.bipush 64, 2) := by decide +kernel
theorem dX9_append_154 : decode cX9_append 154 = .ok (.iload 5, 2) := by decide +kernel
theorem dX9_append_156 : decode cX9_append 156 = .ok (.imul, 1) := by decide +kernel
theorem dX9_append_157 : decode cX9_append 157 = .ok (.iadd, 1) := by decide +kernel
theorem dX9_append_158 : decode cX9_append 158 = .ok (.bipush 10, 2) := by decide +kernel
theorem dX9_append_160 : decode cX9_append 160 = .ok (.iadd, 1) := by decide +kernel
theorem dX9_append_161 : decode cX9_append 161 = .ok (.bipush 20, 2) := by decide +kernel
theorem dX9_append_163 : decode cX9_append 163 = .ok (.invokevirtual 208, 3) := by decide +kernel
theorem dX9_append_166 : decode cX9_append 166 = .ok (.goto 103, 3) := by decide +kernel
theorem dX9_append_169 : decode cX9_append 169 = .ok (.aload_n 0, 1) := by decide +kernel
theorem dX9_append_170 : decode cX9_append 170 = .ok (.iload_n 1, 1) := by decide +kernel
theorem dX9_append_171 : decode cX9_append 171 = .ok (.iconst 4, 1) := by decide +kernel
theorem dX9_append_172 : decode cX9_append 172 = .ok (.invokevirtual 146, 3) := by decide +kernel
theorem dX9_append_175 : decode cX9_append 175 = .ok (.iload_n 3, 1) := by decide +kernel
theorem dX9_append_176 : decode cX9_append 176 = .ok (.isub, 1) := by decide +kernel
theorem dX9_append_177 : decode cX9_append 177 = .ok (.iconst 1, 1) := by decide +kernel
theorem dX9_append_178 : decode cX9_append 178 = .ok (.iadd, 1) := by decide +kernel
theorem dX9_append_179 : decode cX9_append 179 = .ok (.istore 6, 2) := by decide +kernel
theorem dX9_append_181 : decode cX9_append 181 = .ok (.iload 6, 2) := by decide +kernel
theorem dX9_append_183 : decode cX9_append 183 = .ok (.iconst 5, 1) := by decide +kernel
theorem dX9_append_184 : decode cX9_append 184 = .ok (.if_icmp .ge 8, 3) := by decide +kernel
theorem dX9_append_187 : decode cX9_append 187 = .ok (.iload 6, 2) := by decide +kernel
theorem dX9_append_189 : decode cX9_append 189 = .ok (.goto 4, 3) := by decide +kernel
theorem dX9_append_192 : decode cX9_append 192 = .ok (.iconst 5, 1) := by decide +kernel
theorem dX9_append_193 : decode cX9_append 193 = .ok (.istore 6, 2) := by decide +kernel
theorem dX9_append_195 : decode cX9_append 195 = .ok (.aload_n 0, 1) := by decide +kernel
theorem dX9_append_196 : decode cX9_append 196 = .ok (.iload 5, 2) := by decide +kernel
theorem dX9_append_198 : decode cX9_append 198 = .ok (.bipush 6, 2) := by decide +kernel
theorem dX9_append_200 : decode cX9_append 200 = .ok (.iload 6, 2) := by decide +kernel
theorem dX9_append_202 : decode cX9_append 202 = .ok (.invokevirtual 192, 3) := by decide +kernel
theorem dX9_append_205 : decode cX9_append 205 = .ok (.aload_n 0, 1) := by decide +kernel
theorem dX9_append_206 : decode cX9_append 206 = .ok (.iload 5, 2) := by decide +kernel
theorem dX9_append_208 : decode cX9_append 208 = .ok (.bipush 7, 2) := by decide +kernel
theorem dX9_append_210 : decode cX9_append 210 = .ok (.aload_n 0, 1) := by decide +kernel
theorem dX9_append_211 : decode cX9_append 211 = .ok (.iload_n 1, 1) := by decide +kernel
theorem dX9_append_212 : decode cX9_append 212 = .ok (.bipush 6, 2) := by decide +kernel
theorem dX9_append_214 : decode cX9_append 214 = .ok (.invokevirtual 146, 3) := by decide +kernel
theorem dX9_append_217 : decode cX9_append 217 = .ok (.invokevirtual 192, 3) := by decide +kernel
theorem dX9_append_220 : decode cX9_append 220 = .ok (.iconst 0, 1) := by decide +kernel
theorem dX9_append_221 : decode cX9_append 221 = .ok (.istore 7, 2) := by decide +kernel
theorem dX9_append_223 : decode cX9_append 223 = .ok (.iload 7, 2) := by decide +kernel
theorem dX9_append_225 : decode cX9_append 225 = .ok (.iload 6, 2) := by decide +kernel
theorem dX9_append_227 : decode cX9_append 227 = .ok (.if_icmp .ge 42, 3) := by decide +kernel
theorem dX9_append_230 : decode cX9_append 230 = .ok (.aload_n 0, 1) := by decide +kernel
theorem dX9_append_231 : decode cX9_append 231 = .ok (.aload_n 0, 1) := by decide +kernel
theorem dX9_append_232 : decode cX9_append 232 = .ok (.iload_n 1, 1) := by decide +kernel
theorem dX9_append_233 : decode cX9_append 233 = .ok (.iload_n 3, 1) := by decide +kernel
theorem dX9_append_234 : decode cX9_append 234 = .ok (.iload 7, 2) := by decide +kernel
theorem dX9_append_236 : decode cX9_append 236 = .ok (.iadd, 1) := by decide +kernel
theorem dX9_append_237 : decode cX9_append 237 = .ok (.invokevirtual 153, 3) := by decide +kernel
theorem dX9_append_240 : decode cX9_append 240 = .ok (.sipush 2240, 3) := by decide +kernel
theorem dX9_append_243 : decode cX9_append 243 = .ok (.bipush 64, 2) := by decide +kernel
theorem dX9_append_245 : decode cX9_append 245 = .ok (.iload 5, 2) := by decide +kernel
theorem dX9_append_247 : decode cX9_append 247 = .ok (.imul, 1) := by decide +kernel
theorem dX9_append_248 : decode cX9_append 248 = .ok (.iadd, 1) := by decide +kernel
theorem dX9_append_249 : decode cX9_append 249 = .ok (.bipush 10, 2) := by decide +kernel
theorem dX9_append_251 : decode cX9_append 251 = .ok (.iadd, 1) := by decide +kernel
theorem dX9_append_252 : decode cX9_append 252 = .ok (.bipush 6, 2) := by decide +kernel
theorem dX9_append_254 : decode cX9_append 254 = .ok (.iload 7, 2) := by decide +kernel
theorem dX9_append_256 : decode cX9_append 256 = .ok (.imul, 1) := by decide +kernel
theorem dX9_append_257 : decode cX9_append 257 = .ok (.iadd, 1) := by decide +kernel
theorem dX9_append_258 : decode cX9_append 258 = .ok (.bipush 6, 2) := by decide +kernel
theorem dX9_append_260 : decode cX9_append 260 = .ok (.invokevirtual 208, 3) := by decide +kernel
theorem dX9_append_263 : decode cX9_append 263 = .ok (.iinc 7 1, 3) := by decide +kernel
theorem dX9_append_266 : decode cX9_append 266 = .ok (.goto (-43), 3) := by decide +kernel
theorem dX9_append_269 : decode cX9_append 269 = .ok (.aload_n 0, 1) := by decide +kernel
theorem dX9_append_270 : decode cX9_append 270 = .ok (.iload_n 1, 1) := by decide +kernel
theorem dX9_append_271 : decode cX9_append 271 = .ok (.invokevirtual 182, 3) := by decide +kernel
theorem dX9_append_274 : decode cX9_append 274 = .ok (.iload 5, 2) := by decide +kernel
theorem dX9_append_276 : decode cX9_append 276 = .ok (.ireturn, 1) := by decide +kernel
theorem dX9_command_0 : decode cX9_command 0 = .ok (.aload_n 0, 1) := by decide +kernel
theorem dX9_command_1 : decode cX9_command 1 = .ok (.iload_n 1, 1) := by decide +kernel
theorem dX9_command_2 : decode cX9_command 2 = .ok (.invokevirtual 205, 3) := by decide +kernel
theorem dX9_command_5 : decode cX9_command 5 = .ok (.ifCond .eq 61, 3) := by decide +kernel
theorem dX9_command_8 : decode cX9_command 8 = .ok (.aload_n 0, 1) := by decide +kernel
theorem dX9_command_9 : decode cX9_command 9 = .ok (.iload_n 1, 1) := by decide +kernel
theorem dX9_command_10 : decode cX9_command 10 = .ok (.iconst 4, 1) := by decide +kernel
theorem dX9_command_11 : decode cX9_command 11 = .ok (.invokevirtual 146, 3) := by decide +kernel
theorem dX9_command_14 : decode cX9_command 14 = .ok (.aload_n 0, 1) := by decide +kernel
theorem dX9_command_15 : decode cX9_command 15 = .ok (.iload_n 1, 1) := by decide +kernel
theorem dX9_command_16 : decode cX9_command 16 = .ok (.iconst 2, 1) := by decide +kernel
theorem dX9_command_17 : decode cX9_command 17 = .ok (.invokevirtual 146, 3) := by decide +kernel
theorem dX9_command_20 : decode cX9_command 20 = .ok (.isub, 1) := by decide +kernel
theorem dX9_command_21 : decode cX9_command 21 = .ok (.bipush 40, 2) := by decide +kernel
theorem dX9_command_23 : decode cX9_command 23 = .ok (.if_icmp .ge 43, 3) := by decide +kernel
theorem dX9_command_26 : decode cX9_command 26 = .ok (.iload_n 2, 1) := by decide +kernel
theorem dX9_command_27 : decode cX9_command 27 = .ok (.iconst 0, 1) := by decide +kernel
theorem dX9_command_28 : decode cX9_command 28 = .ok (.iconst 5, 1) := by decide +kernel
theorem dX9_command_29 : decode cX9_command 29 = .ok (.invokestatic 132, 3) := by decide +kernel
theorem dX9_command_32 : decode cX9_command 32 = .ok (.ifCond .eq 34, 3) := by decide +kernel
theorem dX9_command_35 : decode cX9_command 35 = .ok (.iload_n 3, 1) := by decide +kernel
theorem dX9_command_36 : decode cX9_command 36 = .ok (.iconst 1, 1) := by decide +kernel
theorem dX9_command_37 : decode cX9_command 37 = .ok (.bipush 99, 2) := by decide +kernel
theorem dX9_command_39 : decode cX9_command 39 = .ok (.invokestatic 132, 3) := by decide +kernel
theorem dX9_command_42 : decode cX9_command 42 = .ok (.ifCond .eq 24, 3) := by decide +kernel
theorem dX9_command_45 : decode cX9_command 45 = .ok (.iload 4, 2) := by decide +kernel
theorem dX9_command_47 : decode cX9_command 47 = .ok (.iconst 0, 1) := by decide +kernel
theorem dX9_command_48 : decode cX9_command 48 = .ok (.iconst 3, 1) := by decide +kernel
theorem dX9_command_49 : decode cX9_command 49 = .ok (.invokestatic 132, 3) := by decide +kernel
theorem dX9_command_52 : decode cX9_command 52 = .ok (.ifCond .eq 14, 3) := by decide +kernel
theorem dX9_command_55 : decode cX9_command 55 = .ok (.iload 5, 2) := by decide +kernel
theorem dX9_command_57 : decode cX9_command 57 = .ok (.iconst 0, 1) := by decide +kernel
theorem dX9_command_58 : decode cX9_command 58 = .ok (.bipush 7, 2) := by decide +kernel
theorem dX9_command_60 : decode cX9_command 60 = .ok (.invokestatic 132, 3) := by decide +kernel
theorem dX9_command_63 : decode cX9_command 63 = .ok (.ifCond .ne 5, 3) := by decide +kernel
theorem dX9_command_66 : decode cX9_command 66 = .ok (.iconst (-1), 1) := by decide +kernel
theorem dX9_command_67 : decode cX9_command 67 = .ok (.ireturn, 1) := by decide +kernel
theorem dX9_command_68 : decode cX9_command 68 = .ok (.aload_n 0, 1) := by decide +kernel
theorem dX9_command_69 : decode cX9_command 69 = .ok (.iload_n 1, 1) := by decide +kernel
theorem dX9_command_70 : decode cX9_command 70 = .ok (.iconst 4, 1) := by decide +kernel
theorem dX9_command_71 : decode cX9_command 71 = .ok (.aload_n 0, 1) := by decide +kernel
theorem dX9_command_72 : decode cX9_command 72 = .ok (.iload_n 1, 1) := by decide +kernel
theorem dX9_command_73 : decode cX9_command 73 = .ok (.iconst 4, 1) := by decide +kernel
theorem dX9_command_74 : decode cX9_command 74 = .ok (.invokevirtual 146, 3) := by decide +kernel
theorem dX9_command_77 : decode cX9_command 77 = .ok (.iconst 1, 1) := by decide +kernel
theorem dX9_command_78 : decode cX9_command 78 = .ok (.iadd, 1) := by decide +kernel
theorem dX9_command_79 : decode cX9_command 79 = .ok (.invokevirtual 139, 3) := by decide +kernel
theorem dX9_command_82 : decode cX9_command 82 = .ok (.aload_n 0, 1) := by decide +kernel
theorem dX9_command_83 : decode cX9_command 83 = .ok (.iload_n 1, 1) := by decide +kernel
theorem dX9_command_84 : decode cX9_command 84 = .ok (.aload_n 0, 1) := by decide +kernel
theorem dX9_command_85 : decode cX9_command 85 = .ok (.iload_n 1, 1) := by decide +kernel
theorem dX9_command_86 : decode cX9_command 86 = .ok (.iconst 4, 1) := by decide +kernel
theorem dX9_command_87 : decode cX9_command 87 = .ok (.invokevirtual 146, 3) := by decide +kernel
theorem dX9_command_90 : decode cX9_command 90 = .ok (.invokevirtual 153, 3) := by decide +kernel
theorem dX9_command_93 : decode cX9_command 93 = .ok (.istore 7, 2) := by decide +kernel
theorem dX9_command_95 : decode cX9_command 95 = .ok (.aload_n 0, 1) := by decide +kernel
theorem dX9_command_96 : decode cX9_command 96 = .ok (.getfield 16, 3) := by decide +kernel
theorem dX9_command_99 : decode cX9_command 99 = .ok (.iload 7, 2) := by decide +kernel
theorem dX9_command_101 : decode cX9_command 101 = .ok (.aload_n 0, 1) := by decide +kernel
theorem dX9_command_102 : decode cX9_command 102 = .ok (.iload_n 1, 1) := by decide +kernel
theorem dX9_command_103 : decode cX9_command 103 = .ok (.iconst 0, 1) := by decide +kernel
theorem dX9_command_104 : decode cX9_command 104 = .ok (.invokevirtual 146, 3) := by decide +kernel
theorem dX9_command_107 : decode cX9_command 107 = .ok (.iastore, 1) := by decide +kernel
theorem dX9_command_108 : decode cX9_command 108 = .ok (.aload_n 0, 1) := by decide +kernel
theorem dX9_command_109 : decode cX9_command 109 = .ok (.getfield 16, 3) := by decide +kernel
theorem dX9_command_112 : decode cX9_command 112 = .ok (.iload 7, 2) := by decide +kernel
theorem dX9_command_114 : decode cX9_command 114 = .ok (.iconst 1, 1) := by decide +kernel
theorem dX9_command_115 : decode cX9_command 115 = .ok (.iadd, 1) := by decide +kernel
theorem dX9_command_116 : decode cX9_command 116 = .ok (.iload_n 2, 1) := by decide +kernel
theorem dX9_command_117 : decode cX9_command 117 = .ok (.iastore, 1) := by decide +kernel
theorem dX9_command_118 : decode cX9_command 118 = .ok (.aload_n 0, 1) := by decide +kernel
theorem dX9_command_119 : decode cX9_command 119 = .ok (.getfield 16, 3) := by decide +kernel
theorem dX9_command_122 : decode cX9_command 122 = .ok (.iload 7, 2) := by decide +kernel
theorem dX9_command_124 : decode cX9_command 124 = .ok (.iconst 2, 1) := by decide +kernel
theorem dX9_command_125 : decode cX9_command 125 = .ok (.iadd, 1) := by decide +kernel
theorem dX9_command_126 : decode cX9_command 126 = .ok (.iload_n 3, 1) := by decide +kernel
theorem dX9_command_127 : decode cX9_command 127 = .ok (.iastore, 1) := by decide +kernel
theorem dX9_command_128 : decode cX9_command 128 = .ok (.aload_n 0, 1) := by decide +kernel
theorem dX9_command_129 : decode cX9_command 129 = .ok (.getfield 16, 3) := by decide +kernel
theorem dX9_command_132 : decode cX9_command 132 = .ok (.iload 7, 2) := by decide +kernel
theorem dX9_command_134 : decode cX9_command 134 = .ok (.iconst 3, 1) := by decide +kernel
theorem dX9_command_135 : decode cX9_command 135 = .ok (.iadd, 1) := by decide +kernel
theorem dX9_command_136 : decode cX9_command 136 = .ok (.iload 4, 2) := by decide +kernel
theorem dX9_command_138 : decode cX9_command 138 = .ok (.iastore, 1) := by decide +kernel
theorem dX9_command_139 : decode cX9_command 139 = .ok (.aload_n 0, 1) := by decide +kernel
theorem dX9_command_140 : decode cX9_command 140 = .ok (.getfield 16, 3) := by decide +kernel
theorem dX9_command_143 : decode cX9_command 143 = .ok (.iload 7, 2) := by decide +kernel
theorem dX9_command_145 : decode cX9_command 145 = .ok (.iconst 4, 1) := by decide +kernel
theorem dX9_command_146 : decode cX9_command 146 = .ok (.iadd, 1) := by decide +kernel
theorem dX9_command_147 : decode cX9_command 147 = .ok (.iload 5, 2) := by decide +kernel
theorem dX9_command_149 : decode cX9_command 149 = .ok (.iastore, 1) := by decide +kernel
theorem dX9_command_150 : decode cX9_command 150 = .ok (.aload_n 0, 1) := by decide +kernel
theorem dX9_command_151 : decode cX9_command 151 = .ok (.getfield 16, 3) := by decide +kernel
theorem dX9_command_154 : decode cX9_command 154 = .ok (.iload 7, 2) := by decide +kernel
theorem dX9_command_156 : decode cX9_command 156 = .ok (.iconst 5, 1) := by decide +kernel
theorem dX9_command_157 : decode cX9_command 157 = .ok (.iadd, 1) := by decide +kernel
theorem dX9_command_158 : decode cX9_command 158 = .ok (.iload 6, 2) := by decide +kernel
theorem dX9_command_160 : decode cX9_command 160 = .ok (.iastore, 1) := by decide +kernel
theorem dX9_command_161 : decode cX9_command 161 = .ok (.aload_n 0, 1) := by decide +kernel
theorem dX9_command_162 : decode cX9_command 162 = .ok (.iload_n 1, 1) := by decide +kernel
theorem dX9_command_163 : decode cX9_command 163 = .ok (.invokevirtual 182, 3) := by decide +kernel
theorem dX9_command_166 : decode cX9_command 166 = .ok (.aload_n 0, 1) := by decide +kernel
theorem dX9_command_167 : decode cX9_command 167 = .ok (.iload_n 1, 1) := by decide +kernel
theorem dX9_command_168 : decode cX9_command 168 = .ok (.iconst 4, 1) := by decide +kernel
theorem dX9_command_169 : decode cX9_command 169 = .ok (.invokevirtual 146, 3) := by decide +kernel
theorem dX9_command_172 : decode cX9_command 172 = .ok (.ireturn, 1) := by decide +kernel
theorem dX9_deliver_0 : decode cX9_deliver 0 = .ok (.aload_n 0, 1) := by decide +kernel
theorem dX9_deliver_1 : decode cX9_deliver 1 = .ok (.iload_n 1, 1) := by decide +kernel
theorem dX9_deliver_2 : decode cX9_deliver 2 = .ok (.invokevirtual 211, 3) := by decide +kernel
theorem dX9_deliver_5 : decode cX9_deliver 5 = .ok (.ifCond .ne 5, 3) := by decide +kernel
theorem dX9_deliver_8 : decode cX9_deliver 8 = .ok (.iconst (-1), 1) := by decide +kernel
theorem dX9_deliver_9 : decode cX9_deliver 9 = .ok (.ireturn, 1) := by decide +kernel
theorem dX9_deliver_10 : decode cX9_deliver 10 = .ok (.iconst 0, 1) := by decide +kernel
theorem dX9_deliver_11 : decode cX9_deliver 11 = .ok (.istore_n 2, 1) := by decide +kernel
theorem dX9_deliver_12 : decode cX9_deliver 12 = .ok (.iload_n 2, 1) := by decide +kernel
theorem dX9_deliver_13 : decode cX9_deliver 13 = .ok (.bipush 64, 2) := by decide +kernel
theorem dX9_deliver_15 : decode cX9_deliver 15 = .ok (.if_icmp .ge 21, 3) := by decide +kernel
theorem dX9_deliver_18 : decode cX9_deliver 18 = .ok (.aload_n 0, 1) := by decide +kernel
theorem dX9_deliver_19 : decode cX9_deliver 19 = .ok (.getfield 41, 3) := by decide +kernel
theorem dX9_deliver_22 : decode cX9_deliver 22 = .ok (.iload_n 2, 1) := by decide +kernel
theorem dX9_deliver_23 : decode cX9_deliver 23 = .ok (.aload_n 0, 1) := by decide +kernel
theorem dX9_deliver_24 : decode cX9_deliver 24 = .ok (.iload_n 1, 1) := by decide +kernel
theorem dX9_deliver_25 : decode cX9_deliver 25 = .ok (.iload_n 2, 1) := by decide +kernel
theorem dX9_deliver_26 : decode cX9_deliver 26 = .ok (.invokevirtual 186, 3) := by decide +kernel
theorem dX9_deliver_29 : decode cX9_deliver 29 = .ok (.iastore, 1) := by decide +kernel
theorem dX9_deliver_30 : decode cX9_deliver 30 = .ok (.iinc 2 1, 3) := by decide +kernel
theorem dX9_deliver_33 : decode cX9_deliver 33 = .ok (.goto (-21), 3) := by decide +kernel
theorem dX9_deliver_36 : decode cX9_deliver 36 = .ok (.aload_n 0, 1) := by decide +kernel
theorem dX9_deliver_37 : decode cX9_deliver 37 = .ok (.iload_n 1, 1) := by decide +kernel
theorem dX9_deliver_38 : decode cX9_deliver 38 = .ok (.iconst 0, 1) := by decide +kernel
theorem dX9_deliver_39 : decode cX9_deliver 39 = .ok (.iconst (-1), 1) := by decide +kernel
theorem dX9_deliver_40 : decode cX9_deliver 40 = .ok (.invokevirtual 192, 3) := by decide +kernel
theorem dX9_deliver_43 : decode cX9_deliver 43 = .ok (.aload_n 0, 1) := by decide +kernel
theorem dX9_deliver_44 : decode cX9_deliver 44 = .ok (.getfield 41, 3) := by decide +kernel
theorem dX9_deliver_47 : decode cX9_deliver 47 = .ok (.iconst 2, 1) := by decide +kernel
theorem dX9_deliver_48 : decode cX9_deliver 48 = .ok (.iaload, 1) := by decide +kernel
theorem dX9_deliver_49 : decode cX9_deliver 49 = .ok (.istore_n 2, 1) := by decide +kernel
theorem dX9_deliver_50 : decode cX9_deliver 50 = .ok (.aload_n 0, 1) := by decide +kernel
theorem dX9_deliver_51 : decode cX9_deliver 51 = .ok (.iload_n 2, 1) := by decide +kernel
theorem dX9_deliver_52 : decode cX9_deliver 52 = .ok (.bipush 9, 2) := by decide +kernel
theorem dX9_deliver_54 : decode cX9_deliver 54 = .ok (.invokevirtual 146, 3) := by decide +kernel
theorem dX9_deliver_57 : decode cX9_deliver 57 = .ok (.iconst 1, 1) := by decide +kernel
theorem dX9_deliver_58 : decode cX9_deliver 58 = .ok (.if_icmp .ne 5, 3) := by decide +kernel
theorem dX9_deliver_61 : decode cX9_deliver 61 = .ok (.iconst 0, 1) := by decide +kernel
theorem dX9_deliver_62 : decode cX9_deliver 62 = .ok (.ireturn, 1) := by decide +kernel
theorem dX9_deliver_63 : decode cX9_deliver 63 = .ok (.aload_n 0, 1) := by decide +kernel
theorem dX9_deliver_64 : decode cX9_deliver 64 = .ok (.getfield 41, 3) := by decide +kernel
theorem dX9_deliver_67 : decode cX9_deliver 67 = .ok (.iconst 3, 1) := by decide +kernel
theorem dX9_deliver_68 : decode cX9_deliver 68 = .ok (.iaload, 1) := by decide +kernel
theorem dX9_deliver_69 : decode cX9_deliver 69 = .ok (.aload_n 0, 1) := by decide +kernel
theorem dX9_deliver_70 : decode cX9_deliver 70 = .ok (.iload_n 2, 1) := by decide +kernel
theorem dX9_deliver_71 : decode cX9_deliver 71 = .ok (.iconst 0, 1) := by decide +kernel
theorem dX9_deliver_72 : decode cX9_deliver 72 = .ok (.invokevirtual 146, 3) := by decide +kernel
theorem dX9_deliver_75 : decode cX9_deliver 75 = .ok (.if_icmp .le 29, 3) := by decide +kernel
theorem dX9_deliver_78 : decode cX9_deliver 78 = .ok (.aload_n 0, 1) := by decide +kernel
theorem dX9_deliver_79 : decode cX9_deliver 79 = .ok (.iload_n 2, 1) := by decide +kernel
theorem dX9_deliver_80 : decode cX9_deliver 80 = .ok (.iconst 0, 1) := by decide +kernel
theorem dX9_deliver_81 : decode cX9_deliver 81 = .ok (.aload_n 0, 1) := by decide +kernel
theorem dX9_deliver_82 : decode cX9_deliver 82 = .ok (.getfield 41, 3) := by decide +kernel
theorem dX9_deliver_85 : decode cX9_deliver 85 = .ok (.iconst 3, 1) := by decide +kernel
theorem dX9_deliver_86 : decode cX9_deliver 86 = .ok (.iaload, 1) := by decide +kernel
theorem dX9_deliver_87 : decode cX9_deliver 87 = .ok (.invokevirtual 139, 3) := by decide +kernel
theorem dX9_deliver_90 : decode cX9_deliver 90 = .ok (.aload_n 0, 1) := by decide +kernel
theorem dX9_deliver_91 : decode cX9_deliver 91 = .ok (.iload_n 2, 1) := by decide +kernel
theorem dX9_deliver_92 : decode cX9_deliver 92 = .ok (.iconst 1, 1) := by decide +kernel
theorem dX9_deliver_93 : decode cX9_deliver 93 = .ok (.iconst (-1), 1) := by decide +kernel
theorem dX9_deliver_94 : decode cX9_deliver 94 = .ok (.invokevirtual 139, 3) := by decide +kernel
theorem dX9_deliver_97 : decode cX9_deliver 97 = .ok (.aload_n 0, 1) := by decide +kernel
theorem dX9_deliver_98 : decode cX9_deliver 98 = .ok (.iload_n 2, 1) := by decide +kernel
theorem dX9_deliver_99 : decode cX9_deliver 99 = .ok (.iconst 5, 1) := by decide +kernel
theorem dX9_deliver_100 : decode cX9_deliver 100 = .ok (.iconst 0, 1) := by decide +kernel
theorem dX9_deliver_101 : decode cX9_deliver 101 = .ok (.invokevirtual 139, 3) := by decide +kernel
theorem dX9_deliver_104 : decode cX9_deliver 104 = .ok (.aload_n 0, 1) := by decide +kernel
theorem dX9_deliver_105 : decode cX9_deliver 105 = .ok (.getfield 41, 3) := by decide +kernel
theorem dX9_deliver_108 : decode cX9_deliver 108 = .ok (.iconst 0, 1) := by decide +kernel
theorem dX9_deliver_109 : decode cX9_deliver 109 = .ok (.iaload, 1) := by decide +kernel
theorem dX9_deliver_110 : decode cX9_deliver 110 = .ok (.tableswitch 54 0 3 #[30, 36, 42, 48], 30) := by decide +kernel
theorem dX9_deliver_140 : decode cX9_deliver 140 = .ok (.aload_n 0, 1) := by decide +kernel
theorem dX9_deliver_141 : decode cX9_deliver 141 = .ok (.iload_n 2, 1) := by decide +kernel
theorem dX9_deliver_142 : decode cX9_deliver 142 = .ok (.invokevirtual 214, 3) := by decide +kernel
theorem dX9_deliver_145 : decode cX9_deliver 145 = .ok (.ireturn, 1) := by decide +kernel
theorem dX9_deliver_146 : decode cX9_deliver 146 = .ok (.aload_n 0, 1) := by decide +kernel
theorem dX9_deliver_147 : decode cX9_deliver 147 = .ok (.iload_n 2, 1) := by decide +kernel
theorem dX9_deliver_148 : decode cX9_deliver 148 = .ok (.invokevirtual 217, 3) := by decide +kernel
theorem dX9_deliver_151 : decode cX9_deliver 151 = .ok (.ireturn, 1) := by decide +kernel
theorem dX9_deliver_152 : decode cX9_deliver 152 = .ok (.aload_n 0, 1) := by decide +kernel
theorem dX9_deliver_153 : decode cX9_deliver 153 = .ok (.iload_n 2, 1) := by decide +kernel
theorem dX9_deliver_154 : decode cX9_deliver 154 = .ok (.invokevirtual 220, 3) := by decide +kernel
theorem dX9_deliver_157 : decode cX9_deliver 157 = .ok (.ireturn, 1) := by decide +kernel
theorem dX9_deliver_158 : decode cX9_deliver 158 = .ok (.aload_n 0, 1) := by decide +kernel
theorem dX9_deliver_159 : decode cX9_deliver 159 = .ok (.iload_n 2, 1) := by decide +kernel
theorem dX9_deliver_160 : decode cX9_deliver 160 = .ok (.invokevirtual 223, 3) := by decide +kernel
theorem dX9_deliver_163 : decode cX9_deliver 163 = .ok (.ireturn, 1) := by decide +kernel
theorem dX9_deliver_164 : decode cX9_deliver 164 = .ok (.aload_n 0, 1) := by decide +kernel
theorem dX9_deliver_165 : decode cX9_deliver 165 = .ok (.iload_n 2, 1) := by decide +kernel
theorem dX9_deliver_166 : decode cX9_deliver 166 = .ok (.invokevirtual 226, 3) := by decide +kernel
theorem dX9_deliver_169 : decode cX9_deliver 169 = .ok (.ireturn, 1) := by decide +kernel
theorem dX9_getsAsk_0 : decode cX9_getsAsk 0 = .ok (.aload_n 0, 1) := by decide +kernel
theorem dX9_getsAsk_1 : decode cX9_getsAsk 1 = .ok (.getfield 41, 3) := by decide +kernel
theorem dX9_getsAsk_4 : decode cX9_getsAsk 4 = .ok (.iconst 1, 1) := by decide +kernel
theorem dX9_getsAsk_5 : decode cX9_getsAsk 5 = .ok (.iaload, 1) := by decide +kernel
theorem dX9_getsAsk_6 : decode cX9_getsAsk 6 = .ok (.istore_n 2, 1) := by decide +kernel
theorem dX9_getsAsk_7 : decode cX9_getsAsk 7 = .ok (.aload_n 0, 1) := by decide +kernel
theorem dX9_getsAsk_8 : decode cX9_getsAsk 8 = .ok (.iload_n 1, 1) := by decide +kernel
theorem dX9_getsAsk_9 : decode cX9_getsAsk 9 = .ok (.iconst 4, 1) := by decide +kernel
theorem dX9_getsAsk_10 : decode cX9_getsAsk 10 = .ok (.invokevirtual 146, 3) := by decide +kernel
theorem dX9_getsAsk_13 : decode cX9_getsAsk 13 = .ok (.istore_n 3, 1) := by decide +kernel
theorem dX9_getsAsk_14 : decode cX9_getsAsk 14 = .ok (.aload_n 0, 1) := by decide +kernel
theorem dX9_getsAsk_15 : decode cX9_getsAsk 15 = .ok (.iload_n 1, 1) := by decide +kernel
theorem dX9_getsAsk_16 : decode cX9_getsAsk 16 = .ok (.iconst 1, 1) := by decide +kernel
theorem dX9_getsAsk_17 : decode cX9_getsAsk 17 = .ok (.invokevirtual 146, 3) := by decide +kernel
theorem dX9_getsAsk_20 : decode cX9_getsAsk 20 = .ok (.iconst (-1), 1) := by decide +kernel
theorem dX9_getsAsk_21 : decode cX9_getsAsk 21 = .ok (.if_icmp .eq 13, 3) := by decide +kernel
theorem dX9_getsAsk_24 : decode cX9_getsAsk 24 = .ok (.aload_n 0, 1) := by decide +kernel
theorem dX9_getsAsk_25 : decode cX9_getsAsk 25 = .ok (.iload_n 1, 1) := by decide +kernel
theorem dX9_getsAsk_26 : decode cX9_getsAsk 26 = .ok (.iconst 1, 1) := by decide +kernel
theorem dX9_getsAsk_27 : decode cX9_getsAsk 27 = .ok (.invokevirtual 146, 3) := by decide +kernel
theorem dX9_getsAsk_30 : decode cX9_getsAsk 30 = .ok (.iload_n 2, 1) := by decide +kernel
theorem dX9_getsAsk_31 : decode cX9_getsAsk 31 = .ok (.if_icmp .ne 7, 3) := by decide +kernel
theorem dX9_getsAsk_34 : decode cX9_getsAsk 34 = .ok (.iconst 1, 1) := by decide +kernel
theorem dX9_getsAsk_35 : decode cX9_getsAsk 35 = .ok (.goto 4, 3) := by decide +kernel
theorem dX9_getsAsk_38 : decode cX9_getsAsk 38 = .ok (.iconst 0, 1) := by decide +kernel
theorem dX9_getsAsk_39 : decode cX9_getsAsk 39 = .ok (.istore 4, 2) := by decide +kernel
theorem dX9_getsAsk_41 : decode cX9_getsAsk 41 = .ok (.aload_n 0, 1) := by decide +kernel
theorem dX9_getsAsk_42 : decode cX9_getsAsk 42 = .ok (.iload_n 1, 1) := by decide +kernel
theorem dX9_getsAsk_43 : decode cX9_getsAsk 43 = .ok (.iload_n 3, 1) := by decide +kernel
theorem dX9_getsAsk_44 : decode cX9_getsAsk 44 = .ok (.invokevirtual 172, 3) := by decide +kernel
theorem dX9_getsAsk_47 : decode cX9_getsAsk 47 = .ok (.aload_n 0, 1) := by decide +kernel
theorem dX9_getsAsk_48 : decode cX9_getsAsk 48 = .ok (.getfield 41, 3) := by decide +kernel
theorem dX9_getsAsk_51 : decode cX9_getsAsk 51 = .ok (.iconst 5, 1) := by decide +kernel
theorem dX9_getsAsk_52 : decode cX9_getsAsk 52 = .ok (.iaload, 1) := by decide +kernel
theorem dX9_getsAsk_53 : decode cX9_getsAsk 53 = .ok (.if_icmp .gt 28, 3) := by decide +kernel
theorem dX9_getsAsk_56 : decode cX9_getsAsk 56 = .ok (.aload_n 0, 1) := by decide +kernel
theorem dX9_getsAsk_57 : decode cX9_getsAsk 57 = .ok (.iload_n 1, 1) := by decide +kernel
theorem dX9_getsAsk_58 : decode cX9_getsAsk 58 = .ok (.iload_n 3, 1) := by decide +kernel
theorem dX9_getsAsk_59 : decode cX9_getsAsk 59 = .ok (.invokevirtual 172, 3) := by decide +kernel
theorem dX9_getsAsk_62 : decode cX9_getsAsk 62 = .ok (.aload_n 0, 1) := by decide +kernel
theorem dX9_getsAsk_63 : decode cX9_getsAsk 63 = .ok (.getfield 41, 3) := by decide +kernel
theorem dX9_getsAsk_66 : decode cX9_getsAsk 66 = .ok (.iconst 5, 1) := by decide +kernel
theorem dX9_getsAsk_67 : decode cX9_getsAsk 67 = .ok (.iaload, 1) := by decide +kernel
theorem dX9_getsAsk_68 : decode cX9_getsAsk 68 = .ok (.if_icmp .ne 17, 3) := by decide +kernel
theorem dX9_getsAsk_71 : decode cX9_getsAsk 71 = .ok (.iload_n 3, 1) := by decide +kernel
theorem dX9_getsAsk_72 : decode cX9_getsAsk 72 = .ok (.aload_n 0, 1) := by decide +kernel
theorem dX9_getsAsk_73 : decode cX9_getsAsk 73 = .ok (.getfield 41, 3) := by decide +kernel
theorem dX9_getsAsk_76 : decode cX9_getsAsk 76 = .ok (.iconst 4, 1) := by decide +kernel
theorem dX9_getsAsk_77 : decode cX9_getsAsk 77 = .ok (.iaload, 1) := by decide +kernel
theorem dX9_getsAsk_78 : decode cX9_getsAsk 78 = .ok (.if_icmp .le 7, 3) := by decide +kernel
theorem dX9_getsAsk_81 : decode cX9_getsAsk 81 = .ok (.iconst 1, 1) := by decide +kernel
theorem dX9_getsAsk_82 : decode cX9_getsAsk 82 = .ok (.goto 4, 3) := by decide +kernel
theorem dX9_getsAsk_85 : decode cX9_getsAsk 85 = .ok (.iconst 0, 1) := by decide +kernel
theorem dX9_getsAsk_86 : decode cX9_getsAsk 86 = .ok (.istore 5, 2) := by decide +kernel
theorem dX9_getsAsk_88 : decode cX9_getsAsk 88 = .ok (.aload_n 0, 1) := by decide +kernel
theorem dX9_getsAsk_89 : decode cX9_getsAsk 89 = .ok (.iload_n 1, 1) := by decide +kernel
theorem dX9_getsAsk_90 : decode cX9_getsAsk 90 = .ok (.invokevirtual 166, 3) := by decide +kernel
theorem dX9_getsAsk_93 : decode cX9_getsAsk 93 = .ok (.ifCond .eq 32, 3) := by decide +kernel
theorem dX9_getsAsk_96 : decode cX9_getsAsk 96 = .ok (.aload_n 0, 1) := by decide +kernel
theorem dX9_getsAsk_97 : decode cX9_getsAsk 97 = .ok (.iload_n 1, 1) := by decide +kernel
theorem dX9_getsAsk_98 : decode cX9_getsAsk 98 = .ok (.iconst 0, 1) := by decide +kernel
theorem dX9_getsAsk_99 : decode cX9_getsAsk 99 = .ok (.invokevirtual 146, 3) := by decide +kernel
theorem dX9_getsAsk_102 : decode cX9_getsAsk 102 = .ok (.aload_n 0, 1) := by decide +kernel
theorem dX9_getsAsk_103 : decode cX9_getsAsk 103 = .ok (.getfield 41, 3) := by decide +kernel
theorem dX9_getsAsk_106 : decode cX9_getsAsk 106 = .ok (.iconst 3, 1) := by decide +kernel
theorem dX9_getsAsk_107 : decode cX9_getsAsk 107 = .ok (.iaload, 1) := by decide +kernel
theorem dX9_getsAsk_108 : decode cX9_getsAsk 108 = .ok (.if_icmp .ne 17, 3) := by decide +kernel
theorem dX9_getsAsk_111 : decode cX9_getsAsk 111 = .ok (.iload 4, 2) := by decide +kernel
theorem dX9_getsAsk_113 : decode cX9_getsAsk 113 = .ok (.ifCond .eq 12, 3) := by decide +kernel
theorem dX9_getsAsk_116 : decode cX9_getsAsk 116 = .ok (.iload 5, 2) := by decide +kernel
theorem dX9_getsAsk_118 : decode cX9_getsAsk 118 = .ok (.ifCond .ne 7, 3) := by decide +kernel
theorem dX9_getsAsk_121 : decode cX9_getsAsk 121 = .ok (.iconst 1, 1) := by decide +kernel
theorem dX9_getsAsk_122 : decode cX9_getsAsk 122 = .ok (.goto 4, 3) := by decide +kernel
theorem dX9_getsAsk_125 : decode cX9_getsAsk 125 = .ok (.iconst 0, 1) := by decide +kernel
theorem dX9_getsAsk_126 : decode cX9_getsAsk 126 = .ok (.istore 6, 2) := by decide +kernel
theorem dX9_getsAsk_128 : decode cX9_getsAsk 128 = .ok (.iload 6, 2) := by decide +kernel
theorem dX9_getsAsk_130 : decode cX9_getsAsk 130 = .ok (.ifCond .eq 10, 3) := by decide +kernel
theorem dX9_getsAsk_133 : decode cX9_getsAsk 133 = .ok (.aload_n 0, 1) := by decide +kernel
theorem dX9_getsAsk_134 : decode cX9_getsAsk 134 = .ok (.iload_n 1, 1) := by decide +kernel
theorem dX9_getsAsk_135 : decode cX9_getsAsk 135 = .ok (.iconst 1, 1) := by decide +kernel
theorem dX9_getsAsk_136 : decode cX9_getsAsk 136 = .ok (.iload_n 2, 1) := by decide +kernel
theorem dX9_getsAsk_137 : decode cX9_getsAsk 137 = .ok (.invokevirtual 139, 3) := by decide +kernel
theorem dX9_getsAsk_140 : decode cX9_getsAsk 140 = .ok (.aload_n 0, 1) := by decide +kernel
theorem dX9_getsAsk_141 : decode cX9_getsAsk 141 = .ok (.iconst 1, 1) := by decide +kernel
theorem dX9_getsAsk_142 : decode cX9_getsAsk 142 = .ok (.iload_n 1, 1) := by decide +kernel
theorem dX9_getsAsk_143 : decode cX9_getsAsk 143 = .ok (.iload_n 2, 1) := by decide +kernel
theorem dX9_getsAsk_144 : decode cX9_getsAsk 144 = .ok (.iload 6, 2) := by decide +kernel
theorem dX9_getsAsk_146 : decode cX9_getsAsk 146 = .ok (.ifCond .eq 7, 3) := by decide +kernel
theorem dX9_getsAsk_149 : decode cX9_getsAsk 149 = .ok (.iconst 1, 1) := by decide +kernel
theorem dX9_getsAsk_150 : decode cX9_getsAsk 150 = .ok (.goto 4, 3) := by decide +kernel
theorem dX9_getsAsk_153 : decode cX9_getsAsk 153 = .ok (.iconst 0, 1) := by decide +kernel
theorem dX9_getsAsk_154 : decode cX9_getsAsk 154 = .ok (.iconst 0, 1) := by decide +kernel
theorem dX9_getsAsk_155 : decode cX9_getsAsk 155 = .ok (.invokevirtual 198, 3) := by decide +kernel
theorem dX9_getsAsk_158 : decode cX9_getsAsk 158 = .ok (.pop, 1) := by decide +kernel
theorem dX9_getsAsk_159 : decode cX9_getsAsk 159 = .ok (.iconst 1, 1) := by decide +kernel
theorem dX9_getsAsk_160 : decode cX9_getsAsk 160 = .ok (.ireturn, 1) := by decide +kernel
theorem dX9_getsBallot_0 : decode cX9_getsBallot 0 = .ok (.aload_n 0, 1) := by decide +kernel
theorem dX9_getsBallot_1 : decode cX9_getsBallot 1 = .ok (.iload_n 1, 1) := by decide +kernel
theorem dX9_getsBallot_2 : decode cX9_getsBallot 2 = .ok (.iconst 5, 1) := by decide +kernel
theorem dX9_getsBallot_3 : decode cX9_getsBallot 3 = .ok (.invokevirtual 146, 3) := by decide +kernel
theorem dX9_getsBallot_6 : decode cX9_getsBallot 6 = .ok (.iconst 1, 1) := by decide +kernel
theorem dX9_getsBallot_7 : decode cX9_getsBallot 7 = .ok (.if_icmp .ne 27, 3) := by decide +kernel
theorem dX9_getsBallot_10 : decode cX9_getsBallot 10 = .ok (.aload_n 0, 1) := by decide +kernel
theorem dX9_getsBallot_11 : decode cX9_getsBallot 11 = .ok (.iload_n 1, 1) := by decide +kernel
theorem dX9_getsBallot_12 : decode cX9_getsBallot 12 = .ok (.iconst 0, 1) := by decide +kernel
theorem dX9_getsBallot_13 : decode cX9_getsBallot 13 = .ok (.invokevirtual 146, 3) := by decide +kernel
theorem dX9_getsBallot_16 : decode cX9_getsBallot 16 = .ok (.aload_n 0, 1) := by decide +kernel
theorem dX9_getsBallot_17 : decode cX9_getsBallot 17 = .ok (.getfield 41, 3) := by decide +kernel
theorem dX9_getsBallot_20 : decode cX9_getsBallot 20 = .ok (.iconst 3, 1) := by decide +kernel
theorem dX9_getsBallot_21 : decode cX9_getsBallot 21 = .ok (.iaload, 1) := by decide +kernel
theorem dX9_getsBallot_22 : decode cX9_getsBallot 22 = .ok (.if_icmp .ne 12, 3) := by decide +kernel
theorem dX9_getsBallot_25 : decode cX9_getsBallot 25 = .ok (.aload_n 0, 1) := by decide +kernel
theorem dX9_getsBallot_26 : decode cX9_getsBallot 26 = .ok (.getfield 41, 3) := by decide +kernel
theorem dX9_getsBallot_29 : decode cX9_getsBallot 29 = .ok (.iconst 4, 1) := by decide +kernel
theorem dX9_getsBallot_30 : decode cX9_getsBallot 30 = .ok (.iaload, 1) := by decide +kernel
theorem dX9_getsBallot_31 : decode cX9_getsBallot 31 = .ok (.ifCond .ne 5, 3) := by decide +kernel
theorem dX9_getsBallot_34 : decode cX9_getsBallot 34 = .ok (.iconst 0, 1) := by decide +kernel
theorem dX9_getsBallot_35 : decode cX9_getsBallot 35 = .ok (.ireturn, 1) := by decide +kernel
theorem dX9_getsBallot_36 : decode cX9_getsBallot 36 = .ok (.aload_n 0, 1) := by decide +kernel
theorem dX9_getsBallot_37 : decode cX9_getsBallot 37 = .ok (.iload_n 1, 1) := by decide +kernel
theorem dX9_getsBallot_38 : decode cX9_getsBallot 38 = .ok (.bipush 7, 2) := by decide +kernel
theorem dX9_getsBallot_40 : decode cX9_getsBallot 40 = .ok (.aload_n 0, 1) := by decide +kernel
theorem dX9_getsBallot_41 : decode cX9_getsBallot 41 = .ok (.iload_n 1, 1) := by decide +kernel
theorem dX9_getsBallot_42 : decode cX9_getsBallot 42 = .ok (.bipush 7, 2) := by decide +kernel
theorem dX9_getsBallot_44 : decode cX9_getsBallot 44 = .ok (.invokevirtual 146, 3) := by decide +kernel
theorem dX9_getsBallot_47 : decode cX9_getsBallot 47 = .ok (.iconst 1, 1) := by decide +kernel
theorem dX9_getsBallot_48 : decode cX9_getsBallot 48 = .ok (.aload_n 0, 1) := by decide +kernel
theorem dX9_getsBallot_49 : decode cX9_getsBallot 49 = .ok (.getfield 41, 3) := by decide +kernel
theorem dX9_getsBallot_52 : decode cX9_getsBallot 52 = .ok (.iconst 1, 1) := by decide +kernel
theorem dX9_getsBallot_53 : decode cX9_getsBallot 53 = .ok (.iaload, 1) := by decide +kernel
theorem dX9_getsBallot_54 : decode cX9_getsBallot 54 = .ok (.ishl, 1) := by decide +kernel
theorem dX9_getsBallot_55 : decode cX9_getsBallot 55 = .ok (.ior, 1) := by decide +kernel
theorem dX9_getsBallot_56 : decode cX9_getsBallot 56 = .ok (.invokevirtual 139, 3) := by decide +kernel
theorem dX9_getsBallot_59 : decode cX9_getsBallot 59 = .ok (.aload_n 0, 1) := by decide +kernel
theorem dX9_getsBallot_60 : decode cX9_getsBallot 60 = .ok (.iload_n 1, 1) := by decide +kernel
theorem dX9_getsBallot_61 : decode cX9_getsBallot 61 = .ok (.invokevirtual 202, 3) := by decide +kernel
theorem dX9_getsBallot_64 : decode cX9_getsBallot 64 = .ok (.iconst 0, 1) := by decide +kernel
theorem dX9_getsBallot_65 : decode cX9_getsBallot 65 = .ok (.ireturn, 1) := by decide +kernel
theorem dX9_answersBack_0 : decode cX9_answersBack 0 = .ok (.aload_n 0, 1) := by decide +kernel
theorem dX9_answersBack_1 : decode cX9_answersBack 1 = .ok (.iconst 3, 1) := by decide +kernel
theorem dX9_answersBack_2 : decode cX9_answersBack 2 = .ok (.iload_n 1, 1) := by decide +kernel
theorem dX9_answersBack_3 : decode cX9_answersBack 3 = .ok (.aload_n 0, 1) := by decide +kernel
theorem dX9_answersBack_4 : decode cX9_answersBack 4 = .ok (.getfield 41, 3) := by decide +kernel
theorem dX9_answersBack_7 : decode cX9_answersBack 7 = .ok (.iconst 1, 1) := by decide +kernel
theorem dX9_answersBack_8 : decode cX9_answersBack 8 = .ok (.iaload, 1) := by decide +kernel
theorem dX9_answersBack_9 : decode cX9_answersBack 9 = .ok (.iload_n 2, 1) := by decide +kernel
theorem dX9_answersBack_10 : decode cX9_answersBack 10 = .ok (.ifCond .eq 7, 3) := by decide +kernel
theorem dX9_answersBack_13 : decode cX9_answersBack 13 = .ok (.iconst 1, 1) := by decide +kernel
theorem dX9_answersBack_14 : decode cX9_answersBack 14 = .ok (.goto 4, 3) := by decide +kernel
theorem dX9_answersBack_17 : decode cX9_answersBack 17 = .ok (.iconst 0, 1) := by decide +kernel
theorem dX9_answersBack_18 : decode cX9_answersBack 18 = .ok (.iload_n 3, 1) := by decide +kernel
theorem dX9_answersBack_19 : decode cX9_answersBack 19 = .ok (.invokevirtual 198, 3) := by decide +kernel
theorem dX9_answersBack_22 : decode cX9_answersBack 22 = .ok (.istore 4, 2) := by decide +kernel
theorem dX9_answersBack_24 : decode cX9_answersBack 24 = .ok (.aload_n 0, 1) := by decide +kernel
theorem dX9_answersBack_25 : decode cX9_answersBack 25 = .ok (.iload 4, 2) := by decide +kernel
theorem dX9_answersBack_27 : decode cX9_answersBack 27 = .ok (.bipush 8, 2) := by decide +kernel
theorem dX9_answersBack_29 : decode cX9_answersBack 29 = .ok (.aload_n 0, 1) := by decide +kernel
theorem dX9_answersBack_30 : decode cX9_answersBack 30 = .ok (.getfield 41, 3) := by decide +kernel
theorem dX9_answersBack_33 : decode cX9_answersBack 33 = .ok (.bipush 8, 2) := by decide +kernel
theorem dX9_answersBack_35 : decode cX9_answersBack 35 = .ok (.iaload, 1) := by decide +kernel
theorem dX9_answersBack_36 : decode cX9_answersBack 36 = .ok (.invokevirtual 192, 3) := by decide +kernel
theorem dX9_answersBack_39 : decode cX9_answersBack 39 = .ok (.iconst 1, 1) := by decide +kernel
theorem dX9_answersBack_40 : decode cX9_answersBack 40 = .ok (.ireturn, 1) := by decide +kernel
theorem dX9_getsAppend_0 : decode cX9_getsAppend 0 = .ok (.aload_n 0, 1) := by decide +kernel
theorem dX9_getsAppend_1 : decode cX9_getsAppend 1 = .ok (.getfield 41, 3) := by decide +kernel
theorem dX9_getsAppend_4 : decode cX9_getsAppend 4 = .ok (.iconst 3, 1) := by decide +kernel
theorem dX9_getsAppend_5 : decode cX9_getsAppend 5 = .ok (.iaload, 1) := by decide +kernel
theorem dX9_getsAppend_6 : decode cX9_getsAppend 6 = .ok (.aload_n 0, 1) := by decide +kernel
theorem dX9_getsAppend_7 : decode cX9_getsAppend 7 = .ok (.iload_n 1, 1) := by decide +kernel
theorem dX9_getsAppend_8 : decode cX9_getsAppend 8 = .ok (.iconst 0, 1) := by decide +kernel
theorem dX9_getsAppend_9 : decode cX9_getsAppend 9 = .ok (.invokevirtual 146, 3) := by decide +kernel
theorem dX9_getsAppend_12 : decode cX9_getsAppend 12 = .ok (.if_icmp .ge 11, 3) := by decide +kernel
theorem dX9_getsAppend_15 : decode cX9_getsAppend 15 = .ok (.aload_n 0, 1) := by decide +kernel
theorem dX9_getsAppend_16 : decode cX9_getsAppend 16 = .ok (.iload_n 1, 1) := by decide +kernel
theorem dX9_getsAppend_17 : decode cX9_getsAppend 17 = .ok (.iconst 0, 1) := by decide +kernel
theorem dX9_getsAppend_18 : decode cX9_getsAppend 18 = .ok (.iconst 0, 1) := by decide +kernel
theorem dX9_getsAppend_19 : decode cX9_getsAppend 19 = .ok (.invokevirtual 229, 3) := by decide +kernel
theorem dX9_getsAppend_22 : decode cX9_getsAppend 22 = .ok (.ireturn, 1) := by decide +kernel
theorem dX9_getsAppend_23 : decode cX9_getsAppend 23 = .ok (.aload_n 0, 1) := by decide +kernel
theorem dX9_getsAppend_24 : decode cX9_getsAppend 24 = .ok (.iload_n 1, 1) := by decide +kernel
theorem dX9_getsAppend_25 : decode cX9_getsAppend 25 = .ok (.iconst 5, 1) := by decide +kernel
theorem dX9_getsAppend_26 : decode cX9_getsAppend 26 = .ok (.invokevirtual 146, 3) := by decide +kernel
theorem dX9_getsAppend_29 : decode cX9_getsAppend 29 = .ok (.iconst 2, 1) := by decide +kernel
theorem dX9_getsAppend_30 : decode cX9_getsAppend 30 = .ok (.if_icmp .ne 5, 3) := by decide +kernel
theorem dX9_getsAppend_33 : decode cX9_getsAppend 33 = .ok (.iconst 0, 1) := by decide +kernel
theorem dX9_getsAppend_34 : decode cX9_getsAppend 34 = .ok (.ireturn, 1) := by decide +kernel
theorem dX9_getsAppend_35 : decode cX9_getsAppend 35 = .ok (.aload_n 0, 1) := by decide +kernel
theorem dX9_getsAppend_36 : decode cX9_getsAppend 36 = .ok (.iload_n 1, 1) := by decide +kernel
theorem dX9_getsAppend_37 : decode cX9_getsAppend 37 = .ok (.iconst 5, 1) := by decide +kernel
theorem dX9_getsAppend_38 : decode cX9_getsAppend 38 = .ok (.iconst 0, 1) := by decide +kernel
theorem dX9_getsAppend_39 : decode cX9_getsAppend 39 = .ok (.invokevirtual 139, 3) := by decide +kernel
theorem dX9_getsAppend_42 : decode cX9_getsAppend 42 = .ok (.aload_n 0, 1) := by decide +kernel
theorem dX9_getsAppend_43 : decode cX9_getsAppend 43 = .ok (.getfield 41, 3) := by decide +kernel
theorem dX9_getsAppend_46 : decode cX9_getsAppend 46 = .ok (.iconst 4, 1) := by decide +kernel
theorem dX9_getsAppend_47 : decode cX9_getsAppend 47 = .ok (.iaload, 1) := by decide +kernel
theorem dX9_getsAppend_48 : decode cX9_getsAppend 48 = .ok (.istore_n 2, 1) := by decide +kernel
theorem dX9_getsAppend_49 : decode cX9_getsAppend 49 = .ok (.iload_n 2, 1) := by decide +kernel
theorem dX9_getsAppend_50 : decode cX9_getsAppend 50 = .ok (.aload_n 0, 1) := by decide +kernel
theorem dX9_getsAppend_51 : decode cX9_getsAppend 51 = .ok (.iload_n 1, 1) := by decide +kernel
theorem dX9_getsAppend_52 : decode cX9_getsAppend 52 = .ok (.iconst 4, 1) := by decide +kernel
theorem dX9_getsAppend_53 : decode cX9_getsAppend 53 = .ok (.invokevirtual 146, 3) := by decide +kernel
theorem dX9_getsAppend_56 : decode cX9_getsAppend 56 = .ok (.if_icmp .gt 28, 3) := by decide +kernel
theorem dX9_getsAppend_59 : decode cX9_getsAppend 59 = .ok (.iload_n 2, 1) := by decide +kernel
theorem dX9_getsAppend_60 : decode cX9_getsAppend 60 = .ok (.aload_n 0, 1) := by decide +kernel
theorem dX9_getsAppend_61 : decode cX9_getsAppend 61 = .ok (.iload_n 1, 1) := by decide +kernel
theorem dX9_getsAppend_62 : decode cX9_getsAppend 62 = .ok (.iconst 2, 1) := by decide +kernel
theorem dX9_getsAppend_63 : decode cX9_getsAppend 63 = .ok (.invokevirtual 146, 3) := by decide +kernel
theorem dX9_getsAppend_66 : decode cX9_getsAppend 66 = .ok (.if_icmp .le 106, 3) := by decide +kernel
theorem dX9_getsAppend_69 : decode cX9_getsAppend 69 = .ok (.aload_n 0, 1) := by decide +kernel
theorem dX9_getsAppend_70 : decode cX9_getsAppend 70 = .ok (.iload_n 1, 1) := by decide +kernel
theorem dX9_getsAppend_71 : decode cX9_getsAppend 71 = .ok (.iload_n 2, 1) := by decide +kernel
theorem dX9_getsAppend_72 : decode cX9_getsAppend 72 = .ok (.invokevirtual 172, 3) := by decide +kernel
theorem dX9_getsAppend_75 : decode cX9_getsAppend 75 = .ok (.aload_n 0, 1) := by decide +kernel
theorem dX9_getsAppend_76 : decode cX9_getsAppend 76 = .ok (.getfield 41, 3) := by decide +kernel
theorem dX9_getsAppend_79 : decode cX9_getsAppend 79 = .ok (.iconst 5, 1) := by decide +kernel
theorem dX9_getsAppend_80 : decode cX9_getsAppend 80 = .ok (.iaload, 1) := by decide +kernel
theorem dX9_getsAppend_81 : decode cX9_getsAppend 81 = .ok (.if_icmp .eq 91, 3) := by decide +kernel
theorem dX9_getsAppend_84 : decode cX9_getsAppend 84 = .ok (.iload_n 2, 1) := by decide +kernel
theorem dX9_getsAppend_85 : decode cX9_getsAppend 85 = .ok (.iconst 1, 1) := by decide +kernel
theorem dX9_getsAppend_86 : decode cX9_getsAppend 86 = .ok (.isub, 1) := by decide +kernel
theorem dX9_getsAppend_87 : decode cX9_getsAppend 87 = .ok (.aload_n 0, 1) := by decide +kernel
theorem dX9_getsAppend_88 : decode cX9_getsAppend 88 = .ok (.iload_n 1, 1) := by decide +kernel
theorem dX9_getsAppend_89 : decode cX9_getsAppend 89 = .ok (.bipush 6, 2) := by decide +kernel
theorem dX9_getsAppend_91 : decode cX9_getsAppend 91 = .ok (.invokevirtual 146, 3) := by decide +kernel
theorem dX9_getsAppend_94 : decode cX9_getsAppend 94 = .ok (.if_icmp .le 9, 3) := by decide +kernel
theorem dX9_getsAppend_97 : decode cX9_getsAppend 97 = .ok (.iload_n 2, 1) := by decide +kernel
theorem dX9_getsAppend_98 : decode cX9_getsAppend 98 = .ok (.iconst 1, 1) := by decide +kernel
theorem dX9_getsAppend_99 : decode cX9_getsAppend 99 = .ok (.isub, 1) := by decide +kernel
theorem dX9_getsAppend_100 : decode cX9_getsAppend 100 = .ok (.goto 10, 3) := by decide +kernel
theorem dX9_getsAppend_103 : decode cX9_getsAppend 103 = .ok (.aload_n 0, 1) := by decide +kernel
theorem dX9_getsAppend_104 : decode cX9_getsAppend 104 = .ok (.iload_n 1, 1) := by decide +kernel
theorem dX9_getsAppend_105 : decode cX9_getsAppend 105 = .ok (.bipush 6, 2) := by decide +kernel
theorem dX9_getsAppend_107 : decode cX9_getsAppend 107 = .ok (.invokevirtual 146, 3) := by decide +kernel
theorem dX9_getsAppend_110 : decode cX9_getsAppend 110 = .ok (.istore_n 3, 1) := by decide +kernel
theorem dX9_getsAppend_111 : decode cX9_getsAppend 111 = .ok (.iload_n 3, 1) := by decide +kernel
theorem dX9_getsAppend_112 : decode cX9_getsAppend 112 = .ok (.aload_n 0, 1) := by decide +kernel
theorem dX9_getsAppend_113 : decode cX9_getsAppend 113 = .ok (.iload_n 1, 1) := by decide +kernel
theorem dX9_getsAppend_114 : decode cX9_getsAppend 114 = .ok (.iconst 4, 1) := by decide +kernel
theorem dX9_getsAppend_115 : decode cX9_getsAppend 115 = .ok (.invokevirtual 146, 3) := by decide +kernel
theorem dX9_getsAppend_118 : decode cX9_getsAppend 118 = .ok (.if_icmp .ge 10, 3) := by decide +kernel
theorem dX9_getsAppend_121 : decode cX9_getsAppend 121 = .ok (.aload_n 0, 1) := by decide +kernel
theorem dX9_getsAppend_122 : decode cX9_getsAppend 122 = .ok (.iload_n 1, 1) := by decide +kernel
theorem dX9_getsAppend_123 : decode cX9_getsAppend 123 = .ok (.iconst 4, 1) := by decide +kernel
theorem dX9_getsAppend_124 : decode cX9_getsAppend 124 = .ok (.iload_n 3, 1) := by decide +kernel
theorem dX9_getsAppend_125 : decode cX9_getsAppend 125 = .ok (.invokevirtual 139, 3) := by decide +kernel
theorem dX9_getsAppend_128 : decode cX9_getsAppend 128 = .ok (.aload_n 0, 1) := by decide +kernel
theorem dX9_getsAppend_129 : decode cX9_getsAppend 129 = .ok (.iload_n 1, 1) := by decide +kernel
theorem dX9_getsAppend_130 : decode cX9_getsAppend 130 = .ok (.iconst 4, 1) := by decide +kernel
theorem dX9_getsAppend_131 : decode cX9_getsAppend 131 = .ok (.invokevirtual 146, 3) := by decide +kernel
theorem dX9_getsAppend_134 : decode cX9_getsAppend 134 = .ok (.iload_n 2, 1) := by decide +kernel
theorem dX9_getsAppend_135 : decode cX9_getsAppend 135 = .ok (.iconst 1, 1) := by decide +kernel
theorem dX9_getsAppend_136 : decode cX9_getsAppend 136 = .ok (.isub, 1) := by decide +kernel
theorem dX9_getsAppend_137 : decode cX9_getsAppend 137 = .ok (.if_icmp .ge 12, 3) := by decide +kernel
theorem dX9_getsAppend_140 : decode cX9_getsAppend 140 = .ok (.aload_n 0, 1) := by decide +kernel
theorem dX9_getsAppend_141 : decode cX9_getsAppend 141 = .ok (.iload_n 1, 1) := by decide +kernel
theorem dX9_getsAppend_142 : decode cX9_getsAppend 142 = .ok (.iconst 4, 1) := by decide +kernel
theorem dX9_getsAppend_143 : decode cX9_getsAppend 143 = .ok (.invokevirtual 146, 3) := by decide +kernel
theorem dX9_getsAppend_146 : decode cX9_getsAppend 146 = .ok (.goto 6, 3) := by decide +kernel
theorem dX9_getsAppend_149 : decode cX9_getsAppend 149 = .ok (.iload_n 2, 1) := by decide +kernel
theorem dX9_getsAppend_150 : decode cX9_getsAppend 150 = .ok (.iconst 1, 1) := by decide +kernel
theorem dX9_getsAppend_151 : decode cX9_getsAppend 151 = .ok (.isub, 1) := by decide +kernel
theorem dX9_getsAppend_152 : decode cX9_getsAppend 152 = .ok (.istore 4, 2) := by decide +kernel
theorem dX9_getsAppend_154 : decode cX9_getsAppend 154 = .ok (.aload_n 0, 1) := by decide +kernel
theorem dX9_getsAppend_155 : decode cX9_getsAppend 155 = .ok (.iload_n 1, 1) := by decide +kernel
theorem dX9_getsAppend_156 : decode cX9_getsAppend 156 = .ok (.iconst 0, 1) := by decide +kernel
theorem dX9_getsAppend_157 : decode cX9_getsAppend 157 = .ok (.iload 4, 2) := by decide +kernel
theorem dX9_getsAppend_159 : decode cX9_getsAppend 159 = .ok (.ifCond .ge 7, 3) := by decide +kernel
theorem dX9_getsAppend_162 : decode cX9_getsAppend 162 = .ok (.iconst 0, 1) := by decide +kernel
theorem dX9_getsAppend_163 : decode cX9_getsAppend 163 = .ok (.goto 5, 3) := by decide +kernel
theorem dX9_getsAppend_166 : decode cX9_getsAppend 166 = .ok (.iload 4, 2) := by decide +kernel
theorem dX9_getsAppend_168 : decode cX9_getsAppend 168 = .ok (.invokevirtual 229, 3) := by decide +kernel
theorem dX9_getsAppend_171 : decode cX9_getsAppend 171 = .ok (.ireturn, 1) := by decide +kernel
theorem dX9_getsAppend_172 : decode cX9_getsAppend 172 = .ok (.iload_n 2, 1) := by decide +kernel
theorem dX9_getsAppend_173 : decode cX9_getsAppend 173 = .ok (.istore_n 3, 1) := by decide +kernel
theorem dX9_getsAppend_174 : decode cX9_getsAppend 174 = .ok (.iconst 0, 1) := by decide +kernel
theorem dX9_getsAppend_175 : decode cX9_getsAppend 175 = .ok (.istore 4, 2) := by decide +kernel
theorem dX9_getsAppend_177 : decode cX9_getsAppend 177 = .ok (.iload 4, 2) := by decide +kernel
theorem dX9_getsAppend_179 : decode cX9_getsAppend 179 = .ok (.aload_n 0, 1) := by decide +kernel
theorem dX9_getsAppend_180 : decode cX9_getsAppend 180 = .ok (.getfield 41, 3) := by decide +kernel
theorem dX9_getsAppend_183 : decode cX9_getsAppend 183 = .ok (.bipush 6, 2) := by decide +kernel
theorem dX9_getsAppend_185 : decode cX9_getsAppend 185 = .ok (.iaload, 1) := by decide +kernel
theorem dX9_getsAppend_186 : decode cX9_getsAppend 186 = .ok (.if_icmp .ge 42, 3) := by decide +kernel
theorem dX9_getsAppend_189 : decode cX9_getsAppend 189 = .ok (.iload_n 3, 1) := by decide +kernel
theorem dX9_getsAppend_190 : decode cX9_getsAppend 190 = .ok (.iload_n 2, 1) := by decide +kernel
theorem dX9_getsAppend_191 : decode cX9_getsAppend 191 = .ok (.iload 4, 2) := by decide +kernel
theorem dX9_getsAppend_193 : decode cX9_getsAppend 193 = .ok (.iadd, 1) := by decide +kernel
theorem dX9_getsAppend_194 : decode cX9_getsAppend 194 = .ok (.if_icmp .ne 34, 3) := by decide +kernel
theorem dX9_getsAppend_197 : decode cX9_getsAppend 197 = .ok (.aload_n 0, 1) := by decide +kernel
theorem dX9_getsAppend_198 : decode cX9_getsAppend 198 = .ok (.iload_n 1, 1) := by decide +kernel
theorem dX9_getsAppend_199 : decode cX9_getsAppend 199 = .ok (.iload_n 2, 1) := by decide +kernel
theorem dX9_getsAppend_200 : decode cX9_getsAppend 200 = .ok (.iconst 1, 1) := by decide +kernel
theorem dX9_getsAppend_201 : decode cX9_getsAppend 201 = .ok (.iadd, 1) := by decide +kernel
theorem dX9_getsAppend_202 : decode cX9_getsAppend 202 = .ok (.iload 4, 2) := by decide +kernel
theorem dX9_getsAppend_204 : decode cX9_getsAppend 204 = .ok (.iadd, 1) := by decide +kernel
theorem dX9_getsAppend_205 : decode cX9_getsAppend 205 = .ok (.bipush 10, 2) := by decide +kernel
theorem dX9_getsAppend_207 : decode cX9_getsAppend 207 = .ok (.bipush 6, 2) := by decide +kernel
theorem dX9_getsAppend_209 : decode cX9_getsAppend 209 = .ok (.iload 4, 2) := by decide +kernel
theorem dX9_getsAppend_211 : decode cX9_getsAppend 211 = .ok (.imul, 1) := by decide +kernel
theorem dX9_getsAppend_212 : decode cX9_getsAppend 212 = .ok (.iadd, 1) := by decide +kernel
theorem dX9_getsAppend_213 : decode cX9_getsAppend 213 = .ok (.invokevirtual 233, 3) := by decide +kernel
theorem dX9_getsAppend_216 : decode cX9_getsAppend 216 = .ok (.ifCond .eq 6, 3) := by decide +kernel
theorem dX9_getsAppend_219 : decode cX9_getsAppend 219 = .ok (.iinc 3 1, 3) := by decide +kernel
theorem dX9_getsAppend_222 : decode cX9_getsAppend 222 = .ok (.iinc 4 1, 3) := by decide +kernel
theorem dX9_getsAppend_225 : decode cX9_getsAppend 225 = .ok (.goto (-48), 3) := by decide +kernel
theorem dX9_getsAppend_228 : decode cX9_getsAppend 228 = .ok (.aload_n 0, 1) := by decide +kernel
theorem dX9_getsAppend_229 : decode cX9_getsAppend 229 = .ok (.getfield 41, 3) := by decide +kernel
theorem dX9_getsAppend_232 : decode cX9_getsAppend 232 = .ok (.bipush 7, 2) := by decide +kernel
theorem dX9_getsAppend_234 : decode cX9_getsAppend 234 = .ok (.iaload, 1) := by decide +kernel
theorem dX9_getsAppend_235 : decode cX9_getsAppend 235 = .ok (.iload_n 3, 1) := by decide +kernel
theorem dX9_getsAppend_236 : decode cX9_getsAppend 236 = .ok (.if_icmp .ge 13, 3) := by decide +kernel
theorem dX9_getsAppend_239 : decode cX9_getsAppend 239 = .ok (.aload_n 0, 1) := by decide +kernel
theorem dX9_getsAppend_240 : decode cX9_getsAppend 240 = .ok (.getfield 41, 3) := by decide +kernel
theorem dX9_getsAppend_243 : decode cX9_getsAppend 243 = .ok (.bipush 7, 2) := by decide +kernel
theorem dX9_getsAppend_245 : decode cX9_getsAppend 245 = .ok (.iaload, 1) := by decide +kernel
theorem dX9_getsAppend_246 : decode cX9_getsAppend 246 = .ok (.goto 4, 3) := by decide +kernel
theorem dX9_getsAppend_249 : decode cX9_getsAppend 249 = .ok (.iload_n 3, 1) := by decide +kernel
theorem dX9_getsAppend_250 : decode cX9_getsAppend 250 = .ok (.istore 4, 2) := by decide +kernel
theorem dX9_getsAppend_252 : decode cX9_getsAppend 252 = .ok (.aload_n 0, 1) := by decide +kernel
theorem dX9_getsAppend_253 : decode cX9_getsAppend 253 = .ok (.iload_n 1, 1) := by decide +kernel
theorem dX9_getsAppend_254 : decode cX9_getsAppend 254 = .ok (.iload 4, 2) := by decide +kernel
theorem dX9_getsAppend_256 : decode cX9_getsAppend 256 = .ok (.invokevirtual 179, 3) := by decide +kernel
theorem dX9_getsAppend_259 : decode cX9_getsAppend 259 = .ok (.aload_n 0, 1) := by decide +kernel
theorem dX9_getsAppend_260 : decode cX9_getsAppend 260 = .ok (.iload_n 1, 1) := by decide +kernel
theorem dX9_getsAppend_261 : decode cX9_getsAppend 261 = .ok (.iconst 1, 1) := by decide +kernel
theorem dX9_getsAppend_262 : decode cX9_getsAppend 262 = .ok (.iload_n 3, 1) := by decide +kernel
theorem dX9_getsAppend_263 : decode cX9_getsAppend 263 = .ok (.invokevirtual 229, 3) := by decide +kernel
theorem dX9_getsAppend_266 : decode cX9_getsAppend 266 = .ok (.ireturn, 1) := by decide +kernel
theorem dX9_takes_0 : decode cX9_takes 0 = .ok (.iload_n 2, 1) := by decide +kernel
theorem dX9_takes_1 : decode cX9_takes 1 = .ok (.aload_n 0, 1) := by decide +kernel
theorem dX9_takes_2 : decode cX9_takes 2 = .ok (.iload_n 1, 1) := by decide +kernel
theorem dX9_takes_3 : decode cX9_takes 3 = .ok (.iconst 2, 1) := by decide +kernel
theorem dX9_takes_4 : decode cX9_takes 4 = .ok (.invokevirtual 146, 3) := by decide +kernel
theorem dX9_takes_7 : decode cX9_takes 7 = .ok (.if_icmp .gt 5, 3) := by decide +kernel
theorem dX9_takes_10 : decode cX9_takes 10 = .ok (.iconst 1, 1) := by decide +kernel
theorem dX9_takes_11 : decode cX9_takes 11 = .ok (.ireturn, 1) := by decide +kernel
theorem dX9_takes_12 : decode cX9_takes 12 = .ok (.iload_n 2, 1) := by decide +kernel
theorem dX9_takes_13 : decode cX9_takes 13 = .ok (.aload_n 0, 1) := by decide +kernel
theorem dX9_takes_14 : decode cX9_takes 14 = .ok (.iload_n 1, 1) := by decide +kernel
theorem dX9_takes_15 : decode cX9_takes 15 = .ok (.iconst 4, 1) := by decide +kernel
theorem dX9_takes_16 : decode cX9_takes 16 = .ok (.invokevirtual 146, 3) := by decide +kernel
theorem dX9_takes_19 : decode cX9_takes 19 = .ok (.if_icmp .gt 20, 3) := by decide +kernel
theorem dX9_takes_22 : decode cX9_takes 22 = .ok (.aload_n 0, 1) := by decide +kernel
theorem dX9_takes_23 : decode cX9_takes 23 = .ok (.iload_n 1, 1) := by decide +kernel
theorem dX9_takes_24 : decode cX9_takes 24 = .ok (.iload_n 2, 1) := by decide +kernel
theorem dX9_takes_25 : decode cX9_takes 25 = .ok (.invokevirtual 172, 3) := by decide +kernel
theorem dX9_takes_28 : decode cX9_takes 28 = .ok (.aload_n 0, 1) := by decide +kernel
theorem dX9_takes_29 : decode cX9_takes 29 = .ok (.getfield 41, 3) := by decide +kernel
theorem dX9_takes_32 : decode cX9_takes 32 = .ok (.iload_n 3, 1) := by decide +kernel
theorem dX9_takes_33 : decode cX9_takes 33 = .ok (.iaload, 1) := by decide +kernel
theorem dX9_takes_34 : decode cX9_takes 34 = .ok (.if_icmp .ne 5, 3) := by decide +kernel
theorem dX9_takes_37 : decode cX9_takes 37 = .ok (.iconst 1, 1) := by decide +kernel
theorem dX9_takes_38 : decode cX9_takes 38 = .ok (.ireturn, 1) := by decide +kernel
theorem dX9_takes_39 : decode cX9_takes 39 = .ok (.iload_n 2, 1) := by decide +kernel
theorem dX9_takes_40 : decode cX9_takes 40 = .ok (.aload_n 0, 1) := by decide +kernel
theorem dX9_takes_41 : decode cX9_takes 41 = .ok (.iload_n 1, 1) := by decide +kernel
theorem dX9_takes_42 : decode cX9_takes 42 = .ok (.iconst 4, 1) := by decide +kernel
theorem dX9_takes_43 : decode cX9_takes 43 = .ok (.invokevirtual 146, 3) := by decide +kernel
theorem dX9_takes_46 : decode cX9_takes 46 = .ok (.if_icmp .gt 12, 3) := by decide +kernel
theorem dX9_takes_49 : decode cX9_takes 49 = .ok (.aload_n 0, 1) := by decide +kernel
theorem dX9_takes_50 : decode cX9_takes 50 = .ok (.iload_n 1, 1) := by decide +kernel
theorem dX9_takes_51 : decode cX9_takes 51 = .ok (.iconst 4, 1) := by decide +kernel
theorem dX9_takes_52 : decode cX9_takes 52 = .ok (.iload_n 2, 1) := by decide +kernel
theorem dX9_takes_53 : decode cX9_takes 53 = .ok (.iconst 1, 1) := by decide +kernel
theorem dX9_takes_54 : decode cX9_takes 54 = .ok (.isub, 1) := by decide +kernel
theorem dX9_takes_55 : decode cX9_takes 55 = .ok (.invokevirtual 139, 3) := by decide +kernel
theorem dX9_takes_58 : decode cX9_takes 58 = .ok (.aload_n 0, 1) := by decide +kernel
theorem dX9_takes_59 : decode cX9_takes 59 = .ok (.iload_n 1, 1) := by decide +kernel
theorem dX9_takes_60 : decode cX9_takes 60 = .ok (.iconst 4, 1) := by decide +kernel
theorem dX9_takes_61 : decode cX9_takes 61 = .ok (.invokevirtual 146, 3) := by decide +kernel
theorem dX9_takes_64 : decode cX9_takes 64 = .ok (.aload_n 0, 1) := by decide +kernel
theorem dX9_takes_65 : decode cX9_takes 65 = .ok (.iload_n 1, 1) := by decide +kernel
theorem dX9_takes_66 : decode cX9_takes 66 = .ok (.iconst 2, 1) := by decide +kernel
theorem dX9_takes_67 : decode cX9_takes 67 = .ok (.invokevirtual 146, 3) := by decide +kernel
theorem dX9_takes_70 : decode cX9_takes 70 = .ok (.isub, 1) := by decide +kernel
theorem dX9_takes_71 : decode cX9_takes 71 = .ok (.bipush 40, 2) := by decide +kernel
theorem dX9_takes_73 : decode cX9_takes 73 = .ok (.if_icmp .lt 5, 3) := by decide +kernel
theorem dX9_takes_76 : decode cX9_takes 76 = .ok (.iconst 0, 1) := by decide +kernel
theorem dX9_takes_77 : decode cX9_takes 77 = .ok (.ireturn, 1) := by decide +kernel
theorem dX9_takes_78 : decode cX9_takes 78 = .ok (.aload_n 0, 1) := by decide +kernel
theorem dX9_takes_79 : decode cX9_takes 79 = .ok (.iload_n 1, 1) := by decide +kernel
theorem dX9_takes_80 : decode cX9_takes 80 = .ok (.iconst 4, 1) := by decide +kernel
theorem dX9_takes_81 : decode cX9_takes 81 = .ok (.iload_n 2, 1) := by decide +kernel
theorem dX9_takes_82 : decode cX9_takes 82 = .ok (.invokevirtual 139, 3) := by decide +kernel
theorem dX9_takes_85 : decode cX9_takes 85 = .ok (.iconst 0, 1) := by decide +kernel
theorem dX9_takes_86 : decode cX9_takes 86 = .ok (.istore 4, 2) := by decide +kernel
theorem dX9_takes_88 : decode cX9_takes 88 = .ok (.iload 4, 2) := by decide +kernel
theorem dX9_takes_90 : decode cX9_takes 90 = .ok (.bipush 6, 2) := by decide +kernel
theorem dX9_takes_92 : decode cX9_takes 92 = .ok (.if_icmp .ge 32, 3) := by decide +kernel
theorem dX9_takes_95 : decode cX9_takes 95 = .ok (.aload_n 0, 1) := by decide +kernel
theorem dX9_takes_96 : decode cX9_takes 96 = .ok (.getfield 16, 3) := by decide +kernel
theorem dX9_takes_99 : decode cX9_takes 99 = .ok (.aload_n 0, 1) := by decide +kernel
theorem dX9_takes_100 : decode cX9_takes 100 = .ok (.iload_n 1, 1) := by decide +kernel
theorem dX9_takes_101 : decode cX9_takes 101 = .ok (.iload_n 2, 1) := by decide +kernel
theorem dX9_takes_102 : decode cX9_takes 102 = .ok (.invokevirtual 153, 3) := by decide +kernel
theorem dX9_takes_105 : decode cX9_takes 105 = .ok (.iload 4, 2) := by decide +kernel
theorem dX9_takes_107 : decode cX9_takes 107 = .ok (.iadd, 1) := by decide +kernel
theorem dX9_takes_108 : decode cX9_takes 108 = .ok (.aload_n 0, 1) := by decide +kernel
theorem dX9_takes_109 : decode cX9_takes 109 = .ok (.getfield 41, 3) := by decide +kernel
theorem dX9_takes_112 : decode cX9_takes 112 = .ok (.iload_n 3, 1) := by decide +kernel
theorem dX9_takes_113 : decode cX9_takes 113 = .ok (.iload 4, 2) := by decide +kernel
theorem dX9_takes_115 : decode cX9_takes 115 = .ok (.iadd, 1) := by decide +kernel
theorem dX9_takes_116 : decode cX9_takes 116 = .ok (.iaload, 1) := by decide +kernel
theorem dX9_takes_117 : decode cX9_takes 117 = .ok (.iastore, 1) := by decide +kernel
theorem dX9_takes_118 : decode cX9_takes 118 = .ok (.iinc 4 1, 3) := by decide +kernel
theorem dX9_takes_121 : decode cX9_takes 121 = .ok (.goto (-33), 3) := by decide +kernel
theorem dX9_takes_124 : decode cX9_takes 124 = .ok (.iconst 1, 1) := by decide +kernel
theorem dX9_takes_125 : decode cX9_takes 125 = .ok (.ireturn, 1) := by decide +kernel
theorem dX9_getsFolding_0 : decode cX9_getsFolding 0 = .ok (.aload_n 0, 1) := by decide +kernel
theorem dX9_getsFolding_1 : decode cX9_getsFolding 1 = .ok (.getfield 41, 3) := by decide +kernel
theorem dX9_getsFolding_4 : decode cX9_getsFolding 4 = .ok (.iconst 3, 1) := by decide +kernel
theorem dX9_getsFolding_5 : decode cX9_getsFolding 5 = .ok (.iaload, 1) := by decide +kernel
theorem dX9_getsFolding_6 : decode cX9_getsFolding 6 = .ok (.aload_n 0, 1) := by decide +kernel
theorem dX9_getsFolding_7 : decode cX9_getsFolding 7 = .ok (.iload_n 1, 1) := by decide +kernel
theorem dX9_getsFolding_8 : decode cX9_getsFolding 8 = .ok (.iconst 0, 1) := by decide +kernel
theorem dX9_getsFolding_9 : decode cX9_getsFolding 9 = .ok (.invokevirtual 146, 3) := by decide +kernel
theorem dX9_getsFolding_12 : decode cX9_getsFolding 12 = .ok (.if_icmp .ge 11, 3) := by decide +kernel
theorem dX9_getsFolding_15 : decode cX9_getsFolding 15 = .ok (.aload_n 0, 1) := by decide +kernel
theorem dX9_getsFolding_16 : decode cX9_getsFolding 16 = .ok (.iload_n 1, 1) := by decide +kernel
theorem dX9_getsFolding_17 : decode cX9_getsFolding 17 = .ok (.iconst 0, 1) := by decide +kernel
theorem dX9_getsFolding_18 : decode cX9_getsFolding 18 = .ok (.iconst 0, 1) := by decide +kernel
theorem dX9_getsFolding_19 : decode cX9_getsFolding 19 = .ok (.invokevirtual 229, 3) := by decide +kernel
theorem dX9_getsFolding_22 : decode cX9_getsFolding 22 = .ok (.ireturn, 1) := by decide +kernel
theorem dX9_getsFolding_23 : decode cX9_getsFolding 23 = .ok (.aload_n 0, 1) := by decide +kernel
theorem dX9_getsFolding_24 : decode cX9_getsFolding 24 = .ok (.iload_n 1, 1) := by decide +kernel
theorem dX9_getsFolding_25 : decode cX9_getsFolding 25 = .ok (.iconst 5, 1) := by decide +kernel
theorem dX9_getsFolding_26 : decode cX9_getsFolding 26 = .ok (.invokevirtual 146, 3) := by decide +kernel
theorem dX9_getsFolding_29 : decode cX9_getsFolding 29 = .ok (.iconst 2, 1) := by decide +kernel
theorem dX9_getsFolding_30 : decode cX9_getsFolding 30 = .ok (.if_icmp .ne 5, 3) := by decide +kernel
theorem dX9_getsFolding_33 : decode cX9_getsFolding 33 = .ok (.iconst 0, 1) := by decide +kernel
theorem dX9_getsFolding_34 : decode cX9_getsFolding 34 = .ok (.ireturn, 1) := by decide +kernel
theorem dX9_getsFolding_35 : decode cX9_getsFolding 35 = .ok (.aload_n 0, 1) := by decide +kernel
theorem dX9_getsFolding_36 : decode cX9_getsFolding 36 = .ok (.iload_n 1, 1) := by decide +kernel
theorem dX9_getsFolding_37 : decode cX9_getsFolding 37 = .ok (.iconst 5, 1) := by decide +kernel
theorem dX9_getsFolding_38 : decode cX9_getsFolding 38 = .ok (.iconst 0, 1) := by decide +kernel
theorem dX9_getsFolding_39 : decode cX9_getsFolding 39 = .ok (.invokevirtual 139, 3) := by decide +kernel
theorem dX9_getsFolding_42 : decode cX9_getsFolding 42 = .ok (.aload_n 0, 1) := by decide +kernel
theorem dX9_getsFolding_43 : decode cX9_getsFolding 43 = .ok (.getfield 41, 3) := by decide +kernel
theorem dX9_getsFolding_46 : decode cX9_getsFolding 46 = .ok (.iconst 4, 1) := by decide +kernel
theorem dX9_getsFolding_47 : decode cX9_getsFolding 47 = .ok (.iaload, 1) := by decide +kernel
theorem dX9_getsFolding_48 : decode cX9_getsFolding 48 = .ok (.istore_n 2, 1) := by decide +kernel
theorem dX9_getsFolding_49 : decode cX9_getsFolding 49 = .ok (.iload_n 2, 1) := by decide +kernel
theorem dX9_getsFolding_50 : decode cX9_getsFolding 50 = .ok (.aload_n 0, 1) := by decide +kernel
theorem dX9_getsFolding_51 : decode cX9_getsFolding 51 = .ok (.iload_n 1, 1) := by decide +kernel
theorem dX9_getsFolding_52 : decode cX9_getsFolding 52 = .ok (.bipush 6, 2) := by decide +kernel
theorem dX9_getsFolding_54 : decode cX9_getsFolding 54 = .ok (.invokevirtual 146, 3) := by decide +kernel
theorem dX9_getsFolding_57 : decode cX9_getsFolding 57 = .ok (.if_icmp .le 185, 3) := by decide +kernel
theorem dX9_getsFolding_60 : decode cX9_getsFolding 60 = .ok (.iload_n 2, 1) := by decide +kernel
theorem dX9_getsFolding_61 : decode cX9_getsFolding 61 = .ok (.aload_n 0, 1) := by decide +kernel
theorem dX9_getsFolding_62 : decode cX9_getsFolding 62 = .ok (.iload_n 1, 1) := by decide +kernel
theorem dX9_getsFolding_63 : decode cX9_getsFolding 63 = .ok (.iconst 4, 1) := by decide +kernel
theorem dX9_getsFolding_64 : decode cX9_getsFolding 64 = .ok (.invokevirtual 146, 3) := by decide +kernel
theorem dX9_getsFolding_67 : decode cX9_getsFolding 67 = .ok (.if_icmp .gt 32, 3) := by decide +kernel
theorem dX9_getsFolding_70 : decode cX9_getsFolding 70 = .ok (.iload_n 2, 1) := by decide +kernel
theorem dX9_getsFolding_71 : decode cX9_getsFolding 71 = .ok (.aload_n 0, 1) := by decide +kernel
theorem dX9_getsFolding_72 : decode cX9_getsFolding 72 = .ok (.iload_n 1, 1) := by decide +kernel
theorem dX9_getsFolding_73 : decode cX9_getsFolding 73 = .ok (.iconst 2, 1) := by decide +kernel
theorem dX9_getsFolding_74 : decode cX9_getsFolding 74 = .ok (.invokevirtual 146, 3) := by decide +kernel
theorem dX9_getsFolding_77 : decode cX9_getsFolding 77 = .ok (.if_icmp .le 22, 3) := by decide +kernel
theorem dX9_getsFolding_80 : decode cX9_getsFolding 80 = .ok (.aload_n 0, 1) := by decide +kernel
theorem dX9_getsFolding_81 : decode cX9_getsFolding 81 = .ok (.iload_n 1, 1) := by decide +kernel
theorem dX9_getsFolding_82 : decode cX9_getsFolding 82 = .ok (.iload_n 2, 1) := by decide +kernel
theorem dX9_getsFolding_83 : decode cX9_getsFolding 83 = .ok (.invokevirtual 172, 3) := by decide +kernel
theorem dX9_getsFolding_86 : decode cX9_getsFolding 86 = .ok (.aload_n 0, 1) := by decide +kernel
theorem dX9_getsFolding_87 : decode cX9_getsFolding 87 = .ok (.getfield 41, 3) := by decide +kernel
theorem dX9_getsFolding_90 : decode cX9_getsFolding 90 = .ok (.iconst 5, 1) := by decide +kernel
theorem dX9_getsFolding_91 : decode cX9_getsFolding 91 = .ok (.iaload, 1) := by decide +kernel
theorem dX9_getsFolding_92 : decode cX9_getsFolding 92 = .ok (.if_icmp .ne 7, 3) := by decide +kernel
theorem dX9_getsFolding_95 : decode cX9_getsFolding 95 = .ok (.iconst 1, 1) := by decide +kernel
theorem dX9_getsFolding_96 : decode cX9_getsFolding 96 = .ok (.goto 4, 3) := by decide +kernel
theorem dX9_getsFolding_99 : decode cX9_getsFolding 99 = .ok (.iconst 0, 1) := by decide +kernel
theorem dX9_getsFolding_100 : decode cX9_getsFolding 100 = .ok (.istore_n 3, 1) := by decide +kernel
theorem dX9_getsFolding_101 : decode cX9_getsFolding 101 = .ok (.iload_n 3, 1) := by decide +kernel
theorem dX9_getsFolding_102 : decode cX9_getsFolding 102 = .ok (.ifCond .eq 14, 3) := by decide +kernel
theorem dX9_getsFolding_105 : decode cX9_getsFolding 105 = .ok (.aload_n 0, 1) := by decide +kernel
theorem dX9_getsFolding_106 : decode cX9_getsFolding 106 = .ok (.iload_n 1, 1) := by decide +kernel
theorem dX9_getsFolding_107 : decode cX9_getsFolding 107 = .ok (.iconst 4, 1) := by decide +kernel
theorem dX9_getsFolding_108 : decode cX9_getsFolding 108 = .ok (.invokevirtual 146, 3) := by decide +kernel
theorem dX9_getsFolding_111 : decode cX9_getsFolding 111 = .ok (.iload_n 2, 1) := by decide +kernel
theorem dX9_getsFolding_112 : decode cX9_getsFolding 112 = .ok (.isub, 1) := by decide +kernel
theorem dX9_getsFolding_113 : decode cX9_getsFolding 113 = .ok (.goto 4, 3) := by decide +kernel
theorem dX9_getsFolding_116 : decode cX9_getsFolding 116 = .ok (.iconst 0, 1) := by decide +kernel
theorem dX9_getsFolding_117 : decode cX9_getsFolding 117 = .ok (.istore 4, 2) := by decide +kernel
theorem dX9_getsFolding_119 : decode cX9_getsFolding 119 = .ok (.iload_n 3, 1) := by decide +kernel
theorem dX9_getsFolding_120 : decode cX9_getsFolding 120 = .ok (.ifCond .eq 29, 3) := by decide +kernel
theorem dX9_getsFolding_123 : decode cX9_getsFolding 123 = .ok (.aload_n 0, 1) := by decide +kernel
theorem dX9_getsFolding_124 : decode cX9_getsFolding 124 = .ok (.aload_n 0, 1) := by decide +kernel
theorem dX9_getsFolding_125 : decode cX9_getsFolding 125 = .ok (.iload_n 1, 1) := by decide +kernel
theorem dX9_getsFolding_126 : decode cX9_getsFolding 126 = .ok (.iload_n 2, 1) := by decide +kernel
theorem dX9_getsFolding_127 : decode cX9_getsFolding 127 = .ok (.invokevirtual 153, 3) := by decide +kernel
theorem dX9_getsFolding_130 : decode cX9_getsFolding 130 = .ok (.bipush 6, 2) := by decide +kernel
theorem dX9_getsFolding_132 : decode cX9_getsFolding 132 = .ok (.iadd, 1) := by decide +kernel
theorem dX9_getsFolding_133 : decode cX9_getsFolding 133 = .ok (.sipush 320, 3) := by decide +kernel
theorem dX9_getsFolding_136 : decode cX9_getsFolding 136 = .ok (.iload_n 1, 1) := by decide +kernel
theorem dX9_getsFolding_137 : decode cX9_getsFolding 137 = .ok (.imul, 1) := by decide +kernel
theorem dX9_getsFolding_138 : decode cX9_getsFolding 138 = .ok (.bipush 80, 2) := by decide +kernel
theorem dX9_getsFolding_140 : decode cX9_getsFolding 140 = .ok (.iadd, 1) := by decide +kernel
theorem dX9_getsFolding_141 : decode cX9_getsFolding 141 = .ok (.bipush 6, 2) := by decide +kernel
theorem dX9_getsFolding_143 : decode cX9_getsFolding 143 = .ok (.iload 4, 2) := by decide +kernel
theorem dX9_getsFolding_145 : decode cX9_getsFolding 145 = .ok (.imul, 1) := by decide +kernel
theorem dX9_getsFolding_146 : decode cX9_getsFolding 146 = .ok (.invokevirtual 208, 3) := by decide +kernel
theorem dX9_getsFolding_149 : decode cX9_getsFolding 149 = .ok (.aload_n 0, 1) := by decide +kernel
theorem dX9_getsFolding_150 : decode cX9_getsFolding 150 = .ok (.iload_n 1, 1) := by decide +kernel
theorem dX9_getsFolding_151 : decode cX9_getsFolding 151 = .ok (.iconst 2, 1) := by decide +kernel
theorem dX9_getsFolding_152 : decode cX9_getsFolding 152 = .ok (.iload_n 2, 1) := by decide +kernel
theorem dX9_getsFolding_153 : decode cX9_getsFolding 153 = .ok (.invokevirtual 139, 3) := by decide +kernel
theorem dX9_getsFolding_156 : decode cX9_getsFolding 156 = .ok (.aload_n 0, 1) := by decide +kernel
theorem dX9_getsFolding_157 : decode cX9_getsFolding 157 = .ok (.iload_n 1, 1) := by decide +kernel
theorem dX9_getsFolding_158 : decode cX9_getsFolding 158 = .ok (.iconst 3, 1) := by decide +kernel
theorem dX9_getsFolding_159 : decode cX9_getsFolding 159 = .ok (.aload_n 0, 1) := by decide +kernel
theorem dX9_getsFolding_160 : decode cX9_getsFolding 160 = .ok (.getfield 41, 3) := by decide +kernel
theorem dX9_getsFolding_163 : decode cX9_getsFolding 163 = .ok (.iconst 5, 1) := by decide +kernel
theorem dX9_getsFolding_164 : decode cX9_getsFolding 164 = .ok (.iaload, 1) := by decide +kernel
theorem dX9_getsFolding_165 : decode cX9_getsFolding 165 = .ok (.invokevirtual 139, 3) := by decide +kernel
theorem dX9_getsFolding_168 : decode cX9_getsFolding 168 = .ok (.aload_n 0, 1) := by decide +kernel
theorem dX9_getsFolding_169 : decode cX9_getsFolding 169 = .ok (.iload_n 1, 1) := by decide +kernel
theorem dX9_getsFolding_170 : decode cX9_getsFolding 170 = .ok (.iconst 4, 1) := by decide +kernel
theorem dX9_getsFolding_171 : decode cX9_getsFolding 171 = .ok (.iload_n 2, 1) := by decide +kernel
theorem dX9_getsFolding_172 : decode cX9_getsFolding 172 = .ok (.iload 4, 2) := by decide +kernel
theorem dX9_getsFolding_174 : decode cX9_getsFolding 174 = .ok (.iadd, 1) := by decide +kernel
theorem dX9_getsFolding_175 : decode cX9_getsFolding 175 = .ok (.invokevirtual 139, 3) := by decide +kernel
theorem dX9_getsFolding_178 : decode cX9_getsFolding 178 = .ok (.aload_n 0, 1) := by decide +kernel
theorem dX9_getsFolding_179 : decode cX9_getsFolding 179 = .ok (.iload_n 1, 1) := by decide +kernel
theorem dX9_getsFolding_180 : decode cX9_getsFolding 180 = .ok (.bipush 6, 2) := by decide +kernel
theorem dX9_getsFolding_182 : decode cX9_getsFolding 182 = .ok (.iload_n 2, 1) := by decide +kernel
theorem dX9_getsFolding_183 : decode cX9_getsFolding 183 = .ok (.invokevirtual 139, 3) := by decide +kernel
theorem dX9_getsFolding_186 : decode cX9_getsFolding 186 = .ok (.iconst 0, 1) := by decide +kernel
theorem dX9_getsFolding_187 : decode cX9_getsFolding 187 = .ok (.istore 5, 2) := by decide +kernel
theorem dX9_getsFolding_189 : decode cX9_getsFolding 189 = .ok (.iload 5, 2) := by decide +kernel
theorem dX9_getsFolding_191 : decode cX9_getsFolding 191 = .ok (.bipush 20, 2) := by decide +kernel
theorem dX9_getsFolding_193 : decode cX9_getsFolding 193 = .ok (.if_icmp .ge 49, 3) := by decide +kernel
theorem dX9_getsFolding_196 : decode cX9_getsFolding 196 = .ok (.aload_n 0, 1) := by decide +kernel
theorem dX9_getsFolding_197 : decode cX9_getsFolding 197 = .ok (.iload_n 1, 1) := by decide +kernel
theorem dX9_getsFolding_198 : decode cX9_getsFolding 198 = .ok (.bipush 10, 2) := by decide +kernel
theorem dX9_getsFolding_200 : decode cX9_getsFolding 200 = .ok (.iload 5, 2) := by decide +kernel
theorem dX9_getsFolding_202 : decode cX9_getsFolding 202 = .ok (.iadd, 1) := by decide +kernel
theorem dX9_getsFolding_203 : decode cX9_getsFolding 203 = .ok (.aload_n 0, 1) := by decide +kernel
theorem dX9_getsFolding_204 : decode cX9_getsFolding 204 = .ok (.getfield 41, 3) := by decide +kernel
theorem dX9_getsFolding_207 : decode cX9_getsFolding 207 = .ok (.bipush 10, 2) := by decide +kernel
theorem dX9_getsFolding_209 : decode cX9_getsFolding 209 = .ok (.iload 5, 2) := by decide +kernel
theorem dX9_getsFolding_211 : decode cX9_getsFolding 211 = .ok (.iadd, 1) := by decide +kernel
theorem dX9_getsFolding_212 : decode cX9_getsFolding 212 = .ok (.iaload, 1) := by decide +kernel
theorem dX9_getsFolding_213 : decode cX9_getsFolding 213 = .ok (.invokevirtual 139, 3) := by decide +kernel
theorem dX9_getsFolding_216 : decode cX9_getsFolding 216 = .ok (.aload_n 0, 1) := by decide +kernel
theorem dX9_getsFolding_217 : decode cX9_getsFolding 217 = .ok (.iload_n 1, 1) := by decide +kernel
theorem dX9_getsFolding_218 : decode cX9_getsFolding 218 = .ok (.bipush 30, 2) := by decide +kernel
theorem dX9_getsFolding_220 : decode cX9_getsFolding 220 = .ok (.iload 5, 2) := by decide +kernel
theorem dX9_getsFolding_222 : decode cX9_getsFolding 222 = .ok (.iadd, 1) := by decide +kernel
theorem dX9_getsFolding_223 : decode cX9_getsFolding 223 = .ok (.aload_n 0, 1) := by decide +kernel
theorem dX9_getsFolding_224 : decode cX9_getsFolding 224 = .ok (.getfield 41, 3) := by decide +kernel
theorem dX9_getsFolding_227 : decode cX9_getsFolding 227 = .ok (.bipush 10, 2) := by decide +kernel
theorem dX9_getsFolding_229 : decode cX9_getsFolding 229 = .ok (.iload 5, 2) := by decide +kernel
theorem dX9_getsFolding_231 : decode cX9_getsFolding 231 = .ok (.iadd, 1) := by decide +kernel
theorem dX9_getsFolding_232 : decode cX9_getsFolding 232 = .ok (.iaload, 1) := by decide +kernel
theorem dX9_getsFolding_233 : decode cX9_getsFolding 233 = .ok (.invokevirtual 139, 3) := by decide +kernel
theorem dX9_getsFolding_236 : decode cX9_getsFolding 236 = .ok (.iinc 5 1, 3) := by decide +kernel
theorem dX9_getsFolding_239 : decode cX9_getsFolding 239 = .ok (.goto (-50), 3) := by decide +kernel
theorem dX9_getsFolding_242 : decode cX9_getsFolding 242 = .ok (.aload_n 0, 1) := by decide +kernel
theorem dX9_getsFolding_243 : decode cX9_getsFolding 243 = .ok (.iload_n 1, 1) := by decide +kernel
theorem dX9_getsFolding_244 : decode cX9_getsFolding 244 = .ok (.iconst 1, 1) := by decide +kernel
theorem dX9_getsFolding_245 : decode cX9_getsFolding 245 = .ok (.iload_n 2, 1) := by decide +kernel
theorem dX9_getsFolding_246 : decode cX9_getsFolding 246 = .ok (.invokevirtual 229, 3) := by decide +kernel
theorem dX9_getsFolding_249 : decode cX9_getsFolding 249 = .ok (.ireturn, 1) := by decide +kernel
theorem dX9_getsAnswer_0 : decode cX9_getsAnswer 0 = .ok (.aload_n 0, 1) := by decide +kernel
theorem dX9_getsAnswer_1 : decode cX9_getsAnswer 1 = .ok (.iload_n 1, 1) := by decide +kernel
theorem dX9_getsAnswer_2 : decode cX9_getsAnswer 2 = .ok (.iconst 5, 1) := by decide +kernel
theorem dX9_getsAnswer_3 : decode cX9_getsAnswer 3 = .ok (.invokevirtual 146, 3) := by decide +kernel
theorem dX9_getsAnswer_6 : decode cX9_getsAnswer 6 = .ok (.iconst 2, 1) := by decide +kernel
theorem dX9_getsAnswer_7 : decode cX9_getsAnswer 7 = .ok (.if_icmp .ne 18, 3) := by decide +kernel
theorem dX9_getsAnswer_10 : decode cX9_getsAnswer 10 = .ok (.aload_n 0, 1) := by decide +kernel
theorem dX9_getsAnswer_11 : decode cX9_getsAnswer 11 = .ok (.iload_n 1, 1) := by decide +kernel
theorem dX9_getsAnswer_12 : decode cX9_getsAnswer 12 = .ok (.iconst 0, 1) := by decide +kernel
theorem dX9_getsAnswer_13 : decode cX9_getsAnswer 13 = .ok (.invokevirtual 146, 3) := by decide +kernel
theorem dX9_getsAnswer_16 : decode cX9_getsAnswer 16 = .ok (.aload_n 0, 1) := by decide +kernel
theorem dX9_getsAnswer_17 : decode cX9_getsAnswer 17 = .ok (.getfield 41, 3) := by decide +kernel
theorem dX9_getsAnswer_20 : decode cX9_getsAnswer 20 = .ok (.iconst 3, 1) := by decide +kernel
theorem dX9_getsAnswer_21 : decode cX9_getsAnswer 21 = .ok (.iaload, 1) := by decide +kernel
theorem dX9_getsAnswer_22 : decode cX9_getsAnswer 22 = .ok (.if_icmp .eq 5, 3) := by decide +kernel
theorem dX9_getsAnswer_25 : decode cX9_getsAnswer 25 = .ok (.iconst 0, 1) := by decide +kernel
theorem dX9_getsAnswer_26 : decode cX9_getsAnswer 26 = .ok (.ireturn, 1) := by decide +kernel
theorem dX9_getsAnswer_27 : decode cX9_getsAnswer 27 = .ok (.aload_n 0, 1) := by decide +kernel
theorem dX9_getsAnswer_28 : decode cX9_getsAnswer 28 = .ok (.getfield 41, 3) := by decide +kernel
theorem dX9_getsAnswer_31 : decode cX9_getsAnswer 31 = .ok (.iconst 1, 1) := by decide +kernel
theorem dX9_getsAnswer_32 : decode cX9_getsAnswer 32 = .ok (.iaload, 1) := by decide +kernel
theorem dX9_getsAnswer_33 : decode cX9_getsAnswer 33 = .ok (.istore_n 2, 1) := by decide +kernel
theorem dX9_getsAnswer_34 : decode cX9_getsAnswer 34 = .ok (.aload_n 0, 1) := by decide +kernel
theorem dX9_getsAnswer_35 : decode cX9_getsAnswer 35 = .ok (.getfield 41, 3) := by decide +kernel
theorem dX9_getsAnswer_38 : decode cX9_getsAnswer 38 = .ok (.bipush 8, 2) := by decide +kernel
theorem dX9_getsAnswer_40 : decode cX9_getsAnswer 40 = .ok (.iaload, 1) := by decide +kernel
theorem dX9_getsAnswer_41 : decode cX9_getsAnswer 41 = .ok (.aload_n 0, 1) := by decide +kernel
theorem dX9_getsAnswer_42 : decode cX9_getsAnswer 42 = .ok (.iload_n 1, 1) := by decide +kernel
theorem dX9_getsAnswer_43 : decode cX9_getsAnswer 43 = .ok (.bipush 64, 2) := by decide +kernel
theorem dX9_getsAnswer_45 : decode cX9_getsAnswer 45 = .ok (.iload_n 2, 1) := by decide +kernel
theorem dX9_getsAnswer_46 : decode cX9_getsAnswer 46 = .ok (.iadd, 1) := by decide +kernel
theorem dX9_getsAnswer_47 : decode cX9_getsAnswer 47 = .ok (.invokevirtual 146, 3) := by decide +kernel
theorem dX9_getsAnswer_50 : decode cX9_getsAnswer 50 = .ok (.if_icmp .le 19, 3) := by decide +kernel
theorem dX9_getsAnswer_53 : decode cX9_getsAnswer 53 = .ok (.aload_n 0, 1) := by decide +kernel
theorem dX9_getsAnswer_54 : decode cX9_getsAnswer 54 = .ok (.iload_n 1, 1) := by decide +kernel
theorem dX9_getsAnswer_55 : decode cX9_getsAnswer 55 = .ok (.bipush 64, 2) := by decide +kernel
theorem dX9_getsAnswer_57 : decode cX9_getsAnswer 57 = .ok (.iload_n 2, 1) := by decide +kernel
theorem dX9_getsAnswer_58 : decode cX9_getsAnswer 58 = .ok (.iadd, 1) := by decide +kernel
theorem dX9_getsAnswer_59 : decode cX9_getsAnswer 59 = .ok (.aload_n 0, 1) := by decide +kernel
theorem dX9_getsAnswer_60 : decode cX9_getsAnswer 60 = .ok (.getfield 41, 3) := by decide +kernel
theorem dX9_getsAnswer_63 : decode cX9_getsAnswer 63 = .ok (.bipush 8, 2) := by decide +kernel
theorem dX9_getsAnswer_65 : decode cX9_getsAnswer 65 = .ok (.iaload, 1) := by decide +kernel
theorem dX9_getsAnswer_66 : decode cX9_getsAnswer 66 = .ok (.invokevirtual 139, 3) := by decide +kernel
theorem dX9_getsAnswer_69 : decode cX9_getsAnswer 69 = .ok (.aload_n 0, 1) := by decide +kernel
theorem dX9_getsAnswer_70 : decode cX9_getsAnswer 70 = .ok (.getfield 41, 3) := by decide +kernel
theorem dX9_getsAnswer_73 : decode cX9_getsAnswer 73 = .ok (.iconst 4, 1) := by decide +kernel
theorem dX9_getsAnswer_74 : decode cX9_getsAnswer 74 = .ok (.iaload, 1) := by decide +kernel
theorem dX9_getsAnswer_75 : decode cX9_getsAnswer 75 = .ok (.iconst 1, 1) := by decide +kernel
theorem dX9_getsAnswer_76 : decode cX9_getsAnswer 76 = .ok (.if_icmp .ne 59, 3) := by decide +kernel
theorem dX9_getsAnswer_79 : decode cX9_getsAnswer 79 = .ok (.aload_n 0, 1) := by decide +kernel
theorem dX9_getsAnswer_80 : decode cX9_getsAnswer 80 = .ok (.getfield 41, 3) := by decide +kernel
theorem dX9_getsAnswer_83 : decode cX9_getsAnswer 83 = .ok (.iconst 5, 1) := by decide +kernel
theorem dX9_getsAnswer_84 : decode cX9_getsAnswer 84 = .ok (.iaload, 1) := by decide +kernel
theorem dX9_getsAnswer_85 : decode cX9_getsAnswer 85 = .ok (.aload_n 0, 1) := by decide +kernel
theorem dX9_getsAnswer_86 : decode cX9_getsAnswer 86 = .ok (.iload_n 1, 1) := by decide +kernel
theorem dX9_getsAnswer_87 : decode cX9_getsAnswer 87 = .ok (.bipush 57, 2) := by decide +kernel
theorem dX9_getsAnswer_89 : decode cX9_getsAnswer 89 = .ok (.iload_n 2, 1) := by decide +kernel
theorem dX9_getsAnswer_90 : decode cX9_getsAnswer 90 = .ok (.iadd, 1) := by decide +kernel
theorem dX9_getsAnswer_91 : decode cX9_getsAnswer 91 = .ok (.invokevirtual 146, 3) := by decide +kernel
theorem dX9_getsAnswer_94 : decode cX9_getsAnswer 94 = .ok (.if_icmp .le 18, 3) := by decide +kernel
theorem dX9_getsAnswer_97 : decode cX9_getsAnswer 97 = .ok (.aload_n 0, 1) := by decide +kernel
theorem dX9_getsAnswer_98 : decode cX9_getsAnswer 98 = .ok (.iload_n 1, 1) := by decide +kernel
theorem dX9_getsAnswer_99 : decode cX9_getsAnswer 99 = .ok (.bipush 57, 2) := by decide +kernel
theorem dX9_getsAnswer_101 : decode cX9_getsAnswer 101 = .ok (.iload_n 2, 1) := by decide +kernel
theorem dX9_getsAnswer_102 : decode cX9_getsAnswer 102 = .ok (.iadd, 1) := by decide +kernel
theorem dX9_getsAnswer_103 : decode cX9_getsAnswer 103 = .ok (.aload_n 0, 1) := by decide +kernel
theorem dX9_getsAnswer_104 : decode cX9_getsAnswer 104 = .ok (.getfield 41, 3) := by decide +kernel
theorem dX9_getsAnswer_107 : decode cX9_getsAnswer 107 = .ok (.iconst 5, 1) := by decide +kernel
theorem dX9_getsAnswer_108 : decode cX9_getsAnswer 108 = .ok (.iaload, 1) := by decide +kernel
theorem dX9_getsAnswer_109 : decode cX9_getsAnswer 109 = .ok (.invokevirtual 139, 3) := by decide +kernel
theorem dX9_getsAnswer_112 : decode cX9_getsAnswer 112 = .ok (.aload_n 0, 1) := by decide +kernel
theorem dX9_getsAnswer_113 : decode cX9_getsAnswer 113 = .ok (.iload_n 1, 1) := by decide +kernel
theorem dX9_getsAnswer_114 : decode cX9_getsAnswer 114 = .ok (.bipush 50, 2) := by decide +kernel
theorem dX9_getsAnswer_116 : decode cX9_getsAnswer 116 = .ok (.iload_n 2, 1) := by decide +kernel
theorem dX9_getsAnswer_117 : decode cX9_getsAnswer 117 = .ok (.iadd, 1) := by decide +kernel
theorem dX9_getsAnswer_118 : decode cX9_getsAnswer 118 = .ok (.aload_n 0, 1) := by decide +kernel
theorem dX9_getsAnswer_119 : decode cX9_getsAnswer 119 = .ok (.iload_n 1, 1) := by decide +kernel
theorem dX9_getsAnswer_120 : decode cX9_getsAnswer 120 = .ok (.bipush 57, 2) := by decide +kernel
theorem dX9_getsAnswer_122 : decode cX9_getsAnswer 122 = .ok (.iload_n 2, 1) := by decide +kernel
theorem dX9_getsAnswer_123 : decode cX9_getsAnswer 123 = .ok (.iadd, 1) := by decide +kernel
theorem dX9_getsAnswer_124 : decode cX9_getsAnswer 124 = .ok (.invokevirtual 146, 3) := by decide +kernel
theorem dX9_getsAnswer_127 : decode cX9_getsAnswer 127 = .ok (.iconst 1, 1) := by decide +kernel
theorem dX9_getsAnswer_128 : decode cX9_getsAnswer 128 = .ok (.iadd, 1) := by decide +kernel
theorem dX9_getsAnswer_129 : decode cX9_getsAnswer 129 = .ok (.invokevirtual 139, 3) := by decide +kernel
theorem dX9_getsAnswer_132 : decode cX9_getsAnswer 132 = .ok (.goto 59, 3) := by decide +kernel
theorem dX9_getsAnswer_135 : decode cX9_getsAnswer 135 = .ok (.aload_n 0, 1) := by decide +kernel
theorem dX9_getsAnswer_136 : decode cX9_getsAnswer 136 = .ok (.iload_n 1, 1) := by decide +kernel
theorem dX9_getsAnswer_137 : decode cX9_getsAnswer 137 = .ok (.bipush 50, 2) := by decide +kernel
theorem dX9_getsAnswer_139 : decode cX9_getsAnswer 139 = .ok (.iload_n 2, 1) := by decide +kernel
theorem dX9_getsAnswer_140 : decode cX9_getsAnswer 140 = .ok (.iadd, 1) := by decide +kernel
theorem dX9_getsAnswer_141 : decode cX9_getsAnswer 141 = .ok (.invokevirtual 146, 3) := by decide +kernel
theorem dX9_getsAnswer_144 : decode cX9_getsAnswer 144 = .ok (.iconst 1, 1) := by decide +kernel
theorem dX9_getsAnswer_145 : decode cX9_getsAnswer 145 = .ok (.isub, 1) := by decide +kernel
theorem dX9_getsAnswer_146 : decode cX9_getsAnswer 146 = .ok (.istore_n 3, 1) := by decide +kernel
theorem dX9_getsAnswer_147 : decode cX9_getsAnswer 147 = .ok (.aload_n 0, 1) := by decide +kernel
theorem dX9_getsAnswer_148 : decode cX9_getsAnswer 148 = .ok (.getfield 41, 3) := by decide +kernel
theorem dX9_getsAnswer_151 : decode cX9_getsAnswer 151 = .ok (.iconst 5, 1) := by decide +kernel
theorem dX9_getsAnswer_152 : decode cX9_getsAnswer 152 = .ok (.iaload, 1) := by decide +kernel
theorem dX9_getsAnswer_153 : decode cX9_getsAnswer 153 = .ok (.iconst 1, 1) := by decide +kernel
theorem dX9_getsAnswer_154 : decode cX9_getsAnswer 154 = .ok (.iadd, 1) := by decide +kernel
theorem dX9_getsAnswer_155 : decode cX9_getsAnswer 155 = .ok (.iload_n 3, 1) := by decide +kernel
theorem dX9_getsAnswer_156 : decode cX9_getsAnswer 156 = .ok (.if_icmp .ge 14, 3) := by decide +kernel
theorem dX9_getsAnswer_159 : decode cX9_getsAnswer 159 = .ok (.aload_n 0, 1) := by decide +kernel
theorem dX9_getsAnswer_160 : decode cX9_getsAnswer 160 = .ok (.getfield 41, 3) := by decide +kernel
theorem dX9_getsAnswer_163 : decode cX9_getsAnswer 163 = .ok (.iconst 5, 1) := by decide +kernel
theorem dX9_getsAnswer_164 : decode cX9_getsAnswer 164 = .ok (.iaload, 1) := by decide +kernel
theorem dX9_getsAnswer_165 : decode cX9_getsAnswer 165 = .ok (.iconst 1, 1) := by decide +kernel
theorem dX9_getsAnswer_166 : decode cX9_getsAnswer 166 = .ok (.iadd, 1) := by decide +kernel
theorem dX9_getsAnswer_167 : decode cX9_getsAnswer 167 = .ok (.goto 4, 3) := by decide +kernel
theorem dX9_getsAnswer_170 : decode cX9_getsAnswer 170 = .ok (.iload_n 3, 1) := by decide +kernel
theorem dX9_getsAnswer_171 : decode cX9_getsAnswer 171 = .ok (.istore_n 3, 1) := by decide +kernel
theorem dX9_getsAnswer_172 : decode cX9_getsAnswer 172 = .ok (.aload_n 0, 1) := by decide +kernel
theorem dX9_getsAnswer_173 : decode cX9_getsAnswer 173 = .ok (.iload_n 1, 1) := by decide +kernel
theorem dX9_getsAnswer_174 : decode cX9_getsAnswer 174 = .ok (.bipush 50, 2) := by decide +kernel
theorem dX9_getsAnswer_176 : decode cX9_getsAnswer 176 = .ok (.iload_n 2, 1) := by decide +kernel
theorem dX9_getsAnswer_177 : decode cX9_getsAnswer 177 = .ok (.iadd, 1) := by decide +kernel
theorem dX9_getsAnswer_178 : decode cX9_getsAnswer 178 = .ok (.iload_n 3, 1) := by decide +kernel
theorem dX9_getsAnswer_179 : decode cX9_getsAnswer 179 = .ok (.iconst 1, 1) := by decide +kernel
theorem dX9_getsAnswer_180 : decode cX9_getsAnswer 180 = .ok (.if_icmp .ge 7, 3) := by decide +kernel
theorem dX9_getsAnswer_183 : decode cX9_getsAnswer 183 = .ok (.iconst 1, 1) := by decide +kernel
theorem dX9_getsAnswer_184 : decode cX9_getsAnswer 184 = .ok (.goto 4, 3) := by decide +kernel
theorem dX9_getsAnswer_187 : decode cX9_getsAnswer 187 = .ok (.iload_n 3, 1) := by decide +kernel
theorem dX9_getsAnswer_188 : decode cX9_getsAnswer 188 = .ok (.invokevirtual 139, 3) := by decide +kernel
theorem dX9_getsAnswer_191 : decode cX9_getsAnswer 191 = .ok (.aload_n 0, 1) := by decide +kernel
theorem dX9_getsAnswer_192 : decode cX9_getsAnswer 192 = .ok (.iload_n 1, 1) := by decide +kernel
theorem dX9_getsAnswer_193 : decode cX9_getsAnswer 193 = .ok (.invokevirtual 182, 3) := by decide +kernel
end
section
theorem dX9_getsAnswer_196 : decode cX9_getsAnswer 196 = .ok (.iconst 0, 1) := by decide +kernel
theorem dX9_getsAnswer_197 : decode cX9_getsAnswer 197 = .ok (.ireturn, 1) := by decide +kernel
theorem dX9_drop_0 : decode cX9_drop 0 = .ok (.aload_n 0, 1) := by decide +kernel
theorem dX9_drop_1 : decode cX9_drop 1 = .ok (.iload_n 1, 1) := by decide +kernel
theorem dX9_drop_2 : decode cX9_drop 2 = .ok (.invokevirtual 211, 3) := by decide +kernel
theorem dX9_drop_5 : decode cX9_drop 5 = .ok (.ifCond .ne 5, 3) := by decide +kernel
theorem dX9_drop_8 : decode cX9_drop 8 = .ok (.iconst (-1), 1) := by decide +kernel
theorem dX9_drop_9 : decode cX9_drop 9 = .ok (.ireturn, 1) := by decide +kernel
theorem dX9_drop_10 : decode cX9_drop 10 = .ok (.aload_n 0, 1) := by decide +kernel
theorem dX9_drop_11 : decode cX9_drop 11 = .ok (.iload_n 1, 1) := by decide +kernel
theorem dX9_drop_12 : decode cX9_drop 12 = .ok (.iconst 0, 1) := by decide +kernel
theorem dX9_drop_13 : decode cX9_drop 13 = .ok (.invokevirtual 186, 3) := by decide +kernel
theorem dX9_drop_16 : decode cX9_drop 16 = .ok (.istore_n 2, 1) := by decide +kernel
theorem dX9_drop_17 : decode cX9_drop 17 = .ok (.aload_n 0, 1) := by decide +kernel
theorem dX9_drop_18 : decode cX9_drop 18 = .ok (.iload_n 1, 1) := by decide +kernel
theorem dX9_drop_19 : decode cX9_drop 19 = .ok (.iconst 0, 1) := by decide +kernel
theorem dX9_drop_20 : decode cX9_drop 20 = .ok (.iconst (-1), 1) := by decide +kernel
theorem dX9_drop_21 : decode cX9_drop 21 = .ok (.invokevirtual 192, 3) := by decide +kernel
theorem dX9_drop_24 : decode cX9_drop 24 = .ok (.iload_n 2, 1) := by decide +kernel
theorem dX9_drop_25 : decode cX9_drop 25 = .ok (.ireturn, 1) := by decide +kernel
theorem dX9_twice_0 : decode cX9_twice 0 = .ok (.aload_n 0, 1) := by decide +kernel
theorem dX9_twice_1 : decode cX9_twice 1 = .ok (.iload_n 1, 1) := by decide +kernel
theorem dX9_twice_2 : decode cX9_twice 2 = .ok (.invokevirtual 211, 3) := by decide +kernel
theorem dX9_twice_5 : decode cX9_twice 5 = .ok (.ifCond .eq 10, 3) := by decide +kernel
theorem dX9_twice_8 : decode cX9_twice 8 = .ok (.aload_n 0, 1) := by decide +kernel
theorem dX9_twice_9 : decode cX9_twice 9 = .ok (.invokevirtual 189, 3) := by decide +kernel
theorem dX9_twice_12 : decode cX9_twice 12 = .ok (.ifCond .ge 5, 3) := by decide +kernel
theorem dX9_twice_15 : decode cX9_twice 15 = .ok (.iconst (-1), 1) := by decide +kernel
theorem dX9_twice_16 : decode cX9_twice 16 = .ok (.ireturn, 1) := by decide +kernel
theorem dX9_twice_17 : decode cX9_twice 17 = .ok (.aload_n 0, 1) := by decide +kernel
theorem dX9_twice_18 : decode cX9_twice 18 = .ok (.invokevirtual 189, 3) := by decide +kernel
theorem dX9_twice_21 : decode cX9_twice 21 = .ok (.istore_n 2, 1) := by decide +kernel
theorem dX9_twice_22 : decode cX9_twice 22 = .ok (.aload_n 0, 1) := by decide +kernel
theorem dX9_twice_23 : decode cX9_twice 23 = .ok (.sipush 2240, 3) := by decide +kernel
theorem dX9_twice_26 : decode cX9_twice 26 = .ok (.bipush 64, 2) := by decide +kernel
theorem dX9_twice_28 : decode cX9_twice 28 = .ok (.iload_n 1, 1) := by decide +kernel
theorem dX9_twice_29 : decode cX9_twice 29 = .ok (.imul, 1) := by decide +kernel
theorem dX9_twice_30 : decode cX9_twice 30 = .ok (.iadd, 1) := by decide +kernel
theorem dX9_twice_31 : decode cX9_twice 31 = .ok (.sipush 2240, 3) := by decide +kernel
theorem dX9_twice_34 : decode cX9_twice 34 = .ok (.bipush 64, 2) := by decide +kernel
theorem dX9_twice_36 : decode cX9_twice 36 = .ok (.iload_n 2, 1) := by decide +kernel
theorem dX9_twice_37 : decode cX9_twice 37 = .ok (.imul, 1) := by decide +kernel
theorem dX9_twice_38 : decode cX9_twice 38 = .ok (.iadd, 1) := by decide +kernel
theorem dX9_twice_39 : decode cX9_twice 39 = .ok (.bipush 64, 2) := by decide +kernel
theorem dX9_twice_41 : decode cX9_twice 41 = .ok (.invokevirtual 208, 3) := by decide +kernel
theorem dX9_twice_44 : decode cX9_twice 44 = .ok (.iload_n 2, 1) := by decide +kernel
theorem dX9_twice_45 : decode cX9_twice 45 = .ok (.ireturn, 1) := by decide +kernel
theorem dX9_fall_0 : decode cX9_fall 0 = .ok (.aload_n 0, 1) := by decide +kernel
theorem dX9_fall_1 : decode cX9_fall 1 = .ok (.iload_n 1, 1) := by decide +kernel
theorem dX9_fall_2 : decode cX9_fall 2 = .ok (.invokevirtual 150, 3) := by decide +kernel
theorem dX9_fall_5 : decode cX9_fall 5 = .ok (.ifCond .ne 5, 3) := by decide +kernel
theorem dX9_fall_8 : decode cX9_fall 8 = .ok (.iconst 0, 1) := by decide +kernel
theorem dX9_fall_9 : decode cX9_fall 9 = .ok (.ireturn, 1) := by decide +kernel
theorem dX9_fall_10 : decode cX9_fall 10 = .ok (.aload_n 0, 1) := by decide +kernel
theorem dX9_fall_11 : decode cX9_fall 11 = .ok (.iload_n 1, 1) := by decide +kernel
theorem dX9_fall_12 : decode cX9_fall 12 = .ok (.bipush 9, 2) := by decide +kernel
theorem dX9_fall_14 : decode cX9_fall 14 = .ok (.iconst 1, 1) := by decide +kernel
theorem dX9_fall_15 : decode cX9_fall 15 = .ok (.invokevirtual 139, 3) := by decide +kernel
theorem dX9_fall_18 : decode cX9_fall 18 = .ok (.aload_n 0, 1) := by decide +kernel
theorem dX9_fall_19 : decode cX9_fall 19 = .ok (.iload_n 1, 1) := by decide +kernel
theorem dX9_fall_20 : decode cX9_fall 20 = .ok (.iconst 5, 1) := by decide +kernel
theorem dX9_fall_21 : decode cX9_fall 21 = .ok (.iconst 0, 1) := by decide +kernel
theorem dX9_fall_22 : decode cX9_fall 22 = .ok (.invokevirtual 139, 3) := by decide +kernel
theorem dX9_fall_25 : decode cX9_fall 25 = .ok (.aload_n 0, 1) := by decide +kernel
theorem dX9_fall_26 : decode cX9_fall 26 = .ok (.iload_n 1, 1) := by decide +kernel
theorem dX9_fall_27 : decode cX9_fall 27 = .ok (.bipush 6, 2) := by decide +kernel
theorem dX9_fall_29 : decode cX9_fall 29 = .ok (.aload_n 0, 1) := by decide +kernel
theorem dX9_fall_30 : decode cX9_fall 30 = .ok (.iload_n 1, 1) := by decide +kernel
theorem dX9_fall_31 : decode cX9_fall 31 = .ok (.iconst 2, 1) := by decide +kernel
theorem dX9_fall_32 : decode cX9_fall 32 = .ok (.invokevirtual 146, 3) := by decide +kernel
theorem dX9_fall_35 : decode cX9_fall 35 = .ok (.invokevirtual 139, 3) := by decide +kernel
theorem dX9_fall_38 : decode cX9_fall 38 = .ok (.aload_n 0, 1) := by decide +kernel
theorem dX9_fall_39 : decode cX9_fall 39 = .ok (.sipush 320, 3) := by decide +kernel
theorem dX9_fall_42 : decode cX9_fall 42 = .ok (.iload_n 1, 1) := by decide +kernel
theorem dX9_fall_43 : decode cX9_fall 43 = .ok (.imul, 1) := by decide +kernel
theorem dX9_fall_44 : decode cX9_fall 44 = .ok (.bipush 10, 2) := by decide +kernel
theorem dX9_fall_46 : decode cX9_fall 46 = .ok (.iadd, 1) := by decide +kernel
theorem dX9_fall_47 : decode cX9_fall 47 = .ok (.sipush 320, 3) := by decide +kernel
theorem dX9_fall_50 : decode cX9_fall 50 = .ok (.iload_n 1, 1) := by decide +kernel
theorem dX9_fall_51 : decode cX9_fall 51 = .ok (.imul, 1) := by decide +kernel
theorem dX9_fall_52 : decode cX9_fall 52 = .ok (.bipush 30, 2) := by decide +kernel
theorem dX9_fall_54 : decode cX9_fall 54 = .ok (.iadd, 1) := by decide +kernel
theorem dX9_fall_55 : decode cX9_fall 55 = .ok (.bipush 20, 2) := by decide +kernel
theorem dX9_fall_57 : decode cX9_fall 57 = .ok (.invokevirtual 208, 3) := by decide +kernel
theorem dX9_fall_60 : decode cX9_fall 60 = .ok (.iconst 1, 1) := by decide +kernel
theorem dX9_fall_61 : decode cX9_fall 61 = .ok (.ireturn, 1) := by decide +kernel
theorem dX9_rise_0 : decode cX9_rise 0 = .ok (.aload_n 0, 1) := by decide +kernel
theorem dX9_rise_1 : decode cX9_rise 1 = .ok (.iload_n 1, 1) := by decide +kernel
theorem dX9_rise_2 : decode cX9_rise 2 = .ok (.invokevirtual 143, 3) := by decide +kernel
theorem dX9_rise_5 : decode cX9_rise 5 = .ok (.ifCond .eq 11, 3) := by decide +kernel
theorem dX9_rise_8 : decode cX9_rise 8 = .ok (.aload_n 0, 1) := by decide +kernel
theorem dX9_rise_9 : decode cX9_rise 9 = .ok (.iload_n 1, 1) := by decide +kernel
theorem dX9_rise_10 : decode cX9_rise 10 = .ok (.invokevirtual 150, 3) := by decide +kernel
theorem dX9_rise_13 : decode cX9_rise 13 = .ok (.ifCond .eq 5, 3) := by decide +kernel
theorem dX9_rise_16 : decode cX9_rise 16 = .ok (.iconst 0, 1) := by decide +kernel
theorem dX9_rise_17 : decode cX9_rise 17 = .ok (.ireturn, 1) := by decide +kernel
theorem dX9_rise_18 : decode cX9_rise 18 = .ok (.aload_n 0, 1) := by decide +kernel
theorem dX9_rise_19 : decode cX9_rise 19 = .ok (.iload_n 1, 1) := by decide +kernel
theorem dX9_rise_20 : decode cX9_rise 20 = .ok (.bipush 9, 2) := by decide +kernel
theorem dX9_rise_22 : decode cX9_rise 22 = .ok (.iconst 0, 1) := by decide +kernel
theorem dX9_rise_23 : decode cX9_rise 23 = .ok (.invokevirtual 139, 3) := by decide +kernel
theorem dX9_rise_26 : decode cX9_rise 26 = .ok (.iconst 1, 1) := by decide +kernel
theorem dX9_rise_27 : decode cX9_rise 27 = .ok (.ireturn, 1) := by decide +kernel
theorem dX9_fold_0 : decode cX9_fold 0 = .ok (.aload_n 0, 1) := by decide +kernel
theorem dX9_fold_1 : decode cX9_fold 1 = .ok (.iload_n 1, 1) := by decide +kernel
theorem dX9_fold_2 : decode cX9_fold 2 = .ok (.invokevirtual 150, 3) := by decide +kernel
theorem dX9_fold_5 : decode cX9_fold 5 = .ok (.ifCond .eq 24, 3) := by decide +kernel
theorem dX9_fold_8 : decode cX9_fold 8 = .ok (.iload_n 2, 1) := by decide +kernel
theorem dX9_fold_9 : decode cX9_fold 9 = .ok (.aload_n 0, 1) := by decide +kernel
theorem dX9_fold_10 : decode cX9_fold 10 = .ok (.iload_n 1, 1) := by decide +kernel
theorem dX9_fold_11 : decode cX9_fold 11 = .ok (.iconst 2, 1) := by decide +kernel
theorem dX9_fold_12 : decode cX9_fold 12 = .ok (.invokevirtual 146, 3) := by decide +kernel
theorem dX9_fold_15 : decode cX9_fold 15 = .ok (.if_icmp .le 14, 3) := by decide +kernel
theorem dX9_fold_18 : decode cX9_fold 18 = .ok (.iload_n 2, 1) := by decide +kernel
theorem dX9_fold_19 : decode cX9_fold 19 = .ok (.aload_n 0, 1) := by decide +kernel
theorem dX9_fold_20 : decode cX9_fold 20 = .ok (.iload_n 1, 1) := by decide +kernel
theorem dX9_fold_21 : decode cX9_fold 21 = .ok (.bipush 6, 2) := by decide +kernel
theorem dX9_fold_23 : decode cX9_fold 23 = .ok (.invokevirtual 146, 3) := by decide +kernel
theorem dX9_fold_26 : decode cX9_fold 26 = .ok (.if_icmp .le 5, 3) := by decide +kernel
theorem dX9_fold_29 : decode cX9_fold 29 = .ok (.iconst (-1), 1) := by decide +kernel
theorem dX9_fold_30 : decode cX9_fold 30 = .ok (.ireturn, 1) := by decide +kernel
theorem dX9_fold_31 : decode cX9_fold 31 = .ok (.aload_n 0, 1) := by decide +kernel
theorem dX9_fold_32 : decode cX9_fold 32 = .ok (.iload_n 1, 1) := by decide +kernel
theorem dX9_fold_33 : decode cX9_fold 33 = .ok (.iload_n 2, 1) := by decide +kernel
theorem dX9_fold_34 : decode cX9_fold 34 = .ok (.invokevirtual 172, 3) := by decide +kernel
theorem dX9_fold_37 : decode cX9_fold 37 = .ok (.istore_n 3, 1) := by decide +kernel
theorem dX9_fold_38 : decode cX9_fold 38 = .ok (.aload_n 0, 1) := by decide +kernel
theorem dX9_fold_39 : decode cX9_fold 39 = .ok (.iload_n 1, 1) := by decide +kernel
theorem dX9_fold_40 : decode cX9_fold 40 = .ok (.iconst 2, 1) := by decide +kernel
theorem dX9_fold_41 : decode cX9_fold 41 = .ok (.invokevirtual 146, 3) := by decide +kernel
theorem dX9_fold_44 : decode cX9_fold 44 = .ok (.iconst 1, 1) := by decide +kernel
theorem dX9_fold_45 : decode cX9_fold 45 = .ok (.iadd, 1) := by decide +kernel
theorem dX9_fold_46 : decode cX9_fold 46 = .ok (.istore 4, 2) := by decide +kernel
theorem dX9_fold_48 : decode cX9_fold 48 = .ok (.iload 4, 2) := by decide +kernel
theorem dX9_fold_50 : decode cX9_fold 50 = .ok (.iload_n 2, 1) := by decide +kernel
theorem dX9_fold_51 : decode cX9_fold 51 = .ok (.if_icmp .gt 28, 3) := by decide +kernel
theorem dX9_fold_54 : decode cX9_fold 54 = .ok (.aload_n 0, 1) := by decide +kernel
theorem dX9_fold_55 : decode cX9_fold 55 = .ok (.sipush 320, 3) := by decide +kernel
theorem dX9_fold_58 : decode cX9_fold 58 = .ok (.iload_n 1, 1) := by decide +kernel
theorem dX9_fold_59 : decode cX9_fold 59 = .ok (.imul, 1) := by decide +kernel
theorem dX9_fold_60 : decode cX9_fold 60 = .ok (.bipush 10, 2) := by decide +kernel
theorem dX9_fold_62 : decode cX9_fold 62 = .ok (.iadd, 1) := by decide +kernel
theorem dX9_fold_63 : decode cX9_fold 63 = .ok (.aload_n 0, 1) := by decide +kernel
theorem dX9_fold_64 : decode cX9_fold 64 = .ok (.iload_n 1, 1) := by decide +kernel
theorem dX9_fold_65 : decode cX9_fold 65 = .ok (.iload 4, 2) := by decide +kernel
theorem dX9_fold_67 : decode cX9_fold 67 = .ok (.invokevirtual 153, 3) := by decide +kernel
theorem dX9_fold_70 : decode cX9_fold 70 = .ok (.invokevirtual 163, 3) := by decide +kernel
theorem dX9_fold_73 : decode cX9_fold 73 = .ok (.iinc 4 1, 3) := by decide +kernel
theorem dX9_fold_76 : decode cX9_fold 76 = .ok (.goto (-28), 3) := by decide +kernel
theorem dX9_fold_79 : decode cX9_fold 79 = .ok (.aload_n 0, 1) := by decide +kernel
theorem dX9_fold_80 : decode cX9_fold 80 = .ok (.iload_n 1, 1) := by decide +kernel
theorem dX9_fold_81 : decode cX9_fold 81 = .ok (.iconst 4, 1) := by decide +kernel
theorem dX9_fold_82 : decode cX9_fold 82 = .ok (.invokevirtual 146, 3) := by decide +kernel
theorem dX9_fold_85 : decode cX9_fold 85 = .ok (.iload_n 2, 1) := by decide +kernel
theorem dX9_fold_86 : decode cX9_fold 86 = .ok (.isub, 1) := by decide +kernel
theorem dX9_fold_87 : decode cX9_fold 87 = .ok (.istore 4, 2) := by decide +kernel
theorem dX9_fold_89 : decode cX9_fold 89 = .ok (.aload_n 0, 1) := by decide +kernel
theorem dX9_fold_90 : decode cX9_fold 90 = .ok (.aload_n 0, 1) := by decide +kernel
theorem dX9_fold_91 : decode cX9_fold 91 = .ok (.iload_n 1, 1) := by decide +kernel
theorem dX9_fold_92 : decode cX9_fold 92 = .ok (.iload_n 2, 1) := by decide +kernel
theorem dX9_fold_93 : decode cX9_fold 93 = .ok (.invokevirtual 153, 3) := by decide +kernel
theorem dX9_fold_96 : decode cX9_fold 96 = .ok (.bipush 6, 2) := by decide +kernel
theorem dX9_fold_98 : decode cX9_fold 98 = .ok (.iadd, 1) := by decide +kernel
theorem dX9_fold_99 : decode cX9_fold 99 = .ok (.sipush 320, 3) := by decide +kernel
theorem dX9_fold_102 : decode cX9_fold 102 = .ok (.iload_n 1, 1) := by decide +kernel
theorem dX9_fold_103 : decode cX9_fold 103 = .ok (.imul, 1) := by decide +kernel
theorem dX9_fold_104 : decode cX9_fold 104 = .ok (.bipush 80, 2) := by decide +kernel
theorem dX9_fold_106 : decode cX9_fold 106 = .ok (.iadd, 1) := by decide +kernel
theorem dX9_fold_107 : decode cX9_fold 107 = .ok (.bipush 6, 2) := by decide +kernel
theorem dX9_fold_109 : decode cX9_fold 109 = .ok (.iload 4, 2) := by decide +kernel
theorem dX9_fold_111 : decode cX9_fold 111 = .ok (.imul, 1) := by decide +kernel
theorem dX9_fold_112 : decode cX9_fold 112 = .ok (.invokevirtual 208, 3) := by decide +kernel
theorem dX9_fold_115 : decode cX9_fold 115 = .ok (.aload_n 0, 1) := by decide +kernel
theorem dX9_fold_116 : decode cX9_fold 116 = .ok (.iload_n 1, 1) := by decide +kernel
theorem dX9_fold_117 : decode cX9_fold 117 = .ok (.iconst 2, 1) := by decide +kernel
theorem dX9_fold_118 : decode cX9_fold 118 = .ok (.iload_n 2, 1) := by decide +kernel
theorem dX9_fold_119 : decode cX9_fold 119 = .ok (.invokevirtual 139, 3) := by decide +kernel
theorem dX9_fold_122 : decode cX9_fold 122 = .ok (.aload_n 0, 1) := by decide +kernel
theorem dX9_fold_123 : decode cX9_fold 123 = .ok (.iload_n 1, 1) := by decide +kernel
theorem dX9_fold_124 : decode cX9_fold 124 = .ok (.iconst 3, 1) := by decide +kernel
theorem dX9_fold_125 : decode cX9_fold 125 = .ok (.iload_n 3, 1) := by decide +kernel
theorem dX9_fold_126 : decode cX9_fold 126 = .ok (.invokevirtual 139, 3) := by decide +kernel
theorem dX9_fold_129 : decode cX9_fold 129 = .ok (.aload_n 0, 1) := by decide +kernel
theorem dX9_fold_130 : decode cX9_fold 130 = .ok (.iload_n 1, 1) := by decide +kernel
theorem dX9_fold_131 : decode cX9_fold 131 = .ok (.invokevirtual 182, 3) := by decide +kernel
theorem dX9_fold_134 : decode cX9_fold 134 = .ok (.iload 4, 2) := by decide +kernel
theorem dX9_fold_136 : decode cX9_fold 136 = .ok (.ireturn, 1) := by decide +kernel
theorem dX9_read_0 : decode cX9_read 0 = .ok (.aload_n 0, 1) := by decide +kernel
theorem dX9_read_1 : decode cX9_read 1 = .ok (.getfield 16, 3) := by decide +kernel
theorem dX9_read_4 : decode cX9_read 4 = .ok (.sipush 4960, 3) := by decide +kernel
theorem dX9_read_7 : decode cX9_read 7 = .ok (.iaload, 1) := by decide +kernel
theorem dX9_read_8 : decode cX9_read 8 = .ok (.istore_n 3, 1) := by decide +kernel
theorem dX9_read_9 : decode cX9_read 9 = .ok (.aload_n 0, 1) := by decide +kernel
theorem dX9_read_10 : decode cX9_read 10 = .ok (.iload_n 1, 1) := by decide +kernel
theorem dX9_read_11 : decode cX9_read 11 = .ok (.invokevirtual 205, 3) := by decide +kernel
theorem dX9_read_14 : decode cX9_read 14 = .ok (.ifCond .eq 40, 3) := by decide +kernel
theorem dX9_read_17 : decode cX9_read 17 = .ok (.iload_n 2, 1) := by decide +kernel
theorem dX9_read_18 : decode cX9_read 18 = .ok (.iconst 0, 1) := by decide +kernel
theorem dX9_read_19 : decode cX9_read 19 = .ok (.bipush 7, 2) := by decide +kernel
theorem dX9_read_21 : decode cX9_read 21 = .ok (.invokestatic 132, 3) := by decide +kernel
theorem dX9_read_24 : decode cX9_read 24 = .ok (.ifCond .eq 30, 3) := by decide +kernel
theorem dX9_read_27 : decode cX9_read 27 = .ok (.iload_n 3, 1) := by decide +kernel
theorem dX9_read_28 : decode cX9_read 28 = .ok (.bipush 40, 2) := by decide +kernel
theorem dX9_read_30 : decode cX9_read 30 = .ok (.if_icmp .eq 24, 3) := by decide +kernel
theorem dX9_read_33 : decode cX9_read 33 = .ok (.aload_n 0, 1) := by decide +kernel
theorem dX9_read_34 : decode cX9_read 34 = .ok (.iload_n 1, 1) := by decide +kernel
theorem dX9_read_35 : decode cX9_read 35 = .ok (.aload_n 0, 1) := by decide +kernel
theorem dX9_read_36 : decode cX9_read 36 = .ok (.iload_n 1, 1) := by decide +kernel
theorem dX9_read_37 : decode cX9_read 37 = .ok (.bipush 6, 2) := by decide +kernel
theorem dX9_read_39 : decode cX9_read 39 = .ok (.invokevirtual 146, 3) := by decide +kernel
theorem dX9_read_42 : decode cX9_read 42 = .ok (.invokevirtual 172, 3) := by decide +kernel
theorem dX9_read_45 : decode cX9_read 45 = .ok (.aload_n 0, 1) := by decide +kernel
theorem dX9_read_46 : decode cX9_read 46 = .ok (.iload_n 1, 1) := by decide +kernel
theorem dX9_read_47 : decode cX9_read 47 = .ok (.iconst 0, 1) := by decide +kernel
theorem dX9_read_48 : decode cX9_read 48 = .ok (.invokevirtual 146, 3) := by decide +kernel
theorem dX9_read_51 : decode cX9_read 51 = .ok (.if_icmp .eq 5, 3) := by decide +kernel
theorem dX9_read_54 : decode cX9_read 54 = .ok (.iconst (-1), 1) := by decide +kernel
theorem dX9_read_55 : decode cX9_read 55 = .ok (.ireturn, 1) := by decide +kernel
theorem dX9_read_56 : decode cX9_read 56 = .ok (.aload_n 0, 1) := by decide +kernel
theorem dX9_read_57 : decode cX9_read 57 = .ok (.getfield 16, 3) := by decide +kernel
theorem dX9_read_60 : decode cX9_read 60 = .ok (.sipush 4800, 3) := by decide +kernel
theorem dX9_read_63 : decode cX9_read 63 = .ok (.iconst 4, 1) := by decide +kernel
theorem dX9_read_64 : decode cX9_read 64 = .ok (.iload_n 3, 1) := by decide +kernel
theorem dX9_read_65 : decode cX9_read 65 = .ok (.imul, 1) := by decide +kernel
theorem dX9_read_66 : decode cX9_read 66 = .ok (.iadd, 1) := by decide +kernel
theorem dX9_read_67 : decode cX9_read 67 = .ok (.iload_n 1, 1) := by decide +kernel
theorem dX9_read_68 : decode cX9_read 68 = .ok (.iastore, 1) := by decide +kernel
theorem dX9_read_69 : decode cX9_read 69 = .ok (.aload_n 0, 1) := by decide +kernel
theorem dX9_read_70 : decode cX9_read 70 = .ok (.getfield 16, 3) := by decide +kernel
theorem dX9_read_73 : decode cX9_read 73 = .ok (.sipush 4800, 3) := by decide +kernel
theorem dX9_read_76 : decode cX9_read 76 = .ok (.iconst 4, 1) := by decide +kernel
theorem dX9_read_77 : decode cX9_read 77 = .ok (.iload_n 3, 1) := by decide +kernel
theorem dX9_read_78 : decode cX9_read 78 = .ok (.imul, 1) := by decide +kernel
theorem dX9_read_79 : decode cX9_read 79 = .ok (.iadd, 1) := by decide +kernel
theorem dX9_read_80 : decode cX9_read 80 = .ok (.iconst 1, 1) := by decide +kernel
theorem dX9_read_81 : decode cX9_read 81 = .ok (.iadd, 1) := by decide +kernel
theorem dX9_read_82 : decode cX9_read 82 = .ok (.iload_n 2, 1) := by decide +kernel
theorem dX9_read_83 : decode cX9_read 83 = .ok (.iastore, 1) := by decide +kernel
theorem dX9_read_84 : decode cX9_read 84 = .ok (.aload_n 0, 1) := by decide +kernel
theorem dX9_read_85 : decode cX9_read 85 = .ok (.getfield 16, 3) := by decide +kernel
theorem dX9_read_88 : decode cX9_read 88 = .ok (.sipush 4800, 3) := by decide +kernel
theorem dX9_read_91 : decode cX9_read 91 = .ok (.iconst 4, 1) := by decide +kernel
theorem dX9_read_92 : decode cX9_read 92 = .ok (.iload_n 3, 1) := by decide +kernel
theorem dX9_read_93 : decode cX9_read 93 = .ok (.imul, 1) := by decide +kernel
theorem dX9_read_94 : decode cX9_read 94 = .ok (.iadd, 1) := by decide +kernel
theorem dX9_read_95 : decode cX9_read 95 = .ok (.iconst 2, 1) := by decide +kernel
theorem dX9_read_96 : decode cX9_read 96 = .ok (.iadd, 1) := by decide +kernel
theorem dX9_read_97 : decode cX9_read 97 = .ok (.aload_n 0, 1) := by decide +kernel
theorem dX9_read_98 : decode cX9_read 98 = .ok (.iload_n 1, 1) := by decide +kernel
theorem dX9_read_99 : decode cX9_read 99 = .ok (.iconst 0, 1) := by decide +kernel
theorem dX9_read_100 : decode cX9_read 100 = .ok (.invokevirtual 146, 3) := by decide +kernel
theorem dX9_read_103 : decode cX9_read 103 = .ok (.iastore, 1) := by decide +kernel
theorem dX9_read_104 : decode cX9_read 104 = .ok (.aload_n 0, 1) := by decide +kernel
theorem dX9_read_105 : decode cX9_read 105 = .ok (.getfield 16, 3) := by decide +kernel
theorem dX9_read_108 : decode cX9_read 108 = .ok (.sipush 4800, 3) := by decide +kernel
theorem dX9_read_111 : decode cX9_read 111 = .ok (.iconst 4, 1) := by decide +kernel
theorem dX9_read_112 : decode cX9_read 112 = .ok (.iload_n 3, 1) := by decide +kernel
theorem dX9_read_113 : decode cX9_read 113 = .ok (.imul, 1) := by decide +kernel
theorem dX9_read_114 : decode cX9_read 114 = .ok (.iadd, 1) := by decide +kernel
theorem dX9_read_115 : decode cX9_read 115 = .ok (.iconst 3, 1) := by decide +kernel
theorem dX9_read_116 : decode cX9_read 116 = .ok (.iadd, 1) := by decide +kernel
theorem dX9_read_117 : decode cX9_read 117 = .ok (.aload_n 0, 1) := by decide +kernel
theorem dX9_read_118 : decode cX9_read 118 = .ok (.iload_n 1, 1) := by decide +kernel
theorem dX9_read_119 : decode cX9_read 119 = .ok (.bipush 8, 2) := by decide +kernel
theorem dX9_read_121 : decode cX9_read 121 = .ok (.invokevirtual 146, 3) := by decide +kernel
theorem dX9_read_124 : decode cX9_read 124 = .ok (.iastore, 1) := by decide +kernel
theorem dX9_read_125 : decode cX9_read 125 = .ok (.aload_n 0, 1) := by decide +kernel
theorem dX9_read_126 : decode cX9_read 126 = .ok (.getfield 16, 3) := by decide +kernel
theorem dX9_read_129 : decode cX9_read 129 = .ok (.sipush 4960, 3) := by decide +kernel
theorem dX9_read_132 : decode cX9_read 132 = .ok (.dup2, 1) := by decide +kernel
theorem dX9_read_133 : decode cX9_read 133 = .ok (.iaload, 1) := by decide +kernel
theorem dX9_read_134 : decode cX9_read 134 = .ok (.iconst 1, 1) := by decide +kernel
theorem dX9_read_135 : decode cX9_read 135 = .ok (.iadd, 1) := by decide +kernel
theorem dX9_read_136 : decode cX9_read 136 = .ok (.iastore, 1) := by decide +kernel
theorem dX9_read_137 : decode cX9_read 137 = .ok (.iload_n 3, 1) := by decide +kernel
theorem dX9_read_138 : decode cX9_read 138 = .ok (.ireturn, 1) := by decide +kernel
theorem dX9_good_0 : decode cX9_good 0 = .ok (.iload_n 1, 1) := by decide +kernel
theorem dX9_good_1 : decode cX9_good 1 = .ok (.iconst 0, 1) := by decide +kernel
theorem dX9_good_2 : decode cX9_good 2 = .ok (.aload_n 0, 1) := by decide +kernel
theorem dX9_good_3 : decode cX9_good 3 = .ok (.getfield 16, 3) := by decide +kernel
theorem dX9_good_6 : decode cX9_good 6 = .ok (.sipush 4960, 3) := by decide +kernel
theorem dX9_good_9 : decode cX9_good 9 = .ok (.iaload, 1) := by decide +kernel
theorem dX9_good_10 : decode cX9_good 10 = .ok (.iconst 1, 1) := by decide +kernel
theorem dX9_good_11 : decode cX9_good 11 = .ok (.isub, 1) := by decide +kernel
theorem dX9_good_12 : decode cX9_good 12 = .ok (.invokestatic 132, 3) := by decide +kernel
theorem dX9_good_15 : decode cX9_good 15 = .ok (.ifCond .ne 6, 3) := by decide +kernel
theorem dX9_good_18 : decode cX9_good 18 = .ok (.ldc 236, 2) := by decide +kernel
theorem dX9_good_20 : decode cX9_good 20 = .ok (.ireturn, 1) := by decide +kernel
theorem dX9_good_21 : decode cX9_good 21 = .ok (.aload_n 0, 1) := by decide +kernel
theorem dX9_good_22 : decode cX9_good 22 = .ok (.getfield 16, 3) := by decide +kernel
theorem dX9_good_25 : decode cX9_good 25 = .ok (.sipush 4800, 3) := by decide +kernel
theorem dX9_good_28 : decode cX9_good 28 = .ok (.iconst 4, 1) := by decide +kernel
theorem dX9_good_29 : decode cX9_good 29 = .ok (.iload_n 1, 1) := by decide +kernel
theorem dX9_good_30 : decode cX9_good 30 = .ok (.imul, 1) := by decide +kernel
theorem dX9_good_31 : decode cX9_good 31 = .ok (.iadd, 1) := by decide +kernel
theorem dX9_good_32 : decode cX9_good 32 = .ok (.iaload, 1) := by decide +kernel
theorem dX9_good_33 : decode cX9_good 33 = .ok (.istore_n 2, 1) := by decide +kernel
theorem dX9_good_34 : decode cX9_good 34 = .ok (.aload_n 0, 1) := by decide +kernel
theorem dX9_good_35 : decode cX9_good 35 = .ok (.iload_n 2, 1) := by decide +kernel
theorem dX9_good_36 : decode cX9_good 36 = .ok (.invokevirtual 205, 3) := by decide +kernel
theorem dX9_good_39 : decode cX9_good 39 = .ok (.ifCond .eq 26, 3) := by decide +kernel
theorem dX9_good_42 : decode cX9_good 42 = .ok (.aload_n 0, 1) := by decide +kernel
theorem dX9_good_43 : decode cX9_good 43 = .ok (.iload_n 2, 1) := by decide +kernel
theorem dX9_good_44 : decode cX9_good 44 = .ok (.iconst 0, 1) := by decide +kernel
theorem dX9_good_45 : decode cX9_good 45 = .ok (.invokevirtual 146, 3) := by decide +kernel
theorem dX9_good_48 : decode cX9_good 48 = .ok (.aload_n 0, 1) := by decide +kernel
theorem dX9_good_49 : decode cX9_good 49 = .ok (.getfield 16, 3) := by decide +kernel
theorem dX9_good_52 : decode cX9_good 52 = .ok (.sipush 4800, 3) := by decide +kernel
theorem dX9_good_55 : decode cX9_good 55 = .ok (.iconst 4, 1) := by decide +kernel
theorem dX9_good_56 : decode cX9_good 56 = .ok (.iload_n 1, 1) := by decide +kernel
theorem dX9_good_57 : decode cX9_good 57 = .ok (.imul, 1) := by decide +kernel
theorem dX9_good_58 : decode cX9_good 58 = .ok (.iadd, 1) := by decide +kernel
theorem dX9_good_59 : decode cX9_good 59 = .ok (.iconst 2, 1) := by decide +kernel
theorem dX9_good_60 : decode cX9_good 60 = .ok (.iadd, 1) := by decide +kernel
theorem dX9_good_61 : decode cX9_good 61 = .ok (.iaload, 1) := by decide +kernel
theorem dX9_good_62 : decode cX9_good 62 = .ok (.if_icmp .eq 6, 3) := by decide +kernel
theorem dX9_good_65 : decode cX9_good 65 = .ok (.ldc 236, 2) := by decide +kernel
theorem dX9_good_67 : decode cX9_good 67 = .ok (.ireturn, 1) := by decide +kernel
theorem dX9_good_68 : decode cX9_good 68 = .ok (.iconst 0, 1) := by decide +kernel
theorem dX9_good_69 : decode cX9_good 69 = .ok (.istore_n 3, 1) := by decide +kernel
theorem dX9_good_70 : decode cX9_good 70 = .ok (.iconst 0, 1) := by decide +kernel
theorem dX9_good_71 : decode cX9_good 71 = .ok (.istore 4, 2) := by decide +kernel
theorem dX9_good_73 : decode cX9_good 73 = .ok (.iload 4, 2) := by decide +kernel
theorem dX9_good_75 : decode cX9_good 75 = .ok (.aload_n 0, 1) := by decide +kernel
theorem dX9_good_76 : decode cX9_good 76 = .ok (.invokevirtual 128, 3) := by decide +kernel
theorem dX9_good_79 : decode cX9_good 79 = .ok (.if_icmp .ge 59, 3) := by decide +kernel
theorem dX9_good_82 : decode cX9_good 82 = .ok (.iload_n 3, 1) := by decide +kernel
theorem dX9_good_83 : decode cX9_good 83 = .ok (.aload_n 0, 1) := by decide +kernel
theorem dX9_good_84 : decode cX9_good 84 = .ok (.iload 4, 2) := by decide +kernel
theorem dX9_good_86 : decode cX9_good 86 = .ok (.invokevirtual 166, 3) := by decide +kernel
theorem dX9_good_89 : decode cX9_good 89 = .ok (.ifCond .eq 40, 3) := by decide +kernel
theorem dX9_good_92 : decode cX9_good 92 = .ok (.iload 4, 2) := by decide +kernel
theorem dX9_good_94 : decode cX9_good 94 = .ok (.iload_n 2, 1) := by decide +kernel
theorem dX9_good_95 : decode cX9_good 95 = .ok (.if_icmp .eq 30, 3) := by decide +kernel
theorem dX9_good_98 : decode cX9_good 98 = .ok (.aload_n 0, 1) := by decide +kernel
theorem dX9_good_99 : decode cX9_good 99 = .ok (.iload_n 2, 1) := by decide +kernel
theorem dX9_good_100 : decode cX9_good 100 = .ok (.bipush 64, 2) := by decide +kernel
theorem dX9_good_102 : decode cX9_good 102 = .ok (.iload 4, 2) := by decide +kernel
theorem dX9_good_104 : decode cX9_good 104 = .ok (.iadd, 1) := by decide +kernel
theorem dX9_good_105 : decode cX9_good 105 = .ok (.invokevirtual 146, 3) := by decide +kernel
theorem dX9_good_108 : decode cX9_good 108 = .ok (.aload_n 0, 1) := by decide +kernel
theorem dX9_good_109 : decode cX9_good 109 = .ok (.getfield 16, 3) := by decide +kernel
theorem dX9_good_112 : decode cX9_good 112 = .ok (.sipush 4800, 3) := by decide +kernel
theorem dX9_good_115 : decode cX9_good 115 = .ok (.iconst 4, 1) := by decide +kernel
theorem dX9_good_116 : decode cX9_good 116 = .ok (.iload_n 1, 1) := by decide +kernel
theorem dX9_good_117 : decode cX9_good 117 = .ok (.imul, 1) := by decide +kernel
theorem dX9_good_118 : decode cX9_good 118 = .ok (.iadd, 1) := by decide +kernel
theorem dX9_good_119 : decode cX9_good 119 = .ok (.iconst 3, 1) := by decide +kernel
theorem dX9_good_120 : decode cX9_good 120 = .ok (.iadd, 1) := by decide +kernel
theorem dX9_good_121 : decode cX9_good 121 = .ok (.iaload, 1) := by decide +kernel
theorem dX9_good_122 : decode cX9_good 122 = .ok (.if_icmp .le 7, 3) := by decide +kernel
theorem dX9_good_125 : decode cX9_good 125 = .ok (.iconst 1, 1) := by decide +kernel
theorem dX9_good_126 : decode cX9_good 126 = .ok (.goto 4, 3) := by decide +kernel
theorem dX9_good_129 : decode cX9_good 129 = .ok (.iconst 0, 1) := by decide +kernel
theorem dX9_good_130 : decode cX9_good 130 = .ok (.iadd, 1) := by decide +kernel
theorem dX9_good_131 : decode cX9_good 131 = .ok (.istore_n 3, 1) := by decide +kernel
theorem dX9_good_132 : decode cX9_good 132 = .ok (.iinc 4 1, 3) := by decide +kernel
theorem dX9_good_135 : decode cX9_good 135 = .ok (.goto (-62), 3) := by decide +kernel
theorem dX9_good_138 : decode cX9_good 138 = .ok (.iload_n 3, 1) := by decide +kernel
theorem dX9_good_139 : decode cX9_good 139 = .ok (.aload_n 0, 1) := by decide +kernel
theorem dX9_good_140 : decode cX9_good 140 = .ok (.invokevirtual 169, 3) := by decide +kernel
theorem dX9_good_143 : decode cX9_good 143 = .ok (.if_icmp .lt 28, 3) := by decide +kernel
theorem dX9_good_146 : decode cX9_good 146 = .ok (.aload_n 0, 1) := by decide +kernel
theorem dX9_good_147 : decode cX9_good 147 = .ok (.iload_n 2, 1) := by decide +kernel
theorem dX9_good_148 : decode cX9_good 148 = .ok (.bipush 30, 2) := by decide +kernel
theorem dX9_good_150 : decode cX9_good 150 = .ok (.aload_n 0, 1) := by decide +kernel
theorem dX9_good_151 : decode cX9_good 151 = .ok (.getfield 16, 3) := by decide +kernel
theorem dX9_good_154 : decode cX9_good 154 = .ok (.sipush 4800, 3) := by decide +kernel
theorem dX9_good_157 : decode cX9_good 157 = .ok (.iconst 4, 1) := by decide +kernel
theorem dX9_good_158 : decode cX9_good 158 = .ok (.iload_n 1, 1) := by decide +kernel
theorem dX9_good_159 : decode cX9_good 159 = .ok (.imul, 1) := by decide +kernel
theorem dX9_good_160 : decode cX9_good 160 = .ok (.iadd, 1) := by decide +kernel
theorem dX9_good_161 : decode cX9_good 161 = .ok (.iconst 1, 1) := by decide +kernel
theorem dX9_good_162 : decode cX9_good 162 = .ok (.iadd, 1) := by decide +kernel
theorem dX9_good_163 : decode cX9_good 163 = .ok (.iaload, 1) := by decide +kernel
theorem dX9_good_164 : decode cX9_good 164 = .ok (.iadd, 1) := by decide +kernel
theorem dX9_good_165 : decode cX9_good 165 = .ok (.invokevirtual 146, 3) := by decide +kernel
theorem dX9_good_168 : decode cX9_good 168 = .ok (.goto 5, 3) := by decide +kernel
theorem dX9_good_171 : decode cX9_good 171 = .ok (.ldc 236, 2) := by decide +kernel
theorem dX9_good_173 : decode cX9_good 173 = .ok (.ireturn, 1) := by decide +kernel
theorem dX9_keeper_0 : decode cX9_keeper 0 = .ok (.aload_n 0, 1) := by decide +kernel
theorem dX9_keeper_1 : decode cX9_keeper 1 = .ok (.iload_n 1, 1) := by decide +kernel
theorem dX9_keeper_2 : decode cX9_keeper 2 = .ok (.invokevirtual 143, 3) := by decide +kernel
theorem dX9_keeper_5 : decode cX9_keeper 5 = .ok (.ifCond .ne 6, 3) := by decide +kernel
theorem dX9_keeper_8 : decode cX9_keeper 8 = .ok (.bipush (-2), 2) := by decide +kernel
theorem dX9_keeper_10 : decode cX9_keeper 10 = .ok (.ireturn, 1) := by decide +kernel
theorem dX9_keeper_11 : decode cX9_keeper 11 = .ok (.iload_n 2, 1) := by decide +kernel
theorem dX9_keeper_12 : decode cX9_keeper 12 = .ok (.tableswitch 164 0 9 #[56, 63, 70, 77, 84, 91, 99, 107, 128, 150], 56) := by decide +kernel
theorem dX9_keeper_68 : decode cX9_keeper 68 = .ok (.aload_n 0, 1) := by decide +kernel
theorem dX9_keeper_69 : decode cX9_keeper 69 = .ok (.iload_n 1, 1) := by decide +kernel
theorem dX9_keeper_70 : decode cX9_keeper 70 = .ok (.iconst 0, 1) := by decide +kernel
theorem dX9_keeper_71 : decode cX9_keeper 71 = .ok (.invokevirtual 146, 3) := by decide +kernel
theorem dX9_keeper_74 : decode cX9_keeper 74 = .ok (.ireturn, 1) := by decide +kernel
theorem dX9_keeper_75 : decode cX9_keeper 75 = .ok (.aload_n 0, 1) := by decide +kernel
theorem dX9_keeper_76 : decode cX9_keeper 76 = .ok (.iload_n 1, 1) := by decide +kernel
theorem dX9_keeper_77 : decode cX9_keeper 77 = .ok (.iconst 1, 1) := by decide +kernel
theorem dX9_keeper_78 : decode cX9_keeper 78 = .ok (.invokevirtual 146, 3) := by decide +kernel
theorem dX9_keeper_81 : decode cX9_keeper 81 = .ok (.ireturn, 1) := by decide +kernel
theorem dX9_keeper_82 : decode cX9_keeper 82 = .ok (.aload_n 0, 1) := by decide +kernel
theorem dX9_keeper_83 : decode cX9_keeper 83 = .ok (.iload_n 1, 1) := by decide +kernel
theorem dX9_keeper_84 : decode cX9_keeper 84 = .ok (.iconst 5, 1) := by decide +kernel
theorem dX9_keeper_85 : decode cX9_keeper 85 = .ok (.invokevirtual 146, 3) := by decide +kernel
theorem dX9_keeper_88 : decode cX9_keeper 88 = .ok (.ireturn, 1) := by decide +kernel
theorem dX9_keeper_89 : decode cX9_keeper 89 = .ok (.aload_n 0, 1) := by decide +kernel
theorem dX9_keeper_90 : decode cX9_keeper 90 = .ok (.iload_n 1, 1) := by decide +kernel
theorem dX9_keeper_91 : decode cX9_keeper 91 = .ok (.iconst 2, 1) := by decide +kernel
theorem dX9_keeper_92 : decode cX9_keeper 92 = .ok (.invokevirtual 146, 3) := by decide +kernel
theorem dX9_keeper_95 : decode cX9_keeper 95 = .ok (.ireturn, 1) := by decide +kernel
theorem dX9_keeper_96 : decode cX9_keeper 96 = .ok (.aload_n 0, 1) := by decide +kernel
theorem dX9_keeper_97 : decode cX9_keeper 97 = .ok (.iload_n 1, 1) := by decide +kernel
theorem dX9_keeper_98 : decode cX9_keeper 98 = .ok (.iconst 4, 1) := by decide +kernel
theorem dX9_keeper_99 : decode cX9_keeper 99 = .ok (.invokevirtual 146, 3) := by decide +kernel
theorem dX9_keeper_102 : decode cX9_keeper 102 = .ok (.ireturn, 1) := by decide +kernel
theorem dX9_keeper_103 : decode cX9_keeper 103 = .ok (.aload_n 0, 1) := by decide +kernel
theorem dX9_keeper_104 : decode cX9_keeper 104 = .ok (.iload_n 1, 1) := by decide +kernel
theorem dX9_keeper_105 : decode cX9_keeper 105 = .ok (.bipush 6, 2) := by decide +kernel
theorem dX9_keeper_107 : decode cX9_keeper 107 = .ok (.invokevirtual 146, 3) := by decide +kernel
theorem dX9_keeper_110 : decode cX9_keeper 110 = .ok (.ireturn, 1) := by decide +kernel
theorem dX9_keeper_111 : decode cX9_keeper 111 = .ok (.aload_n 0, 1) := by decide +kernel
theorem dX9_keeper_112 : decode cX9_keeper 112 = .ok (.iload_n 1, 1) := by decide +kernel
theorem dX9_keeper_113 : decode cX9_keeper 113 = .ok (.bipush 9, 2) := by decide +kernel
theorem dX9_keeper_115 : decode cX9_keeper 115 = .ok (.invokevirtual 146, 3) := by decide +kernel
theorem dX9_keeper_118 : decode cX9_keeper 118 = .ok (.ireturn, 1) := by decide +kernel
theorem dX9_keeper_119 : decode cX9_keeper 119 = .ok (.aload_n 0, 1) := by decide +kernel
theorem dX9_keeper_120 : decode cX9_keeper 120 = .ok (.iload_n 1, 1) := by decide +kernel
theorem dX9_keeper_121 : decode cX9_keeper 121 = .ok (.iconst 5, 1) := by decide +kernel
theorem dX9_keeper_122 : decode cX9_keeper 122 = .ok (.invokevirtual 146, 3) := by decide +kernel
theorem dX9_keeper_125 : decode cX9_keeper 125 = .ok (.ifCond .ne 7, 3) := by decide +kernel
theorem dX9_keeper_128 : decode cX9_keeper 128 = .ok (.iconst 0, 1) := by decide +kernel
theorem dX9_keeper_129 : decode cX9_keeper 129 = .ok (.goto 10, 3) := by decide +kernel
theorem dX9_keeper_132 : decode cX9_keeper 132 = .ok (.aload_n 0, 1) := by decide +kernel
theorem dX9_keeper_133 : decode cX9_keeper 133 = .ok (.iload_n 1, 1) := by decide +kernel
theorem dX9_keeper_134 : decode cX9_keeper 134 = .ok (.bipush 7, 2) := by decide +kernel
theorem dX9_keeper_136 : decode cX9_keeper 136 = .ok (.invokevirtual 146, 3) := by decide +kernel
theorem dX9_keeper_139 : decode cX9_keeper 139 = .ok (.ireturn, 1) := by decide +kernel
theorem dX9_keeper_140 : decode cX9_keeper 140 = .ok (.aload_n 0, 1) := by decide +kernel
theorem dX9_keeper_141 : decode cX9_keeper 141 = .ok (.iload_n 1, 1) := by decide +kernel
theorem dX9_keeper_142 : decode cX9_keeper 142 = .ok (.iconst 5, 1) := by decide +kernel
theorem dX9_keeper_143 : decode cX9_keeper 143 = .ok (.invokevirtual 146, 3) := by decide +kernel
theorem dX9_keeper_146 : decode cX9_keeper 146 = .ok (.iconst 2, 1) := by decide +kernel
theorem dX9_keeper_147 : decode cX9_keeper 147 = .ok (.if_icmp .ne 13, 3) := by decide +kernel
theorem dX9_keeper_150 : decode cX9_keeper 150 = .ok (.aload_n 0, 1) := by decide +kernel
theorem dX9_keeper_151 : decode cX9_keeper 151 = .ok (.iload_n 1, 1) := by decide +kernel
theorem dX9_keeper_152 : decode cX9_keeper 152 = .ok (.bipush 8, 2) := by decide +kernel
theorem dX9_keeper_154 : decode cX9_keeper 154 = .ok (.invokevirtual 146, 3) := by decide +kernel
theorem dX9_keeper_157 : decode cX9_keeper 157 = .ok (.goto 4, 3) := by decide +kernel
theorem dX9_keeper_160 : decode cX9_keeper 160 = .ok (.iconst 0, 1) := by decide +kernel
theorem dX9_keeper_161 : decode cX9_keeper 161 = .ok (.ireturn, 1) := by decide +kernel
theorem dX9_keeper_162 : decode cX9_keeper 162 = .ok (.aload_n 0, 1) := by decide +kernel
theorem dX9_keeper_163 : decode cX9_keeper 163 = .ok (.iload_n 1, 1) := by decide +kernel
theorem dX9_keeper_164 : decode cX9_keeper 164 = .ok (.invokevirtual 166, 3) := by decide +kernel
theorem dX9_keeper_167 : decode cX9_keeper 167 = .ok (.ifCond .eq 7, 3) := by decide +kernel
theorem dX9_keeper_170 : decode cX9_keeper 170 = .ok (.iconst 1, 1) := by decide +kernel
theorem dX9_keeper_171 : decode cX9_keeper 171 = .ok (.goto 4, 3) := by decide +kernel
theorem dX9_keeper_174 : decode cX9_keeper 174 = .ok (.iconst 0, 1) := by decide +kernel
theorem dX9_keeper_175 : decode cX9_keeper 175 = .ok (.ireturn, 1) := by decide +kernel
theorem dX9_keeper_176 : decode cX9_keeper 176 = .ok (.bipush (-2), 2) := by decide +kernel
theorem dX9_keeper_178 : decode cX9_keeper 178 = .ok (.ireturn, 1) := by decide +kernel
theorem dX9_entry_0 : decode cX9_entry 0 = .ok (.aload_n 0, 1) := by decide +kernel
theorem dX9_entry_1 : decode cX9_entry 1 = .ok (.iload_n 1, 1) := by decide +kernel
theorem dX9_entry_2 : decode cX9_entry 2 = .ok (.invokevirtual 143, 3) := by decide +kernel
theorem dX9_entry_5 : decode cX9_entry 5 = .ok (.ifCond .eq 48, 3) := by decide +kernel
theorem dX9_entry_8 : decode cX9_entry 8 = .ok (.iload_n 2, 1) := by decide +kernel
theorem dX9_entry_9 : decode cX9_entry 9 = .ok (.aload_n 0, 1) := by decide +kernel
theorem dX9_entry_10 : decode cX9_entry 10 = .ok (.iload_n 1, 1) := by decide +kernel
theorem dX9_entry_11 : decode cX9_entry 11 = .ok (.iconst 2, 1) := by decide +kernel
theorem dX9_entry_12 : decode cX9_entry 12 = .ok (.invokevirtual 146, 3) := by decide +kernel
theorem dX9_entry_15 : decode cX9_entry 15 = .ok (.if_icmp .le 38, 3) := by decide +kernel
theorem dX9_entry_18 : decode cX9_entry 18 = .ok (.iload_n 2, 1) := by decide +kernel
theorem dX9_entry_19 : decode cX9_entry 19 = .ok (.aload_n 0, 1) := by decide +kernel
theorem dX9_entry_20 : decode cX9_entry 20 = .ok (.iload_n 1, 1) := by decide +kernel
theorem dX9_entry_21 : decode cX9_entry 21 = .ok (.iconst 4, 1) := by decide +kernel
theorem dX9_entry_22 : decode cX9_entry 22 = .ok (.invokevirtual 146, 3) := by decide +kernel
theorem dX9_entry_25 : decode cX9_entry 25 = .ok (.if_icmp .gt 28, 3) := by decide +kernel
theorem dX9_entry_28 : decode cX9_entry 28 = .ok (.iload_n 3, 1) := by decide +kernel
theorem dX9_entry_29 : decode cX9_entry 29 = .ok (.iconst 0, 1) := by decide +kernel
theorem dX9_entry_30 : decode cX9_entry 30 = .ok (.iconst 5, 1) := by decide +kernel
theorem dX9_entry_31 : decode cX9_entry 31 = .ok (.invokestatic 132, 3) := by decide +kernel
theorem dX9_entry_34 : decode cX9_entry 34 = .ok (.ifCond .eq 19, 3) := by decide +kernel
theorem dX9_entry_37 : decode cX9_entry 37 = .ok (.aload_n 0, 1) := by decide +kernel
theorem dX9_entry_38 : decode cX9_entry 38 = .ok (.getfield 16, 3) := by decide +kernel
theorem dX9_entry_41 : decode cX9_entry 41 = .ok (.aload_n 0, 1) := by decide +kernel
theorem dX9_entry_42 : decode cX9_entry 42 = .ok (.iload_n 1, 1) := by decide +kernel
theorem dX9_entry_43 : decode cX9_entry 43 = .ok (.iload_n 2, 1) := by decide +kernel
theorem dX9_entry_44 : decode cX9_entry 44 = .ok (.invokevirtual 153, 3) := by decide +kernel
theorem dX9_entry_47 : decode cX9_entry 47 = .ok (.iload_n 3, 1) := by decide +kernel
theorem dX9_entry_48 : decode cX9_entry 48 = .ok (.iadd, 1) := by decide +kernel
theorem dX9_entry_49 : decode cX9_entry 49 = .ok (.iaload, 1) := by decide +kernel
theorem dX9_entry_50 : decode cX9_entry 50 = .ok (.goto 5, 3) := by decide +kernel
theorem dX9_entry_53 : decode cX9_entry 53 = .ok (.ldc 236, 2) := by decide +kernel
theorem dX9_entry_55 : decode cX9_entry 55 = .ok (.ireturn, 1) := by decide +kernel
theorem dX9_state_0 : decode cX9_state 0 = .ok (.aload_n 0, 1) := by decide +kernel
theorem dX9_state_1 : decode cX9_state 1 = .ok (.iload_n 1, 1) := by decide +kernel
theorem dX9_state_2 : decode cX9_state 2 = .ok (.invokevirtual 143, 3) := by decide +kernel
theorem dX9_state_5 : decode cX9_state 5 = .ok (.ifCond .eq 25, 3) := by decide +kernel
theorem dX9_state_8 : decode cX9_state 8 = .ok (.iload_n 2, 1) := by decide +kernel
theorem dX9_state_9 : decode cX9_state 9 = .ok (.iconst 0, 1) := by decide +kernel
theorem dX9_state_10 : decode cX9_state 10 = .ok (.bipush 7, 2) := by decide +kernel
theorem dX9_state_12 : decode cX9_state 12 = .ok (.invokestatic 132, 3) := by decide +kernel
theorem dX9_state_15 : decode cX9_state 15 = .ok (.ifCond .eq 15, 3) := by decide +kernel
theorem dX9_state_18 : decode cX9_state 18 = .ok (.aload_n 0, 1) := by decide +kernel
theorem dX9_state_19 : decode cX9_state 19 = .ok (.iload_n 1, 1) := by decide +kernel
theorem dX9_state_20 : decode cX9_state 20 = .ok (.bipush 30, 2) := by decide +kernel
theorem dX9_state_22 : decode cX9_state 22 = .ok (.iload_n 2, 1) := by decide +kernel
theorem dX9_state_23 : decode cX9_state 23 = .ok (.iadd, 1) := by decide +kernel
theorem dX9_state_24 : decode cX9_state 24 = .ok (.invokevirtual 146, 3) := by decide +kernel
theorem dX9_state_27 : decode cX9_state 27 = .ok (.goto 5, 3) := by decide +kernel
theorem dX9_state_30 : decode cX9_state 30 = .ok (.ldc 236, 2) := by decide +kernel
theorem dX9_state_32 : decode cX9_state 32 = .ok (.ireturn, 1) := by decide +kernel
theorem dX9_client_0 : decode cX9_client 0 = .ok (.aload_n 0, 1) := by decide +kernel
theorem dX9_client_1 : decode cX9_client 1 = .ok (.iload_n 1, 1) := by decide +kernel
theorem dX9_client_2 : decode cX9_client 2 = .ok (.invokevirtual 143, 3) := by decide +kernel
theorem dX9_client_5 : decode cX9_client 5 = .ok (.ifCond .eq 37, 3) := by decide +kernel
theorem dX9_client_8 : decode cX9_client 8 = .ok (.iload_n 2, 1) := by decide +kernel
theorem dX9_client_9 : decode cX9_client 9 = .ok (.iconst 0, 1) := by decide +kernel
theorem dX9_client_10 : decode cX9_client 10 = .ok (.iconst 5, 1) := by decide +kernel
theorem dX9_client_11 : decode cX9_client 11 = .ok (.invokestatic 132, 3) := by decide +kernel
theorem dX9_client_14 : decode cX9_client 14 = .ok (.ifCond .eq 28, 3) := by decide +kernel
theorem dX9_client_17 : decode cX9_client 17 = .ok (.iload_n 3, 1) := by decide +kernel
theorem dX9_client_18 : decode cX9_client 18 = .ok (.iconst 0, 1) := by decide +kernel
theorem dX9_client_19 : decode cX9_client 19 = .ok (.iconst 1, 1) := by decide +kernel
theorem dX9_client_20 : decode cX9_client 20 = .ok (.invokestatic 132, 3) := by decide +kernel
theorem dX9_client_23 : decode cX9_client 23 = .ok (.ifCond .eq 19, 3) := by decide +kernel
theorem dX9_client_26 : decode cX9_client 26 = .ok (.aload_n 0, 1) := by decide +kernel
theorem dX9_client_27 : decode cX9_client 27 = .ok (.iload_n 1, 1) := by decide +kernel
theorem dX9_client_28 : decode cX9_client 28 = .ok (.bipush 38, 2) := by decide +kernel
theorem dX9_client_30 : decode cX9_client 30 = .ok (.iconst 2, 1) := by decide +kernel
theorem dX9_client_31 : decode cX9_client 31 = .ok (.iload_n 2, 1) := by decide +kernel
theorem dX9_client_32 : decode cX9_client 32 = .ok (.imul, 1) := by decide +kernel
theorem dX9_client_33 : decode cX9_client 33 = .ok (.iadd, 1) := by decide +kernel
theorem dX9_client_34 : decode cX9_client 34 = .ok (.iload_n 3, 1) := by decide +kernel
theorem dX9_client_35 : decode cX9_client 35 = .ok (.iadd, 1) := by decide +kernel
theorem dX9_client_36 : decode cX9_client 36 = .ok (.invokevirtual 146, 3) := by decide +kernel
theorem dX9_client_39 : decode cX9_client 39 = .ok (.goto 5, 3) := by decide +kernel
theorem dX9_client_42 : decode cX9_client 42 = .ok (.ldc 236, 2) := by decide +kernel
theorem dX9_client_44 : decode cX9_client 44 = .ok (.ireturn, 1) := by decide +kernel
theorem dX9_peer_0 : decode cX9_peer 0 = .ok (.aload_n 0, 1) := by decide +kernel
theorem dX9_peer_1 : decode cX9_peer 1 = .ok (.iload_n 1, 1) := by decide +kernel
theorem dX9_peer_2 : decode cX9_peer 2 = .ok (.invokevirtual 143, 3) := by decide +kernel
theorem dX9_peer_5 : decode cX9_peer 5 = .ok (.ifCond .eq 26, 3) := by decide +kernel
theorem dX9_peer_8 : decode cX9_peer 8 = .ok (.aload_n 0, 1) := by decide +kernel
theorem dX9_peer_9 : decode cX9_peer 9 = .ok (.iload_n 2, 1) := by decide +kernel
theorem dX9_peer_10 : decode cX9_peer 10 = .ok (.invokevirtual 143, 3) := by decide +kernel
theorem dX9_peer_13 : decode cX9_peer 13 = .ok (.ifCond .eq 18, 3) := by decide +kernel
theorem dX9_peer_16 : decode cX9_peer 16 = .ok (.iload_n 1, 1) := by decide +kernel
theorem dX9_peer_17 : decode cX9_peer 17 = .ok (.iload_n 2, 1) := by decide +kernel
theorem dX9_peer_18 : decode cX9_peer 18 = .ok (.if_icmp .eq 13, 3) := by decide +kernel
theorem dX9_peer_21 : decode cX9_peer 21 = .ok (.aload_n 0, 1) := by decide +kernel
theorem dX9_peer_22 : decode cX9_peer 22 = .ok (.iload_n 1, 1) := by decide +kernel
theorem dX9_peer_23 : decode cX9_peer 23 = .ok (.iconst 5, 1) := by decide +kernel
theorem dX9_peer_24 : decode cX9_peer 24 = .ok (.invokevirtual 146, 3) := by decide +kernel
theorem dX9_peer_27 : decode cX9_peer 27 = .ok (.iconst 2, 1) := by decide +kernel
theorem dX9_peer_28 : decode cX9_peer 28 = .ok (.if_icmp .eq 5, 3) := by decide +kernel
theorem dX9_peer_31 : decode cX9_peer 31 = .ok (.iconst (-1), 1) := by decide +kernel
theorem dX9_peer_32 : decode cX9_peer 32 = .ok (.ireturn, 1) := by decide +kernel
theorem dX9_peer_33 : decode cX9_peer 33 = .ok (.iload_n 3, 1) := by decide +kernel
theorem dX9_peer_34 : decode cX9_peer 34 = .ok (.ifCond .ne 15, 3) := by decide +kernel
theorem dX9_peer_37 : decode cX9_peer 37 = .ok (.aload_n 0, 1) := by decide +kernel
theorem dX9_peer_38 : decode cX9_peer 38 = .ok (.iload_n 1, 1) := by decide +kernel
theorem dX9_peer_39 : decode cX9_peer 39 = .ok (.bipush 50, 2) := by decide +kernel
theorem dX9_peer_41 : decode cX9_peer 41 = .ok (.iload_n 2, 1) := by decide +kernel
theorem dX9_peer_42 : decode cX9_peer 42 = .ok (.iadd, 1) := by decide +kernel
theorem dX9_peer_43 : decode cX9_peer 43 = .ok (.invokevirtual 146, 3) := by decide +kernel
theorem dX9_peer_46 : decode cX9_peer 46 = .ok (.goto 38, 3) := by decide +kernel
theorem dX9_peer_49 : decode cX9_peer 49 = .ok (.iload_n 3, 1) := by decide +kernel
theorem dX9_peer_50 : decode cX9_peer 50 = .ok (.iconst 1, 1) := by decide +kernel
theorem dX9_peer_51 : decode cX9_peer 51 = .ok (.if_icmp .ne 15, 3) := by decide +kernel
theorem dX9_peer_54 : decode cX9_peer 54 = .ok (.aload_n 0, 1) := by decide +kernel
theorem dX9_peer_55 : decode cX9_peer 55 = .ok (.iload_n 1, 1) := by decide +kernel
theorem dX9_peer_56 : decode cX9_peer 56 = .ok (.bipush 57, 2) := by decide +kernel
theorem dX9_peer_58 : decode cX9_peer 58 = .ok (.iload_n 2, 1) := by decide +kernel
theorem dX9_peer_59 : decode cX9_peer 59 = .ok (.iadd, 1) := by decide +kernel
theorem dX9_peer_60 : decode cX9_peer 60 = .ok (.invokevirtual 146, 3) := by decide +kernel
theorem dX9_peer_63 : decode cX9_peer 63 = .ok (.goto 21, 3) := by decide +kernel
theorem dX9_peer_66 : decode cX9_peer 66 = .ok (.iload_n 3, 1) := by decide +kernel
theorem dX9_peer_67 : decode cX9_peer 67 = .ok (.iconst 2, 1) := by decide +kernel
theorem dX9_peer_68 : decode cX9_peer 68 = .ok (.if_icmp .ne 15, 3) := by decide +kernel
theorem dX9_peer_71 : decode cX9_peer 71 = .ok (.aload_n 0, 1) := by decide +kernel
theorem dX9_peer_72 : decode cX9_peer 72 = .ok (.iload_n 1, 1) := by decide +kernel
theorem dX9_peer_73 : decode cX9_peer 73 = .ok (.bipush 64, 2) := by decide +kernel
theorem dX9_peer_75 : decode cX9_peer 75 = .ok (.iload_n 2, 1) := by decide +kernel
theorem dX9_peer_76 : decode cX9_peer 76 = .ok (.iadd, 1) := by decide +kernel
theorem dX9_peer_77 : decode cX9_peer 77 = .ok (.invokevirtual 146, 3) := by decide +kernel
theorem dX9_peer_80 : decode cX9_peer 80 = .ok (.goto 4, 3) := by decide +kernel
theorem dX9_peer_83 : decode cX9_peer 83 = .ok (.iconst (-1), 1) := by decide +kernel
theorem dX9_peer_84 : decode cX9_peer 84 = .ok (.ireturn, 1) := by decide +kernel
theorem dX9_slot_0 : decode cX9_slot 0 = .ok (.aload_n 0, 1) := by decide +kernel
theorem dX9_slot_1 : decode cX9_slot 1 = .ok (.iload_n 1, 1) := by decide +kernel
theorem dX9_slot_2 : decode cX9_slot 2 = .ok (.invokevirtual 211, 3) := by decide +kernel
theorem dX9_slot_5 : decode cX9_slot 5 = .ok (.ifCond .eq 22, 3) := by decide +kernel
theorem dX9_slot_8 : decode cX9_slot 8 = .ok (.iload_n 2, 1) := by decide +kernel
theorem dX9_slot_9 : decode cX9_slot 9 = .ok (.iconst 0, 1) := by decide +kernel
theorem dX9_slot_10 : decode cX9_slot 10 = .ok (.bipush 8, 2) := by decide +kernel
theorem dX9_slot_12 : decode cX9_slot 12 = .ok (.invokestatic 132, 3) := by decide +kernel
theorem dX9_slot_15 : decode cX9_slot 15 = .ok (.ifCond .eq 12, 3) := by decide +kernel
theorem dX9_slot_18 : decode cX9_slot 18 = .ok (.aload_n 0, 1) := by decide +kernel
theorem dX9_slot_19 : decode cX9_slot 19 = .ok (.iload_n 1, 1) := by decide +kernel
theorem dX9_slot_20 : decode cX9_slot 20 = .ok (.iload_n 2, 1) := by decide +kernel
theorem dX9_slot_21 : decode cX9_slot 21 = .ok (.invokevirtual 186, 3) := by decide +kernel
theorem dX9_slot_24 : decode cX9_slot 24 = .ok (.goto 4, 3) := by decide +kernel
theorem dX9_slot_27 : decode cX9_slot 27 = .ok (.iconst (-1), 1) := by decide +kernel
theorem dX9_slot_28 : decode cX9_slot 28 = .ok (.ireturn, 1) := by decide +kernel
theorem dX9_note_0 : decode cX9_note 0 = .ok (.iload_n 1, 1) := by decide +kernel
theorem dX9_note_1 : decode cX9_note 1 = .ok (.iconst 0, 1) := by decide +kernel
theorem dX9_note_2 : decode cX9_note 2 = .ok (.sipush 9999, 3) := by decide +kernel
theorem dX9_note_5 : decode cX9_note 5 = .ok (.invokestatic 132, 3) := by decide +kernel
theorem dX9_note_8 : decode cX9_note 8 = .ok (.ifCond .eq 32, 3) := by decide +kernel
theorem dX9_note_11 : decode cX9_note 11 = .ok (.iload_n 2, 1) := by decide +kernel
theorem dX9_note_12 : decode cX9_note 12 = .ok (.iload_n 1, 1) := by decide +kernel
theorem dX9_note_13 : decode cX9_note 13 = .ok (.sipush 9999, 3) := by decide +kernel
theorem dX9_note_16 : decode cX9_note 16 = .ok (.invokestatic 132, 3) := by decide +kernel
theorem dX9_note_19 : decode cX9_note 19 = .ok (.ifCond .eq 21, 3) := by decide +kernel
theorem dX9_note_22 : decode cX9_note 22 = .ok (.iload_n 3, 1) := by decide +kernel
theorem dX9_note_23 : decode cX9_note 23 = .ok (.iconst 0, 1) := by decide +kernel
theorem dX9_note_24 : decode cX9_note 24 = .ok (.iconst 3, 1) := by decide +kernel
theorem dX9_note_25 : decode cX9_note 25 = .ok (.invokestatic 132, 3) := by decide +kernel
theorem dX9_note_28 : decode cX9_note 28 = .ok (.ifCond .eq 12, 3) := by decide +kernel
theorem dX9_note_31 : decode cX9_note 31 = .ok (.aload_n 0, 1) := by decide +kernel
theorem dX9_note_32 : decode cX9_note 32 = .ok (.getfield 237, 3) := by decide +kernel
theorem dX9_note_35 : decode cX9_note 35 = .ok (.bipush 9, 2) := by decide +kernel
theorem dX9_note_37 : decode cX9_note 37 = .ok (.if_icmp .ne 5, 3) := by decide +kernel
theorem dX9_note_40 : decode cX9_note 40 = .ok (.iconst (-1), 1) := by decide +kernel
theorem dX9_note_41 : decode cX9_note 41 = .ok (.ireturn, 1) := by decide +kernel
theorem dX9_note_42 : decode cX9_note 42 = .ok (.aload_n 0, 1) := by decide +kernel
theorem dX9_note_43 : decode cX9_note 43 = .ok (.getfield 44, 3) := by decide +kernel
theorem dX9_note_46 : decode cX9_note 46 = .ok (.aload_n 0, 1) := by decide +kernel
theorem dX9_note_47 : decode cX9_note 47 = .ok (.getfield 237, 3) := by decide +kernel
theorem dX9_note_50 : decode cX9_note 50 = .ok (.iload_n 1, 1) := by decide +kernel
theorem dX9_note_51 : decode cX9_note 51 = .ok (.iastore, 1) := by decide +kernel
theorem dX9_note_52 : decode cX9_note 52 = .ok (.aload_n 0, 1) := by decide +kernel
theorem dX9_note_53 : decode cX9_note 53 = .ok (.getfield 47, 3) := by decide +kernel
theorem dX9_note_56 : decode cX9_note 56 = .ok (.aload_n 0, 1) := by decide +kernel
theorem dX9_note_57 : decode cX9_note 57 = .ok (.getfield 237, 3) := by decide +kernel
theorem dX9_note_60 : decode cX9_note 60 = .ok (.iload_n 2, 1) := by decide +kernel
theorem dX9_note_61 : decode cX9_note 61 = .ok (.iastore, 1) := by decide +kernel
theorem dX9_note_62 : decode cX9_note 62 = .ok (.aload_n 0, 1) := by decide +kernel
theorem dX9_note_63 : decode cX9_note 63 = .ok (.getfield 50, 3) := by decide +kernel
theorem dX9_note_66 : decode cX9_note 66 = .ok (.aload_n 0, 1) := by decide +kernel
theorem dX9_note_67 : decode cX9_note 67 = .ok (.getfield 237, 3) := by decide +kernel
theorem dX9_note_70 : decode cX9_note 70 = .ok (.iload_n 3, 1) := by decide +kernel
theorem dX9_note_71 : decode cX9_note 71 = .ok (.iastore, 1) := by decide +kernel
theorem dX9_note_72 : decode cX9_note 72 = .ok (.aload_n 0, 1) := by decide +kernel
theorem dX9_note_73 : decode cX9_note 73 = .ok (.getfield 53, 3) := by decide +kernel
theorem dX9_note_76 : decode cX9_note 76 = .ok (.aload_n 0, 1) := by decide +kernel
theorem dX9_note_77 : decode cX9_note 77 = .ok (.getfield 237, 3) := by decide +kernel
theorem dX9_note_80 : decode cX9_note 80 = .ok (.iload 4, 2) := by decide +kernel
theorem dX9_note_82 : decode cX9_note 82 = .ok (.iastore, 1) := by decide +kernel
theorem dX9_note_83 : decode cX9_note 83 = .ok (.aload_n 0, 1) := by decide +kernel
theorem dX9_note_84 : decode cX9_note 84 = .ok (.getfield 56, 3) := by decide +kernel
theorem dX9_note_87 : decode cX9_note 87 = .ok (.aload_n 0, 1) := by decide +kernel
theorem dX9_note_88 : decode cX9_note 88 = .ok (.getfield 237, 3) := by decide +kernel
theorem dX9_note_91 : decode cX9_note 91 = .ok (.iload 5, 2) := by decide +kernel
theorem dX9_note_93 : decode cX9_note 93 = .ok (.iastore, 1) := by decide +kernel
theorem dX9_note_94 : decode cX9_note 94 = .ok (.aload_n 0, 1) := by decide +kernel
theorem dX9_note_95 : decode cX9_note 95 = .ok (.dup, 1) := by decide +kernel
theorem dX9_note_96 : decode cX9_note 96 = .ok (.getfield 237, 3) := by decide +kernel
theorem dX9_note_99 : decode cX9_note 99 = .ok (.iconst 1, 1) := by decide +kernel
theorem dX9_note_100 : decode cX9_note 100 = .ok (.iadd, 1) := by decide +kernel
theorem dX9_note_101 : decode cX9_note 101 = .ok (.putfield 237, 3) := by decide +kernel
theorem dX9_note_104 : decode cX9_note 104 = .ok (.aload_n 0, 1) := by decide +kernel
theorem dX9_note_105 : decode cX9_note 105 = .ok (.getfield 237, 3) := by decide +kernel
theorem dX9_note_108 : decode cX9_note 108 = .ok (.iconst 1, 1) := by decide +kernel
theorem dX9_note_109 : decode cX9_note 109 = .ok (.isub, 1) := by decide +kernel
theorem dX9_note_110 : decode cX9_note 110 = .ok (.ireturn, 1) := by decide +kernel
theorem dX9_hush_0 : decode cX9_hush 0 = .ok (.aload_n 0, 1) := by decide +kernel
theorem dX9_hush_1 : decode cX9_hush 1 = .ok (.getfield 237, 3) := by decide +kernel
theorem dX9_hush_4 : decode cX9_hush 4 = .ok (.istore_n 1, 1) := by decide +kernel
theorem dX9_hush_5 : decode cX9_hush 5 = .ok (.aload_n 0, 1) := by decide +kernel
theorem dX9_hush_6 : decode cX9_hush 6 = .ok (.iconst 0, 1) := by decide +kernel
theorem dX9_hush_7 : decode cX9_hush 7 = .ok (.putfield 237, 3) := by decide +kernel
theorem dX9_hush_10 : decode cX9_hush 10 = .ok (.iload_n 1, 1) := by decide +kernel
theorem dX9_hush_11 : decode cX9_hush 11 = .ok (.ireturn, 1) := by decide +kernel
theorem dX9_canCome_0 : decode cX9_canCome 0 = .ok (.iload_n 2, 1) := by decide +kernel
theorem dX9_canCome_1 : decode cX9_canCome 1 = .ok (.iload_n 1, 1) := by decide +kernel
theorem dX9_canCome_2 : decode cX9_canCome 2 = .ok (.ishr, 1) := by decide +kernel
theorem dX9_canCome_3 : decode cX9_canCome 3 = .ok (.iconst 1, 1) := by decide +kernel
theorem dX9_canCome_4 : decode cX9_canCome 4 = .ok (.iand, 1) := by decide +kernel
theorem dX9_canCome_5 : decode cX9_canCome 5 = .ok (.iconst 1, 1) := by decide +kernel
theorem dX9_canCome_6 : decode cX9_canCome 6 = .ok (.if_icmp .eq 28, 3) := by decide +kernel
theorem dX9_canCome_9 : decode cX9_canCome 9 = .ok (.aload_n 0, 1) := by decide +kernel
theorem dX9_canCome_10 : decode cX9_canCome 10 = .ok (.getfield 50, 3) := by decide +kernel
theorem dX9_canCome_13 : decode cX9_canCome 13 = .ok (.iload_n 1, 1) := by decide +kernel
theorem dX9_canCome_14 : decode cX9_canCome 14 = .ok (.iaload, 1) := by decide +kernel
theorem dX9_canCome_15 : decode cX9_canCome 15 = .ok (.iload_n 3, 1) := by decide +kernel
theorem dX9_canCome_16 : decode cX9_canCome 16 = .ok (.aload_n 0, 1) := by decide +kernel
theorem dX9_canCome_17 : decode cX9_canCome 17 = .ok (.getfield 53, 3) := by decide +kernel
theorem dX9_canCome_20 : decode cX9_canCome 20 = .ok (.iload_n 1, 1) := by decide +kernel
theorem dX9_canCome_21 : decode cX9_canCome 21 = .ok (.iaload, 1) := by decide +kernel
theorem dX9_canCome_22 : decode cX9_canCome 22 = .ok (.invokestatic 160, 3) := by decide +kernel
theorem dX9_canCome_25 : decode cX9_canCome 25 = .ok (.aload_n 0, 1) := by decide +kernel
theorem dX9_canCome_26 : decode cX9_canCome 26 = .ok (.getfield 56, 3) := by decide +kernel
theorem dX9_canCome_29 : decode cX9_canCome 29 = .ok (.iload_n 1, 1) := by decide +kernel
theorem dX9_canCome_30 : decode cX9_canCome 30 = .ok (.iaload, 1) := by decide +kernel
theorem dX9_canCome_31 : decode cX9_canCome 31 = .ok (.if_icmp .eq 5, 3) := by decide +kernel
theorem dX9_canCome_34 : decode cX9_canCome 34 = .ok (.iconst 0, 1) := by decide +kernel
theorem dX9_canCome_35 : decode cX9_canCome 35 = .ok (.ireturn, 1) := by decide +kernel
theorem dX9_canCome_36 : decode cX9_canCome 36 = .ok (.iconst 0, 1) := by decide +kernel
theorem dX9_canCome_37 : decode cX9_canCome 37 = .ok (.istore 4, 2) := by decide +kernel
theorem dX9_canCome_39 : decode cX9_canCome 39 = .ok (.iload 4, 2) := by decide +kernel
theorem dX9_canCome_41 : decode cX9_canCome 41 = .ok (.aload_n 0, 1) := by decide +kernel
theorem dX9_canCome_42 : decode cX9_canCome 42 = .ok (.getfield 237, 3) := by decide +kernel
theorem dX9_canCome_45 : decode cX9_canCome 45 = .ok (.if_icmp .ge 42, 3) := by decide +kernel
theorem dX9_canCome_48 : decode cX9_canCome 48 = .ok (.iload 4, 2) := by decide +kernel
theorem dX9_canCome_50 : decode cX9_canCome 50 = .ok (.iload_n 1, 1) := by decide +kernel
theorem dX9_canCome_51 : decode cX9_canCome 51 = .ok (.if_icmp .eq 30, 3) := by decide +kernel
theorem dX9_canCome_54 : decode cX9_canCome 54 = .ok (.iload_n 2, 1) := by decide +kernel
theorem dX9_canCome_55 : decode cX9_canCome 55 = .ok (.iload 4, 2) := by decide +kernel
theorem dX9_canCome_57 : decode cX9_canCome 57 = .ok (.ishr, 1) := by decide +kernel
theorem dX9_canCome_58 : decode cX9_canCome 58 = .ok (.iconst 1, 1) := by decide +kernel
theorem dX9_canCome_59 : decode cX9_canCome 59 = .ok (.iand, 1) := by decide +kernel
theorem dX9_canCome_60 : decode cX9_canCome 60 = .ok (.ifCond .ne 21, 3) := by decide +kernel
theorem dX9_canCome_63 : decode cX9_canCome 63 = .ok (.aload_n 0, 1) := by decide +kernel
theorem dX9_canCome_64 : decode cX9_canCome 64 = .ok (.getfield 47, 3) := by decide +kernel
theorem dX9_canCome_67 : decode cX9_canCome 67 = .ok (.iload 4, 2) := by decide +kernel
theorem dX9_canCome_69 : decode cX9_canCome 69 = .ok (.iaload, 1) := by decide +kernel
theorem dX9_canCome_70 : decode cX9_canCome 70 = .ok (.aload_n 0, 1) := by decide +kernel
theorem dX9_canCome_71 : decode cX9_canCome 71 = .ok (.getfield 44, 3) := by decide +kernel
theorem dX9_canCome_74 : decode cX9_canCome 74 = .ok (.iload_n 1, 1) := by decide +kernel
theorem dX9_canCome_75 : decode cX9_canCome 75 = .ok (.iaload, 1) := by decide +kernel
theorem dX9_canCome_76 : decode cX9_canCome 76 = .ok (.if_icmp .ge 5, 3) := by decide +kernel
theorem dX9_canCome_79 : decode cX9_canCome 79 = .ok (.iconst 0, 1) := by decide +kernel
theorem dX9_canCome_80 : decode cX9_canCome 80 = .ok (.ireturn, 1) := by decide +kernel
theorem dX9_canCome_81 : decode cX9_canCome 81 = .ok (.iinc 4 1, 3) := by decide +kernel
theorem dX9_canCome_84 : decode cX9_canCome 84 = .ok (.goto (-45), 3) := by decide +kernel
theorem dX9_canCome_87 : decode cX9_canCome 87 = .ok (.iconst 1, 1) := by decide +kernel
theorem dX9_canCome_88 : decode cX9_canCome 88 = .ok (.ireturn, 1) := by decide +kernel
theorem dX9_findOrder_0 : decode cX9_findOrder 0 = .ok (.iconst 0, 1) := by decide +kernel
theorem dX9_findOrder_1 : decode cX9_findOrder 1 = .ok (.istore_n 1, 1) := by decide +kernel
theorem dX9_findOrder_2 : decode cX9_findOrder 2 = .ok (.iconst 0, 1) := by decide +kernel
theorem dX9_findOrder_3 : decode cX9_findOrder 3 = .ok (.istore_n 2, 1) := by decide +kernel
theorem dX9_findOrder_4 : decode cX9_findOrder 4 = .ok (.aload_n 0, 1) := by decide +kernel
theorem dX9_findOrder_5 : decode cX9_findOrder 5 = .ok (.getfield 59, 3) := by decide +kernel
theorem dX9_findOrder_8 : decode cX9_findOrder 8 = .ok (.iconst 0, 1) := by decide +kernel
theorem dX9_findOrder_9 : decode cX9_findOrder 9 = .ok (.iconst (-1), 1) := by decide +kernel
theorem dX9_findOrder_10 : decode cX9_findOrder 10 = .ok (.iastore, 1) := by decide +kernel
theorem dX9_findOrder_11 : decode cX9_findOrder 11 = .ok (.aload_n 0, 1) := by decide +kernel
theorem dX9_findOrder_12 : decode cX9_findOrder 12 = .ok (.getfield 62, 3) := by decide +kernel
theorem dX9_findOrder_15 : decode cX9_findOrder 15 = .ok (.iconst 0, 1) := by decide +kernel
theorem dX9_findOrder_16 : decode cX9_findOrder 16 = .ok (.iconst 0, 1) := by decide +kernel
theorem dX9_findOrder_17 : decode cX9_findOrder 17 = .ok (.iastore, 1) := by decide +kernel
theorem dX9_findOrder_18 : decode cX9_findOrder 18 = .ok (.iload_n 1, 1) := by decide +kernel
theorem dX9_findOrder_19 : decode cX9_findOrder 19 = .ok (.ifCond .lt 147, 3) := by decide +kernel
theorem dX9_findOrder_22 : decode cX9_findOrder 22 = .ok (.iload_n 1, 1) := by decide +kernel
theorem dX9_findOrder_23 : decode cX9_findOrder 23 = .ok (.aload_n 0, 1) := by decide +kernel
theorem dX9_findOrder_24 : decode cX9_findOrder 24 = .ok (.getfield 237, 3) := by decide +kernel
theorem dX9_findOrder_27 : decode cX9_findOrder 27 = .ok (.if_icmp .ge 139, 3) := by decide +kernel
theorem dX9_findOrder_30 : decode cX9_findOrder 30 = .ok (.aload_n 0, 1) := by decide +kernel
theorem dX9_findOrder_31 : decode cX9_findOrder 31 = .ok (.getfield 59, 3) := by decide +kernel
theorem dX9_findOrder_34 : decode cX9_findOrder 34 = .ok (.iload_n 1, 1) := by decide +kernel
theorem dX9_findOrder_35 : decode cX9_findOrder 35 = .ok (.iaload, 1) := by decide +kernel
theorem dX9_findOrder_36 : decode cX9_findOrder 36 = .ok (.ifCond .lt 16, 3) := by decide +kernel
theorem dX9_findOrder_39 : decode cX9_findOrder 39 = .ok (.iload_n 2, 1) := by decide +kernel
theorem dX9_findOrder_40 : decode cX9_findOrder 40 = .ok (.iconst 1, 1) := by decide +kernel
theorem dX9_findOrder_41 : decode cX9_findOrder 41 = .ok (.aload_n 0, 1) := by decide +kernel
theorem dX9_findOrder_42 : decode cX9_findOrder 42 = .ok (.getfield 59, 3) := by decide +kernel
theorem dX9_findOrder_45 : decode cX9_findOrder 45 = .ok (.iload_n 1, 1) := by decide +kernel
theorem dX9_findOrder_46 : decode cX9_findOrder 46 = .ok (.iaload, 1) := by decide +kernel
theorem dX9_findOrder_47 : decode cX9_findOrder 47 = .ok (.ishl, 1) := by decide +kernel
theorem dX9_findOrder_48 : decode cX9_findOrder 48 = .ok (.iconst (-1), 1) := by decide +kernel
theorem dX9_findOrder_49 : decode cX9_findOrder 49 = .ok (.ixor, 1) := by decide +kernel
theorem dX9_findOrder_50 : decode cX9_findOrder 50 = .ok (.iand, 1) := by decide +kernel
theorem dX9_findOrder_51 : decode cX9_findOrder 51 = .ok (.istore_n 2, 1) := by decide +kernel
theorem dX9_findOrder_52 : decode cX9_findOrder 52 = .ok (.aload_n 0, 1) := by decide +kernel
theorem dX9_findOrder_53 : decode cX9_findOrder 53 = .ok (.getfield 59, 3) := by decide +kernel
theorem dX9_findOrder_56 : decode cX9_findOrder 56 = .ok (.iload_n 1, 1) := by decide +kernel
theorem dX9_findOrder_57 : decode cX9_findOrder 57 = .ok (.iaload, 1) := by decide +kernel
theorem dX9_findOrder_58 : decode cX9_findOrder 58 = .ok (.iconst 1, 1) := by decide +kernel
theorem dX9_findOrder_59 : decode cX9_findOrder 59 = .ok (.iadd, 1) := by decide +kernel
theorem dX9_findOrder_60 : decode cX9_findOrder 60 = .ok (.istore_n 3, 1) := by decide +kernel
theorem dX9_findOrder_61 : decode cX9_findOrder 61 = .ok (.iload_n 3, 1) := by decide +kernel
theorem dX9_findOrder_62 : decode cX9_findOrder 62 = .ok (.aload_n 0, 1) := by decide +kernel
theorem dX9_findOrder_63 : decode cX9_findOrder 63 = .ok (.getfield 237, 3) := by decide +kernel
theorem dX9_findOrder_66 : decode cX9_findOrder 66 = .ok (.if_icmp .ge 24, 3) := by decide +kernel
theorem dX9_findOrder_69 : decode cX9_findOrder 69 = .ok (.aload_n 0, 1) := by decide +kernel
theorem dX9_findOrder_70 : decode cX9_findOrder 70 = .ok (.iload_n 3, 1) := by decide +kernel
theorem dX9_findOrder_71 : decode cX9_findOrder 71 = .ok (.iload_n 2, 1) := by decide +kernel
theorem dX9_findOrder_72 : decode cX9_findOrder 72 = .ok (.aload_n 0, 1) := by decide +kernel
theorem dX9_findOrder_73 : decode cX9_findOrder 73 = .ok (.getfield 62, 3) := by decide +kernel
theorem dX9_findOrder_76 : decode cX9_findOrder 76 = .ok (.iload_n 1, 1) := by decide +kernel
theorem dX9_findOrder_77 : decode cX9_findOrder 77 = .ok (.iaload, 1) := by decide +kernel
theorem dX9_findOrder_78 : decode cX9_findOrder 78 = .ok (.invokevirtual 240, 3) := by decide +kernel
theorem dX9_findOrder_81 : decode cX9_findOrder 81 = .ok (.ifCond .ne 9, 3) := by decide +kernel
theorem dX9_findOrder_84 : decode cX9_findOrder 84 = .ok (.iinc 3 1, 3) := by decide +kernel
theorem dX9_findOrder_87 : decode cX9_findOrder 87 = .ok (.goto (-26), 3) := by decide +kernel
theorem dX9_findOrder_90 : decode cX9_findOrder 90 = .ok (.aload_n 0, 1) := by decide +kernel
theorem dX9_findOrder_91 : decode cX9_findOrder 91 = .ok (.getfield 59, 3) := by decide +kernel
theorem dX9_findOrder_94 : decode cX9_findOrder 94 = .ok (.iload_n 1, 1) := by decide +kernel
theorem dX9_findOrder_95 : decode cX9_findOrder 95 = .ok (.iload_n 3, 1) := by decide +kernel
theorem dX9_findOrder_96 : decode cX9_findOrder 96 = .ok (.iastore, 1) := by decide +kernel
theorem dX9_findOrder_97 : decode cX9_findOrder 97 = .ok (.iload_n 3, 1) := by decide +kernel
theorem dX9_findOrder_98 : decode cX9_findOrder 98 = .ok (.aload_n 0, 1) := by decide +kernel
theorem dX9_findOrder_99 : decode cX9_findOrder 99 = .ok (.getfield 237, 3) := by decide +kernel
theorem dX9_findOrder_102 : decode cX9_findOrder 102 = .ok (.if_icmp .ne 16, 3) := by decide +kernel
theorem dX9_findOrder_105 : decode cX9_findOrder 105 = .ok (.aload_n 0, 1) := by decide +kernel
theorem dX9_findOrder_106 : decode cX9_findOrder 106 = .ok (.getfield 59, 3) := by decide +kernel
theorem dX9_findOrder_109 : decode cX9_findOrder 109 = .ok (.iload_n 1, 1) := by decide +kernel
theorem dX9_findOrder_110 : decode cX9_findOrder 110 = .ok (.iconst (-1), 1) := by decide +kernel
theorem dX9_findOrder_111 : decode cX9_findOrder 111 = .ok (.iastore, 1) := by decide +kernel
theorem dX9_findOrder_112 : decode cX9_findOrder 112 = .ok (.iinc 1 (-1), 3) := by decide +kernel
theorem dX9_findOrder_115 : decode cX9_findOrder 115 = .ok (.goto (-97), 3) := by decide +kernel
theorem dX9_findOrder_118 : decode cX9_findOrder 118 = .ok (.iload_n 2, 1) := by decide +kernel
theorem dX9_findOrder_119 : decode cX9_findOrder 119 = .ok (.iconst 1, 1) := by decide +kernel
theorem dX9_findOrder_120 : decode cX9_findOrder 120 = .ok (.iload_n 3, 1) := by decide +kernel
theorem dX9_findOrder_121 : decode cX9_findOrder 121 = .ok (.ishl, 1) := by decide +kernel
theorem dX9_findOrder_122 : decode cX9_findOrder 122 = .ok (.ior, 1) := by decide +kernel
theorem dX9_findOrder_123 : decode cX9_findOrder 123 = .ok (.istore_n 2, 1) := by decide +kernel
theorem dX9_findOrder_124 : decode cX9_findOrder 124 = .ok (.aload_n 0, 1) := by decide +kernel
theorem dX9_findOrder_125 : decode cX9_findOrder 125 = .ok (.getfield 62, 3) := by decide +kernel
theorem dX9_findOrder_128 : decode cX9_findOrder 128 = .ok (.iload_n 1, 1) := by decide +kernel
theorem dX9_findOrder_129 : decode cX9_findOrder 129 = .ok (.iconst 1, 1) := by decide +kernel
theorem dX9_findOrder_130 : decode cX9_findOrder 130 = .ok (.iadd, 1) := by decide +kernel
theorem dX9_findOrder_131 : decode cX9_findOrder 131 = .ok (.aload_n 0, 1) := by decide +kernel
theorem dX9_findOrder_132 : decode cX9_findOrder 132 = .ok (.getfield 50, 3) := by decide +kernel
theorem dX9_findOrder_135 : decode cX9_findOrder 135 = .ok (.iload_n 3, 1) := by decide +kernel
theorem dX9_findOrder_136 : decode cX9_findOrder 136 = .ok (.iaload, 1) := by decide +kernel
theorem dX9_findOrder_137 : decode cX9_findOrder 137 = .ok (.aload_n 0, 1) := by decide +kernel
theorem dX9_findOrder_138 : decode cX9_findOrder 138 = .ok (.getfield 62, 3) := by decide +kernel
theorem dX9_findOrder_141 : decode cX9_findOrder 141 = .ok (.iload_n 1, 1) := by decide +kernel
theorem dX9_findOrder_142 : decode cX9_findOrder 142 = .ok (.iaload, 1) := by decide +kernel
theorem dX9_findOrder_143 : decode cX9_findOrder 143 = .ok (.aload_n 0, 1) := by decide +kernel
theorem dX9_findOrder_144 : decode cX9_findOrder 144 = .ok (.getfield 53, 3) := by decide +kernel
theorem dX9_findOrder_147 : decode cX9_findOrder 147 = .ok (.iload_n 3, 1) := by decide +kernel
theorem dX9_findOrder_148 : decode cX9_findOrder 148 = .ok (.iaload, 1) := by decide +kernel
theorem dX9_findOrder_149 : decode cX9_findOrder 149 = .ok (.invokestatic 156, 3) := by decide +kernel
theorem dX9_findOrder_152 : decode cX9_findOrder 152 = .ok (.iastore, 1) := by decide +kernel
theorem dX9_findOrder_153 : decode cX9_findOrder 153 = .ok (.iinc 1 1, 3) := by decide +kernel
theorem dX9_findOrder_156 : decode cX9_findOrder 156 = .ok (.aload_n 0, 1) := by decide +kernel
theorem dX9_findOrder_157 : decode cX9_findOrder 157 = .ok (.getfield 59, 3) := by decide +kernel
theorem dX9_findOrder_160 : decode cX9_findOrder 160 = .ok (.iload_n 1, 1) := by decide +kernel
theorem dX9_findOrder_161 : decode cX9_findOrder 161 = .ok (.iconst (-1), 1) := by decide +kernel
theorem dX9_findOrder_162 : decode cX9_findOrder 162 = .ok (.iastore, 1) := by decide +kernel
theorem dX9_findOrder_163 : decode cX9_findOrder 163 = .ok (.goto (-145), 3) := by decide +kernel
theorem dX9_findOrder_166 : decode cX9_findOrder 166 = .ok (.iload_n 1, 1) := by decide +kernel
theorem dX9_findOrder_167 : decode cX9_findOrder 167 = .ok (.aload_n 0, 1) := by decide +kernel
theorem dX9_findOrder_168 : decode cX9_findOrder 168 = .ok (.getfield 237, 3) := by decide +kernel
theorem dX9_findOrder_171 : decode cX9_findOrder 171 = .ok (.if_icmp .ne 7, 3) := by decide +kernel
theorem dX9_findOrder_174 : decode cX9_findOrder 174 = .ok (.iconst 1, 1) := by decide +kernel
theorem dX9_findOrder_175 : decode cX9_findOrder 175 = .ok (.goto 4, 3) := by decide +kernel
theorem dX9_findOrder_178 : decode cX9_findOrder 178 = .ok (.iconst 0, 1) := by decide +kernel
theorem dX9_findOrder_179 : decode cX9_findOrder 179 = .ok (.ireturn, 1) := by decide +kernel
theorem dX9_judge_0 : decode cX9_judge 0 = .ok (.aload_n 0, 1) := by decide +kernel
theorem dX9_judge_1 : decode cX9_judge 1 = .ok (.invokevirtual 243, 3) := by decide +kernel
theorem dX9_judge_4 : decode cX9_judge 4 = .ok (.ifCond .eq 7, 3) := by decide +kernel
theorem dX9_judge_7 : decode cX9_judge 7 = .ok (.iconst 1, 1) := by decide +kernel
theorem dX9_judge_8 : decode cX9_judge 8 = .ok (.goto 4, 3) := by decide +kernel
theorem dX9_judge_11 : decode cX9_judge 11 = .ok (.iconst 0, 1) := by decide +kernel
theorem dX9_judge_12 : decode cX9_judge 12 = .ok (.ireturn, 1) := by decide +kernel
theorem dX9_order_0 : decode cX9_order 0 = .ok (.iload_n 1, 1) := by decide +kernel
theorem dX9_order_1 : decode cX9_order 1 = .ok (.iconst 0, 1) := by decide +kernel
theorem dX9_order_2 : decode cX9_order 2 = .ok (.aload_n 0, 1) := by decide +kernel
theorem dX9_order_3 : decode cX9_order 3 = .ok (.getfield 237, 3) := by decide +kernel
theorem dX9_order_6 : decode cX9_order 6 = .ok (.iconst 1, 1) := by decide +kernel
theorem dX9_order_7 : decode cX9_order 7 = .ok (.isub, 1) := by decide +kernel
theorem dX9_order_8 : decode cX9_order 8 = .ok (.invokestatic 132, 3) := by decide +kernel
theorem dX9_order_11 : decode cX9_order 11 = .ok (.ifCond .eq 19, 3) := by decide +kernel
theorem dX9_order_14 : decode cX9_order 14 = .ok (.aload_n 0, 1) := by decide +kernel
theorem dX9_order_15 : decode cX9_order 15 = .ok (.invokevirtual 243, 3) := by decide +kernel
theorem dX9_order_18 : decode cX9_order 18 = .ok (.ifCond .eq 12, 3) := by decide +kernel
theorem dX9_order_21 : decode cX9_order 21 = .ok (.aload_n 0, 1) := by decide +kernel
theorem dX9_order_22 : decode cX9_order 22 = .ok (.getfield 59, 3) := by decide +kernel
theorem dX9_order_25 : decode cX9_order 25 = .ok (.iload_n 1, 1) := by decide +kernel
theorem dX9_order_26 : decode cX9_order 26 = .ok (.iaload, 1) := by decide +kernel
theorem dX9_order_27 : decode cX9_order 27 = .ok (.goto 4, 3) := by decide +kernel
theorem dX9_order_30 : decode cX9_order 30 = .ok (.iconst (-1), 1) := by decide +kernel
theorem dX9_order_31 : decode cX9_order 31 = .ok (.ireturn, 1) := by decide +kernel
theorem dX9_image_0 : decode cX9_image 0 = .ok (.iload_n 1, 1) := by decide +kernel
theorem dX9_image_1 : decode cX9_image 1 = .ok (.iconst 0, 1) := by decide +kernel
theorem dX9_image_2 : decode cX9_image 2 = .ok (.iconst 2, 1) := by decide +kernel
theorem dX9_image_3 : decode cX9_image 3 = .ok (.invokestatic 132, 3) := by decide +kernel
theorem dX9_image_6 : decode cX9_image 6 = .ok (.ifCond .ne 5, 3) := by decide +kernel
theorem dX9_image_9 : decode cX9_image 9 = .ok (.iconst (-1), 1) := by decide +kernel
theorem dX9_image_10 : decode cX9_image 10 = .ok (.ireturn, 1) := by decide +kernel
theorem dX9_image_11 : decode cX9_image 11 = .ok (.iconst 0, 1) := by decide +kernel
theorem dX9_image_12 : decode cX9_image 12 = .ok (.istore_n 2, 1) := by decide +kernel
theorem dX9_image_13 : decode cX9_image 13 = .ok (.iload_n 2, 1) := by decide +kernel
theorem dX9_image_14 : decode cX9_image 14 = .ok (.sipush 5000, 3) := by decide +kernel
theorem dX9_image_17 : decode cX9_image 17 = .ok (.if_icmp .ge 27, 3) := by decide +kernel
theorem dX9_image_20 : decode cX9_image 20 = .ok (.aload_n 0, 1) := by decide +kernel
theorem dX9_image_21 : decode cX9_image 21 = .ok (.getfield 20, 3) := by decide +kernel
theorem dX9_image_24 : decode cX9_image 24 = .ok (.sipush 5000, 3) := by decide +kernel
theorem dX9_image_27 : decode cX9_image 27 = .ok (.iload_n 1, 1) := by decide +kernel
theorem dX9_image_28 : decode cX9_image 28 = .ok (.imul, 1) := by decide +kernel
theorem dX9_image_29 : decode cX9_image 29 = .ok (.iload_n 2, 1) := by decide +kernel
theorem dX9_image_30 : decode cX9_image 30 = .ok (.iadd, 1) := by decide +kernel
theorem dX9_image_31 : decode cX9_image 31 = .ok (.aload_n 0, 1) := by decide +kernel
theorem dX9_image_32 : decode cX9_image 32 = .ok (.getfield 16, 3) := by decide +kernel
theorem dX9_image_35 : decode cX9_image 35 = .ok (.iload_n 2, 1) := by decide +kernel
theorem dX9_image_36 : decode cX9_image 36 = .ok (.iaload, 1) := by decide +kernel
theorem dX9_image_37 : decode cX9_image 37 = .ok (.iastore, 1) := by decide +kernel
theorem dX9_image_38 : decode cX9_image 38 = .ok (.iinc 2 1, 3) := by decide +kernel
theorem dX9_image_41 : decode cX9_image 41 = .ok (.goto (-28), 3) := by decide +kernel
theorem dX9_image_44 : decode cX9_image 44 = .ok (.aload_n 0, 1) := by decide +kernel
theorem dX9_image_45 : decode cX9_image 45 = .ok (.getfield 23, 3) := by decide +kernel
theorem dX9_image_48 : decode cX9_image 48 = .ok (.iload_n 1, 1) := by decide +kernel
theorem dX9_image_49 : decode cX9_image 49 = .ok (.iconst 1, 1) := by decide +kernel
theorem dX9_image_50 : decode cX9_image 50 = .ok (.bastore, 1) := by decide +kernel
theorem dX9_image_51 : decode cX9_image 51 = .ok (.aload_n 0, 1) := by decide +kernel
theorem dX9_image_52 : decode cX9_image 52 = .ok (.invokevirtual 195, 3) := by decide +kernel
theorem dX9_image_55 : decode cX9_image 55 = .ok (.ireturn, 1) := by decide +kernel
theorem dX9_back_0 : decode cX9_back 0 = .ok (.iload_n 1, 1) := by decide +kernel
theorem dX9_back_1 : decode cX9_back 1 = .ok (.iconst 0, 1) := by decide +kernel
theorem dX9_back_2 : decode cX9_back 2 = .ok (.iconst 2, 1) := by decide +kernel
theorem dX9_back_3 : decode cX9_back 3 = .ok (.invokestatic 132, 3) := by decide +kernel
theorem dX9_back_6 : decode cX9_back 6 = .ok (.ifCond .eq 12, 3) := by decide +kernel
theorem dX9_back_9 : decode cX9_back 9 = .ok (.aload_n 0, 1) := by decide +kernel
theorem dX9_back_10 : decode cX9_back 10 = .ok (.getfield 23, 3) := by decide +kernel
theorem dX9_back_13 : decode cX9_back 13 = .ok (.iload_n 1, 1) := by decide +kernel
theorem dX9_back_14 : decode cX9_back 14 = .ok (.baload, 1) := by decide +kernel
theorem dX9_back_15 : decode cX9_back 15 = .ok (.ifCond .ne 5, 3) := by decide +kernel
theorem dX9_back_18 : decode cX9_back 18 = .ok (.iconst (-1), 1) := by decide +kernel
theorem dX9_back_19 : decode cX9_back 19 = .ok (.ireturn, 1) := by decide +kernel
theorem dX9_back_20 : decode cX9_back 20 = .ok (.iconst 0, 1) := by decide +kernel
theorem dX9_back_21 : decode cX9_back 21 = .ok (.istore_n 2, 1) := by decide +kernel
theorem dX9_back_22 : decode cX9_back 22 = .ok (.iload_n 2, 1) := by decide +kernel
theorem dX9_back_23 : decode cX9_back 23 = .ok (.sipush 5000, 3) := by decide +kernel
theorem dX9_back_26 : decode cX9_back 26 = .ok (.if_icmp .ge 27, 3) := by decide +kernel
theorem dX9_back_29 : decode cX9_back 29 = .ok (.aload_n 0, 1) := by decide +kernel
theorem dX9_back_30 : decode cX9_back 30 = .ok (.getfield 16, 3) := by decide +kernel
theorem dX9_back_33 : decode cX9_back 33 = .ok (.iload_n 2, 1) := by decide +kernel
theorem dX9_back_34 : decode cX9_back 34 = .ok (.aload_n 0, 1) := by decide +kernel
theorem dX9_back_35 : decode cX9_back 35 = .ok (.getfield 20, 3) := by decide +kernel
theorem dX9_back_38 : decode cX9_back 38 = .ok (.sipush 5000, 3) := by decide +kernel
theorem dX9_back_41 : decode cX9_back 41 = .ok (.iload_n 1, 1) := by decide +kernel
theorem dX9_back_42 : decode cX9_back 42 = .ok (.imul, 1) := by decide +kernel
theorem dX9_back_43 : decode cX9_back 43 = .ok (.iload_n 2, 1) := by decide +kernel
theorem dX9_back_44 : decode cX9_back 44 = .ok (.iadd, 1) := by decide +kernel
theorem dX9_back_45 : decode cX9_back 45 = .ok (.iaload, 1) := by decide +kernel
theorem dX9_back_46 : decode cX9_back 46 = .ok (.iastore, 1) := by decide +kernel
theorem dX9_back_47 : decode cX9_back 47 = .ok (.iinc 2 1, 3) := by decide +kernel
theorem dX9_back_50 : decode cX9_back 50 = .ok (.goto (-28), 3) := by decide +kernel
theorem dX9_back_53 : decode cX9_back 53 = .ok (.aload_n 0, 1) := by decide +kernel
theorem dX9_back_54 : decode cX9_back 54 = .ok (.invokevirtual 195, 3) := by decide +kernel
theorem dX9_back_57 : decode cX9_back 57 = .ok (.ireturn, 1) := by decide +kernel
theorem dX9_up_0 : decode cX9_up 0 = .ok (.iconst 0, 1) := by decide +kernel
theorem dX9_up_1 : decode cX9_up 1 = .ok (.istore_n 1, 1) := by decide +kernel
theorem dX9_up_2 : decode cX9_up 2 = .ok (.iconst 0, 1) := by decide +kernel
theorem dX9_up_3 : decode cX9_up 3 = .ok (.istore_n 2, 1) := by decide +kernel
theorem dX9_up_4 : decode cX9_up 4 = .ok (.iload_n 2, 1) := by decide +kernel
theorem dX9_up_5 : decode cX9_up 5 = .ok (.aload_n 0, 1) := by decide +kernel
theorem dX9_up_6 : decode cX9_up 6 = .ok (.invokevirtual 128, 3) := by decide +kernel
theorem dX9_up_9 : decode cX9_up 9 = .ok (.if_icmp .ge 25, 3) := by decide +kernel
theorem dX9_up_12 : decode cX9_up 12 = .ok (.iload_n 1, 1) := by decide +kernel
theorem dX9_up_13 : decode cX9_up 13 = .ok (.aload_n 0, 1) := by decide +kernel
theorem dX9_up_14 : decode cX9_up 14 = .ok (.iload_n 2, 1) := by decide +kernel
theorem dX9_up_15 : decode cX9_up 15 = .ok (.invokevirtual 150, 3) := by decide +kernel
theorem dX9_up_18 : decode cX9_up 18 = .ok (.ifCond .eq 7, 3) := by decide +kernel
theorem dX9_up_21 : decode cX9_up 21 = .ok (.iconst 1, 1) := by decide +kernel
theorem dX9_up_22 : decode cX9_up 22 = .ok (.goto 4, 3) := by decide +kernel
theorem dX9_up_25 : decode cX9_up 25 = .ok (.iconst 0, 1) := by decide +kernel
theorem dX9_up_26 : decode cX9_up 26 = .ok (.iadd, 1) := by decide +kernel
theorem dX9_up_27 : decode cX9_up 27 = .ok (.istore_n 1, 1) := by decide +kernel
theorem dX9_up_28 : decode cX9_up 28 = .ok (.iinc 2 1, 3) := by decide +kernel
theorem dX9_up_31 : decode cX9_up 31 = .ok (.goto (-27), 3) := by decide +kernel
theorem dX9_up_34 : decode cX9_up 34 = .ok (.iload_n 1, 1) := by decide +kernel
theorem dX9_up_35 : decode cX9_up 35 = .ok (.ireturn, 1) := by decide +kernel
theorem dX9_about_0 : decode cX9_about 0 = .ok (.iload_n 1, 1) := by decide +kernel
theorem dX9_about_1 : decode cX9_about 1 = .ok (.tableswitch 91 0 7 #[47, 52, 57, 62, 67, 76, 81, 86], 47) := by decide +kernel
theorem dX9_about_48 : decode cX9_about 48 = .ok (.aload_n 0, 1) := by decide +kernel
theorem dX9_about_49 : decode cX9_about 49 = .ok (.invokevirtual 128, 3) := by decide +kernel
theorem dX9_about_52 : decode cX9_about 52 = .ok (.ireturn, 1) := by decide +kernel
theorem dX9_about_53 : decode cX9_about 53 = .ok (.aload_n 0, 1) := by decide +kernel
theorem dX9_about_54 : decode cX9_about 54 = .ok (.invokevirtual 136, 3) := by decide +kernel
theorem dX9_about_57 : decode cX9_about 57 = .ok (.ireturn, 1) := by decide +kernel
theorem dX9_about_58 : decode cX9_about 58 = .ok (.aload_n 0, 1) := by decide +kernel
theorem dX9_about_59 : decode cX9_about 59 = .ok (.invokevirtual 169, 3) := by decide +kernel
theorem dX9_about_62 : decode cX9_about 62 = .ok (.ireturn, 1) := by decide +kernel
theorem dX9_about_63 : decode cX9_about 63 = .ok (.aload_n 0, 1) := by decide +kernel
theorem dX9_about_64 : decode cX9_about 64 = .ok (.invokevirtual 195, 3) := by decide +kernel
theorem dX9_about_67 : decode cX9_about 67 = .ok (.ireturn, 1) := by decide +kernel
theorem dX9_about_68 : decode cX9_about 68 = .ok (.aload_n 0, 1) := by decide +kernel
theorem dX9_about_69 : decode cX9_about 69 = .ok (.getfield 16, 3) := by decide +kernel
theorem dX9_about_72 : decode cX9_about 72 = .ok (.sipush 4960, 3) := by decide +kernel
theorem dX9_about_75 : decode cX9_about 75 = .ok (.iaload, 1) := by decide +kernel
theorem dX9_about_76 : decode cX9_about 76 = .ok (.ireturn, 1) := by decide +kernel
theorem dX9_about_77 : decode cX9_about 77 = .ok (.aload_n 0, 1) := by decide +kernel
theorem dX9_about_78 : decode cX9_about 78 = .ok (.getfield 237, 3) := by decide +kernel
theorem dX9_about_81 : decode cX9_about 81 = .ok (.ireturn, 1) := by decide +kernel
theorem dX9_about_82 : decode cX9_about 82 = .ok (.aload_n 0, 1) := by decide +kernel
theorem dX9_about_83 : decode cX9_about 83 = .ok (.getfield 103, 3) := by decide +kernel
theorem dX9_about_86 : decode cX9_about 86 = .ok (.ireturn, 1) := by decide +kernel
theorem dX9_about_87 : decode cX9_about 87 = .ok (.aload_n 0, 1) := by decide +kernel
theorem dX9_about_88 : decode cX9_about 88 = .ok (.invokevirtual 246, 3) := by decide +kernel
theorem dX9_about_91 : decode cX9_about 91 = .ok (.ireturn, 1) := by decide +kernel
theorem dX9_about_92 : decode cX9_about 92 = .ok (.iconst (-1), 1) := by decide +kernel
theorem dX9_about_93 : decode cX9_about 93 = .ok (.ireturn, 1) := by decide +kernel
theorem dX9_feed_0 : decode cX9_feed 0 = .ok (.aload_n 0, 1) := by decide +kernel
theorem dX9_feed_1 : decode cX9_feed 1 = .ok (.getfield 103, 3) := by decide +kernel
theorem dX9_feed_4 : decode cX9_feed 4 = .ok (.bipush 20, 2) := by decide +kernel
theorem dX9_feed_6 : decode cX9_feed 6 = .ok (.iadd, 1) := by decide +kernel
theorem dX9_feed_7 : decode cX9_feed 7 = .ok (.sipush 400, 3) := by decide +kernel
theorem dX9_feed_10 : decode cX9_feed 10 = .ok (.if_icmp .le 5, 3) := by decide +kernel
theorem dX9_feed_13 : decode cX9_feed 13 = .ok (.iconst (-1), 1) := by decide +kernel
theorem dX9_feed_14 : decode cX9_feed 14 = .ok (.ireturn, 1) := by decide +kernel
theorem dX9_feed_15 : decode cX9_feed 15 = .ok (.iconst 0, 1) := by decide +kernel
theorem dX9_feed_16 : decode cX9_feed 16 = .ok (.istore 6, 2) := by decide +kernel
theorem dX9_feed_18 : decode cX9_feed 18 = .ok (.iload 6, 2) := by decide +kernel
theorem dX9_feed_20 : decode cX9_feed 20 = .ok (.bipush 20, 2) := by decide +kernel
theorem dX9_feed_22 : decode cX9_feed 22 = .ok (.if_icmp .ge 83, 3) := by decide +kernel
theorem dX9_feed_25 : decode cX9_feed 25 = .ok (.iload 6, 2) := by decide +kernel
theorem dX9_feed_27 : decode cX9_feed 27 = .ok (.iconst 4, 1) := by decide +kernel
theorem dX9_feed_28 : decode cX9_feed 28 = .ok (.if_icmp .ge 7, 3) := by decide +kernel
theorem dX9_feed_31 : decode cX9_feed 31 = .ok (.iload_n 1, 1) := by decide +kernel
theorem dX9_feed_32 : decode cX9_feed 32 = .ok (.goto 39, 3) := by decide +kernel
theorem dX9_feed_35 : decode cX9_feed 35 = .ok (.iload 6, 2) := by decide +kernel
theorem dX9_feed_37 : decode cX9_feed 37 = .ok (.bipush 8, 2) := by decide +kernel
theorem dX9_feed_39 : decode cX9_feed 39 = .ok (.if_icmp .ge 7, 3) := by decide +kernel
theorem dX9_feed_42 : decode cX9_feed 42 = .ok (.iload_n 2, 1) := by decide +kernel
theorem dX9_feed_43 : decode cX9_feed 43 = .ok (.goto 28, 3) := by decide +kernel
theorem dX9_feed_46 : decode cX9_feed 46 = .ok (.iload 6, 2) := by decide +kernel
theorem dX9_feed_48 : decode cX9_feed 48 = .ok (.bipush 12, 2) := by decide +kernel
theorem dX9_feed_50 : decode cX9_feed 50 = .ok (.if_icmp .ge 7, 3) := by decide +kernel
theorem dX9_feed_53 : decode cX9_feed 53 = .ok (.iload_n 3, 1) := by decide +kernel
theorem dX9_feed_54 : decode cX9_feed 54 = .ok (.goto 17, 3) := by decide +kernel
theorem dX9_feed_57 : decode cX9_feed 57 = .ok (.iload 6, 2) := by decide +kernel
theorem dX9_feed_59 : decode cX9_feed 59 = .ok (.bipush 16, 2) := by decide +kernel
theorem dX9_feed_61 : decode cX9_feed 61 = .ok (.if_icmp .ge 8, 3) := by decide +kernel
theorem dX9_feed_64 : decode cX9_feed 64 = .ok (.iload 4, 2) := by decide +kernel
theorem dX9_feed_66 : decode cX9_feed 66 = .ok (.goto 5, 3) := by decide +kernel
theorem dX9_feed_69 : decode cX9_feed 69 = .ok (.iload 5, 2) := by decide +kernel
theorem dX9_feed_71 : decode cX9_feed 71 = .ok (.istore 7, 2) := by decide +kernel
theorem dX9_feed_73 : decode cX9_feed 73 = .ok (.aload_n 0, 1) := by decide +kernel
theorem dX9_feed_74 : decode cX9_feed 74 = .ok (.getfield 7, 3) := by decide +kernel
theorem dX9_feed_77 : decode cX9_feed 77 = .ok (.aload_n 0, 1) := by decide +kernel
theorem dX9_feed_78 : decode cX9_feed 78 = .ok (.getfield 103, 3) := by decide +kernel
theorem dX9_feed_81 : decode cX9_feed 81 = .ok (.iload 6, 2) := by decide +kernel
theorem dX9_feed_83 : decode cX9_feed 83 = .ok (.iadd, 1) := by decide +kernel
theorem dX9_feed_84 : decode cX9_feed 84 = .ok (.iload 7, 2) := by decide +kernel
theorem dX9_feed_86 : decode cX9_feed 86 = .ok (.bipush 24, 2) := by decide +kernel
theorem dX9_feed_88 : decode cX9_feed 88 = .ok (.bipush 8, 2) := by decide +kernel
theorem dX9_feed_90 : decode cX9_feed 90 = .ok (.iload 6, 2) := by decide +kernel
theorem dX9_feed_92 : decode cX9_feed 92 = .ok (.iconst 3, 1) := by decide +kernel
theorem dX9_feed_93 : decode cX9_feed 93 = .ok (.iand, 1) := by decide +kernel
theorem dX9_feed_94 : decode cX9_feed 94 = .ok (.imul, 1) := by decide +kernel
theorem dX9_feed_95 : decode cX9_feed 95 = .ok (.isub, 1) := by decide +kernel
theorem dX9_feed_96 : decode cX9_feed 96 = .ok (.ishr, 1) := by decide +kernel
theorem dX9_feed_97 : decode cX9_feed 97 = .ok (.i2b, 1) := by decide +kernel
theorem dX9_feed_98 : decode cX9_feed 98 = .ok (.bastore, 1) := by decide +kernel
theorem dX9_feed_99 : decode cX9_feed 99 = .ok (.iinc 6 1, 3) := by decide +kernel
theorem dX9_feed_102 : decode cX9_feed 102 = .ok (.goto (-84), 3) := by decide +kernel
theorem dX9_feed_105 : decode cX9_feed 105 = .ok (.aload_n 0, 1) := by decide +kernel
theorem dX9_feed_106 : decode cX9_feed 106 = .ok (.dup, 1) := by decide +kernel
theorem dX9_feed_107 : decode cX9_feed 107 = .ok (.getfield 103, 3) := by decide +kernel
theorem dX9_feed_110 : decode cX9_feed 110 = .ok (.bipush 20, 2) := by decide +kernel
theorem dX9_feed_112 : decode cX9_feed 112 = .ok (.iadd, 1) := by decide +kernel
theorem dX9_feed_113 : decode cX9_feed 113 = .ok (.putfield 103, 3) := by decide +kernel
theorem dX9_feed_116 : decode cX9_feed 116 = .ok (.aload_n 0, 1) := by decide +kernel
theorem dX9_feed_117 : decode cX9_feed 117 = .ok (.getfield 103, 3) := by decide +kernel
theorem dX9_feed_120 : decode cX9_feed 120 = .ok (.ireturn, 1) := by decide +kernel
theorem dX9_end_0 : decode cX9_end 0 = .ok (.iload_n 1, 1) := by decide +kernel
theorem dX9_end_1 : decode cX9_end 1 = .ok (.ifCond .lt 11, 3) := by decide +kernel
theorem dX9_end_4 : decode cX9_end 4 = .ok (.iload_n 1, 1) := by decide +kernel
theorem dX9_end_5 : decode cX9_end 5 = .ok (.aload_n 0, 1) := by decide +kernel
theorem dX9_end_6 : decode cX9_end 6 = .ok (.getfield 103, 3) := by decide +kernel
theorem dX9_end_9 : decode cX9_end 9 = .ok (.if_icmp .le 5, 3) := by decide +kernel
theorem dX9_end_12 : decode cX9_end 12 = .ok (.iconst (-1), 1) := by decide +kernel
theorem dX9_end_13 : decode cX9_end 13 = .ok (.ireturn, 1) := by decide +kernel
theorem dX9_end_14 : decode cX9_end 14 = .ok (.aload_n 0, 1) := by decide +kernel
theorem dX9_end_15 : decode cX9_end 15 = .ok (.iload_n 1, 1) := by decide +kernel
theorem dX9_end_16 : decode cX9_end 16 = .ok (.putfield 103, 3) := by decide +kernel
theorem dX9_end_19 : decode cX9_end 19 = .ok (.iload_n 1, 1) := by decide +kernel
theorem dX9_end_20 : decode cX9_end 20 = .ok (.ireturn, 1) := by decide +kernel
end
section
theorem dL_law_0 : decode cL_law 0 = .ok (.new 7, 3) := by decide +kernel
theorem dL_law_3 : decode cL_law 3 = .ok (.dup, 1) := by decide +kernel
theorem dL_law_4 : decode cL_law 4 = .ok (.invokespecial 9, 3) := by decide +kernel
theorem dL_law_7 : decode cL_law 7 = .ok (.astore_n 1, 1) := by decide +kernel
theorem dL_law_8 : decode cL_law 8 = .ok (.new 10, 3) := by decide +kernel
theorem dL_law_11 : decode cL_law 11 = .ok (.dup, 1) := by decide +kernel
theorem dL_law_12 : decode cL_law 12 = .ok (.invokespecial 12, 3) := by decide +kernel
theorem dL_law_15 : decode cL_law 15 = .ok (.astore_n 2, 1) := by decide +kernel
theorem dL_law_16 : decode cL_law 16 = .ok (.iconst 0, 1) := by decide +kernel
theorem dL_law_17 : decode cL_law 17 = .ok (.istore_n 3, 1) := by decide +kernel
theorem dL_law_18 : decode cL_law 18 = .ok (.iload_n 3, 1) := by decide +kernel
theorem dL_law_19 : decode cL_law 19 = .ok (.aload_n 0, 1) := by decide +kernel
theorem dL_law_20 : decode cL_law 20 = .ok (.arraylength, 1) := by decide +kernel
theorem dL_law_21 : decode cL_law 21 = .ok (.bipush 7, 2) := by decide +kernel
theorem dL_law_23 : decode cL_law 23 = .ok (.isub, 1) := by decide +kernel
theorem dL_law_24 : decode cL_law 24 = .ok (.if_icmp .gt 1008, 3) := by decide +kernel
theorem dL_law_27 : decode cL_law 27 = .ok (.aload_n 0, 1) := by decide +kernel
theorem dL_law_28 : decode cL_law 28 = .ok (.iload_n 3, 1) := by decide +kernel
theorem dL_law_29 : decode cL_law 29 = .ok (.iaload, 1) := by decide +kernel
theorem dL_law_30 : decode cL_law 30 = .ok (.bipush 31, 2) := by decide +kernel
theorem dL_law_32 : decode cL_law 32 = .ok (.iand, 1) := by decide +kernel
theorem dL_law_33 : decode cL_law 33 = .ok (.tableswitch 993 0 27 #[127, 190, 213, 226, 249, 272, 295, 318, 341, 364, 387, 462, 495, 528, 561, 584, 617, 660, 693, 736, 779, 812, 875, 888, 901, 924, 947, 970], 127) := by decide +kernel
theorem dL_law_160 : decode cL_law 160 = .ok (.aload_n 1, 1) := by decide +kernel
theorem dL_law_161 : decode cL_law 161 = .ok (.aload_n 0, 1) := by decide +kernel
theorem dL_law_162 : decode cL_law 162 = .ok (.iload_n 3, 1) := by decide +kernel
theorem dL_law_163 : decode cL_law 163 = .ok (.iconst 1, 1) := by decide +kernel
theorem dL_law_164 : decode cL_law 164 = .ok (.iadd, 1) := by decide +kernel
theorem dL_law_165 : decode cL_law 165 = .ok (.iaload, 1) := by decide +kernel
theorem dL_law_166 : decode cL_law 166 = .ok (.aload_n 0, 1) := by decide +kernel
theorem dL_law_167 : decode cL_law 167 = .ok (.iload_n 3, 1) := by decide +kernel
theorem dL_law_168 : decode cL_law 168 = .ok (.iconst 2, 1) := by decide +kernel
theorem dL_law_169 : decode cL_law 169 = .ok (.iadd, 1) := by decide +kernel
theorem dL_law_170 : decode cL_law 170 = .ok (.iaload, 1) := by decide +kernel
theorem dL_law_171 : decode cL_law 171 = .ok (.aload_n 0, 1) := by decide +kernel
theorem dL_law_172 : decode cL_law 172 = .ok (.iload_n 3, 1) := by decide +kernel
theorem dL_law_173 : decode cL_law 173 = .ok (.iconst 3, 1) := by decide +kernel
theorem dL_law_174 : decode cL_law 174 = .ok (.iadd, 1) := by decide +kernel
theorem dL_law_175 : decode cL_law 175 = .ok (.iaload, 1) := by decide +kernel
theorem dL_law_176 : decode cL_law 176 = .ok (.aload_n 0, 1) := by decide +kernel
theorem dL_law_177 : decode cL_law 177 = .ok (.iload_n 3, 1) := by decide +kernel
theorem dL_law_178 : decode cL_law 178 = .ok (.iconst 4, 1) := by decide +kernel
theorem dL_law_179 : decode cL_law 179 = .ok (.iadd, 1) := by decide +kernel
theorem dL_law_180 : decode cL_law 180 = .ok (.iaload, 1) := by decide +kernel
theorem dL_law_181 : decode cL_law 181 = .ok (.aload_n 0, 1) := by decide +kernel
theorem dL_law_182 : decode cL_law 182 = .ok (.iload_n 3, 1) := by decide +kernel
theorem dL_law_183 : decode cL_law 183 = .ok (.iconst 5, 1) := by decide +kernel
theorem dL_law_184 : decode cL_law 184 = .ok (.iadd, 1) := by decide +kernel
theorem dL_law_185 : decode cL_law 185 = .ok (.iaload, 1) := by decide +kernel
theorem dL_law_186 : decode cL_law 186 = .ok (.invokevirtual 13, 3) := by decide +kernel
theorem dL_law_189 : decode cL_law 189 = .ok (.aload_n 2, 1) := by decide +kernel
theorem dL_law_190 : decode cL_law 190 = .ok (.aload_n 0, 1) := by decide +kernel
theorem dL_law_191 : decode cL_law 191 = .ok (.iload_n 3, 1) := by decide +kernel
theorem dL_law_192 : decode cL_law 192 = .ok (.iconst 1, 1) := by decide +kernel
theorem dL_law_193 : decode cL_law 193 = .ok (.iadd, 1) := by decide +kernel
theorem dL_law_194 : decode cL_law 194 = .ok (.iaload, 1) := by decide +kernel
theorem dL_law_195 : decode cL_law 195 = .ok (.aload_n 0, 1) := by decide +kernel
theorem dL_law_196 : decode cL_law 196 = .ok (.iload_n 3, 1) := by decide +kernel
theorem dL_law_197 : decode cL_law 197 = .ok (.iconst 2, 1) := by decide +kernel
theorem dL_law_198 : decode cL_law 198 = .ok (.iadd, 1) := by decide +kernel
theorem dL_law_199 : decode cL_law 199 = .ok (.iaload, 1) := by decide +kernel
theorem dL_law_200 : decode cL_law 200 = .ok (.aload_n 0, 1) := by decide +kernel
theorem dL_law_201 : decode cL_law 201 = .ok (.iload_n 3, 1) := by decide +kernel
theorem dL_law_202 : decode cL_law 202 = .ok (.iconst 3, 1) := by decide +kernel
theorem dL_law_203 : decode cL_law 203 = .ok (.iadd, 1) := by decide +kernel
theorem dL_law_204 : decode cL_law 204 = .ok (.iaload, 1) := by decide +kernel
theorem dL_law_205 : decode cL_law 205 = .ok (.aload_n 0, 1) := by decide +kernel
theorem dL_law_206 : decode cL_law 206 = .ok (.iload_n 3, 1) := by decide +kernel
theorem dL_law_207 : decode cL_law 207 = .ok (.iconst 4, 1) := by decide +kernel
theorem dL_law_208 : decode cL_law 208 = .ok (.iadd, 1) := by decide +kernel
theorem dL_law_209 : decode cL_law 209 = .ok (.iaload, 1) := by decide +kernel
theorem dL_law_210 : decode cL_law 210 = .ok (.aload_n 0, 1) := by decide +kernel
theorem dL_law_211 : decode cL_law 211 = .ok (.iload_n 3, 1) := by decide +kernel
theorem dL_law_212 : decode cL_law 212 = .ok (.iconst 5, 1) := by decide +kernel
theorem dL_law_213 : decode cL_law 213 = .ok (.iadd, 1) := by decide +kernel
theorem dL_law_214 : decode cL_law 214 = .ok (.iaload, 1) := by decide +kernel
theorem dL_law_215 : decode cL_law 215 = .ok (.invokevirtual 17, 3) := by decide +kernel
theorem dL_law_218 : decode cL_law 218 = .ok (.if_icmp .eq 808, 3) := by decide +kernel
theorem dL_law_221 : decode cL_law 221 = .ok (.iconst 0, 1) := by decide +kernel
theorem dL_law_222 : decode cL_law 222 = .ok (.ireturn, 1) := by decide +kernel
theorem dL_law_223 : decode cL_law 223 = .ok (.aload_n 1, 1) := by decide +kernel
theorem dL_law_224 : decode cL_law 224 = .ok (.aload_n 0, 1) := by decide +kernel
theorem dL_law_225 : decode cL_law 225 = .ok (.iload_n 3, 1) := by decide +kernel
theorem dL_law_226 : decode cL_law 226 = .ok (.iconst 1, 1) := by decide +kernel
theorem dL_law_227 : decode cL_law 227 = .ok (.iadd, 1) := by decide +kernel
theorem dL_law_228 : decode cL_law 228 = .ok (.iaload, 1) := by decide +kernel
theorem dL_law_229 : decode cL_law 229 = .ok (.invokevirtual 18, 3) := by decide +kernel
theorem dL_law_232 : decode cL_law 232 = .ok (.aload_n 2, 1) := by decide +kernel
theorem dL_law_233 : decode cL_law 233 = .ok (.aload_n 0, 1) := by decide +kernel
theorem dL_law_234 : decode cL_law 234 = .ok (.iload_n 3, 1) := by decide +kernel
theorem dL_law_235 : decode cL_law 235 = .ok (.iconst 1, 1) := by decide +kernel
theorem dL_law_236 : decode cL_law 236 = .ok (.iadd, 1) := by decide +kernel
theorem dL_law_237 : decode cL_law 237 = .ok (.iaload, 1) := by decide +kernel
theorem dL_law_238 : decode cL_law 238 = .ok (.invokevirtual 22, 3) := by decide +kernel
theorem dL_law_241 : decode cL_law 241 = .ok (.if_icmp .eq 785, 3) := by decide +kernel
theorem dL_law_244 : decode cL_law 244 = .ok (.iconst 0, 1) := by decide +kernel
theorem dL_law_245 : decode cL_law 245 = .ok (.ireturn, 1) := by decide +kernel
theorem dL_law_246 : decode cL_law 246 = .ok (.aload_n 1, 1) := by decide +kernel
theorem dL_law_247 : decode cL_law 247 = .ok (.invokevirtual 23, 3) := by decide +kernel
theorem dL_law_250 : decode cL_law 250 = .ok (.aload_n 2, 1) := by decide +kernel
theorem dL_law_251 : decode cL_law 251 = .ok (.invokevirtual 27, 3) := by decide +kernel
theorem dL_law_254 : decode cL_law 254 = .ok (.if_icmp .eq 772, 3) := by decide +kernel
theorem dL_law_257 : decode cL_law 257 = .ok (.iconst 0, 1) := by decide +kernel
theorem dL_law_258 : decode cL_law 258 = .ok (.ireturn, 1) := by decide +kernel
theorem dL_law_259 : decode cL_law 259 = .ok (.aload_n 1, 1) := by decide +kernel
theorem dL_law_260 : decode cL_law 260 = .ok (.aload_n 0, 1) := by decide +kernel
theorem dL_law_261 : decode cL_law 261 = .ok (.iload_n 3, 1) := by decide +kernel
theorem dL_law_262 : decode cL_law 262 = .ok (.iconst 1, 1) := by decide +kernel
theorem dL_law_263 : decode cL_law 263 = .ok (.iadd, 1) := by decide +kernel
theorem dL_law_264 : decode cL_law 264 = .ok (.iaload, 1) := by decide +kernel
theorem dL_law_265 : decode cL_law 265 = .ok (.invokevirtual 28, 3) := by decide +kernel
theorem dL_law_268 : decode cL_law 268 = .ok (.aload_n 2, 1) := by decide +kernel
theorem dL_law_269 : decode cL_law 269 = .ok (.aload_n 0, 1) := by decide +kernel
theorem dL_law_270 : decode cL_law 270 = .ok (.iload_n 3, 1) := by decide +kernel
theorem dL_law_271 : decode cL_law 271 = .ok (.iconst 1, 1) := by decide +kernel
theorem dL_law_272 : decode cL_law 272 = .ok (.iadd, 1) := by decide +kernel
theorem dL_law_273 : decode cL_law 273 = .ok (.iaload, 1) := by decide +kernel
theorem dL_law_274 : decode cL_law 274 = .ok (.invokevirtual 31, 3) := by decide +kernel
theorem dL_law_277 : decode cL_law 277 = .ok (.if_icmp .eq 749, 3) := by decide +kernel
theorem dL_law_280 : decode cL_law 280 = .ok (.iconst 0, 1) := by decide +kernel
theorem dL_law_281 : decode cL_law 281 = .ok (.ireturn, 1) := by decide +kernel
theorem dL_law_282 : decode cL_law 282 = .ok (.aload_n 1, 1) := by decide +kernel
theorem dL_law_283 : decode cL_law 283 = .ok (.aload_n 0, 1) := by decide +kernel
theorem dL_law_284 : decode cL_law 284 = .ok (.iload_n 3, 1) := by decide +kernel
theorem dL_law_285 : decode cL_law 285 = .ok (.iconst 1, 1) := by decide +kernel
theorem dL_law_286 : decode cL_law 286 = .ok (.iadd, 1) := by decide +kernel
theorem dL_law_287 : decode cL_law 287 = .ok (.iaload, 1) := by decide +kernel
theorem dL_law_288 : decode cL_law 288 = .ok (.invokevirtual 32, 3) := by decide +kernel
theorem dL_law_291 : decode cL_law 291 = .ok (.aload_n 2, 1) := by decide +kernel
theorem dL_law_292 : decode cL_law 292 = .ok (.aload_n 0, 1) := by decide +kernel
theorem dL_law_293 : decode cL_law 293 = .ok (.iload_n 3, 1) := by decide +kernel
theorem dL_law_294 : decode cL_law 294 = .ok (.iconst 1, 1) := by decide +kernel
theorem dL_law_295 : decode cL_law 295 = .ok (.iadd, 1) := by decide +kernel
theorem dL_law_296 : decode cL_law 296 = .ok (.iaload, 1) := by decide +kernel
theorem dL_law_297 : decode cL_law 297 = .ok (.invokevirtual 35, 3) := by decide +kernel
theorem dL_law_300 : decode cL_law 300 = .ok (.if_icmp .eq 726, 3) := by decide +kernel
theorem dL_law_303 : decode cL_law 303 = .ok (.iconst 0, 1) := by decide +kernel
theorem dL_law_304 : decode cL_law 304 = .ok (.ireturn, 1) := by decide +kernel
theorem dL_law_305 : decode cL_law 305 = .ok (.aload_n 1, 1) := by decide +kernel
theorem dL_law_306 : decode cL_law 306 = .ok (.aload_n 0, 1) := by decide +kernel
theorem dL_law_307 : decode cL_law 307 = .ok (.iload_n 3, 1) := by decide +kernel
theorem dL_law_308 : decode cL_law 308 = .ok (.iconst 1, 1) := by decide +kernel
theorem dL_law_309 : decode cL_law 309 = .ok (.iadd, 1) := by decide +kernel
theorem dL_law_310 : decode cL_law 310 = .ok (.iaload, 1) := by decide +kernel
theorem dL_law_311 : decode cL_law 311 = .ok (.invokevirtual 36, 3) := by decide +kernel
theorem dL_law_314 : decode cL_law 314 = .ok (.aload_n 2, 1) := by decide +kernel
theorem dL_law_315 : decode cL_law 315 = .ok (.aload_n 0, 1) := by decide +kernel
theorem dL_law_316 : decode cL_law 316 = .ok (.iload_n 3, 1) := by decide +kernel
theorem dL_law_317 : decode cL_law 317 = .ok (.iconst 1, 1) := by decide +kernel
theorem dL_law_318 : decode cL_law 318 = .ok (.iadd, 1) := by decide +kernel
theorem dL_law_319 : decode cL_law 319 = .ok (.iaload, 1) := by decide +kernel
theorem dL_law_320 : decode cL_law 320 = .ok (.invokevirtual 39, 3) := by decide +kernel
theorem dL_law_323 : decode cL_law 323 = .ok (.if_icmp .eq 703, 3) := by decide +kernel
theorem dL_law_326 : decode cL_law 326 = .ok (.iconst 0, 1) := by decide +kernel
theorem dL_law_327 : decode cL_law 327 = .ok (.ireturn, 1) := by decide +kernel
theorem dL_law_328 : decode cL_law 328 = .ok (.aload_n 1, 1) := by decide +kernel
theorem dL_law_329 : decode cL_law 329 = .ok (.aload_n 0, 1) := by decide +kernel
theorem dL_law_330 : decode cL_law 330 = .ok (.iload_n 3, 1) := by decide +kernel
theorem dL_law_331 : decode cL_law 331 = .ok (.iconst 1, 1) := by decide +kernel
theorem dL_law_332 : decode cL_law 332 = .ok (.iadd, 1) := by decide +kernel
theorem dL_law_333 : decode cL_law 333 = .ok (.iaload, 1) := by decide +kernel
theorem dL_law_334 : decode cL_law 334 = .ok (.invokevirtual 40, 3) := by decide +kernel
theorem dL_law_337 : decode cL_law 337 = .ok (.aload_n 2, 1) := by decide +kernel
theorem dL_law_338 : decode cL_law 338 = .ok (.aload_n 0, 1) := by decide +kernel
theorem dL_law_339 : decode cL_law 339 = .ok (.iload_n 3, 1) := by decide +kernel
theorem dL_law_340 : decode cL_law 340 = .ok (.iconst 1, 1) := by decide +kernel
theorem dL_law_341 : decode cL_law 341 = .ok (.iadd, 1) := by decide +kernel
theorem dL_law_342 : decode cL_law 342 = .ok (.iaload, 1) := by decide +kernel
theorem dL_law_343 : decode cL_law 343 = .ok (.invokevirtual 43, 3) := by decide +kernel
theorem dL_law_346 : decode cL_law 346 = .ok (.if_icmp .eq 680, 3) := by decide +kernel
theorem dL_law_349 : decode cL_law 349 = .ok (.iconst 0, 1) := by decide +kernel
theorem dL_law_350 : decode cL_law 350 = .ok (.ireturn, 1) := by decide +kernel
theorem dL_law_351 : decode cL_law 351 = .ok (.aload_n 1, 1) := by decide +kernel
theorem dL_law_352 : decode cL_law 352 = .ok (.aload_n 0, 1) := by decide +kernel
theorem dL_law_353 : decode cL_law 353 = .ok (.iload_n 3, 1) := by decide +kernel
theorem dL_law_354 : decode cL_law 354 = .ok (.iconst 1, 1) := by decide +kernel
theorem dL_law_355 : decode cL_law 355 = .ok (.iadd, 1) := by decide +kernel
theorem dL_law_356 : decode cL_law 356 = .ok (.iaload, 1) := by decide +kernel
theorem dL_law_357 : decode cL_law 357 = .ok (.invokevirtual 44, 3) := by decide +kernel
theorem dL_law_360 : decode cL_law 360 = .ok (.aload_n 2, 1) := by decide +kernel
theorem dL_law_361 : decode cL_law 361 = .ok (.aload_n 0, 1) := by decide +kernel
theorem dL_law_362 : decode cL_law 362 = .ok (.iload_n 3, 1) := by decide +kernel
theorem dL_law_363 : decode cL_law 363 = .ok (.iconst 1, 1) := by decide +kernel
theorem dL_law_364 : decode cL_law 364 = .ok (.iadd, 1) := by decide +kernel
theorem dL_law_365 : decode cL_law 365 = .ok (.iaload, 1) := by decide +kernel
theorem dL_law_366 : decode cL_law 366 = .ok (.invokevirtual 47, 3) := by decide +kernel
theorem dL_law_369 : decode cL_law 369 = .ok (.if_icmp .eq 657, 3) := by decide +kernel
theorem dL_law_372 : decode cL_law 372 = .ok (.iconst 0, 1) := by decide +kernel
theorem dL_law_373 : decode cL_law 373 = .ok (.ireturn, 1) := by decide +kernel
theorem dL_law_374 : decode cL_law 374 = .ok (.aload_n 1, 1) := by decide +kernel
theorem dL_law_375 : decode cL_law 375 = .ok (.aload_n 0, 1) := by decide +kernel
theorem dL_law_376 : decode cL_law 376 = .ok (.iload_n 3, 1) := by decide +kernel
theorem dL_law_377 : decode cL_law 377 = .ok (.iconst 1, 1) := by decide +kernel
theorem dL_law_378 : decode cL_law 378 = .ok (.iadd, 1) := by decide +kernel
theorem dL_law_379 : decode cL_law 379 = .ok (.iaload, 1) := by decide +kernel
theorem dL_law_380 : decode cL_law 380 = .ok (.invokevirtual 48, 3) := by decide +kernel
theorem dL_law_383 : decode cL_law 383 = .ok (.aload_n 2, 1) := by decide +kernel
theorem dL_law_384 : decode cL_law 384 = .ok (.aload_n 0, 1) := by decide +kernel
theorem dL_law_385 : decode cL_law 385 = .ok (.iload_n 3, 1) := by decide +kernel
theorem dL_law_386 : decode cL_law 386 = .ok (.iconst 1, 1) := by decide +kernel
theorem dL_law_387 : decode cL_law 387 = .ok (.iadd, 1) := by decide +kernel
theorem dL_law_388 : decode cL_law 388 = .ok (.iaload, 1) := by decide +kernel
theorem dL_law_389 : decode cL_law 389 = .ok (.invokevirtual 52, 3) := by decide +kernel
theorem dL_law_392 : decode cL_law 392 = .ok (.if_icmp .eq 634, 3) := by decide +kernel
theorem dL_law_395 : decode cL_law 395 = .ok (.iconst 0, 1) := by decide +kernel
theorem dL_law_396 : decode cL_law 396 = .ok (.ireturn, 1) := by decide +kernel
theorem dL_law_397 : decode cL_law 397 = .ok (.aload_n 1, 1) := by decide +kernel
theorem dL_law_398 : decode cL_law 398 = .ok (.aload_n 0, 1) := by decide +kernel
theorem dL_law_399 : decode cL_law 399 = .ok (.iload_n 3, 1) := by decide +kernel
theorem dL_law_400 : decode cL_law 400 = .ok (.iconst 1, 1) := by decide +kernel
theorem dL_law_401 : decode cL_law 401 = .ok (.iadd, 1) := by decide +kernel
theorem dL_law_402 : decode cL_law 402 = .ok (.iaload, 1) := by decide +kernel
theorem dL_law_403 : decode cL_law 403 = .ok (.invokevirtual 53, 3) := by decide +kernel
theorem dL_law_406 : decode cL_law 406 = .ok (.aload_n 2, 1) := by decide +kernel
theorem dL_law_407 : decode cL_law 407 = .ok (.aload_n 0, 1) := by decide +kernel
theorem dL_law_408 : decode cL_law 408 = .ok (.iload_n 3, 1) := by decide +kernel
theorem dL_law_409 : decode cL_law 409 = .ok (.iconst 1, 1) := by decide +kernel
theorem dL_law_410 : decode cL_law 410 = .ok (.iadd, 1) := by decide +kernel
theorem dL_law_411 : decode cL_law 411 = .ok (.iaload, 1) := by decide +kernel
theorem dL_law_412 : decode cL_law 412 = .ok (.invokevirtual 56, 3) := by decide +kernel
theorem dL_law_415 : decode cL_law 415 = .ok (.if_icmp .eq 611, 3) := by decide +kernel
theorem dL_law_418 : decode cL_law 418 = .ok (.iconst 0, 1) := by decide +kernel
theorem dL_law_419 : decode cL_law 419 = .ok (.ireturn, 1) := by decide +kernel
theorem dL_law_420 : decode cL_law 420 = .ok (.aload_n 1, 1) := by decide +kernel
theorem dL_law_421 : decode cL_law 421 = .ok (.aload_n 0, 1) := by decide +kernel
theorem dL_law_422 : decode cL_law 422 = .ok (.iload_n 3, 1) := by decide +kernel
theorem dL_law_423 : decode cL_law 423 = .ok (.iconst 1, 1) := by decide +kernel
theorem dL_law_424 : decode cL_law 424 = .ok (.iadd, 1) := by decide +kernel
theorem dL_law_425 : decode cL_law 425 = .ok (.iaload, 1) := by decide +kernel
theorem dL_law_426 : decode cL_law 426 = .ok (.aload_n 0, 1) := by decide +kernel
theorem dL_law_427 : decode cL_law 427 = .ok (.iload_n 3, 1) := by decide +kernel
theorem dL_law_428 : decode cL_law 428 = .ok (.iconst 2, 1) := by decide +kernel
theorem dL_law_429 : decode cL_law 429 = .ok (.iadd, 1) := by decide +kernel
theorem dL_law_430 : decode cL_law 430 = .ok (.iaload, 1) := by decide +kernel
theorem dL_law_431 : decode cL_law 431 = .ok (.aload_n 0, 1) := by decide +kernel
theorem dL_law_432 : decode cL_law 432 = .ok (.iload_n 3, 1) := by decide +kernel
theorem dL_law_433 : decode cL_law 433 = .ok (.iconst 3, 1) := by decide +kernel
theorem dL_law_434 : decode cL_law 434 = .ok (.iadd, 1) := by decide +kernel
theorem dL_law_435 : decode cL_law 435 = .ok (.iaload, 1) := by decide +kernel
theorem dL_law_436 : decode cL_law 436 = .ok (.aload_n 0, 1) := by decide +kernel
theorem dL_law_437 : decode cL_law 437 = .ok (.iload_n 3, 1) := by decide +kernel
theorem dL_law_438 : decode cL_law 438 = .ok (.iconst 4, 1) := by decide +kernel
theorem dL_law_439 : decode cL_law 439 = .ok (.iadd, 1) := by decide +kernel
theorem dL_law_440 : decode cL_law 440 = .ok (.iaload, 1) := by decide +kernel
theorem dL_law_441 : decode cL_law 441 = .ok (.aload_n 0, 1) := by decide +kernel
theorem dL_law_442 : decode cL_law 442 = .ok (.iload_n 3, 1) := by decide +kernel
theorem dL_law_443 : decode cL_law 443 = .ok (.iconst 5, 1) := by decide +kernel
theorem dL_law_444 : decode cL_law 444 = .ok (.iadd, 1) := by decide +kernel
theorem dL_law_445 : decode cL_law 445 = .ok (.iaload, 1) := by decide +kernel
theorem dL_law_446 : decode cL_law 446 = .ok (.aload_n 0, 1) := by decide +kernel
theorem dL_law_447 : decode cL_law 447 = .ok (.iload_n 3, 1) := by decide +kernel
theorem dL_law_448 : decode cL_law 448 = .ok (.bipush 6, 2) := by decide +kernel
theorem dL_law_450 : decode cL_law 450 = .ok (.iadd, 1) := by decide +kernel
theorem dL_law_451 : decode cL_law 451 = .ok (.iaload, 1) := by decide +kernel
theorem dL_law_452 : decode cL_law 452 = .ok (.invokevirtual 57, 3) := by decide +kernel
theorem dL_law_455 : decode cL_law 455 = .ok (.aload_n 2, 1) := by decide +kernel
theorem dL_law_456 : decode cL_law 456 = .ok (.aload_n 0, 1) := by decide +kernel
theorem dL_law_457 : decode cL_law 457 = .ok (.iload_n 3, 1) := by decide +kernel
theorem dL_law_458 : decode cL_law 458 = .ok (.iconst 1, 1) := by decide +kernel
theorem dL_law_459 : decode cL_law 459 = .ok (.iadd, 1) := by decide +kernel
theorem dL_law_460 : decode cL_law 460 = .ok (.iaload, 1) := by decide +kernel
theorem dL_law_461 : decode cL_law 461 = .ok (.aload_n 0, 1) := by decide +kernel
theorem dL_law_462 : decode cL_law 462 = .ok (.iload_n 3, 1) := by decide +kernel
theorem dL_law_463 : decode cL_law 463 = .ok (.iconst 2, 1) := by decide +kernel
theorem dL_law_464 : decode cL_law 464 = .ok (.iadd, 1) := by decide +kernel
theorem dL_law_465 : decode cL_law 465 = .ok (.iaload, 1) := by decide +kernel
theorem dL_law_466 : decode cL_law 466 = .ok (.aload_n 0, 1) := by decide +kernel
theorem dL_law_467 : decode cL_law 467 = .ok (.iload_n 3, 1) := by decide +kernel
theorem dL_law_468 : decode cL_law 468 = .ok (.iconst 3, 1) := by decide +kernel
theorem dL_law_469 : decode cL_law 469 = .ok (.iadd, 1) := by decide +kernel
theorem dL_law_470 : decode cL_law 470 = .ok (.iaload, 1) := by decide +kernel
theorem dL_law_471 : decode cL_law 471 = .ok (.aload_n 0, 1) := by decide +kernel
theorem dL_law_472 : decode cL_law 472 = .ok (.iload_n 3, 1) := by decide +kernel
theorem dL_law_473 : decode cL_law 473 = .ok (.iconst 4, 1) := by decide +kernel
theorem dL_law_474 : decode cL_law 474 = .ok (.iadd, 1) := by decide +kernel
theorem dL_law_475 : decode cL_law 475 = .ok (.iaload, 1) := by decide +kernel
theorem dL_law_476 : decode cL_law 476 = .ok (.aload_n 0, 1) := by decide +kernel
theorem dL_law_477 : decode cL_law 477 = .ok (.iload_n 3, 1) := by decide +kernel
theorem dL_law_478 : decode cL_law 478 = .ok (.iconst 5, 1) := by decide +kernel
theorem dL_law_479 : decode cL_law 479 = .ok (.iadd, 1) := by decide +kernel
theorem dL_law_480 : decode cL_law 480 = .ok (.iaload, 1) := by decide +kernel
theorem dL_law_481 : decode cL_law 481 = .ok (.aload_n 0, 1) := by decide +kernel
theorem dL_law_482 : decode cL_law 482 = .ok (.iload_n 3, 1) := by decide +kernel
theorem dL_law_483 : decode cL_law 483 = .ok (.bipush 6, 2) := by decide +kernel
theorem dL_law_485 : decode cL_law 485 = .ok (.iadd, 1) := by decide +kernel
theorem dL_law_486 : decode cL_law 486 = .ok (.iaload, 1) := by decide +kernel
theorem dL_law_487 : decode cL_law 487 = .ok (.invokevirtual 61, 3) := by decide +kernel
theorem dL_law_490 : decode cL_law 490 = .ok (.if_icmp .eq 536, 3) := by decide +kernel
theorem dL_law_493 : decode cL_law 493 = .ok (.iconst 0, 1) := by decide +kernel
theorem dL_law_494 : decode cL_law 494 = .ok (.ireturn, 1) := by decide +kernel
theorem dL_law_495 : decode cL_law 495 = .ok (.aload_n 1, 1) := by decide +kernel
theorem dL_law_496 : decode cL_law 496 = .ok (.aload_n 0, 1) := by decide +kernel
theorem dL_law_497 : decode cL_law 497 = .ok (.iload_n 3, 1) := by decide +kernel
theorem dL_law_498 : decode cL_law 498 = .ok (.iconst 1, 1) := by decide +kernel
theorem dL_law_499 : decode cL_law 499 = .ok (.iadd, 1) := by decide +kernel
theorem dL_law_500 : decode cL_law 500 = .ok (.iaload, 1) := by decide +kernel
theorem dL_law_501 : decode cL_law 501 = .ok (.aload_n 0, 1) := by decide +kernel
theorem dL_law_502 : decode cL_law 502 = .ok (.iload_n 3, 1) := by decide +kernel
theorem dL_law_503 : decode cL_law 503 = .ok (.iconst 2, 1) := by decide +kernel
theorem dL_law_504 : decode cL_law 504 = .ok (.iadd, 1) := by decide +kernel
theorem dL_law_505 : decode cL_law 505 = .ok (.iaload, 1) := by decide +kernel
theorem dL_law_506 : decode cL_law 506 = .ok (.invokevirtual 62, 3) := by decide +kernel
theorem dL_law_509 : decode cL_law 509 = .ok (.aload_n 2, 1) := by decide +kernel
theorem dL_law_510 : decode cL_law 510 = .ok (.aload_n 0, 1) := by decide +kernel
theorem dL_law_511 : decode cL_law 511 = .ok (.iload_n 3, 1) := by decide +kernel
theorem dL_law_512 : decode cL_law 512 = .ok (.iconst 1, 1) := by decide +kernel
theorem dL_law_513 : decode cL_law 513 = .ok (.iadd, 1) := by decide +kernel
theorem dL_law_514 : decode cL_law 514 = .ok (.iaload, 1) := by decide +kernel
theorem dL_law_515 : decode cL_law 515 = .ok (.aload_n 0, 1) := by decide +kernel
theorem dL_law_516 : decode cL_law 516 = .ok (.iload_n 3, 1) := by decide +kernel
theorem dL_law_517 : decode cL_law 517 = .ok (.iconst 2, 1) := by decide +kernel
theorem dL_law_518 : decode cL_law 518 = .ok (.iadd, 1) := by decide +kernel
theorem dL_law_519 : decode cL_law 519 = .ok (.iaload, 1) := by decide +kernel
theorem dL_law_520 : decode cL_law 520 = .ok (.invokevirtual 66, 3) := by decide +kernel
theorem dL_law_523 : decode cL_law 523 = .ok (.if_icmp .eq 503, 3) := by decide +kernel
theorem dL_law_526 : decode cL_law 526 = .ok (.iconst 0, 1) := by decide +kernel
theorem dL_law_527 : decode cL_law 527 = .ok (.ireturn, 1) := by decide +kernel
theorem dL_law_528 : decode cL_law 528 = .ok (.aload_n 1, 1) := by decide +kernel
theorem dL_law_529 : decode cL_law 529 = .ok (.aload_n 0, 1) := by decide +kernel
theorem dL_law_530 : decode cL_law 530 = .ok (.iload_n 3, 1) := by decide +kernel
theorem dL_law_531 : decode cL_law 531 = .ok (.iconst 1, 1) := by decide +kernel
theorem dL_law_532 : decode cL_law 532 = .ok (.iadd, 1) := by decide +kernel
theorem dL_law_533 : decode cL_law 533 = .ok (.iaload, 1) := by decide +kernel
theorem dL_law_534 : decode cL_law 534 = .ok (.aload_n 0, 1) := by decide +kernel
theorem dL_law_535 : decode cL_law 535 = .ok (.iload_n 3, 1) := by decide +kernel
theorem dL_law_536 : decode cL_law 536 = .ok (.iconst 2, 1) := by decide +kernel
theorem dL_law_537 : decode cL_law 537 = .ok (.iadd, 1) := by decide +kernel
theorem dL_law_538 : decode cL_law 538 = .ok (.iaload, 1) := by decide +kernel
theorem dL_law_539 : decode cL_law 539 = .ok (.invokevirtual 67, 3) := by decide +kernel
theorem dL_law_542 : decode cL_law 542 = .ok (.aload_n 2, 1) := by decide +kernel
theorem dL_law_543 : decode cL_law 543 = .ok (.aload_n 0, 1) := by decide +kernel
theorem dL_law_544 : decode cL_law 544 = .ok (.iload_n 3, 1) := by decide +kernel
theorem dL_law_545 : decode cL_law 545 = .ok (.iconst 1, 1) := by decide +kernel
theorem dL_law_546 : decode cL_law 546 = .ok (.iadd, 1) := by decide +kernel
theorem dL_law_547 : decode cL_law 547 = .ok (.iaload, 1) := by decide +kernel
theorem dL_law_548 : decode cL_law 548 = .ok (.aload_n 0, 1) := by decide +kernel
theorem dL_law_549 : decode cL_law 549 = .ok (.iload_n 3, 1) := by decide +kernel
theorem dL_law_550 : decode cL_law 550 = .ok (.iconst 2, 1) := by decide +kernel
theorem dL_law_551 : decode cL_law 551 = .ok (.iadd, 1) := by decide +kernel
theorem dL_law_552 : decode cL_law 552 = .ok (.iaload, 1) := by decide +kernel
theorem dL_law_553 : decode cL_law 553 = .ok (.invokevirtual 70, 3) := by decide +kernel
theorem dL_law_556 : decode cL_law 556 = .ok (.if_icmp .eq 470, 3) := by decide +kernel
theorem dL_law_559 : decode cL_law 559 = .ok (.iconst 0, 1) := by decide +kernel
theorem dL_law_560 : decode cL_law 560 = .ok (.ireturn, 1) := by decide +kernel
theorem dL_law_561 : decode cL_law 561 = .ok (.aload_n 1, 1) := by decide +kernel
theorem dL_law_562 : decode cL_law 562 = .ok (.aload_n 0, 1) := by decide +kernel
theorem dL_law_563 : decode cL_law 563 = .ok (.iload_n 3, 1) := by decide +kernel
theorem dL_law_564 : decode cL_law 564 = .ok (.iconst 1, 1) := by decide +kernel
theorem dL_law_565 : decode cL_law 565 = .ok (.iadd, 1) := by decide +kernel
theorem dL_law_566 : decode cL_law 566 = .ok (.iaload, 1) := by decide +kernel
theorem dL_law_567 : decode cL_law 567 = .ok (.aload_n 0, 1) := by decide +kernel
theorem dL_law_568 : decode cL_law 568 = .ok (.iload_n 3, 1) := by decide +kernel
theorem dL_law_569 : decode cL_law 569 = .ok (.iconst 2, 1) := by decide +kernel
theorem dL_law_570 : decode cL_law 570 = .ok (.iadd, 1) := by decide +kernel
theorem dL_law_571 : decode cL_law 571 = .ok (.iaload, 1) := by decide +kernel
theorem dL_law_572 : decode cL_law 572 = .ok (.invokevirtual 71, 3) := by decide +kernel
theorem dL_law_575 : decode cL_law 575 = .ok (.aload_n 2, 1) := by decide +kernel
theorem dL_law_576 : decode cL_law 576 = .ok (.aload_n 0, 1) := by decide +kernel
theorem dL_law_577 : decode cL_law 577 = .ok (.iload_n 3, 1) := by decide +kernel
theorem dL_law_578 : decode cL_law 578 = .ok (.iconst 1, 1) := by decide +kernel
theorem dL_law_579 : decode cL_law 579 = .ok (.iadd, 1) := by decide +kernel
theorem dL_law_580 : decode cL_law 580 = .ok (.iaload, 1) := by decide +kernel
theorem dL_law_581 : decode cL_law 581 = .ok (.aload_n 0, 1) := by decide +kernel
theorem dL_law_582 : decode cL_law 582 = .ok (.iload_n 3, 1) := by decide +kernel
theorem dL_law_583 : decode cL_law 583 = .ok (.iconst 2, 1) := by decide +kernel
theorem dL_law_584 : decode cL_law 584 = .ok (.iadd, 1) := by decide +kernel
theorem dL_law_585 : decode cL_law 585 = .ok (.iaload, 1) := by decide +kernel
theorem dL_law_586 : decode cL_law 586 = .ok (.invokevirtual 74, 3) := by decide +kernel
theorem dL_law_589 : decode cL_law 589 = .ok (.if_icmp .eq 437, 3) := by decide +kernel
theorem dL_law_592 : decode cL_law 592 = .ok (.iconst 0, 1) := by decide +kernel
theorem dL_law_593 : decode cL_law 593 = .ok (.ireturn, 1) := by decide +kernel
theorem dL_law_594 : decode cL_law 594 = .ok (.aload_n 1, 1) := by decide +kernel
theorem dL_law_595 : decode cL_law 595 = .ok (.aload_n 0, 1) := by decide +kernel
theorem dL_law_596 : decode cL_law 596 = .ok (.iload_n 3, 1) := by decide +kernel
theorem dL_law_597 : decode cL_law 597 = .ok (.iconst 1, 1) := by decide +kernel
theorem dL_law_598 : decode cL_law 598 = .ok (.iadd, 1) := by decide +kernel
theorem dL_law_599 : decode cL_law 599 = .ok (.iaload, 1) := by decide +kernel
theorem dL_law_600 : decode cL_law 600 = .ok (.invokevirtual 75, 3) := by decide +kernel
theorem dL_law_603 : decode cL_law 603 = .ok (.aload_n 2, 1) := by decide +kernel
theorem dL_law_604 : decode cL_law 604 = .ok (.aload_n 0, 1) := by decide +kernel
theorem dL_law_605 : decode cL_law 605 = .ok (.iload_n 3, 1) := by decide +kernel
theorem dL_law_606 : decode cL_law 606 = .ok (.iconst 1, 1) := by decide +kernel
theorem dL_law_607 : decode cL_law 607 = .ok (.iadd, 1) := by decide +kernel
theorem dL_law_608 : decode cL_law 608 = .ok (.iaload, 1) := by decide +kernel
theorem dL_law_609 : decode cL_law 609 = .ok (.invokevirtual 78, 3) := by decide +kernel
theorem dL_law_612 : decode cL_law 612 = .ok (.if_icmp .eq 414, 3) := by decide +kernel
theorem dL_law_615 : decode cL_law 615 = .ok (.iconst 0, 1) := by decide +kernel
theorem dL_law_616 : decode cL_law 616 = .ok (.ireturn, 1) := by decide +kernel
theorem dL_law_617 : decode cL_law 617 = .ok (.aload_n 1, 1) := by decide +kernel
theorem dL_law_618 : decode cL_law 618 = .ok (.aload_n 0, 1) := by decide +kernel
theorem dL_law_619 : decode cL_law 619 = .ok (.iload_n 3, 1) := by decide +kernel
theorem dL_law_620 : decode cL_law 620 = .ok (.iconst 1, 1) := by decide +kernel
theorem dL_law_621 : decode cL_law 621 = .ok (.iadd, 1) := by decide +kernel
theorem dL_law_622 : decode cL_law 622 = .ok (.iaload, 1) := by decide +kernel
theorem dL_law_623 : decode cL_law 623 = .ok (.aload_n 0, 1) := by decide +kernel
theorem dL_law_624 : decode cL_law 624 = .ok (.iload_n 3, 1) := by decide +kernel
theorem dL_law_625 : decode cL_law 625 = .ok (.iconst 2, 1) := by decide +kernel
theorem dL_law_626 : decode cL_law 626 = .ok (.iadd, 1) := by decide +kernel
theorem dL_law_627 : decode cL_law 627 = .ok (.iaload, 1) := by decide +kernel
theorem dL_law_628 : decode cL_law 628 = .ok (.invokevirtual 79, 3) := by decide +kernel
theorem dL_law_631 : decode cL_law 631 = .ok (.aload_n 2, 1) := by decide +kernel
theorem dL_law_632 : decode cL_law 632 = .ok (.aload_n 0, 1) := by decide +kernel
theorem dL_law_633 : decode cL_law 633 = .ok (.iload_n 3, 1) := by decide +kernel
theorem dL_law_634 : decode cL_law 634 = .ok (.iconst 1, 1) := by decide +kernel
theorem dL_law_635 : decode cL_law 635 = .ok (.iadd, 1) := by decide +kernel
theorem dL_law_636 : decode cL_law 636 = .ok (.iaload, 1) := by decide +kernel
theorem dL_law_637 : decode cL_law 637 = .ok (.aload_n 0, 1) := by decide +kernel
theorem dL_law_638 : decode cL_law 638 = .ok (.iload_n 3, 1) := by decide +kernel
theorem dL_law_639 : decode cL_law 639 = .ok (.iconst 2, 1) := by decide +kernel
theorem dL_law_640 : decode cL_law 640 = .ok (.iadd, 1) := by decide +kernel
theorem dL_law_641 : decode cL_law 641 = .ok (.iaload, 1) := by decide +kernel
theorem dL_law_642 : decode cL_law 642 = .ok (.invokevirtual 82, 3) := by decide +kernel
theorem dL_law_645 : decode cL_law 645 = .ok (.if_icmp .eq 381, 3) := by decide +kernel
theorem dL_law_648 : decode cL_law 648 = .ok (.iconst 0, 1) := by decide +kernel
theorem dL_law_649 : decode cL_law 649 = .ok (.ireturn, 1) := by decide +kernel
theorem dL_law_650 : decode cL_law 650 = .ok (.aload_n 1, 1) := by decide +kernel
theorem dL_law_651 : decode cL_law 651 = .ok (.aload_n 0, 1) := by decide +kernel
theorem dL_law_652 : decode cL_law 652 = .ok (.iload_n 3, 1) := by decide +kernel
theorem dL_law_653 : decode cL_law 653 = .ok (.iconst 1, 1) := by decide +kernel
theorem dL_law_654 : decode cL_law 654 = .ok (.iadd, 1) := by decide +kernel
theorem dL_law_655 : decode cL_law 655 = .ok (.iaload, 1) := by decide +kernel
theorem dL_law_656 : decode cL_law 656 = .ok (.aload_n 0, 1) := by decide +kernel
theorem dL_law_657 : decode cL_law 657 = .ok (.iload_n 3, 1) := by decide +kernel
theorem dL_law_658 : decode cL_law 658 = .ok (.iconst 2, 1) := by decide +kernel
theorem dL_law_659 : decode cL_law 659 = .ok (.iadd, 1) := by decide +kernel
theorem dL_law_660 : decode cL_law 660 = .ok (.iaload, 1) := by decide +kernel
theorem dL_law_661 : decode cL_law 661 = .ok (.aload_n 0, 1) := by decide +kernel
theorem dL_law_662 : decode cL_law 662 = .ok (.iload_n 3, 1) := by decide +kernel
theorem dL_law_663 : decode cL_law 663 = .ok (.iconst 3, 1) := by decide +kernel
theorem dL_law_664 : decode cL_law 664 = .ok (.iadd, 1) := by decide +kernel
theorem dL_law_665 : decode cL_law 665 = .ok (.iaload, 1) := by decide +kernel
theorem dL_law_666 : decode cL_law 666 = .ok (.invokevirtual 83, 3) := by decide +kernel
theorem dL_law_669 : decode cL_law 669 = .ok (.aload_n 2, 1) := by decide +kernel
theorem dL_law_670 : decode cL_law 670 = .ok (.aload_n 0, 1) := by decide +kernel
theorem dL_law_671 : decode cL_law 671 = .ok (.iload_n 3, 1) := by decide +kernel
theorem dL_law_672 : decode cL_law 672 = .ok (.iconst 1, 1) := by decide +kernel
theorem dL_law_673 : decode cL_law 673 = .ok (.iadd, 1) := by decide +kernel
theorem dL_law_674 : decode cL_law 674 = .ok (.iaload, 1) := by decide +kernel
theorem dL_law_675 : decode cL_law 675 = .ok (.aload_n 0, 1) := by decide +kernel
theorem dL_law_676 : decode cL_law 676 = .ok (.iload_n 3, 1) := by decide +kernel
theorem dL_law_677 : decode cL_law 677 = .ok (.iconst 2, 1) := by decide +kernel
theorem dL_law_678 : decode cL_law 678 = .ok (.iadd, 1) := by decide +kernel
theorem dL_law_679 : decode cL_law 679 = .ok (.iaload, 1) := by decide +kernel
theorem dL_law_680 : decode cL_law 680 = .ok (.aload_n 0, 1) := by decide +kernel
theorem dL_law_681 : decode cL_law 681 = .ok (.iload_n 3, 1) := by decide +kernel
theorem dL_law_682 : decode cL_law 682 = .ok (.iconst 3, 1) := by decide +kernel
theorem dL_law_683 : decode cL_law 683 = .ok (.iadd, 1) := by decide +kernel
theorem dL_law_684 : decode cL_law 684 = .ok (.iaload, 1) := by decide +kernel
theorem dL_law_685 : decode cL_law 685 = .ok (.invokevirtual 87, 3) := by decide +kernel
theorem dL_law_688 : decode cL_law 688 = .ok (.if_icmp .eq 338, 3) := by decide +kernel
theorem dL_law_691 : decode cL_law 691 = .ok (.iconst 0, 1) := by decide +kernel
theorem dL_law_692 : decode cL_law 692 = .ok (.ireturn, 1) := by decide +kernel
theorem dL_law_693 : decode cL_law 693 = .ok (.aload_n 1, 1) := by decide +kernel
theorem dL_law_694 : decode cL_law 694 = .ok (.aload_n 0, 1) := by decide +kernel
theorem dL_law_695 : decode cL_law 695 = .ok (.iload_n 3, 1) := by decide +kernel
theorem dL_law_696 : decode cL_law 696 = .ok (.iconst 1, 1) := by decide +kernel
theorem dL_law_697 : decode cL_law 697 = .ok (.iadd, 1) := by decide +kernel
theorem dL_law_698 : decode cL_law 698 = .ok (.iaload, 1) := by decide +kernel
theorem dL_law_699 : decode cL_law 699 = .ok (.aload_n 0, 1) := by decide +kernel
theorem dL_law_700 : decode cL_law 700 = .ok (.iload_n 3, 1) := by decide +kernel
theorem dL_law_701 : decode cL_law 701 = .ok (.iconst 2, 1) := by decide +kernel
theorem dL_law_702 : decode cL_law 702 = .ok (.iadd, 1) := by decide +kernel
theorem dL_law_703 : decode cL_law 703 = .ok (.iaload, 1) := by decide +kernel
theorem dL_law_704 : decode cL_law 704 = .ok (.invokevirtual 88, 3) := by decide +kernel
theorem dL_law_707 : decode cL_law 707 = .ok (.aload_n 2, 1) := by decide +kernel
theorem dL_law_708 : decode cL_law 708 = .ok (.aload_n 0, 1) := by decide +kernel
theorem dL_law_709 : decode cL_law 709 = .ok (.iload_n 3, 1) := by decide +kernel
theorem dL_law_710 : decode cL_law 710 = .ok (.iconst 1, 1) := by decide +kernel
theorem dL_law_711 : decode cL_law 711 = .ok (.iadd, 1) := by decide +kernel
theorem dL_law_712 : decode cL_law 712 = .ok (.iaload, 1) := by decide +kernel
theorem dL_law_713 : decode cL_law 713 = .ok (.aload_n 0, 1) := by decide +kernel
theorem dL_law_714 : decode cL_law 714 = .ok (.iload_n 3, 1) := by decide +kernel
theorem dL_law_715 : decode cL_law 715 = .ok (.iconst 2, 1) := by decide +kernel
theorem dL_law_716 : decode cL_law 716 = .ok (.iadd, 1) := by decide +kernel
theorem dL_law_717 : decode cL_law 717 = .ok (.iaload, 1) := by decide +kernel
theorem dL_law_718 : decode cL_law 718 = .ok (.invokevirtual 91, 3) := by decide +kernel
theorem dL_law_721 : decode cL_law 721 = .ok (.if_icmp .eq 305, 3) := by decide +kernel
theorem dL_law_724 : decode cL_law 724 = .ok (.iconst 0, 1) := by decide +kernel
theorem dL_law_725 : decode cL_law 725 = .ok (.ireturn, 1) := by decide +kernel
theorem dL_law_726 : decode cL_law 726 = .ok (.aload_n 1, 1) := by decide +kernel
theorem dL_law_727 : decode cL_law 727 = .ok (.aload_n 0, 1) := by decide +kernel
theorem dL_law_728 : decode cL_law 728 = .ok (.iload_n 3, 1) := by decide +kernel
theorem dL_law_729 : decode cL_law 729 = .ok (.iconst 1, 1) := by decide +kernel
theorem dL_law_730 : decode cL_law 730 = .ok (.iadd, 1) := by decide +kernel
theorem dL_law_731 : decode cL_law 731 = .ok (.iaload, 1) := by decide +kernel
theorem dL_law_732 : decode cL_law 732 = .ok (.aload_n 0, 1) := by decide +kernel
theorem dL_law_733 : decode cL_law 733 = .ok (.iload_n 3, 1) := by decide +kernel
theorem dL_law_734 : decode cL_law 734 = .ok (.iconst 2, 1) := by decide +kernel
theorem dL_law_735 : decode cL_law 735 = .ok (.iadd, 1) := by decide +kernel
theorem dL_law_736 : decode cL_law 736 = .ok (.iaload, 1) := by decide +kernel
theorem dL_law_737 : decode cL_law 737 = .ok (.aload_n 0, 1) := by decide +kernel
theorem dL_law_738 : decode cL_law 738 = .ok (.iload_n 3, 1) := by decide +kernel
theorem dL_law_739 : decode cL_law 739 = .ok (.iconst 3, 1) := by decide +kernel
theorem dL_law_740 : decode cL_law 740 = .ok (.iadd, 1) := by decide +kernel
theorem dL_law_741 : decode cL_law 741 = .ok (.iaload, 1) := by decide +kernel
theorem dL_law_742 : decode cL_law 742 = .ok (.invokevirtual 92, 3) := by decide +kernel
theorem dL_law_745 : decode cL_law 745 = .ok (.aload_n 2, 1) := by decide +kernel
theorem dL_law_746 : decode cL_law 746 = .ok (.aload_n 0, 1) := by decide +kernel
theorem dL_law_747 : decode cL_law 747 = .ok (.iload_n 3, 1) := by decide +kernel
theorem dL_law_748 : decode cL_law 748 = .ok (.iconst 1, 1) := by decide +kernel
theorem dL_law_749 : decode cL_law 749 = .ok (.iadd, 1) := by decide +kernel
theorem dL_law_750 : decode cL_law 750 = .ok (.iaload, 1) := by decide +kernel
theorem dL_law_751 : decode cL_law 751 = .ok (.aload_n 0, 1) := by decide +kernel
theorem dL_law_752 : decode cL_law 752 = .ok (.iload_n 3, 1) := by decide +kernel
theorem dL_law_753 : decode cL_law 753 = .ok (.iconst 2, 1) := by decide +kernel
theorem dL_law_754 : decode cL_law 754 = .ok (.iadd, 1) := by decide +kernel
theorem dL_law_755 : decode cL_law 755 = .ok (.iaload, 1) := by decide +kernel
theorem dL_law_756 : decode cL_law 756 = .ok (.aload_n 0, 1) := by decide +kernel
theorem dL_law_757 : decode cL_law 757 = .ok (.iload_n 3, 1) := by decide +kernel
theorem dL_law_758 : decode cL_law 758 = .ok (.iconst 3, 1) := by decide +kernel
theorem dL_law_759 : decode cL_law 759 = .ok (.iadd, 1) := by decide +kernel
theorem dL_law_760 : decode cL_law 760 = .ok (.iaload, 1) := by decide +kernel
theorem dL_law_761 : decode cL_law 761 = .ok (.invokevirtual 95, 3) := by decide +kernel
theorem dL_law_764 : decode cL_law 764 = .ok (.if_icmp .eq 262, 3) := by decide +kernel
theorem dL_law_767 : decode cL_law 767 = .ok (.iconst 0, 1) := by decide +kernel
theorem dL_law_768 : decode cL_law 768 = .ok (.ireturn, 1) := by decide +kernel
theorem dL_law_769 : decode cL_law 769 = .ok (.aload_n 1, 1) := by decide +kernel
theorem dL_law_770 : decode cL_law 770 = .ok (.aload_n 0, 1) := by decide +kernel
theorem dL_law_771 : decode cL_law 771 = .ok (.iload_n 3, 1) := by decide +kernel
theorem dL_law_772 : decode cL_law 772 = .ok (.iconst 1, 1) := by decide +kernel
theorem dL_law_773 : decode cL_law 773 = .ok (.iadd, 1) := by decide +kernel
theorem dL_law_774 : decode cL_law 774 = .ok (.iaload, 1) := by decide +kernel
theorem dL_law_775 : decode cL_law 775 = .ok (.aload_n 0, 1) := by decide +kernel
theorem dL_law_776 : decode cL_law 776 = .ok (.iload_n 3, 1) := by decide +kernel
theorem dL_law_777 : decode cL_law 777 = .ok (.iconst 2, 1) := by decide +kernel
theorem dL_law_778 : decode cL_law 778 = .ok (.iadd, 1) := by decide +kernel
theorem dL_law_779 : decode cL_law 779 = .ok (.iaload, 1) := by decide +kernel
theorem dL_law_780 : decode cL_law 780 = .ok (.aload_n 0, 1) := by decide +kernel
theorem dL_law_781 : decode cL_law 781 = .ok (.iload_n 3, 1) := by decide +kernel
theorem dL_law_782 : decode cL_law 782 = .ok (.iconst 3, 1) := by decide +kernel
theorem dL_law_783 : decode cL_law 783 = .ok (.iadd, 1) := by decide +kernel
theorem dL_law_784 : decode cL_law 784 = .ok (.iaload, 1) := by decide +kernel
theorem dL_law_785 : decode cL_law 785 = .ok (.invokevirtual 96, 3) := by decide +kernel
theorem dL_law_788 : decode cL_law 788 = .ok (.aload_n 2, 1) := by decide +kernel
theorem dL_law_789 : decode cL_law 789 = .ok (.aload_n 0, 1) := by decide +kernel
theorem dL_law_790 : decode cL_law 790 = .ok (.iload_n 3, 1) := by decide +kernel
theorem dL_law_791 : decode cL_law 791 = .ok (.iconst 1, 1) := by decide +kernel
theorem dL_law_792 : decode cL_law 792 = .ok (.iadd, 1) := by decide +kernel
theorem dL_law_793 : decode cL_law 793 = .ok (.iaload, 1) := by decide +kernel
theorem dL_law_794 : decode cL_law 794 = .ok (.aload_n 0, 1) := by decide +kernel
theorem dL_law_795 : decode cL_law 795 = .ok (.iload_n 3, 1) := by decide +kernel
theorem dL_law_796 : decode cL_law 796 = .ok (.iconst 2, 1) := by decide +kernel
theorem dL_law_797 : decode cL_law 797 = .ok (.iadd, 1) := by decide +kernel
theorem dL_law_798 : decode cL_law 798 = .ok (.iaload, 1) := by decide +kernel
theorem dL_law_799 : decode cL_law 799 = .ok (.aload_n 0, 1) := by decide +kernel
theorem dL_law_800 : decode cL_law 800 = .ok (.iload_n 3, 1) := by decide +kernel
theorem dL_law_801 : decode cL_law 801 = .ok (.iconst 3, 1) := by decide +kernel
theorem dL_law_802 : decode cL_law 802 = .ok (.iadd, 1) := by decide +kernel
theorem dL_law_803 : decode cL_law 803 = .ok (.iaload, 1) := by decide +kernel
theorem dL_law_804 : decode cL_law 804 = .ok (.invokevirtual 99, 3) := by decide +kernel
theorem dL_law_807 : decode cL_law 807 = .ok (.if_icmp .eq 219, 3) := by decide +kernel
theorem dL_law_810 : decode cL_law 810 = .ok (.iconst 0, 1) := by decide +kernel
theorem dL_law_811 : decode cL_law 811 = .ok (.ireturn, 1) := by decide +kernel
theorem dL_law_812 : decode cL_law 812 = .ok (.aload_n 1, 1) := by decide +kernel
theorem dL_law_813 : decode cL_law 813 = .ok (.aload_n 0, 1) := by decide +kernel
theorem dL_law_814 : decode cL_law 814 = .ok (.iload_n 3, 1) := by decide +kernel
theorem dL_law_815 : decode cL_law 815 = .ok (.iconst 1, 1) := by decide +kernel
theorem dL_law_816 : decode cL_law 816 = .ok (.iadd, 1) := by decide +kernel
theorem dL_law_817 : decode cL_law 817 = .ok (.iaload, 1) := by decide +kernel
theorem dL_law_818 : decode cL_law 818 = .ok (.aload_n 0, 1) := by decide +kernel
theorem dL_law_819 : decode cL_law 819 = .ok (.iload_n 3, 1) := by decide +kernel
theorem dL_law_820 : decode cL_law 820 = .ok (.iconst 2, 1) := by decide +kernel
theorem dL_law_821 : decode cL_law 821 = .ok (.iadd, 1) := by decide +kernel
theorem dL_law_822 : decode cL_law 822 = .ok (.iaload, 1) := by decide +kernel
theorem dL_law_823 : decode cL_law 823 = .ok (.invokevirtual 100, 3) := by decide +kernel
theorem dL_law_826 : decode cL_law 826 = .ok (.aload_n 2, 1) := by decide +kernel
theorem dL_law_827 : decode cL_law 827 = .ok (.aload_n 0, 1) := by decide +kernel
theorem dL_law_828 : decode cL_law 828 = .ok (.iload_n 3, 1) := by decide +kernel
theorem dL_law_829 : decode cL_law 829 = .ok (.iconst 1, 1) := by decide +kernel
theorem dL_law_830 : decode cL_law 830 = .ok (.iadd, 1) := by decide +kernel
theorem dL_law_831 : decode cL_law 831 = .ok (.iaload, 1) := by decide +kernel
theorem dL_law_832 : decode cL_law 832 = .ok (.aload_n 0, 1) := by decide +kernel
theorem dL_law_833 : decode cL_law 833 = .ok (.iload_n 3, 1) := by decide +kernel
theorem dL_law_834 : decode cL_law 834 = .ok (.iconst 2, 1) := by decide +kernel
theorem dL_law_835 : decode cL_law 835 = .ok (.iadd, 1) := by decide +kernel
theorem dL_law_836 : decode cL_law 836 = .ok (.iaload, 1) := by decide +kernel
theorem dL_law_837 : decode cL_law 837 = .ok (.invokevirtual 103, 3) := by decide +kernel
theorem dL_law_840 : decode cL_law 840 = .ok (.if_icmp .eq 186, 3) := by decide +kernel
theorem dL_law_843 : decode cL_law 843 = .ok (.iconst 0, 1) := by decide +kernel
theorem dL_law_844 : decode cL_law 844 = .ok (.ireturn, 1) := by decide +kernel
theorem dL_law_845 : decode cL_law 845 = .ok (.aload_n 1, 1) := by decide +kernel
theorem dL_law_846 : decode cL_law 846 = .ok (.aload_n 0, 1) := by decide +kernel
theorem dL_law_847 : decode cL_law 847 = .ok (.iload_n 3, 1) := by decide +kernel
theorem dL_law_848 : decode cL_law 848 = .ok (.iconst 1, 1) := by decide +kernel
theorem dL_law_849 : decode cL_law 849 = .ok (.iadd, 1) := by decide +kernel
theorem dL_law_850 : decode cL_law 850 = .ok (.iaload, 1) := by decide +kernel
theorem dL_law_851 : decode cL_law 851 = .ok (.aload_n 0, 1) := by decide +kernel
theorem dL_law_852 : decode cL_law 852 = .ok (.iload_n 3, 1) := by decide +kernel
theorem dL_law_853 : decode cL_law 853 = .ok (.iconst 2, 1) := by decide +kernel
theorem dL_law_854 : decode cL_law 854 = .ok (.iadd, 1) := by decide +kernel
theorem dL_law_855 : decode cL_law 855 = .ok (.iaload, 1) := by decide +kernel
theorem dL_law_856 : decode cL_law 856 = .ok (.aload_n 0, 1) := by decide +kernel
theorem dL_law_857 : decode cL_law 857 = .ok (.iload_n 3, 1) := by decide +kernel
theorem dL_law_858 : decode cL_law 858 = .ok (.iconst 3, 1) := by decide +kernel
theorem dL_law_859 : decode cL_law 859 = .ok (.iadd, 1) := by decide +kernel
theorem dL_law_860 : decode cL_law 860 = .ok (.iaload, 1) := by decide +kernel
theorem dL_law_861 : decode cL_law 861 = .ok (.aload_n 0, 1) := by decide +kernel
theorem dL_law_862 : decode cL_law 862 = .ok (.iload_n 3, 1) := by decide +kernel
theorem dL_law_863 : decode cL_law 863 = .ok (.iconst 4, 1) := by decide +kernel
theorem dL_law_864 : decode cL_law 864 = .ok (.iadd, 1) := by decide +kernel
theorem dL_law_865 : decode cL_law 865 = .ok (.iaload, 1) := by decide +kernel
theorem dL_law_866 : decode cL_law 866 = .ok (.aload_n 0, 1) := by decide +kernel
theorem dL_law_867 : decode cL_law 867 = .ok (.iload_n 3, 1) := by decide +kernel
theorem dL_law_868 : decode cL_law 868 = .ok (.iconst 5, 1) := by decide +kernel
theorem dL_law_869 : decode cL_law 869 = .ok (.iadd, 1) := by decide +kernel
theorem dL_law_870 : decode cL_law 870 = .ok (.iaload, 1) := by decide +kernel
theorem dL_law_871 : decode cL_law 871 = .ok (.invokevirtual 104, 3) := by decide +kernel
theorem dL_law_874 : decode cL_law 874 = .ok (.aload_n 2, 1) := by decide +kernel
theorem dL_law_875 : decode cL_law 875 = .ok (.aload_n 0, 1) := by decide +kernel
theorem dL_law_876 : decode cL_law 876 = .ok (.iload_n 3, 1) := by decide +kernel
theorem dL_law_877 : decode cL_law 877 = .ok (.iconst 1, 1) := by decide +kernel
theorem dL_law_878 : decode cL_law 878 = .ok (.iadd, 1) := by decide +kernel
theorem dL_law_879 : decode cL_law 879 = .ok (.iaload, 1) := by decide +kernel
theorem dL_law_880 : decode cL_law 880 = .ok (.aload_n 0, 1) := by decide +kernel
theorem dL_law_881 : decode cL_law 881 = .ok (.iload_n 3, 1) := by decide +kernel
theorem dL_law_882 : decode cL_law 882 = .ok (.iconst 2, 1) := by decide +kernel
theorem dL_law_883 : decode cL_law 883 = .ok (.iadd, 1) := by decide +kernel
theorem dL_law_884 : decode cL_law 884 = .ok (.iaload, 1) := by decide +kernel
theorem dL_law_885 : decode cL_law 885 = .ok (.aload_n 0, 1) := by decide +kernel
theorem dL_law_886 : decode cL_law 886 = .ok (.iload_n 3, 1) := by decide +kernel
theorem dL_law_887 : decode cL_law 887 = .ok (.iconst 3, 1) := by decide +kernel
theorem dL_law_888 : decode cL_law 888 = .ok (.iadd, 1) := by decide +kernel
theorem dL_law_889 : decode cL_law 889 = .ok (.iaload, 1) := by decide +kernel
theorem dL_law_890 : decode cL_law 890 = .ok (.aload_n 0, 1) := by decide +kernel
theorem dL_law_891 : decode cL_law 891 = .ok (.iload_n 3, 1) := by decide +kernel
theorem dL_law_892 : decode cL_law 892 = .ok (.iconst 4, 1) := by decide +kernel
theorem dL_law_893 : decode cL_law 893 = .ok (.iadd, 1) := by decide +kernel
theorem dL_law_894 : decode cL_law 894 = .ok (.iaload, 1) := by decide +kernel
theorem dL_law_895 : decode cL_law 895 = .ok (.aload_n 0, 1) := by decide +kernel
theorem dL_law_896 : decode cL_law 896 = .ok (.iload_n 3, 1) := by decide +kernel
theorem dL_law_897 : decode cL_law 897 = .ok (.iconst 5, 1) := by decide +kernel
theorem dL_law_898 : decode cL_law 898 = .ok (.iadd, 1) := by decide +kernel
theorem dL_law_899 : decode cL_law 899 = .ok (.iaload, 1) := by decide +kernel
theorem dL_law_900 : decode cL_law 900 = .ok (.invokevirtual 107, 3) := by decide +kernel
theorem dL_law_903 : decode cL_law 903 = .ok (.if_icmp .eq 123, 3) := by decide +kernel
theorem dL_law_906 : decode cL_law 906 = .ok (.iconst 0, 1) := by decide +kernel
theorem dL_law_907 : decode cL_law 907 = .ok (.ireturn, 1) := by decide +kernel
theorem dL_law_908 : decode cL_law 908 = .ok (.aload_n 1, 1) := by decide +kernel
theorem dL_law_909 : decode cL_law 909 = .ok (.invokevirtual 108, 3) := by decide +kernel
theorem dL_law_912 : decode cL_law 912 = .ok (.aload_n 2, 1) := by decide +kernel
theorem dL_law_913 : decode cL_law 913 = .ok (.invokevirtual 111, 3) := by decide +kernel
theorem dL_law_916 : decode cL_law 916 = .ok (.if_icmp .eq 110, 3) := by decide +kernel
theorem dL_law_919 : decode cL_law 919 = .ok (.iconst 0, 1) := by decide +kernel
theorem dL_law_920 : decode cL_law 920 = .ok (.ireturn, 1) := by decide +kernel
theorem dL_law_921 : decode cL_law 921 = .ok (.aload_n 1, 1) := by decide +kernel
theorem dL_law_922 : decode cL_law 922 = .ok (.invokevirtual 112, 3) := by decide +kernel
theorem dL_law_925 : decode cL_law 925 = .ok (.aload_n 2, 1) := by decide +kernel
theorem dL_law_926 : decode cL_law 926 = .ok (.invokevirtual 115, 3) := by decide +kernel
theorem dL_law_929 : decode cL_law 929 = .ok (.if_icmp .eq 97, 3) := by decide +kernel
theorem dL_law_932 : decode cL_law 932 = .ok (.iconst 0, 1) := by decide +kernel
theorem dL_law_933 : decode cL_law 933 = .ok (.ireturn, 1) := by decide +kernel
theorem dL_law_934 : decode cL_law 934 = .ok (.aload_n 1, 1) := by decide +kernel
theorem dL_law_935 : decode cL_law 935 = .ok (.aload_n 0, 1) := by decide +kernel
theorem dL_law_936 : decode cL_law 936 = .ok (.iload_n 3, 1) := by decide +kernel
theorem dL_law_937 : decode cL_law 937 = .ok (.iconst 1, 1) := by decide +kernel
theorem dL_law_938 : decode cL_law 938 = .ok (.iadd, 1) := by decide +kernel
theorem dL_law_939 : decode cL_law 939 = .ok (.iaload, 1) := by decide +kernel
theorem dL_law_940 : decode cL_law 940 = .ok (.invokevirtual 116, 3) := by decide +kernel
theorem dL_law_943 : decode cL_law 943 = .ok (.aload_n 2, 1) := by decide +kernel
theorem dL_law_944 : decode cL_law 944 = .ok (.aload_n 0, 1) := by decide +kernel
theorem dL_law_945 : decode cL_law 945 = .ok (.iload_n 3, 1) := by decide +kernel
theorem dL_law_946 : decode cL_law 946 = .ok (.iconst 1, 1) := by decide +kernel
theorem dL_law_947 : decode cL_law 947 = .ok (.iadd, 1) := by decide +kernel
theorem dL_law_948 : decode cL_law 948 = .ok (.iaload, 1) := by decide +kernel
theorem dL_law_949 : decode cL_law 949 = .ok (.invokevirtual 119, 3) := by decide +kernel
theorem dL_law_952 : decode cL_law 952 = .ok (.if_icmp .eq 74, 3) := by decide +kernel
theorem dL_law_955 : decode cL_law 955 = .ok (.iconst 0, 1) := by decide +kernel
theorem dL_law_956 : decode cL_law 956 = .ok (.ireturn, 1) := by decide +kernel
theorem dL_law_957 : decode cL_law 957 = .ok (.aload_n 1, 1) := by decide +kernel
theorem dL_law_958 : decode cL_law 958 = .ok (.aload_n 0, 1) := by decide +kernel
theorem dL_law_959 : decode cL_law 959 = .ok (.iload_n 3, 1) := by decide +kernel
theorem dL_law_960 : decode cL_law 960 = .ok (.iconst 1, 1) := by decide +kernel
theorem dL_law_961 : decode cL_law 961 = .ok (.iadd, 1) := by decide +kernel
theorem dL_law_962 : decode cL_law 962 = .ok (.iaload, 1) := by decide +kernel
theorem dL_law_963 : decode cL_law 963 = .ok (.invokevirtual 120, 3) := by decide +kernel
theorem dL_law_966 : decode cL_law 966 = .ok (.aload_n 2, 1) := by decide +kernel
theorem dL_law_967 : decode cL_law 967 = .ok (.aload_n 0, 1) := by decide +kernel
theorem dL_law_968 : decode cL_law 968 = .ok (.iload_n 3, 1) := by decide +kernel
theorem dL_law_969 : decode cL_law 969 = .ok (.iconst 1, 1) := by decide +kernel
theorem dL_law_970 : decode cL_law 970 = .ok (.iadd, 1) := by decide +kernel
theorem dL_law_971 : decode cL_law 971 = .ok (.iaload, 1) := by decide +kernel
theorem dL_law_972 : decode cL_law 972 = .ok (.invokevirtual 123, 3) := by decide +kernel
theorem dL_law_975 : decode cL_law 975 = .ok (.if_icmp .eq 51, 3) := by decide +kernel
theorem dL_law_978 : decode cL_law 978 = .ok (.iconst 0, 1) := by decide +kernel
theorem dL_law_979 : decode cL_law 979 = .ok (.ireturn, 1) := by decide +kernel
theorem dL_law_980 : decode cL_law 980 = .ok (.aload_n 1, 1) := by decide +kernel
theorem dL_law_981 : decode cL_law 981 = .ok (.aload_n 0, 1) := by decide +kernel
theorem dL_law_982 : decode cL_law 982 = .ok (.iload_n 3, 1) := by decide +kernel
theorem dL_law_983 : decode cL_law 983 = .ok (.iconst 1, 1) := by decide +kernel
theorem dL_law_984 : decode cL_law 984 = .ok (.iadd, 1) := by decide +kernel
theorem dL_law_985 : decode cL_law 985 = .ok (.iaload, 1) := by decide +kernel
theorem dL_law_986 : decode cL_law 986 = .ok (.invokevirtual 124, 3) := by decide +kernel
theorem dL_law_989 : decode cL_law 989 = .ok (.aload_n 2, 1) := by decide +kernel
theorem dL_law_990 : decode cL_law 990 = .ok (.aload_n 0, 1) := by decide +kernel
theorem dL_law_991 : decode cL_law 991 = .ok (.iload_n 3, 1) := by decide +kernel
theorem dL_law_992 : decode cL_law 992 = .ok (.iconst 1, 1) := by decide +kernel
theorem dL_law_993 : decode cL_law 993 = .ok (.iadd, 1) := by decide +kernel
theorem dL_law_994 : decode cL_law 994 = .ok (.iaload, 1) := by decide +kernel
theorem dL_law_995 : decode cL_law 995 = .ok (.invokevirtual 127, 3) := by decide +kernel
theorem dL_law_998 : decode cL_law 998 = .ok (.if_icmp .eq 28, 3) := by decide +kernel
theorem dL_law_1001 : decode cL_law 1001 = .ok (.iconst 0, 1) := by decide +kernel
theorem dL_law_1002 : decode cL_law 1002 = .ok (.ireturn, 1) := by decide +kernel
theorem dL_law_1003 : decode cL_law 1003 = .ok (.aload_n 1, 1) := by decide +kernel
theorem dL_law_1004 : decode cL_law 1004 = .ok (.aload_n 0, 1) := by decide +kernel
theorem dL_law_1005 : decode cL_law 1005 = .ok (.iload_n 3, 1) := by decide +kernel
theorem dL_law_1006 : decode cL_law 1006 = .ok (.iconst 1, 1) := by decide +kernel
theorem dL_law_1007 : decode cL_law 1007 = .ok (.iadd, 1) := by decide +kernel
theorem dL_law_1008 : decode cL_law 1008 = .ok (.iaload, 1) := by decide +kernel
theorem dL_law_1009 : decode cL_law 1009 = .ok (.invokevirtual 128, 3) := by decide +kernel
theorem dL_law_1012 : decode cL_law 1012 = .ok (.aload_n 2, 1) := by decide +kernel
theorem dL_law_1013 : decode cL_law 1013 = .ok (.aload_n 0, 1) := by decide +kernel
theorem dL_law_1014 : decode cL_law 1014 = .ok (.iload_n 3, 1) := by decide +kernel
theorem dL_law_1015 : decode cL_law 1015 = .ok (.iconst 1, 1) := by decide +kernel
theorem dL_law_1016 : decode cL_law 1016 = .ok (.iadd, 1) := by decide +kernel
theorem dL_law_1017 : decode cL_law 1017 = .ok (.iaload, 1) := by decide +kernel
theorem dL_law_1018 : decode cL_law 1018 = .ok (.invokevirtual 131, 3) := by decide +kernel
theorem dL_law_1021 : decode cL_law 1021 = .ok (.if_icmp .eq 5, 3) := by decide +kernel
theorem dL_law_1024 : decode cL_law 1024 = .ok (.iconst 0, 1) := by decide +kernel
theorem dL_law_1025 : decode cL_law 1025 = .ok (.ireturn, 1) := by decide +kernel
theorem dL_law_1026 : decode cL_law 1026 = .ok (.iinc 3 7, 3) := by decide +kernel
theorem dL_law_1029 : decode cL_law 1029 = .ok (.goto (-1011), 3) := by decide +kernel
theorem dL_law_1032 : decode cL_law 1032 = .ok (.iconst 1, 1) := by decide +kernel
theorem dL_law_1033 : decode cL_law 1033 = .ok (.ireturn, 1) := by decide +kernel
end
section
def z_wl : List Cond := lw_tbl.filter goodWord
theorem z_mem {w : Cond} (i : Nat) (h : (decide (tables_1[i]? = some w) && goodWord w) = true) : w ∈ z_wl := by
  simp only [Bool.and_eq_true, decide_eq_true_eq] at h
  exact List.mem_filter.mpr ⟨List.mem_append_right _ (List.mem_of_getElem? h.1), h.2⟩
theorem z_memp {w : Cond} (i : Nat) (h : (decide ((k2_sels lw_privs)[i]? = some w) && goodWord w) = true) : w ∈ z_wl := by
  simp only [Bool.and_eq_true, decide_eq_true_eq] at h
  exact List.mem_filter.mpr ⟨List.mem_append_left _ (List.mem_of_getElem? h.1), h.2⟩
theorem z_good {w : Cond} (h : w ∈ z_wl) : (w.onTables && w.keeps) = true ∨ ∃ ty, w = .arrayClass ty := good_of_word (List.mem_filter.mp h).2
theorem z_gin {big : List Cond} (hb : ∀ w ∈ z_wl, w ∈ big) {ws : List Cond} (h : ∀ w ∈ ws, w ∈ z_wl) : GoodIn big ws := fun w hw => ⟨hb w (h w hw), z_good (h w hw)⟩
theorem z_all {ws : List Cond} (h : ws.all (fun w => decide (w ∈ lw_tbl) && goodWord w) = true) : ∀ w ∈ ws, w ∈ z_wl := by
  intro w hw
  have h1 := List.all_eq_true.mp h w hw
  simp only [Bool.and_eq_true, decide_eq_true_eq] at h1
  exact List.mem_filter.mpr h1
def z_nl : List Cond := [.methodLinkNest RX8 9 yX6_init RX8, .methodLinkNest RX7 17 yX1_init RX8, .methodLinkNest RX1 17 yX5_init RX8, .methodLinkNest RX3 17 yX2_init RX8, .methodLinkNest RX2 21 yX5_init RX8, .methodLinkNest RX7 27 yX4_init RX8, .methodLinkNest RX8 33 yX0_init RX8, .methodLinkNest RX5 26 yX8_isClient RX8, .methodLinkNest RX5 21 yX8_isCell RX8, .methodLinkNest RX5 29 yX8_cellBehind RX8, .methodLinkNest RX5 33 yX8_answerTo RX8, .methodLinkNest RX0 52 yX8_cellBehind RX8, .methodLinkNest RX0 60 yX8_answerTo RX8]
theorem z_nl_in : ∀ w ∈ z_nl, w ∈ lw_tbl := by decide +kernel
theorem z_n28 : Cond.methodLinkNest RX8 9 yX6_init RX8 ∈ z_nl := List.mem_of_getElem? (i := 0) rfl
theorem z_n80 : Cond.methodLinkNest RX7 17 yX1_init RX8 ∈ z_nl := List.mem_of_getElem? (i := 1) rfl
theorem z_n86 : Cond.methodLinkNest RX1 17 yX5_init RX8 ∈ z_nl := List.mem_of_getElem? (i := 2) rfl
theorem z_n183 : Cond.methodLinkNest RX3 17 yX2_init RX8 ∈ z_nl := List.mem_of_getElem? (i := 3) rfl
theorem z_n188 : Cond.methodLinkNest RX2 21 yX5_init RX8 ∈ z_nl := List.mem_of_getElem? (i := 4) rfl
theorem z_n247 : Cond.methodLinkNest RX7 27 yX4_init RX8 ∈ z_nl := List.mem_of_getElem? (i := 5) rfl
theorem z_n297 : Cond.methodLinkNest RX8 33 yX0_init RX8 ∈ z_nl := List.mem_of_getElem? (i := 6) rfl
theorem z_n636 : Cond.methodLinkNest RX5 26 yX8_isClient RX8 ∈ z_nl := List.mem_of_getElem? (i := 7) rfl
theorem z_n639 : Cond.methodLinkNest RX5 21 yX8_isCell RX8 ∈ z_nl := List.mem_of_getElem? (i := 8) rfl
theorem z_n642 : Cond.methodLinkNest RX5 29 yX8_cellBehind RX8 ∈ z_nl := List.mem_of_getElem? (i := 9) rfl
theorem z_n646 : Cond.methodLinkNest RX5 33 yX8_answerTo RX8 ∈ z_nl := List.mem_of_getElem? (i := 10) rfl
theorem z_n880 : Cond.methodLinkNest RX0 52 yX8_cellBehind RX8 ∈ z_nl := List.mem_of_getElem? (i := 11) rfl
theorem z_n885 : Cond.methodLinkNest RX0 60 yX8_answerTo RX8 ∈ z_nl := List.mem_of_getElem? (i := 12) rfl
theorem z_iX0 : ∀ w ∈ u_ws RX0 TX0 10, w ∈ z_wl := z_all (by decide +kernel)
theorem z_iX1 : ∀ w ∈ u_ws RX1 TX1 17, w ∈ z_wl := z_all (by decide +kernel)
theorem z_iX2 : ∀ w ∈ u_ws RX2 TX2 11, w ∈ z_wl := z_all (by decide +kernel)
theorem z_iX3 : ∀ w ∈ u_ws RX3 TX3 2, w ∈ z_wl := z_all (by decide +kernel)
theorem z_iX4 : ∀ w ∈ u_ws RX4 TX4 5, w ∈ z_wl := z_all (by decide +kernel)
theorem z_iX5 : ∀ w ∈ u_ws RX5 TX5 1, w ∈ z_wl := z_all (by decide +kernel)
theorem z_iX6 : ∀ w ∈ u_ws RX6 TX6 10, w ∈ z_wl := z_all (by decide +kernel)
theorem z_iX7 : ∀ w ∈ u_ws RX7 TX7 5, w ∈ z_wl := z_all (by decide +kernel)
theorem z_iX8 : ∀ w ∈ u_ws RX8 TX8 5, w ∈ z_wl := z_all (by decide +kernel)
theorem z_iX9 : ∀ w ∈ u_ws RX9 TX9 27, w ∈ z_wl := z_all (by decide +kernel)
theorem z_k0 : Cond.initialized RL ∈ z_wl := z_mem 0 (by decide +kernel)
theorem z_k1 : Cond.initialized RX8 ∈ z_wl := z_mem 1 (by decide +kernel)
theorem z_k2 : Cond.initialized RX6 ∈ z_wl := z_mem 2 (by decide +kernel)
theorem z_k3 : Cond.initialized RX7 ∈ z_wl := z_mem 3 (by decide +kernel)
theorem z_k4 : Cond.initialized RX1 ∈ z_wl := z_mem 4 (by decide +kernel)
theorem z_k5 : Cond.initialized RX5 ∈ z_wl := z_mem 5 (by decide +kernel)
theorem z_k6 : Cond.initialized RX3 ∈ z_wl := z_mem 6 (by decide +kernel)
theorem z_k7 : Cond.initialized RX2 ∈ z_wl := z_mem 7 (by decide +kernel)
theorem z_k8 : Cond.initialized RX4 ∈ z_wl := z_mem 8 (by decide +kernel)
theorem z_k9 : Cond.initialized RX0 ∈ z_wl := z_mem 9 (by decide +kernel)
theorem z_k10 : Cond.initialized RX9 ∈ z_wl := z_mem 10 (by decide +kernel)
theorem z_k11 : Cond.initialized RJ0 ∈ z_wl := z_mem 11 (by decide +kernel)
theorem z_k12 : Cond.initialized RJ1 ∈ z_wl := z_mem 12 (by decide +kernel)
theorem z_k13 : Cond.initialized RJ3 ∈ z_wl := z_mem 13 (by decide +kernel)
theorem z_k14 : Cond.initialized RJ2 ∈ z_wl := z_mem 14 (by decide +kernel)
theorem z_k15 : Cond.initialized RJ9 ∈ z_wl := z_mem 15 (by decide +kernel)
theorem z_k16 : Cond.initialized RJ6 ∈ z_wl := z_mem 16 (by decide +kernel)
theorem z_k17 : Cond.initialized RJ10 ∈ z_wl := z_mem 17 (by decide +kernel)
theorem z_k18 : Cond.classLink RL 7 RX8 ∈ z_wl := z_mem 18 (by decide +kernel)
theorem z_k19 : Cond.instantiable RX8 5 ∈ z_wl := z_mem 19 (by decide +kernel)
theorem z_k20 : Cond.methodLink RL 9 yX8_init ∈ z_wl := z_mem 20 (by decide +kernel)
theorem z_k21 : Cond.instanceMethod yX8_init ∈ z_wl := z_mem 21 (by decide +kernel)
theorem z_k22 : Cond.code yX8_init cX8_init 1 none ∈ z_wl := z_mem 22 (by decide +kernel)
theorem z_k23 : Cond.methodLink RX8 1 objectInit ∈ z_wl := z_mem 23 (by decide +kernel)
theorem z_k24 : Cond.instanceMethod objectInit ∈ z_wl := z_mem 24 (by decide +kernel)
theorem z_k26 : Cond.classLink RX8 7 RX6 ∈ z_wl := z_mem 26 (by decide +kernel)
theorem z_k27 : Cond.instantiable RX6 10 ∈ z_wl := z_mem 27 (by decide +kernel)
theorem z_k29 : Cond.instanceMethod yX6_init ∈ z_wl := z_mem 29 (by decide +kernel)
theorem z_k30 : Cond.code yX6_init cX6_init 1 none ∈ z_wl := z_mem 30 (by decide +kernel)
theorem z_k31 : Cond.methodLink RX6 3 objectInit ∈ z_wl := z_mem 31 (by decide +kernel)
theorem z_k32 : Cond.fieldLink RX6 11 "LogKeepers$Tape" "bytes" "[B" ∈ z_wl := z_mem 32 (by decide +kernel)
theorem z_k33 : Cond.fieldLink RX6 15 "LogKeepers$Tape" "nameAt" "[I" ∈ z_wl := z_mem 33 (by decide +kernel)
theorem z_k34 : Cond.fieldLink RX6 19 "LogKeepers$Tape" "nameLength" "[I" ∈ z_wl := z_mem 34 (by decide +kernel)
theorem z_k35 : Cond.fieldLink RX6 22 "LogKeepers$Tape" "silent" "[Z" ∈ z_wl := z_mem 35 (by decide +kernel)
theorem z_k36 : Cond.fieldLink RX7 54 "LogKeepers$Tape" "silent" "[Z" ∈ z_wl := z_mem 36 (by decide +kernel)
theorem z_k37 : Cond.fieldLink RX6 30 "LogKeepers$Tape" "length" "I" ∈ z_wl := z_mem 37 (by decide +kernel)
theorem z_k38 : Cond.fieldLink RX8 46 "LogKeepers$Tape" "length" "I" ∈ z_wl := z_mem 38 (by decide +kernel)
theorem z_k39 : Cond.fieldLink RX7 32 "LogKeepers$Tape" "told" "I" ∈ z_wl := z_mem 39 (by decide +kernel)
theorem z_k40 : Cond.fieldLink RX6 33 "LogKeepers$Tape" "told" "I" ∈ z_wl := z_mem 40 (by decide +kernel)
theorem z_k41 : Cond.fieldLink RX6 36 "LogKeepers$Tape" "fault" "I" ∈ z_wl := z_mem 41 (by decide +kernel)
theorem z_k42 : Cond.fieldLink RX8 53 "LogKeepers$Tape" "fault" "I" ∈ z_wl := z_mem 42 (by decide +kernel)
theorem z_k43 : Cond.fieldLink RX6 26 "LogKeepers$Tape" "faultPlace" "I" ∈ z_wl := z_mem 43 (by decide +kernel)
theorem z_k44 : Cond.fieldLink RX8 63 "LogKeepers$Tape" "faultPlace" "I" ∈ z_wl := z_mem 44 (by decide +kernel)
theorem z_k45 : Cond.fieldLink RX6 61 "LogKeepers$Tape" "tokenAt" "I" ∈ z_wl := z_mem 45 (by decide +kernel)
theorem z_k46 : Cond.fieldLink RX6 39 "LogKeepers$Tape" "tokenEnd" "I" ∈ z_wl := z_mem 46 (by decide +kernel)
theorem z_k71 : Cond.classLink RX8 16 RX7 ∈ z_wl := z_mem 71 (by decide +kernel)
theorem z_k72 : Cond.instantiable RX7 5 ∈ z_wl := z_mem 72 (by decide +kernel)
theorem z_k73 : Cond.methodLink RX8 18 yX7_init ∈ z_wl := z_mem 73 (by decide +kernel)
theorem z_k74 : Cond.instanceMethod yX7_init ∈ z_wl := z_mem 74 (by decide +kernel)
theorem z_k75 : Cond.code yX7_init cX7_init 2 none ∈ z_wl := z_mem 75 (by decide +kernel)
theorem z_k76 : Cond.methodLink RX7 3 objectInit ∈ z_wl := z_mem 76 (by decide +kernel)
theorem z_k77 : Cond.classLink RX7 9 RX1 ∈ z_wl := z_mem 77 (by decide +kernel)
theorem z_k79 : Cond.instantiable RX1 17 ∈ z_wl := z_mem 79 (by decide +kernel)
theorem z_k81 : Cond.instanceMethod yX1_init ∈ z_wl := z_mem 81 (by decide +kernel)
theorem z_k82 : Cond.code yX1_init cX1_init 1 none ∈ z_wl := z_mem 82 (by decide +kernel)
theorem z_k83 : Cond.methodLink RX1 3 objectInit ∈ z_wl := z_mem 83 (by decide +kernel)
theorem z_k84 : Cond.classLink RX1 15 RX5 ∈ z_wl := z_mem 84 (by decide +kernel)
theorem z_k85 : Cond.instantiable RX5 1 ∈ z_wl := z_mem 85 (by decide +kernel)
theorem z_k87 : Cond.instanceMethod yX5_init ∈ z_wl := z_mem 87 (by decide +kernel)
theorem z_k88 : Cond.code yX5_init cX5_init 1 none ∈ z_wl := z_mem 88 (by decide +kernel)
theorem z_k89 : Cond.methodLink RX5 3 objectInit ∈ z_wl := z_mem 89 (by decide +kernel)
theorem z_k90 : Cond.fieldLink RX5 11 "LogKeepers$State" "parts" "[I" ∈ z_wl := z_mem 90 (by decide +kernel)
theorem z_k94 : Cond.fieldLink RX1 34 "LogKeepers$Keeper" "voter" "Z" ∈ z_wl := z_mem 94 (by decide +kernel)
theorem z_k95 : Cond.fieldLink RX7 95 "LogKeepers$Keeper" "voter" "Z" ∈ z_wl := z_mem 95 (by decide +kernel)
theorem z_k96 : Cond.fieldLink RX1 38 "LogKeepers$Keeper" "fallen" "Z" ∈ z_wl := z_mem 96 (by decide +kernel)
theorem z_k97 : Cond.fieldLink RX7 82 "LogKeepers$Keeper" "fallen" "Z" ∈ z_wl := z_mem 97 (by decide +kernel)
theorem z_k98 : Cond.fieldLink RX8 114 "LogKeepers$Keeper" "fallen" "Z" ∈ z_wl := z_mem 98 (by decide +kernel)
theorem z_k99 : Cond.fieldLink RX1 41 "LogKeepers$Keeper" "term" "I" ∈ z_wl := z_mem 99 (by decide +kernel)
theorem z_k100 : Cond.fieldLink RX7 98 "LogKeepers$Keeper" "term" "I" ∈ z_wl := z_mem 100 (by decide +kernel)
theorem z_k101 : Cond.fieldLink RX1 45 "LogKeepers$Keeper" "vote" "I" ∈ z_wl := z_mem 101 (by decide +kernel)
theorem z_k102 : Cond.fieldLink RX7 105 "LogKeepers$Keeper" "vote" "I" ∈ z_wl := z_mem 102 (by decide +kernel)
theorem z_k103 : Cond.fieldLink RX1 66 "LogKeepers$Keeper" "role" "I" ∈ z_wl := z_mem 103 (by decide +kernel)
theorem z_k104 : Cond.fieldLink RX7 89 "LogKeepers$Keeper" "role" "I" ∈ z_wl := z_mem 104 (by decide +kernel)
theorem z_k105 : Cond.fieldLink RX1 48 "LogKeepers$Keeper" "folded" "I" ∈ z_wl := z_mem 105 (by decide +kernel)
theorem z_k106 : Cond.fieldLink RX2 60 "LogKeepers$Keeper" "folded" "I" ∈ z_wl := z_mem 106 (by decide +kernel)
theorem z_k107 : Cond.fieldLink RX8 133 "LogKeepers$Keeper" "folded" "I" ∈ z_wl := z_mem 107 (by decide +kernel)
theorem z_k108 : Cond.fieldLink RX7 184 "LogKeepers$Keeper" "folded" "I" ∈ z_wl := z_mem 108 (by decide +kernel)
theorem z_k109 : Cond.fieldLink RX1 51 "LogKeepers$Keeper" "foldTerm" "I" ∈ z_wl := z_mem 109 (by decide +kernel)
theorem z_k110 : Cond.fieldLink RX2 65 "LogKeepers$Keeper" "foldTerm" "I" ∈ z_wl := z_mem 110 (by decide +kernel)
theorem z_k111 : Cond.fieldLink RX1 54 "LogKeepers$Keeper" "last" "I" ∈ z_wl := z_mem 111 (by decide +kernel)
theorem z_k112 : Cond.fieldLink RX7 122 "LogKeepers$Keeper" "last" "I" ∈ z_wl := z_mem 112 (by decide +kernel)
theorem z_k113 : Cond.fieldLink RX8 142 "LogKeepers$Keeper" "last" "I" ∈ z_wl := z_mem 113 (by decide +kernel)
theorem z_k114 : Cond.fieldLink RX1 57 "LogKeepers$Keeper" "done" "I" ∈ z_wl := z_mem 114 (by decide +kernel)
theorem z_k115 : Cond.fieldLink RX2 75 "LogKeepers$Keeper" "done" "I" ∈ z_wl := z_mem 115 (by decide +kernel)
theorem z_k116 : Cond.fieldLink RX7 169 "LogKeepers$Keeper" "done" "I" ∈ z_wl := z_mem 116 (by decide +kernel)
theorem z_k117 : Cond.fieldLink RX8 136 "LogKeepers$Keeper" "done" "I" ∈ z_wl := z_mem 117 (by decide +kernel)
theorem z_k118 : Cond.fieldLink RX1 69 "LogKeepers$Keeper" "ballots" "I" ∈ z_wl := z_mem 118 (by decide +kernel)
theorem z_k119 : Cond.fieldLink RX7 108 "LogKeepers$Keeper" "ballots" "I" ∈ z_wl := z_mem 119 (by decide +kernel)
theorem z_k120 : Cond.fieldLink RX1 72 "LogKeepers$Keeper" "round" "I" ∈ z_wl := z_mem 120 (by decide +kernel)
theorem z_k121 : Cond.fieldLink RX7 187 "LogKeepers$Keeper" "round" "I" ∈ z_wl := z_mem 121 (by decide +kernel)
theorem z_k122 : Cond.fieldLink RX1 11 "LogKeepers$Keeper" "entries" "[I" ∈ z_wl := z_mem 122 (by decide +kernel)
theorem z_k123 : Cond.fieldLink RX2 79 "LogKeepers$Keeper" "entries" "[I" ∈ z_wl := z_mem 123 (by decide +kernel)
theorem z_k124 : Cond.fieldLink RX7 162 "LogKeepers$Keeper" "entries" "[I" ∈ z_wl := z_mem 124 (by decide +kernel)
theorem z_k125 : Cond.fieldLink RX1 18 "LogKeepers$Keeper" "foldState" "LLogKeepers$State;" ∈ z_wl := z_mem 125 (by decide +kernel)
theorem z_k126 : Cond.fieldLink RX2 68 "LogKeepers$Keeper" "foldState" "LLogKeepers$State;" ∈ z_wl := z_mem 126 (by decide +kernel)
theorem z_k127 : Cond.fieldLink RX1 22 "LogKeepers$Keeper" "doneState" "LLogKeepers$State;" ∈ z_wl := z_mem 127 (by decide +kernel)
theorem z_k128 : Cond.fieldLink RX8 173 "LogKeepers$Keeper" "doneState" "LLogKeepers$State;" ∈ z_wl := z_mem 128 (by decide +kernel)
theorem z_k129 : Cond.fieldLink RX7 286 "LogKeepers$Keeper" "doneState" "LLogKeepers$State;" ∈ z_wl := z_mem 129 (by decide +kernel)
theorem z_k130 : Cond.fieldLink RX1 25 "LogKeepers$Keeper" "next" "[I" ∈ z_wl := z_mem 130 (by decide +kernel)
theorem z_k131 : Cond.fieldLink RX7 181 "LogKeepers$Keeper" "next" "[I" ∈ z_wl := z_mem 131 (by decide +kernel)
theorem z_k132 : Cond.fieldLink RX8 191 "LogKeepers$Keeper" "next" "[I" ∈ z_wl := z_mem 132 (by decide +kernel)
theorem z_k133 : Cond.fieldLink RX1 28 "LogKeepers$Keeper" "sure" "[I" ∈ z_wl := z_mem 133 (by decide +kernel)
theorem z_k134 : Cond.fieldLink RX7 178 "LogKeepers$Keeper" "sure" "[I" ∈ z_wl := z_mem 134 (by decide +kernel)
theorem z_k135 : Cond.fieldLink RX8 195 "LogKeepers$Keeper" "sure" "[I" ∈ z_wl := z_mem 135 (by decide +kernel)
theorem z_k136 : Cond.fieldLink RX1 31 "LogKeepers$Keeper" "answered" "[I" ∈ z_wl := z_mem 136 (by decide +kernel)
theorem z_k137 : Cond.fieldLink RX8 198 "LogKeepers$Keeper" "answered" "[I" ∈ z_wl := z_mem 137 (by decide +kernel)
theorem z_k138 : Cond.fieldLink RX7 233 "LogKeepers$Keeper" "answered" "[I" ∈ z_wl := z_mem 138 (by decide +kernel)
theorem z_k174 : Cond.classLink RX7 18 RX3 ∈ z_wl := z_mem 174 (by decide +kernel)
theorem z_k175 : Cond.instantiable RX3 2 ∈ z_wl := z_mem 175 (by decide +kernel)
theorem z_k176 : Cond.methodLink RX7 20 yX3_init ∈ z_wl := z_mem 176 (by decide +kernel)
theorem z_k177 : Cond.instanceMethod yX3_init ∈ z_wl := z_mem 177 (by decide +kernel)
theorem z_k178 : Cond.code yX3_init cX3_init 2 none ∈ z_wl := z_mem 178 (by decide +kernel)
theorem z_k179 : Cond.methodLink RX3 3 objectInit ∈ z_wl := z_mem 179 (by decide +kernel)
theorem z_k180 : Cond.classLink RX3 11 RX2 ∈ z_wl := z_mem 180 (by decide +kernel)
theorem z_k182 : Cond.instantiable RX2 11 ∈ z_wl := z_mem 182 (by decide +kernel)
theorem z_k184 : Cond.instanceMethod yX2_init ∈ z_wl := z_mem 184 (by decide +kernel)
theorem z_k185 : Cond.code yX2_init cX2_init 1 none ∈ z_wl := z_mem 185 (by decide +kernel)
theorem z_k186 : Cond.methodLink RX2 3 objectInit ∈ z_wl := z_mem 186 (by decide +kernel)
theorem z_k187 : Cond.classLink RX2 19 RX5 ∈ z_wl := z_mem 187 (by decide +kernel)
theorem z_k189 : Cond.fieldLink RX2 9 "LogKeepers$Letter" "kind" "I" ∈ z_wl := z_mem 189 (by decide +kernel)
theorem z_k190 : Cond.fieldLink RX3 22 "LogKeepers$Letter" "kind" "I" ∈ z_wl := z_mem 190 (by decide +kernel)
theorem z_k191 : Cond.fieldLink RX8 89 "LogKeepers$Letter" "kind" "I" ∈ z_wl := z_mem 191 (by decide +kernel)
theorem z_k192 : Cond.fieldLink RX7 191 "LogKeepers$Letter" "kind" "I" ∈ z_wl := z_mem 192 (by decide +kernel)
theorem z_k193 : Cond.fieldLink RX2 26 "LogKeepers$Letter" "sender" "I" ∈ z_wl := z_mem 193 (by decide +kernel)
theorem z_k194 : Cond.fieldLink RX7 208 "LogKeepers$Letter" "sender" "I" ∈ z_wl := z_mem 194 (by decide +kernel)
theorem z_k195 : Cond.fieldLink RX2 29 "LogKeepers$Letter" "receiver" "I" ∈ z_wl := z_mem 195 (by decide +kernel)
theorem z_k196 : Cond.fieldLink RX7 205 "LogKeepers$Letter" "receiver" "I" ∈ z_wl := z_mem 196 (by decide +kernel)
theorem z_k197 : Cond.fieldLink RX2 32 "LogKeepers$Letter" "term" "I" ∈ z_wl := z_mem 197 (by decide +kernel)
theorem z_k198 : Cond.fieldLink RX7 211 "LogKeepers$Letter" "term" "I" ∈ z_wl := z_mem 198 (by decide +kernel)
theorem z_k199 : Cond.fieldLink RX2 35 "LogKeepers$Letter" "first" "I" ∈ z_wl := z_mem 199 (by decide +kernel)
theorem z_k200 : Cond.fieldLink RX7 125 "LogKeepers$Letter" "first" "I" ∈ z_wl := z_mem 200 (by decide +kernel)
theorem z_k201 : Cond.fieldLink RX2 38 "LogKeepers$Letter" "second" "I" ∈ z_wl := z_mem 201 (by decide +kernel)
theorem z_k202 : Cond.fieldLink RX7 134 "LogKeepers$Letter" "second" "I" ∈ z_wl := z_mem 202 (by decide +kernel)
theorem z_k203 : Cond.fieldLink RX2 41 "LogKeepers$Letter" "count" "I" ∈ z_wl := z_mem 203 (by decide +kernel)
theorem z_k204 : Cond.fieldLink RX7 261 "LogKeepers$Letter" "count" "I" ∈ z_wl := z_mem 204 (by decide +kernel)
theorem z_k205 : Cond.fieldLink RX2 44 "LogKeepers$Letter" "done" "I" ∈ z_wl := z_mem 205 (by decide +kernel)
theorem z_k206 : Cond.fieldLink RX7 260 "LogKeepers$Letter" "done" "I" ∈ z_wl := z_mem 206 (by decide +kernel)
theorem z_k207 : Cond.fieldLink RX2 47 "LogKeepers$Letter" "round" "I" ∈ z_wl := z_mem 207 (by decide +kernel)
theorem z_k208 : Cond.fieldLink RX7 190 "LogKeepers$Letter" "round" "I" ∈ z_wl := z_mem 208 (by decide +kernel)
theorem z_k209 : Cond.fieldLink RX2 15 "LogKeepers$Letter" "entries" "[I" ∈ z_wl := z_mem 209 (by decide +kernel)
theorem z_k210 : Cond.fieldLink RX7 265 "LogKeepers$Letter" "entries" "[I" ∈ z_wl := z_mem 210 (by decide +kernel)
theorem z_k211 : Cond.fieldLink RX2 22 "LogKeepers$Letter" "fold" "LLogKeepers$State;" ∈ z_wl := z_mem 211 (by decide +kernel)
theorem z_k212 : Cond.fieldLink RX7 248 "LogKeepers$Letter" "fold" "LLogKeepers$State;" ∈ z_wl := z_mem 212 (by decide +kernel)
theorem z_k236 : Cond.fieldLink RX3 13 "LogKeepers$Post" "letters" "[LLogKeepers$Letter;" ∈ z_wl := z_mem 236 (by decide +kernel)
theorem z_k237 : Cond.fieldLink RX8 85 "LogKeepers$Post" "letters" "[LLogKeepers$Letter;" ∈ z_wl := z_mem 237 (by decide +kernel)
theorem z_k238 : Cond.fieldLink RX7 151 "LogKeepers$Post" "letters" "[LLogKeepers$Letter;" ∈ z_wl := z_mem 238 (by decide +kernel)
theorem z_k239 : Cond.fieldLink RX3 18 "LogKeepers$Post" "hand" "LLogKeepers$Letter;" ∈ z_wl := z_mem 239 (by decide +kernel)
theorem z_k245 : Cond.classLink RX7 25 RX4 ∈ z_wl := z_mem 245 (by decide +kernel)
theorem z_k246 : Cond.instantiable RX4 5 ∈ z_wl := z_mem 246 (by decide +kernel)
theorem z_k248 : Cond.instanceMethod yX4_init ∈ z_wl := z_mem 248 (by decide +kernel)
theorem z_k249 : Cond.code yX4_init cX4_init 1 none ∈ z_wl := z_mem 249 (by decide +kernel)
theorem z_k250 : Cond.methodLink RX4 3 objectInit ∈ z_wl := z_mem 250 (by decide +kernel)
theorem z_k251 : Cond.fieldLink RX4 11 "LogKeepers$Reads" "keeper" "[I" ∈ z_wl := z_mem 251 (by decide +kernel)
theorem z_k252 : Cond.fieldLink RX7 276 "LogKeepers$Reads" "keeper" "[I" ∈ z_wl := z_mem 252 (by decide +kernel)
theorem z_k253 : Cond.fieldLink RX4 15 "LogKeepers$Reads" "cell" "[I" ∈ z_wl := z_mem 253 (by decide +kernel)
theorem z_k254 : Cond.fieldLink RX7 289 "LogKeepers$Reads" "cell" "[I" ∈ z_wl := z_mem 254 (by decide +kernel)
theorem z_k255 : Cond.fieldLink RX4 18 "LogKeepers$Reads" "term" "[I" ∈ z_wl := z_mem 255 (by decide +kernel)
theorem z_k256 : Cond.fieldLink RX7 282 "LogKeepers$Reads" "term" "[I" ∈ z_wl := z_mem 256 (by decide +kernel)
theorem z_k257 : Cond.fieldLink RX4 21 "LogKeepers$Reads" "round" "[I" ∈ z_wl := z_mem 257 (by decide +kernel)
theorem z_k258 : Cond.fieldLink RX7 284 "LogKeepers$Reads" "round" "[I" ∈ z_wl := z_mem 258 (by decide +kernel)
theorem z_k259 : Cond.fieldLink RX4 24 "LogKeepers$Reads" "size" "I" ∈ z_wl := z_mem 259 (by decide +kernel)
theorem z_k260 : Cond.fieldLink RX7 65 "LogKeepers$Reads" "size" "I" ∈ z_wl := z_mem 260 (by decide +kernel)
theorem z_k261 : Cond.fieldLink RX8 239 "LogKeepers$Reads" "size" "I" ∈ z_wl := z_mem 261 (by decide +kernel)
theorem z_k273 : Cond.fieldLink RX7 11 "LogKeepers$World" "keepers" "[LLogKeepers$Keeper;" ∈ z_wl := z_mem 273 (by decide +kernel)
theorem z_k274 : Cond.fieldLink RX8 105 "LogKeepers$World" "keepers" "[LLogKeepers$Keeper;" ∈ z_wl := z_mem 274 (by decide +kernel)
theorem z_k275 : Cond.fieldLink RX7 21 "LogKeepers$World" "post" "LLogKeepers$Post;" ∈ z_wl := z_mem 275 (by decide +kernel)
theorem z_k276 : Cond.fieldLink RX8 73 "LogKeepers$World" "post" "LLogKeepers$Post;" ∈ z_wl := z_mem 276 (by decide +kernel)
theorem z_k277 : Cond.fieldLink RX7 28 "LogKeepers$World" "reads" "LLogKeepers$Reads;" ∈ z_wl := z_mem 277 (by decide +kernel)
theorem z_k278 : Cond.fieldLink RX8 151 "LogKeepers$World" "reads" "LLogKeepers$Reads;" ∈ z_wl := z_mem 278 (by decide +kernel)
theorem z_k279 : Cond.fieldLink RX7 44 "LogKeepers$World" "count" "I" ∈ z_wl := z_mem 279 (by decide +kernel)
theorem z_k280 : Cond.fieldLink RX8 60 "LogKeepers$World" "count" "I" ∈ z_wl := z_mem 280 (by decide +kernel)
theorem z_k281 : Cond.fieldLink RX7 51 "LogKeepers$World" "voters" "I" ∈ z_wl := z_mem 281 (by decide +kernel)
theorem z_k282 : Cond.fieldLink RX8 233 "LogKeepers$World" "voters" "I" ∈ z_wl := z_mem 282 (by decide +kernel)
theorem z_k295 : Cond.classLink RX8 31 RX0 ∈ z_wl := z_mem 295 (by decide +kernel)
theorem z_k296 : Cond.instantiable RX0 10 ∈ z_wl := z_mem 296 (by decide +kernel)
theorem z_k298 : Cond.instanceMethod yX0_init ∈ z_wl := z_mem 298 (by decide +kernel)
theorem z_k299 : Cond.code yX0_init cX0_init 1 none ∈ z_wl := z_mem 299 (by decide +kernel)
theorem z_k300 : Cond.methodLink RX0 3 objectInit ∈ z_wl := z_mem 300 (by decide +kernel)
theorem z_k301 : Cond.fieldLink RX0 11 "LogKeepers$History" "begun" "[I" ∈ z_wl := z_mem 301 (by decide +kernel)
theorem z_k302 : Cond.fieldLink RX0 15 "LogKeepers$History" "ended" "[I" ∈ z_wl := z_mem 302 (by decide +kernel)
theorem z_k303 : Cond.fieldLink RX0 18 "LogKeepers$History" "what" "[I" ∈ z_wl := z_mem 303 (by decide +kernel)
theorem z_k304 : Cond.fieldLink RX0 21 "LogKeepers$History" "value" "[I" ∈ z_wl := z_mem 304 (by decide +kernel)
theorem z_k305 : Cond.fieldLink RX0 24 "LogKeepers$History" "answer" "[I" ∈ z_wl := z_mem 305 (by decide +kernel)
theorem z_k306 : Cond.fieldLink RX0 27 "LogKeepers$History" "first" "[I" ∈ z_wl := z_mem 306 (by decide +kernel)
theorem z_k307 : Cond.fieldLink RX8 221 "LogKeepers$History" "first" "[I" ∈ z_wl := z_mem 307 (by decide +kernel)
theorem z_k308 : Cond.fieldLink RX0 30 "LogKeepers$History" "hopeless" "[I" ∈ z_wl := z_mem 308 (by decide +kernel)
theorem z_k309 : Cond.fieldLink RX0 33 "LogKeepers$History" "size" "I" ∈ z_wl := z_mem 309 (by decide +kernel)
theorem z_k310 : Cond.fieldLink RX8 218 "LogKeepers$History" "size" "I" ∈ z_wl := z_mem 310 (by decide +kernel)
theorem z_k311 : Cond.fieldLink RX0 41 "LogKeepers$History" "judged" "Z" ∈ z_wl := z_mem 311 (by decide +kernel)
theorem z_k312 : Cond.fieldLink RX0 49 "LogKeepers$History" "right" "Z" ∈ z_wl := z_mem 312 (by decide +kernel)
theorem z_k334 : Cond.fieldLink RX8 10 "LogKeepers" "tape" "LLogKeepers$Tape;" ∈ z_wl := z_mem 334 (by decide +kernel)
theorem z_k335 : Cond.fieldLink RX8 19 "LogKeepers" "world" "LLogKeepers$World;" ∈ z_wl := z_mem 335 (by decide +kernel)
theorem z_k336 : Cond.fieldLink RX8 23 "LogKeepers" "boxes" "[LLogKeepers$World;" ∈ z_wl := z_mem 336 (by decide +kernel)
theorem z_k337 : Cond.fieldLink RX8 27 "LogKeepers" "kept" "[Z" ∈ z_wl := z_mem 337 (by decide +kernel)
theorem z_k338 : Cond.fieldLink RX8 34 "LogKeepers" "history" "LLogKeepers$History;" ∈ z_wl := z_mem 338 (by decide +kernel)
theorem z_k350 : Cond.methodLink RL 13 yX8_feed ∈ z_wl := z_mem 350 (by decide +kernel)
theorem z_k351 : Cond.instanceMethod yX8_feed ∈ z_wl := z_mem 351 (by decide +kernel)
theorem z_k352 : Cond.selects RX8 yX8_feed yX8_feed ∈ z_wl := z_mem 352 (by decide +kernel)
theorem z_k353 : Cond.code yX8_feed cX8_feed 6 (some .int) ∈ z_wl := z_mem 353 (by decide +kernel)
theorem z_k354 : Cond.methodLink RX8 38 yX6_hasRoomFor ∈ z_wl := z_mem 354 (by decide +kernel)
theorem z_k355 : Cond.instanceMethod yX6_hasRoomFor ∈ z_wl := z_mem 355 (by decide +kernel)
theorem z_k356 : Cond.selects RX6 yX6_hasRoomFor yX6_hasRoomFor ∈ z_wl := z_mem 356 (by decide +kernel)
theorem z_k357 : Cond.code yX6_hasRoomFor cX6_hasRoomFor 2 (some .boolean) ∈ z_wl := z_mem 357 (by decide +kernel)
theorem z_k358 : Cond.methodLink RX8 42 yX6_put ∈ z_wl := z_mem 358 (by decide +kernel)
theorem z_k359 : Cond.instanceMethod yX6_put ∈ z_wl := z_mem 359 (by decide +kernel)
theorem z_k360 : Cond.selects RX6 yX6_put yX6_put ∈ z_wl := z_mem 360 (by decide +kernel)
theorem z_k361 : Cond.code yX6_put cX6_put 3 none ∈ z_wl := z_mem 361 (by decide +kernel)
theorem z_k362 : Cond.methodLink RL 18 yX8_end ∈ z_wl := z_mem 362 (by decide +kernel)
theorem z_k363 : Cond.instanceMethod yX8_end ∈ z_wl := z_mem 363 (by decide +kernel)
theorem z_k364 : Cond.selects RX8 yX8_end yX8_end ∈ z_wl := z_mem 364 (by decide +kernel)
theorem z_k365 : Cond.code yX8_end cX8_end 2 (some .int) ∈ z_wl := z_mem 365 (by decide +kernel)
theorem z_k366 : Cond.methodLink RL 23 yX8_keepers ∈ z_wl := z_mem 366 (by decide +kernel)
theorem z_k367 : Cond.instanceMethod yX8_keepers ∈ z_wl := z_mem 367 (by decide +kernel)
theorem z_k368 : Cond.selects RX8 yX8_keepers yX8_keepers ∈ z_wl := z_mem 368 (by decide +kernel)
theorem z_k369 : Cond.code yX8_keepers cX8_keepers 2 (some .int) ∈ z_wl := z_mem 369 (by decide +kernel)
theorem z_k370 : Cond.methodLink RX8 50 yX6_parse ∈ z_wl := z_mem 370 (by decide +kernel)
theorem z_k371 : Cond.instanceMethod yX6_parse ∈ z_wl := z_mem 371 (by decide +kernel)
theorem z_k372 : Cond.selects RX6 yX6_parse yX6_parse ∈ z_wl := z_mem 372 (by decide +kernel)
theorem z_k373 : Cond.code yX6_parse cX6_parse 3 none ∈ z_wl := z_mem 373 (by decide +kernel)
theorem z_k374 : Cond.methodLink RX6 42 yX6_findToken ∈ z_wl := z_mem 374 (by decide +kernel)
theorem z_k375 : Cond.instanceMethod yX6_findToken ∈ z_wl := z_mem 375 (by decide +kernel)
theorem z_k376 : Cond.selects RX6 yX6_findToken yX6_findToken ∈ z_wl := z_mem 376 (by decide +kernel)
theorem z_k377 : Cond.code yX6_findToken cX6_findToken 1 (some .boolean) ∈ z_wl := z_mem 377 (by decide +kernel)
theorem z_k378 : Cond.methodLink RX6 64 yX6_isBlank ∈ z_wl := z_mem 378 (by decide +kernel)
theorem z_k379 : Cond.instanceMethod yX6_isBlank ∈ z_wl := z_mem 379 (by decide +kernel)
theorem z_k380 : Cond.selects RX6 yX6_isBlank yX6_isBlank ∈ z_wl := z_mem 380 (by decide +kernel)
theorem z_k381 : Cond.code yX6_isBlank cX6_isBlank 3 (some .boolean) ∈ z_wl := z_mem 381 (by decide +kernel)
theorem z_k382 : Cond.methodLink RX6 58 yX6_byteAt ∈ z_wl := z_mem 382 (by decide +kernel)
theorem z_k383 : Cond.instanceMethod yX6_byteAt ∈ z_wl := z_mem 383 (by decide +kernel)
theorem z_k384 : Cond.selects RX6 yX6_byteAt yX6_byteAt ∈ z_wl := z_mem 384 (by decide +kernel)
theorem z_k385 : Cond.code yX6_byteAt cX6_byteAt 2 (some .int) ∈ z_wl := z_mem 385 (by decide +kernel)
theorem z_k386 : Cond.methodLink RX6 68 yX6_endOfLetters ∈ z_wl := z_mem 386 (by decide +kernel)
theorem z_k387 : Cond.instanceMethod yX6_endOfLetters ∈ z_wl := z_mem 387 (by decide +kernel)
theorem z_k388 : Cond.selects RX6 yX6_endOfLetters yX6_endOfLetters ∈ z_wl := z_mem 388 (by decide +kernel)
theorem z_k389 : Cond.code yX6_endOfLetters cX6_endOfLetters 3 (some .int) ∈ z_wl := z_mem 389 (by decide +kernel)
theorem z_k390 : Cond.methodLink RX6 71 yX6_isLetter ∈ z_wl := z_mem 390 (by decide +kernel)
theorem z_k391 : Cond.instanceMethod yX6_isLetter ∈ z_wl := z_mem 391 (by decide +kernel)
theorem z_k392 : Cond.selects RX6 yX6_isLetter yX6_isLetter ∈ z_wl := z_mem 392 (by decide +kernel)
theorem z_k393 : Cond.code yX6_isLetter cX6_isLetter 3 (some .boolean) ∈ z_wl := z_mem 393 (by decide +kernel)
theorem z_k394 : Cond.methodLink RX6 50 yX6_blame ∈ z_wl := z_mem 394 (by decide +kernel)
theorem z_k395 : Cond.instanceMethod yX6_blame ∈ z_wl := z_mem 395 (by decide +kernel)
theorem z_k396 : Cond.selects RX6 yX6_blame yX6_blame ∈ z_wl := z_mem 396 (by decide +kernel)
theorem z_k397 : Cond.code yX6_blame cX6_blame 3 none ∈ z_wl := z_mem 397 (by decide +kernel)
theorem z_k398 : Cond.methodLink RX6 46 yX6_takeToken ∈ z_wl := z_mem 398 (by decide +kernel)
theorem z_k399 : Cond.instanceMethod yX6_takeToken ∈ z_wl := z_mem 399 (by decide +kernel)
theorem z_k400 : Cond.selects RX6 yX6_takeToken yX6_takeToken ∈ z_wl := z_mem 400 (by decide +kernel)
theorem z_k401 : Cond.code yX6_takeToken cX6_takeToken 2 (some .int) ∈ z_wl := z_mem 401 (by decide +kernel)
theorem z_k403 : Cond.methodLink RX6 76 yX6_tokenIs ∈ z_wl := z_mem 403 (by decide +kernel)
theorem z_k404 : Cond.instanceMethod yX6_tokenIs ∈ z_wl := z_mem 404 (by decide +kernel)
theorem z_k405 : Cond.selects RX6 yX6_tokenIs yX6_tokenIs ∈ z_wl := z_mem 405 (by decide +kernel)
theorem z_k406 : Cond.code yX6_tokenIs cX6_tokenIs 4 (some .boolean) ∈ z_wl := z_mem 406 (by decide +kernel)
theorem z_k407 : Cond.methodLink RX6 92 yJ0_length_8abf5 ∈ z_wl := z_mem 407 (by decide +kernel)
theorem z_k408 : Cond.instanceMethod yJ0_length_8abf5 ∈ z_wl := z_mem 408 (by decide +kernel)
theorem z_k409 : Cond.selects RJ0 yJ0_length_8abf5 yJ0_length_8abf5 ∈ z_wl := z_mem 409 (by decide +kernel)
theorem z_k410 : Cond.code yJ0_length_8abf5 cJ0_length_8abf5 1 (some .int) ∈ z_wl := z_mem 410 (by decide +kernel)
theorem z_k411 : Cond.methodLink RJ0 335 yJ0_coder_7d493 ∈ z_wl := z_mem 411 (by decide +kernel)
theorem z_k412 : Cond.instanceMethod yJ0_coder_7d493 ∈ z_wl := z_mem 412 (by decide +kernel)
theorem z_k413 : Cond.selects RJ0 yJ0_coder_7d493 yJ0_coder_7d493 ∈ z_wl := z_mem 413 (by decide +kernel)
theorem z_k414 : Cond.code yJ0_coder_7d493 cJ0_coder_7d493 1 (some .byte) ∈ z_wl := z_mem 414 (by decide +kernel)
theorem z_k415 : Cond.fieldLink RJ0 38 "java/lang/String" "COMPACT_STRINGS" "Z" ∈ z_wl := z_mem 415 (by decide +kernel)
theorem z_k417 : Cond.methodLink RX6 96 yJ0_charAt_5068e ∈ z_wl := z_mem 417 (by decide +kernel)
theorem z_k418 : Cond.instanceMethod yJ0_charAt_5068e ∈ z_wl := z_mem 418 (by decide +kernel)
theorem z_k419 : Cond.selects RJ0 yJ0_charAt_5068e yJ0_charAt_5068e ∈ z_wl := z_mem 419 (by decide +kernel)
theorem z_k420 : Cond.code yJ0_charAt_5068e cJ0_charAt_5068e 2 (some .char) ∈ z_wl := z_mem 420 (by decide +kernel)
theorem z_k421 : Cond.methodLink RJ0 492 yJ0_isLatin1_aae02 ∈ z_wl := z_mem 421 (by decide +kernel)
theorem z_k422 : Cond.instanceMethod yJ0_isLatin1_aae02 ∈ z_wl := z_mem 422 (by decide +kernel)
theorem z_k423 : Cond.selects RJ0 yJ0_isLatin1_aae02 yJ0_isLatin1_aae02 ∈ z_wl := z_mem 423 (by decide +kernel)
theorem z_k424 : Cond.code yJ0_isLatin1_aae02 cJ0_isLatin1_aae02 1 (some .boolean) ∈ z_wl := z_mem 424 (by decide +kernel)
theorem z_k425 : Cond.methodLink RJ0 495 yJ1_charAt_3b067 ∈ z_wl := z_mem 425 (by decide +kernel)
theorem z_k426 : Cond.static yJ1_charAt_3b067 ∈ z_wl := z_mem 426 (by decide +kernel)
theorem z_k427 : Cond.code yJ1_charAt_3b067 cJ1_charAt_3b067 2 (some .char) ∈ z_wl := z_mem 427 (by decide +kernel)
theorem z_k428 : Cond.methodLink RJ1 9 yJ0_checkIndex_df160 ∈ z_wl := z_mem 428 (by decide +kernel)
theorem z_k429 : Cond.static yJ0_checkIndex_df160 ∈ z_wl := z_mem 429 (by decide +kernel)
theorem z_k430 : Cond.code yJ0_checkIndex_df160 cJ0_checkIndex_df160 2 none ∈ z_wl := z_mem 430 (by decide +kernel)
theorem z_k431 : Cond.fieldLink RJ0 1053 "jdk/internal/util/Preconditions" "SIOOBE_FORMATTER" "Ljava/util/function/BiFunction;" ∈ z_wl := z_mem 431 (by decide +kernel)
theorem z_k433 : Cond.methodLink RJ0 1059 yJ3_checkIndex_8e157 ∈ z_wl := z_mem 433 (by decide +kernel)
theorem z_k434 : Cond.static yJ3_checkIndex_8e157 ∈ z_wl := z_mem 434 (by decide +kernel)
theorem z_k435 : Cond.code yJ3_checkIndex_8e157 cJ3_checkIndex_8e157 3 (some .int) ∈ z_wl := z_mem 435 (by decide +kernel)
theorem z_k436 : Cond.methodLink RJ0 498 yJ2_charAt_3b067 ∈ z_wl := z_mem 436 (by decide +kernel)
theorem z_k437 : Cond.static yJ2_charAt_3b067 ∈ z_wl := z_mem 437 (by decide +kernel)
theorem z_k438 : Cond.code yJ2_charAt_3b067 cJ2_charAt_3b067 2 (some .char) ∈ z_wl := z_mem 438 (by decide +kernel)
theorem z_k439 : Cond.methodLink RJ2 67 yJ2_checkIndex_2214a ∈ z_wl := z_mem 439 (by decide +kernel)
theorem z_k440 : Cond.static yJ2_checkIndex_2214a ∈ z_wl := z_mem 440 (by decide +kernel)
theorem z_k441 : Cond.code yJ2_checkIndex_2214a cJ2_checkIndex_2214a 2 none ∈ z_wl := z_mem 441 (by decide +kernel)
theorem z_k442 : Cond.methodLink RJ2 48 yJ2_length_9d52b ∈ z_wl := z_mem 442 (by decide +kernel)
theorem z_k443 : Cond.static yJ2_length_9d52b ∈ z_wl := z_mem 443 (by decide +kernel)
theorem z_k444 : Cond.code yJ2_length_9d52b cJ2_length_9d52b 1 (some .int) ∈ z_wl := z_mem 444 (by decide +kernel)
theorem z_k445 : Cond.methodLink RJ2 414 yJ0_checkIndex_df160 ∈ z_wl := z_mem 445 (by decide +kernel)
theorem z_k446 : Cond.methodLink RJ2 71 yJ2_getChar_3b067 ∈ z_wl := z_mem 446 (by decide +kernel)
theorem z_k447 : Cond.static yJ2_getChar_3b067 ∈ z_wl := z_mem 447 (by decide +kernel)
theorem z_k448 : Cond.code yJ2_getChar_3b067 cJ2_getChar_3b067 2 (some .char) ∈ z_wl := z_mem 448 (by decide +kernel)
theorem z_k449 : Cond.fieldLink RJ2 44 "java/lang/StringUTF16" "$assertionsDisabled" "Z" ∈ z_wl := z_mem 449 (by decide +kernel)
theorem z_k451 : Cond.fieldLink RJ2 59 "java/lang/StringUTF16" "HI_BYTE_SHIFT" "I" ∈ z_wl := z_mem 451 (by decide +kernel)
theorem z_k453 : Cond.fieldLink RJ2 63 "java/lang/StringUTF16" "LO_BYTE_SHIFT" "I" ∈ z_wl := z_mem 453 (by decide +kernel)
theorem z_k456 : Cond.methodLink RX6 81 yX6_takeName ∈ z_wl := z_mem 456 (by decide +kernel)
theorem z_k457 : Cond.instanceMethod yX6_takeName ∈ z_wl := z_mem 457 (by decide +kernel)
theorem z_k458 : Cond.selects RX6 yX6_takeName yX6_takeName ∈ z_wl := z_mem 458 (by decide +kernel)
theorem z_k459 : Cond.code yX6_takeName cX6_takeName 2 none ∈ z_wl := z_mem 459 (by decide +kernel)
theorem z_k460 : Cond.methodLink RX6 89 yX6_tokenIsName ∈ z_wl := z_mem 460 (by decide +kernel)
theorem z_k461 : Cond.instanceMethod yX6_tokenIsName ∈ z_wl := z_mem 461 (by decide +kernel)
theorem z_k462 : Cond.selects RX6 yX6_tokenIsName yX6_tokenIsName ∈ z_wl := z_mem 462 (by decide +kernel)
theorem z_k463 : Cond.code yX6_tokenIsName cX6_tokenIsName 4 (some .boolean) ∈ z_wl := z_mem 463 (by decide +kernel)
theorem z_k465 : Cond.methodLink RX6 86 yX6_markSilent ∈ z_wl := z_mem 465 (by decide +kernel)
theorem z_k466 : Cond.instanceMethod yX6_markSilent ∈ z_wl := z_mem 466 (by decide +kernel)
theorem z_k467 : Cond.selects RX6 yX6_markSilent yX6_markSilent ∈ z_wl := z_mem 467 (by decide +kernel)
theorem z_k468 : Cond.code yX6_markSilent cX6_markSilent 1 none ∈ z_wl := z_mem 468 (by decide +kernel)
theorem z_k469 : Cond.methodLink RX6 54 yX6_countVoters ∈ z_wl := z_mem 469 (by decide +kernel)
theorem z_k470 : Cond.instanceMethod yX6_countVoters ∈ z_wl := z_mem 470 (by decide +kernel)
theorem z_k471 : Cond.selects RX6 yX6_countVoters yX6_countVoters ∈ z_wl := z_mem 471 (by decide +kernel)
theorem z_k472 : Cond.code yX6_countVoters cX6_countVoters 3 (some .int) ∈ z_wl := z_mem 472 (by decide +kernel)
theorem z_k473 : Cond.methodLink RX8 56 yX7_begin ∈ z_wl := z_mem 473 (by decide +kernel)
theorem z_k474 : Cond.instanceMethod yX7_begin ∈ z_wl := z_mem 474 (by decide +kernel)
theorem z_k475 : Cond.selects RX7 yX7_begin yX7_begin ∈ z_wl := z_mem 475 (by decide +kernel)
theorem z_k476 : Cond.code yX7_begin cX7_begin 3 none ∈ z_wl := z_mem 476 (by decide +kernel)
theorem z_k477 : Cond.methodLink RX7 38 yJ9_min_7cf53 ∈ z_wl := z_mem 477 (by decide +kernel)
theorem z_k478 : Cond.static yJ9_min_7cf53 ∈ z_wl := z_mem 478 (by decide +kernel)
theorem z_k479 : Cond.code yJ9_min_7cf53 cJ9_min_7cf53 2 (some .int) ∈ z_wl := z_mem 479 (by decide +kernel)
theorem z_k480 : Cond.methodLink RX7 47 yX6_countVoters ∈ z_wl := z_mem 480 (by decide +kernel)
theorem z_k481 : Cond.methodLink RX7 58 yX1_begin ∈ z_wl := z_mem 481 (by decide +kernel)
theorem z_k482 : Cond.instanceMethod yX1_begin ∈ z_wl := z_mem 482 (by decide +kernel)
theorem z_k483 : Cond.selects RX1 yX1_begin yX1_begin ∈ z_wl := z_mem 483 (by decide +kernel)
theorem z_k484 : Cond.code yX1_begin cX1_begin 2 none ∈ z_wl := z_mem 484 (by decide +kernel)
theorem z_k485 : Cond.methodLink RX1 60 yX5_clear ∈ z_wl := z_mem 485 (by decide +kernel)
theorem z_k486 : Cond.instanceMethod yX5_clear ∈ z_wl := z_mem 486 (by decide +kernel)
theorem z_k487 : Cond.selects RX5 yX5_clear yX5_clear ∈ z_wl := z_mem 487 (by decide +kernel)
theorem z_k488 : Cond.code yX5_clear cX5_clear 2 none ∈ z_wl := z_mem 488 (by decide +kernel)
theorem z_k489 : Cond.methodLink RX1 63 yX1_follow ∈ z_wl := z_mem 489 (by decide +kernel)
theorem z_k490 : Cond.instanceMethod yX1_follow ∈ z_wl := z_mem 490 (by decide +kernel)
theorem z_k491 : Cond.selects RX1 yX1_follow yX1_follow ∈ z_wl := z_mem 491 (by decide +kernel)
theorem z_k492 : Cond.code yX1_follow cX1_follow 1 none ∈ z_wl := z_mem 492 (by decide +kernel)
theorem z_k493 : Cond.methodLink RX7 62 yX3_clear ∈ z_wl := z_mem 493 (by decide +kernel)
theorem z_k494 : Cond.instanceMethod yX3_clear ∈ z_wl := z_mem 494 (by decide +kernel)
theorem z_k495 : Cond.selects RX3 yX3_clear yX3_clear ∈ z_wl := z_mem 495 (by decide +kernel)
theorem z_k496 : Cond.code yX3_clear cX3_clear 2 none ∈ z_wl := z_mem 496 (by decide +kernel)
theorem z_k497 : Cond.methodLink RL 28 yX8_fault ∈ z_wl := z_mem 497 (by decide +kernel)
theorem z_k498 : Cond.instanceMethod yX8_fault ∈ z_wl := z_mem 498 (by decide +kernel)
theorem z_k499 : Cond.selects RX8 yX8_fault yX8_fault ∈ z_wl := z_mem 499 (by decide +kernel)
theorem z_k500 : Cond.code yX8_fault cX8_fault 2 (some .int) ∈ z_wl := z_mem 500 (by decide +kernel)
theorem z_k501 : Cond.methodLink RL 32 yX8_ask ∈ z_wl := z_mem 501 (by decide +kernel)
theorem z_k502 : Cond.instanceMethod yX8_ask ∈ z_wl := z_mem 502 (by decide +kernel)
theorem z_k503 : Cond.selects RX8 yX8_ask yX8_ask ∈ z_wl := z_mem 503 (by decide +kernel)
theorem z_k504 : Cond.code yX8_ask cX8_ask 2 (some .int) ∈ z_wl := z_mem 504 (by decide +kernel)
theorem z_k505 : Cond.methodLink RX8 66 yX7_isKeeper ∈ z_wl := z_mem 505 (by decide +kernel)
theorem z_k506 : Cond.instanceMethod yX7_isKeeper ∈ z_wl := z_mem 506 (by decide +kernel)
theorem z_k507 : Cond.selects RX7 yX7_isKeeper yX7_isKeeper ∈ z_wl := z_mem 507 (by decide +kernel)
theorem z_k508 : Cond.code yX7_isKeeper cX7_isKeeper 2 (some .boolean) ∈ z_wl := z_mem 508 (by decide +kernel)
theorem z_k509 : Cond.methodLink RX8 69 yX7_askBy ∈ z_wl := z_mem 509 (by decide +kernel)
theorem z_k510 : Cond.instanceMethod yX7_askBy ∈ z_wl := z_mem 510 (by decide +kernel)
theorem z_k511 : Cond.selects RX7 yX7_askBy yX7_askBy ∈ z_wl := z_mem 511 (by decide +kernel)
theorem z_k512 : Cond.code yX7_askBy cX7_askBy 5 (some .int) ∈ z_wl := z_mem 512 (by decide +kernel)
theorem z_k513 : Cond.methodLink RX7 92 yX3_countFull ∈ z_wl := z_mem 513 (by decide +kernel)
theorem z_k514 : Cond.instanceMethod yX3_countFull ∈ z_wl := z_mem 514 (by decide +kernel)
theorem z_k515 : Cond.selects RX3 yX3_countFull yX3_countFull ∈ z_wl := z_mem 515 (by decide +kernel)
theorem z_k516 : Cond.code yX3_countFull cX3_countFull 3 (some .int) ∈ z_wl := z_mem 516 (by decide +kernel)
theorem z_k517 : Cond.methodLink RX7 101 yX1_enterTerm ∈ z_wl := z_mem 517 (by decide +kernel)
theorem z_k518 : Cond.instanceMethod yX1_enterTerm ∈ z_wl := z_mem 518 (by decide +kernel)
theorem z_k519 : Cond.selects RX1 yX1_enterTerm yX1_enterTerm ∈ z_wl := z_mem 519 (by decide +kernel)
theorem z_k520 : Cond.code yX1_enterTerm cX1_enterTerm 2 none ∈ z_wl := z_mem 520 (by decide +kernel)
theorem z_k521 : Cond.methodLink RX7 111 yX7_sendAsk ∈ z_wl := z_mem 521 (by decide +kernel)
theorem z_k522 : Cond.instanceMethod yX7_sendAsk ∈ z_wl := z_mem 522 (by decide +kernel)
theorem z_k523 : Cond.selects RX7 yX7_sendAsk yX7_sendAsk ∈ z_wl := z_mem 523 (by decide +kernel)
theorem z_k524 : Cond.code yX7_sendAsk cX7_sendAsk 5 none ∈ z_wl := z_mem 524 (by decide +kernel)
theorem z_k525 : Cond.methodLink RX7 118 yX7_send ∈ z_wl := z_mem 525 (by decide +kernel)
theorem z_k526 : Cond.instanceMethod yX7_send ∈ z_wl := z_mem 526 (by decide +kernel)
theorem z_k527 : Cond.selects RX7 yX7_send yX7_send ∈ z_wl := z_mem 527 (by decide +kernel)
theorem z_k528 : Cond.code yX7_send cX7_send 6 (some (.object "LogKeepers$Letter")) ∈ z_wl := z_mem 528 (by decide +kernel)
theorem z_k529 : Cond.methodLink RX7 148 yX3_leastEmpty ∈ z_wl := z_mem 529 (by decide +kernel)
theorem z_k530 : Cond.instanceMethod yX3_leastEmpty ∈ z_wl := z_mem 530 (by decide +kernel)
theorem z_k531 : Cond.selects RX3 yX3_leastEmpty yX3_leastEmpty ∈ z_wl := z_mem 531 (by decide +kernel)
theorem z_k532 : Cond.code yX3_leastEmpty cX3_leastEmpty 2 (some .int) ∈ z_wl := z_mem 532 (by decide +kernel)
theorem z_k533 : Cond.methodLink RX7 155 yX2_write ∈ z_wl := z_mem 533 (by decide +kernel)
theorem z_k534 : Cond.instanceMethod yX2_write ∈ z_wl := z_mem 534 (by decide +kernel)
theorem z_k535 : Cond.selects RX2 yX2_write yX2_write ∈ z_wl := z_mem 535 (by decide +kernel)
theorem z_k536 : Cond.code yX2_write cX2_write 5 none ∈ z_wl := z_mem 536 (by decide +kernel)
theorem z_k537 : Cond.methodLink RX7 130 yX1_termOf ∈ z_wl := z_mem 537 (by decide +kernel)
theorem z_k538 : Cond.instanceMethod yX1_termOf ∈ z_wl := z_mem 538 (by decide +kernel)
theorem z_k539 : Cond.selects RX1 yX1_termOf yX1_termOf ∈ z_wl := z_mem 539 (by decide +kernel)
theorem z_k540 : Cond.code yX1_termOf cX1_termOf 3 (some .int) ∈ z_wl := z_mem 540 (by decide +kernel)
theorem z_k541 : Cond.methodLink RX1 85 yX1_placeOf ∈ z_wl := z_mem 541 (by decide +kernel)
theorem z_k542 : Cond.instanceMethod yX1_placeOf ∈ z_wl := z_mem 542 (by decide +kernel)
theorem z_k543 : Cond.selects RX1 yX1_placeOf yX1_placeOf ∈ z_wl := z_mem 543 (by decide +kernel)
theorem z_k544 : Cond.code yX1_placeOf cX1_placeOf 2 (some .int) ∈ z_wl := z_mem 544 (by decide +kernel)
theorem z_k545 : Cond.methodLink RX7 115 yX7_leadIfChosen ∈ z_wl := z_mem 545 (by decide +kernel)
theorem z_k546 : Cond.instanceMethod yX7_leadIfChosen ∈ z_wl := z_mem 546 (by decide +kernel)
theorem z_k547 : Cond.selects RX7 yX7_leadIfChosen yX7_leadIfChosen ∈ z_wl := z_mem 547 (by decide +kernel)
theorem z_k548 : Cond.code yX7_leadIfChosen cX7_leadIfChosen 2 none ∈ z_wl := z_mem 548 (by decide +kernel)
theorem z_k549 : Cond.methodLink RX7 137 yJ6_bitCount_0f7a4 ∈ z_wl := z_mem 549 (by decide +kernel)
theorem z_k550 : Cond.static yJ6_bitCount_0f7a4 ∈ z_wl := z_mem 550 (by decide +kernel)
theorem z_k551 : Cond.code yJ6_bitCount_0f7a4 cJ6_bitCount_0f7a4 1 (some .int) ∈ z_wl := z_mem 551 (by decide +kernel)
theorem z_k552 : Cond.constant RJ6 265 (1431655765) ∈ z_wl := z_mem 552 (by decide +kernel)
theorem z_k553 : Cond.constant RJ6 266 (858993459) ∈ z_wl := z_mem 553 (by decide +kernel)
theorem z_k554 : Cond.constant RJ6 267 (252645135) ∈ z_wl := z_mem 554 (by decide +kernel)
theorem z_k555 : Cond.methodLink RX7 142 yX7_most ∈ z_wl := z_mem 555 (by decide +kernel)
theorem z_k556 : Cond.instanceMethod yX7_most ∈ z_wl := z_mem 556 (by decide +kernel)
theorem z_k557 : Cond.selects RX7 yX7_most yX7_most ∈ z_wl := z_mem 557 (by decide +kernel)
theorem z_k558 : Cond.code yX7_most cX7_most 1 (some .int) ∈ z_wl := z_mem 558 (by decide +kernel)
theorem z_k559 : Cond.methodLink RX7 145 yX1_lead ∈ z_wl := z_mem 559 (by decide +kernel)
theorem z_k560 : Cond.instanceMethod yX1_lead ∈ z_wl := z_mem 560 (by decide +kernel)
theorem z_k561 : Cond.selects RX1 yX1_lead yX1_lead ∈ z_wl := z_mem 561 (by decide +kernel)
theorem z_k562 : Cond.code yX1_lead cX1_lead 2 none ∈ z_wl := z_mem 562 (by decide +kernel)
theorem z_k563 : Cond.methodLink RL 36 yX8_deliver ∈ z_wl := z_mem 563 (by decide +kernel)
theorem z_k564 : Cond.instanceMethod yX8_deliver ∈ z_wl := z_mem 564 (by decide +kernel)
theorem z_k565 : Cond.selects RX8 yX8_deliver yX8_deliver ∈ z_wl := z_mem 565 (by decide +kernel)
theorem z_k566 : Cond.code yX8_deliver cX8_deliver 2 (some .int) ∈ z_wl := z_mem 566 (by decide +kernel)
theorem z_k567 : Cond.methodLink RX8 77 yX3_isFull ∈ z_wl := z_mem 567 (by decide +kernel)
theorem z_k568 : Cond.instanceMethod yX3_isFull ∈ z_wl := z_mem 568 (by decide +kernel)
theorem z_k569 : Cond.selects RX3 yX3_isFull yX3_isFull ∈ z_wl := z_mem 569 (by decide +kernel)
theorem z_k570 : Cond.code yX3_isFull cX3_isFull 2 (some .boolean) ∈ z_wl := z_mem 570 (by decide +kernel)
theorem z_k571 : Cond.methodLink RX8 82 yX7_deliverFrom ∈ z_wl := z_mem 571 (by decide +kernel)
theorem z_k572 : Cond.instanceMethod yX7_deliverFrom ∈ z_wl := z_mem 572 (by decide +kernel)
theorem z_k573 : Cond.selects RX7 yX7_deliverFrom yX7_deliverFrom ∈ z_wl := z_mem 573 (by decide +kernel)
theorem z_k574 : Cond.code yX7_deliverFrom cX7_deliverFrom 4 (some .int) ∈ z_wl := z_mem 574 (by decide +kernel)
theorem z_k575 : Cond.methodLink RX7 201 yX3_takeOut ∈ z_wl := z_mem 575 (by decide +kernel)
theorem z_k576 : Cond.instanceMethod yX3_takeOut ∈ z_wl := z_mem 576 (by decide +kernel)
theorem z_k577 : Cond.selects RX3 yX3_takeOut yX3_takeOut ∈ z_wl := z_mem 577 (by decide +kernel)
theorem z_k578 : Cond.code yX3_takeOut cX3_takeOut 2 (some (.object "LogKeepers$Letter")) ∈ z_wl := z_mem 578 (by decide +kernel)
theorem z_k579 : Cond.methodLink RX3 30 yX3_isFull ∈ z_wl := z_mem 579 (by decide +kernel)
theorem z_k580 : Cond.methodLink RX3 26 yX2_copyFrom ∈ z_wl := z_mem 580 (by decide +kernel)
theorem z_k581 : Cond.instanceMethod yX2_copyFrom ∈ z_wl := z_mem 581 (by decide +kernel)
theorem z_k582 : Cond.selects RX2 yX2_copyFrom yX2_copyFrom ∈ z_wl := z_mem 582 (by decide +kernel)
theorem z_k583 : Cond.code yX2_copyFrom cX2_copyFrom 2 none ∈ z_wl := z_mem 583 (by decide +kernel)
theorem z_k584 : Cond.methodLink RX2 50 arraycopyName ∈ z_wl := z_mem 584 (by decide +kernel)
theorem z_k585 : Cond.static arraycopyName ∈ z_wl := z_mem 585 (by decide +kernel)
theorem z_k586 : Cond.native arraycopyName ∈ z_wl := z_mem 586 (by decide +kernel)
theorem z_k587 : Cond.methodLink RX2 56 yX5_copyFrom ∈ z_wl := z_mem 587 (by decide +kernel)
theorem z_k588 : Cond.instanceMethod yX5_copyFrom ∈ z_wl := z_mem 588 (by decide +kernel)
theorem z_k589 : Cond.selects RX5 yX5_copyFrom yX5_copyFrom ∈ z_wl := z_mem 589 (by decide +kernel)
theorem z_k590 : Cond.code yX5_copyFrom cX5_copyFrom 2 none ∈ z_wl := z_mem 590 (by decide +kernel)
theorem z_k591 : Cond.methodLink RX5 15 arraycopyName ∈ z_wl := z_mem 591 (by decide +kernel)
theorem z_k592 : Cond.methodLink RX7 86 yX7_isUp ∈ z_wl := z_mem 592 (by decide +kernel)
theorem z_k593 : Cond.instanceMethod yX7_isUp ∈ z_wl := z_mem 593 (by decide +kernel)
theorem z_k594 : Cond.selects RX7 yX7_isUp yX7_isUp ∈ z_wl := z_mem 594 (by decide +kernel)
theorem z_k595 : Cond.code yX7_isUp cX7_isUp 2 (some .boolean) ∈ z_wl := z_mem 595 (by decide +kernel)
theorem z_k596 : Cond.methodLink RX7 78 yX7_isKeeper ∈ z_wl := z_mem 596 (by decide +kernel)
theorem z_k597 : Cond.methodLink RX7 212 yX7_takeAsk ∈ z_wl := z_mem 597 (by decide +kernel)
theorem z_k598 : Cond.instanceMethod yX7_takeAsk ∈ z_wl := z_mem 598 (by decide +kernel)
theorem z_k599 : Cond.selects RX7 yX7_takeAsk yX7_takeAsk ∈ z_wl := z_mem 599 (by decide +kernel)
theorem z_k600 : Cond.code yX7_takeAsk cX7_takeAsk 5 (some .int) ∈ z_wl := z_mem 600 (by decide +kernel)
theorem z_k601 : Cond.methodLink RX7 225 yX7_isAhead ∈ z_wl := z_mem 601 (by decide +kernel)
theorem z_k602 : Cond.instanceMethod yX7_isAhead ∈ z_wl := z_mem 602 (by decide +kernel)
theorem z_k603 : Cond.selects RX7 yX7_isAhead yX7_isAhead ∈ z_wl := z_mem 603 (by decide +kernel)
theorem z_k604 : Cond.code yX7_isAhead cX7_isAhead 4 (some .boolean) ∈ z_wl := z_mem 604 (by decide +kernel)
theorem z_k605 : Cond.methodLink RX7 229 yX7_reply ∈ z_wl := z_mem 605 (by decide +kernel)
theorem z_k606 : Cond.instanceMethod yX7_reply ∈ z_wl := z_mem 606 (by decide +kernel)
theorem z_k607 : Cond.selects RX7 yX7_reply yX7_reply ∈ z_wl := z_mem 607 (by decide +kernel)
theorem z_k608 : Cond.code yX7_reply cX7_reply 6 (some .int) ∈ z_wl := z_mem 608 (by decide +kernel)
theorem z_k609 : Cond.methodLink RX7 216 yX7_takeBallot ∈ z_wl := z_mem 609 (by decide +kernel)
theorem z_k610 : Cond.instanceMethod yX7_takeBallot ∈ z_wl := z_mem 610 (by decide +kernel)
theorem z_k611 : Cond.selects RX7 yX7_takeBallot yX7_takeBallot ∈ z_wl := z_mem 611 (by decide +kernel)
theorem z_k612 : Cond.code yX7_takeBallot cX7_takeBallot 3 (some .int) ∈ z_wl := z_mem 612 (by decide +kernel)
theorem z_k613 : Cond.methodLink RX7 219 yX7_takeAnswer ∈ z_wl := z_mem 613 (by decide +kernel)
theorem z_k614 : Cond.instanceMethod yX7_takeAnswer ∈ z_wl := z_mem 614 (by decide +kernel)
theorem z_k615 : Cond.selects RX7 yX7_takeAnswer yX7_takeAnswer ∈ z_wl := z_mem 615 (by decide +kernel)
theorem z_k616 : Cond.code yX7_takeAnswer cX7_takeAnswer 4 (some .int) ∈ z_wl := z_mem 616 (by decide +kernel)
theorem z_k617 : Cond.methodLink RX7 236 yJ9_max_7cf53 ∈ z_wl := z_mem 617 (by decide +kernel)
theorem z_k618 : Cond.static yJ9_max_7cf53 ∈ z_wl := z_mem 618 (by decide +kernel)
theorem z_k619 : Cond.code yJ9_max_7cf53 cJ9_max_7cf53 2 (some .int) ∈ z_wl := z_mem 619 (by decide +kernel)
theorem z_k620 : Cond.methodLink RX7 166 yX7_settle ∈ z_wl := z_mem 620 (by decide +kernel)
theorem z_k621 : Cond.instanceMethod yX7_settle ∈ z_wl := z_mem 621 (by decide +kernel)
theorem z_k622 : Cond.selects RX7 yX7_settle yX7_settle ∈ z_wl := z_mem 622 (by decide +kernel)
theorem z_k623 : Cond.code yX7_settle cX7_settle 4 none ∈ z_wl := z_mem 623 (by decide +kernel)
theorem z_k624 : Cond.methodLink RX7 172 yX7_countSure ∈ z_wl := z_mem 624 (by decide +kernel)
theorem z_k625 : Cond.instanceMethod yX7_countSure ∈ z_wl := z_mem 625 (by decide +kernel)
theorem z_k626 : Cond.selects RX7 yX7_countSure yX7_countSure ∈ z_wl := z_mem 626 (by decide +kernel)
theorem z_k627 : Cond.code yX7_countSure cX7_countSure 5 (some .int) ∈ z_wl := z_mem 627 (by decide +kernel)
theorem z_k628 : Cond.methodLink RX7 175 yX1_advanceTo ∈ z_wl := z_mem 628 (by decide +kernel)
theorem z_k629 : Cond.instanceMethod yX1_advanceTo ∈ z_wl := z_mem 629 (by decide +kernel)
theorem z_k630 : Cond.selects RX1 yX1_advanceTo yX1_advanceTo ∈ z_wl := z_mem 630 (by decide +kernel)
theorem z_k631 : Cond.code yX1_advanceTo cX1_advanceTo 2 none ∈ z_wl := z_mem 631 (by decide +kernel)
theorem z_k632 : Cond.methodLink RX1 103 yX5_take ∈ z_wl := z_mem 632 (by decide +kernel)
theorem z_k633 : Cond.instanceMethod yX5_take ∈ z_wl := z_mem 633 (by decide +kernel)
theorem z_k634 : Cond.selects RX5 yX5_take yX5_take ∈ z_wl := z_mem 634 (by decide +kernel)
theorem z_k635 : Cond.code yX5_take cX5_take 7 none ∈ z_wl := z_mem 635 (by decide +kernel)
theorem z_k637 : Cond.static yX8_isClient ∈ z_wl := z_mem 637 (by decide +kernel)
theorem z_k638 : Cond.code yX8_isClient cX8_isClient 1 (some .boolean) ∈ z_wl := z_mem 638 (by decide +kernel)
theorem z_k640 : Cond.static yX8_isCell ∈ z_wl := z_mem 640 (by decide +kernel)
theorem z_k641 : Cond.code yX8_isCell cX8_isCell 1 (some .boolean) ∈ z_wl := z_mem 641 (by decide +kernel)
theorem z_k643 : Cond.static yX8_cellBehind ∈ z_wl := z_mem 643 (by decide +kernel)
theorem z_k644 : Cond.code yX8_cellBehind cX8_cellBehind 3 (some .int) ∈ z_wl := z_mem 644 (by decide +kernel)
theorem z_k645 : Cond.methodLink RX8 243 yJ9_max_7cf53 ∈ z_wl := z_mem 645 (by decide +kernel)
theorem z_k647 : Cond.static yX8_answerTo ∈ z_wl := z_mem 647 (by decide +kernel)
theorem z_k648 : Cond.code yX8_answerTo cX8_answerTo 3 (some .int) ∈ z_wl := z_mem 648 (by decide +kernel)
theorem z_k649 : Cond.methodLink RX7 222 yX7_takeFromLeader ∈ z_wl := z_mem 649 (by decide +kernel)
theorem z_k650 : Cond.instanceMethod yX7_takeFromLeader ∈ z_wl := z_mem 650 (by decide +kernel)
theorem z_k651 : Cond.selects RX7 yX7_takeFromLeader yX7_takeFromLeader ∈ z_wl := z_mem 651 (by decide +kernel)
theorem z_k652 : Cond.code yX7_takeFromLeader cX7_takeFromLeader 3 (some .int) ∈ z_wl := z_mem 652 (by decide +kernel)
theorem z_k653 : Cond.methodLink RX7 239 yX1_follow ∈ z_wl := z_mem 653 (by decide +kernel)
theorem z_k654 : Cond.methodLink RX7 242 yX7_takeFolding ∈ z_wl := z_mem 654 (by decide +kernel)
theorem z_k655 : Cond.instanceMethod yX7_takeFolding ∈ z_wl := z_mem 655 (by decide +kernel)
theorem z_k656 : Cond.selects RX7 yX7_takeFolding yX7_takeFolding ∈ z_wl := z_mem 656 (by decide +kernel)
theorem z_k657 : Cond.code yX7_takeFolding cX7_takeFolding 3 (some .int) ∈ z_wl := z_mem 657 (by decide +kernel)
theorem z_k658 : Cond.methodLink RX7 252 yX1_takeFold ∈ z_wl := z_mem 658 (by decide +kernel)
theorem z_k659 : Cond.instanceMethod yX1_takeFold ∈ z_wl := z_mem 659 (by decide +kernel)
theorem z_k660 : Cond.selects RX1 yX1_takeFold yX1_takeFold ∈ z_wl := z_mem 660 (by decide +kernel)
theorem z_k661 : Cond.code yX1_takeFold cX1_takeFold 4 none ∈ z_wl := z_mem 661 (by decide +kernel)
theorem z_k662 : Cond.methodLink RX1 107 yX1_termOf ∈ z_wl := z_mem 662 (by decide +kernel)
theorem z_k663 : Cond.methodLink RX1 110 yX1_forgetUpTo ∈ z_wl := z_mem 663 (by decide +kernel)
theorem z_k664 : Cond.instanceMethod yX1_forgetUpTo ∈ z_wl := z_mem 664 (by decide +kernel)
theorem z_k665 : Cond.selects RX1 yX1_forgetUpTo yX1_forgetUpTo ∈ z_wl := z_mem 665 (by decide +kernel)
theorem z_k666 : Cond.code yX1_forgetUpTo cX1_forgetUpTo 3 none ∈ z_wl := z_mem 666 (by decide +kernel)
theorem z_k667 : Cond.methodLink RX1 75 arraycopyName ∈ z_wl := z_mem 667 (by decide +kernel)
theorem z_k668 : Cond.methodLink RX1 81 yX5_copyFrom ∈ z_wl := z_mem 668 (by decide +kernel)
theorem z_k669 : Cond.methodLink RX7 245 yX7_takeAppend ∈ z_wl := z_mem 669 (by decide +kernel)
theorem z_k670 : Cond.instanceMethod yX7_takeAppend ∈ z_wl := z_mem 670 (by decide +kernel)
theorem z_k671 : Cond.selects RX7 yX7_takeAppend yX7_takeAppend ∈ z_wl := z_mem 671 (by decide +kernel)
theorem z_k672 : Cond.code yX7_takeAppend cX7_takeAppend 5 (some .int) ∈ z_wl := z_mem 672 (by decide +kernel)
theorem z_k673 : Cond.methodLink RX7 255 yX1_cutFrom ∈ z_wl := z_mem 673 (by decide +kernel)
theorem z_k674 : Cond.instanceMethod yX1_cutFrom ∈ z_wl := z_mem 674 (by decide +kernel)
theorem z_k675 : Cond.selects RX1 yX1_cutFrom yX1_cutFrom ∈ z_wl := z_mem 675 (by decide +kernel)
theorem z_k676 : Cond.code yX1_cutFrom cX1_cutFrom 2 none ∈ z_wl := z_mem 676 (by decide +kernel)
theorem z_k677 : Cond.methodLink RX1 94 yJ9_max_7cf53 ∈ z_wl := z_mem 677 (by decide +kernel)
theorem z_k678 : Cond.methodLink RX1 100 yJ9_min_7cf53 ∈ z_wl := z_mem 678 (by decide +kernel)
theorem z_k679 : Cond.methodLink RX7 258 yX7_takeEntries ∈ z_wl := z_mem 679 (by decide +kernel)
theorem z_k680 : Cond.instanceMethod yX7_takeEntries ∈ z_wl := z_mem 680 (by decide +kernel)
theorem z_k681 : Cond.selects RX7 yX7_takeEntries yX7_takeEntries ∈ z_wl := z_mem 681 (by decide +kernel)
theorem z_k682 : Cond.code yX7_takeEntries cX7_takeEntries 7 (some .int) ∈ z_wl := z_mem 682 (by decide +kernel)
theorem z_k683 : Cond.methodLink RX7 262 yX2_termAt ∈ z_wl := z_mem 683 (by decide +kernel)
theorem z_k684 : Cond.instanceMethod yX2_termAt ∈ z_wl := z_mem 684 (by decide +kernel)
theorem z_k685 : Cond.selects RX2 yX2_termAt yX2_termAt ∈ z_wl := z_mem 685 (by decide +kernel)
theorem z_k686 : Cond.code yX2_termAt cX2_termAt 2 (some .int) ∈ z_wl := z_mem 686 (by decide +kernel)
theorem z_k687 : Cond.methodLink RX7 159 yX1_grow ∈ z_wl := z_mem 687 (by decide +kernel)
theorem z_k688 : Cond.instanceMethod yX1_grow ∈ z_wl := z_mem 688 (by decide +kernel)
theorem z_k689 : Cond.selects RX1 yX1_grow yX1_grow ∈ z_wl := z_mem 689 (by decide +kernel)
theorem z_k690 : Cond.code yX1_grow cX1_grow 1 (some .int) ∈ z_wl := z_mem 690 (by decide +kernel)
theorem z_k691 : Cond.methodLink RX1 90 yX1_hasRoom ∈ z_wl := z_mem 691 (by decide +kernel)
theorem z_k692 : Cond.instanceMethod yX1_hasRoom ∈ z_wl := z_mem 692 (by decide +kernel)
theorem z_k693 : Cond.selects RX1 yX1_hasRoom yX1_hasRoom ∈ z_wl := z_mem 693 (by decide +kernel)
theorem z_k694 : Cond.code yX1_hasRoom cX1_hasRoom 1 (some .boolean) ∈ z_wl := z_mem 694 (by decide +kernel)
theorem z_k695 : Cond.methodLink RX7 266 arraycopyName ∈ z_wl := z_mem 695 (by decide +kernel)
theorem z_k696 : Cond.methodLink RL 40 yX8_drop ∈ z_wl := z_mem 696 (by decide +kernel)
theorem z_k697 : Cond.instanceMethod yX8_drop ∈ z_wl := z_mem 697 (by decide +kernel)
theorem z_k698 : Cond.selects RX8 yX8_drop yX8_drop ∈ z_wl := z_mem 698 (by decide +kernel)
theorem z_k699 : Cond.code yX8_drop cX8_drop 3 (some .int) ∈ z_wl := z_mem 699 (by decide +kernel)
theorem z_k700 : Cond.methodLink RL 44 yX8_twice ∈ z_wl := z_mem 700 (by decide +kernel)
theorem z_k701 : Cond.instanceMethod yX8_twice ∈ z_wl := z_mem 701 (by decide +kernel)
theorem z_k702 : Cond.selects RX8 yX8_twice yX8_twice ∈ z_wl := z_mem 702 (by decide +kernel)
theorem z_k703 : Cond.code yX8_twice cX8_twice 3 (some .int) ∈ z_wl := z_mem 703 (by decide +kernel)
theorem z_k704 : Cond.methodLink RX8 94 yX3_leastEmpty ∈ z_wl := z_mem 704 (by decide +kernel)
theorem z_k705 : Cond.methodLink RX8 98 yX2_copyFrom ∈ z_wl := z_mem 705 (by decide +kernel)
theorem z_k706 : Cond.methodLink RL 48 yX8_fall ∈ z_wl := z_mem 706 (by decide +kernel)
theorem z_k707 : Cond.instanceMethod yX8_fall ∈ z_wl := z_mem 707 (by decide +kernel)
theorem z_k708 : Cond.selects RX8 yX8_fall yX8_fall ∈ z_wl := z_mem 708 (by decide +kernel)
theorem z_k709 : Cond.code yX8_fall cX8_fall 2 (some .boolean) ∈ z_wl := z_mem 709 (by decide +kernel)
theorem z_k710 : Cond.methodLink RX8 102 yX7_isUp ∈ z_wl := z_mem 710 (by decide +kernel)
theorem z_k711 : Cond.methodLink RX8 109 yX1_goDown ∈ z_wl := z_mem 711 (by decide +kernel)
theorem z_k712 : Cond.instanceMethod yX1_goDown ∈ z_wl := z_mem 712 (by decide +kernel)
theorem z_k713 : Cond.selects RX1 yX1_goDown yX1_goDown ∈ z_wl := z_mem 713 (by decide +kernel)
theorem z_k714 : Cond.code yX1_goDown cX1_goDown 1 none ∈ z_wl := z_mem 714 (by decide +kernel)
theorem z_k715 : Cond.methodLink RL 53 yX8_rise ∈ z_wl := z_mem 715 (by decide +kernel)
theorem z_k716 : Cond.instanceMethod yX8_rise ∈ z_wl := z_mem 716 (by decide +kernel)
theorem z_k717 : Cond.selects RX8 yX8_rise yX8_rise ∈ z_wl := z_mem 717 (by decide +kernel)
theorem z_k718 : Cond.code yX8_rise cX8_rise 2 (some .boolean) ∈ z_wl := z_mem 718 (by decide +kernel)
theorem z_k719 : Cond.methodLink RL 57 yX8_command ∈ z_wl := z_mem 719 (by decide +kernel)
theorem z_k720 : Cond.instanceMethod yX8_command ∈ z_wl := z_mem 720 (by decide +kernel)
theorem z_k721 : Cond.selects RX8 yX8_command yX8_command ∈ z_wl := z_mem 721 (by decide +kernel)
theorem z_k722 : Cond.code yX8_command cX8_command 7 (some .int) ∈ z_wl := z_mem 722 (by decide +kernel)
theorem z_k723 : Cond.methodLink RX8 118 yX7_isLeading ∈ z_wl := z_mem 723 (by decide +kernel)
theorem z_k724 : Cond.instanceMethod yX7_isLeading ∈ z_wl := z_mem 724 (by decide +kernel)
theorem z_k725 : Cond.selects RX7 yX7_isLeading yX7_isLeading ∈ z_wl := z_mem 725 (by decide +kernel)
theorem z_k726 : Cond.code yX7_isLeading cX7_isLeading 2 (some .boolean) ∈ z_wl := z_mem 726 (by decide +kernel)
theorem z_k727 : Cond.methodLink RX8 121 yX8_canBe ∈ z_wl := z_mem 727 (by decide +kernel)
theorem z_k728 : Cond.static yX8_canBe ∈ z_wl := z_mem 728 (by decide +kernel)
theorem z_k729 : Cond.code yX8_canBe cX8_canBe 4 (some .boolean) ∈ z_wl := z_mem 729 (by decide +kernel)
theorem z_k730 : Cond.methodLink RX8 182 yX8_isClient ∈ z_wl := z_mem 730 (by decide +kernel)
theorem z_k731 : Cond.methodLink RX8 202 yX8_isWhat ∈ z_wl := z_mem 731 (by decide +kernel)
theorem z_k732 : Cond.static yX8_isWhat ∈ z_wl := z_mem 732 (by decide +kernel)
theorem z_k733 : Cond.code yX8_isWhat cX8_isWhat 1 (some .boolean) ∈ z_wl := z_mem 733 (by decide +kernel)
theorem z_k734 : Cond.methodLink RX8 145 yX8_isCell ∈ z_wl := z_mem 734 (by decide +kernel)
theorem z_k735 : Cond.methodLink RX8 125 yX7_addCommand ∈ z_wl := z_mem 735 (by decide +kernel)
theorem z_k736 : Cond.instanceMethod yX7_addCommand ∈ z_wl := z_mem 736 (by decide +kernel)
theorem z_k737 : Cond.selects RX7 yX7_addCommand yX7_addCommand ∈ z_wl := z_mem 737 (by decide +kernel)
theorem z_k738 : Cond.code yX7_addCommand cX7_addCommand 9 (some .int) ∈ z_wl := z_mem 738 (by decide +kernel)
theorem z_k739 : Cond.methodLink RL 62 yX8_append ∈ z_wl := z_mem 739 (by decide +kernel)
theorem z_k740 : Cond.instanceMethod yX8_append ∈ z_wl := z_mem 740 (by decide +kernel)
theorem z_k741 : Cond.selects RX8 yX8_append yX8_append ∈ z_wl := z_mem 741 (by decide +kernel)
theorem z_k742 : Cond.code yX8_append cX8_append 3 (some .int) ∈ z_wl := z_mem 742 (by decide +kernel)
theorem z_k743 : Cond.methodLink RX8 129 yX7_sendOn ∈ z_wl := z_mem 743 (by decide +kernel)
theorem z_k744 : Cond.instanceMethod yX7_sendOn ∈ z_wl := z_mem 744 (by decide +kernel)
theorem z_k745 : Cond.selects RX7 yX7_sendOn yX7_sendOn ∈ z_wl := z_mem 745 (by decide +kernel)
theorem z_k746 : Cond.code yX7_sendOn cX7_sendOn 6 (some .int) ∈ z_wl := z_mem 746 (by decide +kernel)
theorem z_k747 : Cond.methodLink RX7 194 yX2_takeFold ∈ z_wl := z_mem 747 (by decide +kernel)
theorem z_k748 : Cond.instanceMethod yX2_takeFold ∈ z_wl := z_mem 748 (by decide +kernel)
theorem z_k749 : Cond.selects RX2 yX2_takeFold yX2_takeFold ∈ z_wl := z_mem 749 (by decide +kernel)
theorem z_k750 : Cond.code yX2_takeFold cX2_takeFold 2 none ∈ z_wl := z_mem 750 (by decide +kernel)
theorem z_k751 : Cond.methodLink RX7 197 yX2_takeEntries ∈ z_wl := z_mem 751 (by decide +kernel)
theorem z_k752 : Cond.instanceMethod yX2_takeEntries ∈ z_wl := z_mem 752 (by decide +kernel)
theorem z_k753 : Cond.selects RX2 yX2_takeEntries yX2_takeEntries ∈ z_wl := z_mem 753 (by decide +kernel)
theorem z_k754 : Cond.code yX2_takeEntries cX2_takeEntries 5 none ∈ z_wl := z_mem 754 (by decide +kernel)
theorem z_k755 : Cond.methodLink RX2 71 yX1_termOf ∈ z_wl := z_mem 755 (by decide +kernel)
theorem z_k756 : Cond.methodLink RX2 76 yX1_placeOf ∈ z_wl := z_mem 756 (by decide +kernel)
theorem z_k757 : Cond.methodLink RL 67 yX8_fold ∈ z_wl := z_mem 757 (by decide +kernel)
theorem z_k758 : Cond.instanceMethod yX8_fold ∈ z_wl := z_mem 758 (by decide +kernel)
theorem z_k759 : Cond.selects RX8 yX8_fold yX8_fold ∈ z_wl := z_mem 759 (by decide +kernel)
theorem z_k760 : Cond.code yX8_fold cX8_fold 4 (some .int) ∈ z_wl := z_mem 760 (by decide +kernel)
theorem z_k761 : Cond.methodLink RX8 139 yX1_foldUpTo ∈ z_wl := z_mem 761 (by decide +kernel)
theorem z_k762 : Cond.instanceMethod yX1_foldUpTo ∈ z_wl := z_mem 762 (by decide +kernel)
theorem z_k763 : Cond.selects RX1 yX1_foldUpTo yX1_foldUpTo ∈ z_wl := z_mem 763 (by decide +kernel)
theorem z_k764 : Cond.code yX1_foldUpTo cX1_foldUpTo 4 none ∈ z_wl := z_mem 764 (by decide +kernel)
theorem z_k765 : Cond.methodLink RL 71 yX8_read ∈ z_wl := z_mem 765 (by decide +kernel)
theorem z_k766 : Cond.instanceMethod yX8_read ∈ z_wl := z_mem 766 (by decide +kernel)
theorem z_k767 : Cond.selects RX8 yX8_read yX8_read ∈ z_wl := z_mem 767 (by decide +kernel)
theorem z_k768 : Cond.code yX8_read cX8_read 3 (some .int) ∈ z_wl := z_mem 768 (by decide +kernel)
theorem z_k769 : Cond.methodLink RX8 148 yX7_beginRead ∈ z_wl := z_mem 769 (by decide +kernel)
theorem z_k770 : Cond.instanceMethod yX7_beginRead ∈ z_wl := z_mem 770 (by decide +kernel)
theorem z_k771 : Cond.selects RX7 yX7_beginRead yX7_beginRead ∈ z_wl := z_mem 771 (by decide +kernel)
theorem z_k772 : Cond.code yX7_beginRead cX7_beginRead 4 (some .int) ∈ z_wl := z_mem 772 (by decide +kernel)
theorem z_k773 : Cond.methodLink RX7 272 yX4_add ∈ z_wl := z_mem 773 (by decide +kernel)
theorem z_k774 : Cond.instanceMethod yX4_add ∈ z_wl := z_mem 774 (by decide +kernel)
theorem z_k775 : Cond.selects RX4 yX4_add yX4_add ∈ z_wl := z_mem 775 (by decide +kernel)
theorem z_k776 : Cond.code yX4_add cX4_add 5 (some .int) ∈ z_wl := z_mem 776 (by decide +kernel)
theorem z_k777 : Cond.methodLink RL 75 yX8_good ∈ z_wl := z_mem 777 (by decide +kernel)
theorem z_k778 : Cond.instanceMethod yX8_good ∈ z_wl := z_mem 778 (by decide +kernel)
theorem z_k779 : Cond.selects RX8 yX8_good yX8_good ∈ z_wl := z_mem 779 (by decide +kernel)
theorem z_k780 : Cond.code yX8_good cX8_good 2 (some .int) ∈ z_wl := z_mem 780 (by decide +kernel)
theorem z_k781 : Cond.methodLink RX8 155 yX4_isThere ∈ z_wl := z_mem 781 (by decide +kernel)
theorem z_k782 : Cond.instanceMethod yX4_isThere ∈ z_wl := z_mem 782 (by decide +kernel)
theorem z_k783 : Cond.selects RX4 yX4_isThere yX4_isThere ∈ z_wl := z_mem 783 (by decide +kernel)
theorem z_k784 : Cond.code yX4_isThere cX4_isThere 2 (some .boolean) ∈ z_wl := z_mem 784 (by decide +kernel)
theorem z_k785 : Cond.methodLink RX8 160 yX7_isGood ∈ z_wl := z_mem 785 (by decide +kernel)
theorem z_k786 : Cond.instanceMethod yX7_isGood ∈ z_wl := z_mem 786 (by decide +kernel)
theorem z_k787 : Cond.selects RX7 yX7_isGood yX7_isGood ∈ z_wl := z_mem 787 (by decide +kernel)
theorem z_k788 : Cond.code yX7_isGood cX7_isGood 5 (some .boolean) ∈ z_wl := z_mem 788 (by decide +kernel)
theorem z_k789 : Cond.methodLink RX7 279 yX7_isLeading ∈ z_wl := z_mem 789 (by decide +kernel)
theorem z_k790 : Cond.methodLink RX8 163 yX7_readCell ∈ z_wl := z_mem 790 (by decide +kernel)
theorem z_k791 : Cond.instanceMethod yX7_readCell ∈ z_wl := z_mem 791 (by decide +kernel)
theorem z_k792 : Cond.selects RX7 yX7_readCell yX7_readCell ∈ z_wl := z_mem 792 (by decide +kernel)
theorem z_k793 : Cond.code yX7_readCell cX7_readCell 3 (some .int) ∈ z_wl := z_mem 793 (by decide +kernel)
theorem z_k794 : Cond.methodLink RX7 292 yX5_cellAt ∈ z_wl := z_mem 794 (by decide +kernel)
theorem z_k795 : Cond.instanceMethod yX5_cellAt ∈ z_wl := z_mem 795 (by decide +kernel)
theorem z_k796 : Cond.selects RX5 yX5_cellAt yX5_cellAt ∈ z_wl := z_mem 796 (by decide +kernel)
theorem z_k797 : Cond.code yX5_cellAt cX5_cellAt 2 (some .int) ∈ z_wl := z_mem 797 (by decide +kernel)
theorem z_k798 : Cond.constant RX5 25 (-1000000) ∈ z_wl := z_mem 798 (by decide +kernel)
theorem z_k799 : Cond.constant RX7 297 (-1000000) ∈ z_wl := z_mem 799 (by decide +kernel)
theorem z_k800 : Cond.constant RX8 166 (-1000000) ∈ z_wl := z_mem 800 (by decide +kernel)
theorem z_k801 : Cond.methodLink RL 79 yX8_keeper ∈ z_wl := z_mem 801 (by decide +kernel)
theorem z_k802 : Cond.instanceMethod yX8_keeper ∈ z_wl := z_mem 802 (by decide +kernel)
theorem z_k803 : Cond.selects RX8 yX8_keeper yX8_keeper ∈ z_wl := z_mem 803 (by decide +kernel)
theorem z_k804 : Cond.code yX8_keeper cX8_keeper 3 (some .int) ∈ z_wl := z_mem 804 (by decide +kernel)
theorem z_k805 : Cond.methodLink RX8 167 yX1_tell ∈ z_wl := z_mem 805 (by decide +kernel)
theorem z_k806 : Cond.instanceMethod yX1_tell ∈ z_wl := z_mem 806 (by decide +kernel)
theorem z_k807 : Cond.selects RX1 yX1_tell yX1_tell ∈ z_wl := z_mem 807 (by decide +kernel)
theorem z_k808 : Cond.code yX1_tell cX1_tell 2 (some .int) ∈ z_wl := z_mem 808 (by decide +kernel)
theorem z_k809 : Cond.methodLink RL 83 yX8_entry ∈ z_wl := z_mem 809 (by decide +kernel)
theorem z_k810 : Cond.instanceMethod yX8_entry ∈ z_wl := z_mem 810 (by decide +kernel)
theorem z_k811 : Cond.selects RX8 yX8_entry yX8_entry ∈ z_wl := z_mem 811 (by decide +kernel)
theorem z_k812 : Cond.code yX8_entry cX8_entry 4 (some .int) ∈ z_wl := z_mem 812 (by decide +kernel)
theorem z_k813 : Cond.methodLink RX8 170 yX1_part ∈ z_wl := z_mem 813 (by decide +kernel)
theorem z_k814 : Cond.instanceMethod yX1_part ∈ z_wl := z_mem 814 (by decide +kernel)
theorem z_k815 : Cond.selects RX1 yX1_part yX1_part ∈ z_wl := z_mem 815 (by decide +kernel)
theorem z_k816 : Cond.code yX1_part cX1_part 4 (some .int) ∈ z_wl := z_mem 816 (by decide +kernel)
theorem z_k817 : Cond.constant RX1 89 (-1000000) ∈ z_wl := z_mem 817 (by decide +kernel)
theorem z_k818 : Cond.methodLink RL 88 yX8_state ∈ z_wl := z_mem 818 (by decide +kernel)
theorem z_k819 : Cond.instanceMethod yX8_state ∈ z_wl := z_mem 819 (by decide +kernel)
theorem z_k820 : Cond.selects RX8 yX8_state yX8_state ∈ z_wl := z_mem 820 (by decide +kernel)
theorem z_k821 : Cond.code yX8_state cX8_state 3 (some .int) ∈ z_wl := z_mem 821 (by decide +kernel)
theorem z_k822 : Cond.methodLink RX8 177 yX5_cellAt ∈ z_wl := z_mem 822 (by decide +kernel)
theorem z_k823 : Cond.methodLink RL 92 yX8_client ∈ z_wl := z_mem 823 (by decide +kernel)
theorem z_k824 : Cond.instanceMethod yX8_client ∈ z_wl := z_mem 824 (by decide +kernel)
theorem z_k825 : Cond.selects RX8 yX8_client yX8_client ∈ z_wl := z_mem 825 (by decide +kernel)
theorem z_k826 : Cond.code yX8_client cX8_client 5 (some .int) ∈ z_wl := z_mem 826 (by decide +kernel)
theorem z_k827 : Cond.methodLink RX8 185 yX5_latestOf ∈ z_wl := z_mem 827 (by decide +kernel)
theorem z_k828 : Cond.instanceMethod yX5_latestOf ∈ z_wl := z_mem 828 (by decide +kernel)
theorem z_k829 : Cond.selects RX5 yX5_latestOf yX5_latestOf ∈ z_wl := z_mem 829 (by decide +kernel)
theorem z_k830 : Cond.code yX5_latestOf cX5_latestOf 2 (some .int) ∈ z_wl := z_mem 830 (by decide +kernel)
theorem z_k831 : Cond.methodLink RX8 188 yX5_answerOf ∈ z_wl := z_mem 831 (by decide +kernel)
theorem z_k832 : Cond.instanceMethod yX5_answerOf ∈ z_wl := z_mem 832 (by decide +kernel)
theorem z_k833 : Cond.selects RX5 yX5_answerOf yX5_answerOf ∈ z_wl := z_mem 833 (by decide +kernel)
theorem z_k834 : Cond.code yX5_answerOf cX5_answerOf 2 (some .int) ∈ z_wl := z_mem 834 (by decide +kernel)
theorem z_k835 : Cond.methodLink RL 96 yX8_peer ∈ z_wl := z_mem 835 (by decide +kernel)
theorem z_k836 : Cond.instanceMethod yX8_peer ∈ z_wl := z_mem 836 (by decide +kernel)
theorem z_k837 : Cond.selects RX8 yX8_peer yX8_peer ∈ z_wl := z_mem 837 (by decide +kernel)
theorem z_k838 : Cond.code yX8_peer cX8_peer 5 (some .int) ∈ z_wl := z_mem 838 (by decide +kernel)
theorem z_k839 : Cond.methodLink RL 100 yX8_slot ∈ z_wl := z_mem 839 (by decide +kernel)
theorem z_k840 : Cond.instanceMethod yX8_slot ∈ z_wl := z_mem 840 (by decide +kernel)
theorem z_k841 : Cond.selects RX8 yX8_slot yX8_slot ∈ z_wl := z_mem 841 (by decide +kernel)
theorem z_k842 : Cond.code yX8_slot cX8_slot 3 (some .int) ∈ z_wl := z_mem 842 (by decide +kernel)
theorem z_k843 : Cond.methodLink RX8 201 yX2_tell ∈ z_wl := z_mem 843 (by decide +kernel)
theorem z_k844 : Cond.instanceMethod yX2_tell ∈ z_wl := z_mem 844 (by decide +kernel)
theorem z_k845 : Cond.selects RX2 yX2_tell yX2_tell ∈ z_wl := z_mem 845 (by decide +kernel)
theorem z_k846 : Cond.code yX2_tell cX2_tell 2 (some .int) ∈ z_wl := z_mem 846 (by decide +kernel)
theorem z_k847 : Cond.methodLink RL 104 yX8_note ∈ z_wl := z_mem 847 (by decide +kernel)
theorem z_k848 : Cond.instanceMethod yX8_note ∈ z_wl := z_mem 848 (by decide +kernel)
theorem z_k849 : Cond.selects RX8 yX8_note yX8_note ∈ z_wl := z_mem 849 (by decide +kernel)
theorem z_k850 : Cond.code yX8_note cX8_note 6 (some .int) ∈ z_wl := z_mem 850 (by decide +kernel)
theorem z_k851 : Cond.methodLink RX8 205 yX0_isFull ∈ z_wl := z_mem 851 (by decide +kernel)
theorem z_k852 : Cond.instanceMethod yX0_isFull ∈ z_wl := z_mem 852 (by decide +kernel)
theorem z_k853 : Cond.selects RX0 yX0_isFull yX0_isFull ∈ z_wl := z_mem 853 (by decide +kernel)
theorem z_k854 : Cond.code yX0_isFull cX0_isFull 1 (some .boolean) ∈ z_wl := z_mem 854 (by decide +kernel)
theorem z_k855 : Cond.methodLink RX8 208 yX0_add ∈ z_wl := z_mem 855 (by decide +kernel)
theorem z_k856 : Cond.instanceMethod yX0_add ∈ z_wl := z_mem 856 (by decide +kernel)
theorem z_k857 : Cond.selects RX0 yX0_add yX0_add ∈ z_wl := z_mem 857 (by decide +kernel)
theorem z_k858 : Cond.code yX0_add cX0_add 6 (some .int) ∈ z_wl := z_mem 858 (by decide +kernel)
theorem z_k859 : Cond.methodLink RX0 37 yX0_isFull ∈ z_wl := z_mem 859 (by decide +kernel)
theorem z_k860 : Cond.methodLink RL 108 yX8_hush ∈ z_wl := z_mem 860 (by decide +kernel)
theorem z_k861 : Cond.instanceMethod yX8_hush ∈ z_wl := z_mem 861 (by decide +kernel)
theorem z_k862 : Cond.selects RX8 yX8_hush yX8_hush ∈ z_wl := z_mem 862 (by decide +kernel)
theorem z_k863 : Cond.code yX8_hush cX8_hush 1 (some .int) ∈ z_wl := z_mem 863 (by decide +kernel)
theorem z_k864 : Cond.methodLink RX8 212 yX0_clear ∈ z_wl := z_mem 864 (by decide +kernel)
theorem z_k865 : Cond.instanceMethod yX0_clear ∈ z_wl := z_mem 865 (by decide +kernel)
theorem z_k866 : Cond.selects RX0 yX0_clear yX0_clear ∈ z_wl := z_mem 866 (by decide +kernel)
theorem z_k867 : Cond.code yX0_clear cX0_clear 2 (some .int) ∈ z_wl := z_mem 867 (by decide +kernel)
theorem z_k868 : Cond.methodLink RL 112 yX8_judge ∈ z_wl := z_mem 868 (by decide +kernel)
theorem z_k869 : Cond.instanceMethod yX8_judge ∈ z_wl := z_mem 869 (by decide +kernel)
theorem z_k870 : Cond.selects RX8 yX8_judge yX8_judge ∈ z_wl := z_mem 870 (by decide +kernel)
theorem z_k871 : Cond.code yX8_judge cX8_judge 1 (some .int) ∈ z_wl := z_mem 871 (by decide +kernel)
theorem z_k872 : Cond.methodLink RX8 215 yX0_isRight ∈ z_wl := z_mem 872 (by decide +kernel)
theorem z_k873 : Cond.instanceMethod yX0_isRight ∈ z_wl := z_mem 873 (by decide +kernel)
theorem z_k874 : Cond.selects RX0 yX0_isRight yX0_isRight ∈ z_wl := z_mem 874 (by decide +kernel)
theorem z_k875 : Cond.code yX0_isRight cX0_isRight 2 (some .boolean) ∈ z_wl := z_mem 875 (by decide +kernel)
theorem z_k876 : Cond.methodLink RX0 45 yX0_canGoOn ∈ z_wl := z_mem 876 (by decide +kernel)
theorem z_k878 : Cond.instanceMethod yX0_canGoOn ∈ z_wl := z_mem 878 (by decide +kernel)
theorem z_k879 : Cond.code yX0_canGoOn cX0_canGoOn 8 (some .boolean) ∈ z_wl := z_mem 879 (by decide +kernel)
theorem z_k881 : Cond.methodLink RX0 56 yX0_canBeNext ∈ z_wl := z_mem 881 (by decide +kernel)
theorem z_k882 : Cond.instanceMethod yX0_canBeNext ∈ z_wl := z_mem 882 (by decide +kernel)
theorem z_k883 : Cond.selects RX0 yX0_canBeNext yX0_canBeNext ∈ z_wl := z_mem 883 (by decide +kernel)
theorem z_k884 : Cond.code yX0_canBeNext cX0_canBeNext 4 (some .boolean) ∈ z_wl := z_mem 884 (by decide +kernel)
theorem z_k886 : Cond.methodLink RL 116 yX8_order ∈ z_wl := z_mem 886 (by decide +kernel)
theorem z_k887 : Cond.instanceMethod yX8_order ∈ z_wl := z_mem 887 (by decide +kernel)
theorem z_k888 : Cond.selects RX8 yX8_order yX8_order ∈ z_wl := z_mem 888 (by decide +kernel)
theorem z_k889 : Cond.code yX8_order cX8_order 2 (some .int) ∈ z_wl := z_mem 889 (by decide +kernel)
theorem z_k890 : Cond.methodLink RL 120 yX8_image ∈ z_wl := z_mem 890 (by decide +kernel)
theorem z_k891 : Cond.instanceMethod yX8_image ∈ z_wl := z_mem 891 (by decide +kernel)
theorem z_k892 : Cond.selects RX8 yX8_image yX8_image ∈ z_wl := z_mem 892 (by decide +kernel)
theorem z_k893 : Cond.code yX8_image cX8_image 2 (some .int) ∈ z_wl := z_mem 893 (by decide +kernel)
theorem z_k894 : Cond.methodLink RX8 224 yX8_isBox ∈ z_wl := z_mem 894 (by decide +kernel)
theorem z_k895 : Cond.static yX8_isBox ∈ z_wl := z_mem 895 (by decide +kernel)
theorem z_k896 : Cond.code yX8_isBox cX8_isBox 1 (some .boolean) ∈ z_wl := z_mem 896 (by decide +kernel)
theorem z_k897 : Cond.methodLink RX8 227 yX7_copyFrom ∈ z_wl := z_mem 897 (by decide +kernel)
theorem z_k898 : Cond.instanceMethod yX7_copyFrom ∈ z_wl := z_mem 898 (by decide +kernel)
theorem z_k899 : Cond.selects RX7 yX7_copyFrom yX7_copyFrom ∈ z_wl := z_mem 899 (by decide +kernel)
theorem z_k900 : Cond.code yX7_copyFrom cX7_copyFrom 3 none ∈ z_wl := z_mem 900 (by decide +kernel)
theorem z_k901 : Cond.methodLink RX7 68 yX1_copyFrom ∈ z_wl := z_mem 901 (by decide +kernel)
theorem z_k902 : Cond.instanceMethod yX1_copyFrom ∈ z_wl := z_mem 902 (by decide +kernel)
theorem z_k903 : Cond.selects RX1 yX1_copyFrom yX1_copyFrom ∈ z_wl := z_mem 903 (by decide +kernel)
theorem z_k904 : Cond.code yX1_copyFrom cX1_copyFrom 2 none ∈ z_wl := z_mem 904 (by decide +kernel)
theorem z_k905 : Cond.methodLink RX7 72 yX3_copyFrom ∈ z_wl := z_mem 905 (by decide +kernel)
theorem z_k906 : Cond.instanceMethod yX3_copyFrom ∈ z_wl := z_mem 906 (by decide +kernel)
theorem z_k907 : Cond.selects RX3 yX3_copyFrom yX3_copyFrom ∈ z_wl := z_mem 907 (by decide +kernel)
theorem z_k908 : Cond.code yX3_copyFrom cX3_copyFrom 3 none ∈ z_wl := z_mem 908 (by decide +kernel)
theorem z_k909 : Cond.methodLink RX7 75 yX4_copyFrom ∈ z_wl := z_mem 909 (by decide +kernel)
theorem z_k910 : Cond.instanceMethod yX4_copyFrom ∈ z_wl := z_mem 910 (by decide +kernel)
theorem z_k911 : Cond.selects RX4 yX4_copyFrom yX4_copyFrom ∈ z_wl := z_mem 911 (by decide +kernel)
theorem z_k912 : Cond.code yX4_copyFrom cX4_copyFrom 2 none ∈ z_wl := z_mem 912 (by decide +kernel)
theorem z_k913 : Cond.methodLink RX4 28 arraycopyName ∈ z_wl := z_mem 913 (by decide +kernel)
theorem z_k914 : Cond.methodLink RX8 230 yX3_countFull ∈ z_wl := z_mem 914 (by decide +kernel)
theorem z_k915 : Cond.methodLink RL 124 yX8_back ∈ z_wl := z_mem 915 (by decide +kernel)
theorem z_k916 : Cond.instanceMethod yX8_back ∈ z_wl := z_mem 916 (by decide +kernel)
theorem z_k917 : Cond.selects RX8 yX8_back yX8_back ∈ z_wl := z_mem 917 (by decide +kernel)
theorem z_k918 : Cond.code yX8_back cX8_back 2 (some .int) ∈ z_wl := z_mem 918 (by decide +kernel)
theorem z_k919 : Cond.methodLink RL 128 yX8_about ∈ z_wl := z_mem 919 (by decide +kernel)
theorem z_k920 : Cond.instanceMethod yX8_about ∈ z_wl := z_mem 920 (by decide +kernel)
theorem z_k921 : Cond.selects RX8 yX8_about yX8_about ∈ z_wl := z_mem 921 (by decide +kernel)
theorem z_k922 : Cond.code yX8_about cX8_about 2 (some .int) ∈ z_wl := z_mem 922 (by decide +kernel)
theorem z_k923 : Cond.methodLink RX8 236 yX7_most ∈ z_wl := z_mem 923 (by decide +kernel)
theorem z_k924 : Cond.methodLink RX8 240 yX7_countUp ∈ z_wl := z_mem 924 (by decide +kernel)
theorem z_k925 : Cond.instanceMethod yX7_countUp ∈ z_wl := z_mem 925 (by decide +kernel)
theorem z_k926 : Cond.selects RX7 yX7_countUp yX7_countUp ∈ z_wl := z_mem 926 (by decide +kernel)
theorem z_k927 : Cond.code yX7_countUp cX7_countUp 3 (some .int) ∈ z_wl := z_mem 927 (by decide +kernel)
theorem z_k928 : Cond.classLink RL 10 RX9 ∈ z_wl := z_mem 928 (by decide +kernel)
theorem z_k929 : Cond.instantiable RX9 27 ∈ z_wl := z_mem 929 (by decide +kernel)
theorem z_k930 : Cond.methodLink RL 12 yX9_init ∈ z_wl := z_mem 930 (by decide +kernel)
theorem z_k931 : Cond.instanceMethod yX9_init ∈ z_wl := z_mem 931 (by decide +kernel)
theorem z_k932 : Cond.code yX9_init cX9_init 1 none ∈ z_wl := z_mem 932 (by decide +kernel)
theorem z_k933 : Cond.methodLink RX9 1 objectInit ∈ z_wl := z_mem 933 (by decide +kernel)
theorem z_k934 : Cond.methodLink RX9 65 yX9_begin ∈ z_wl := z_mem 934 (by decide +kernel)
theorem z_k936 : Cond.instanceMethod yX9_begin ∈ z_wl := z_mem 936 (by decide +kernel)
theorem z_k937 : Cond.code yX9_begin cX9_begin 2 none ∈ z_wl := z_mem 937 (by decide +kernel)
theorem z_k938 : Cond.methodLink RX9 139 yX9_put ∈ z_wl := z_mem 938 (by decide +kernel)
theorem z_k940 : Cond.instanceMethod yX9_put ∈ z_wl := z_mem 940 (by decide +kernel)
theorem z_k941 : Cond.code yX9_put cX9_put 4 none ∈ z_wl := z_mem 941 (by decide +kernel)
theorem z_k942 : Cond.fieldLink RX9 7 "LogKeepersModel" "tape" "[B" ∈ z_wl := z_mem 942 (by decide +kernel)
theorem z_k943 : Cond.fieldLink RX9 13 "LogKeepersModel" "text" "[B" ∈ z_wl := z_mem 943 (by decide +kernel)
theorem z_k944 : Cond.fieldLink RX9 16 "LogKeepersModel" "all" "[I" ∈ z_wl := z_mem 944 (by decide +kernel)
theorem z_k945 : Cond.fieldLink RX9 20 "LogKeepersModel" "boxes" "[I" ∈ z_wl := z_mem 945 (by decide +kernel)
theorem z_k946 : Cond.fieldLink RX9 23 "LogKeepersModel" "isBoxed" "[Z" ∈ z_wl := z_mem 946 (by decide +kernel)
theorem z_k947 : Cond.fieldLink RX9 103 "LogKeepersModel" "taped" "I" ∈ z_wl := z_mem 947 (by decide +kernel)
theorem z_k948 : Cond.fieldLink RX9 68 "LogKeepersModel" "size" "I" ∈ z_wl := z_mem 948 (by decide +kernel)
theorem z_k949 : Cond.fieldLink RX9 71 "LogKeepersModel" "faultKind" "I" ∈ z_wl := z_mem 949 (by decide +kernel)
theorem z_k950 : Cond.fieldLink RX9 27 "LogKeepersModel" "faultPlace" "I" ∈ z_wl := z_mem 950 (by decide +kernel)
theorem z_k951 : Cond.fieldLink RX9 31 "LogKeepersModel" "keepers" "[I" ∈ z_wl := z_mem 951 (by decide +kernel)
theorem z_k952 : Cond.fieldLink RX9 34 "LogKeepersModel" "silent" "[I" ∈ z_wl := z_mem 952 (by decide +kernel)
theorem z_k953 : Cond.fieldLink RX9 37 "LogKeepersModel" "kName" "[J" ∈ z_wl := z_mem 953 (by decide +kernel)
theorem z_k954 : Cond.fieldLink RX9 106 "LogKeepersModel" "bank" "I" ∈ z_wl := z_mem 954 (by decide +kernel)
theorem z_k955 : Cond.fieldLink RX9 109 "LogKeepersModel" "rb" "I" ∈ z_wl := z_mem 955 (by decide +kernel)
theorem z_k956 : Cond.fieldLink RX9 77 "LogKeepersModel" "at" "I" ∈ z_wl := z_mem 956 (by decide +kernel)
theorem z_k957 : Cond.fieldLink RX9 74 "LogKeepersModel" "end" "I" ∈ z_wl := z_mem 957 (by decide +kernel)
theorem z_k958 : Cond.fieldLink RX9 84 "LogKeepersModel" "token" "I" ∈ z_wl := z_mem 958 (by decide +kernel)
theorem z_k959 : Cond.fieldLink RX9 91 "LogKeepersModel" "name" "J" ∈ z_wl := z_mem 959 (by decide +kernel)
theorem z_k960 : Cond.fieldLink RX9 41 "LogKeepersModel" "letter" "[I" ∈ z_wl := z_mem 960 (by decide +kernel)
theorem z_k961 : Cond.fieldLink RX9 44 "LogKeepersModel" "nBegun" "[I" ∈ z_wl := z_mem 961 (by decide +kernel)
theorem z_k962 : Cond.fieldLink RX9 47 "LogKeepersModel" "nEnded" "[I" ∈ z_wl := z_mem 962 (by decide +kernel)
theorem z_k963 : Cond.fieldLink RX9 50 "LogKeepersModel" "nWhat" "[I" ∈ z_wl := z_mem 963 (by decide +kernel)
theorem z_k964 : Cond.fieldLink RX9 53 "LogKeepersModel" "nValue" "[I" ∈ z_wl := z_mem 964 (by decide +kernel)
theorem z_k965 : Cond.fieldLink RX9 56 "LogKeepersModel" "nAnswer" "[I" ∈ z_wl := z_mem 965 (by decide +kernel)
theorem z_k966 : Cond.fieldLink RX9 59 "LogKeepersModel" "row" "[I" ∈ z_wl := z_mem 966 (by decide +kernel)
theorem z_k967 : Cond.fieldLink RX9 62 "LogKeepersModel" "cell" "[I" ∈ z_wl := z_mem 967 (by decide +kernel)
theorem z_k968 : Cond.fieldLink RX9 237 "LogKeepersModel" "noted" "I" ∈ z_wl := z_mem 968 (by decide +kernel)
theorem z_k1025 : Cond.methodLink RL 27 yX9_keepers ∈ z_wl := z_mem 1025 (by decide +kernel)
theorem z_k1026 : Cond.instanceMethod yX9_keepers ∈ z_wl := z_mem 1026 (by decide +kernel)
theorem z_k1027 : Cond.selects RX9 yX9_keepers yX9_keepers ∈ z_wl := z_mem 1027 (by decide +kernel)
theorem z_k1028 : Cond.code yX9_keepers cX9_keepers 2 (some .int) ∈ z_wl := z_mem 1028 (by decide +kernel)
theorem z_k1029 : Cond.methodLink RX9 112 yX9_goOn ∈ z_wl := z_mem 1029 (by decide +kernel)
theorem z_k1031 : Cond.instanceMethod yX9_goOn ∈ z_wl := z_mem 1031 (by decide +kernel)
theorem z_k1032 : Cond.code yX9_goOn cX9_goOn 3 none ∈ z_wl := z_mem 1032 (by decide +kernel)
theorem z_k1033 : Cond.methodLink RX9 80 yX9_sign ∈ z_wl := z_mem 1033 (by decide +kernel)
theorem z_k1035 : Cond.instanceMethod yX9_sign ∈ z_wl := z_mem 1035 (by decide +kernel)
theorem z_k1036 : Cond.code yX9_sign cX9_sign 2 (some .int) ∈ z_wl := z_mem 1036 (by decide +kernel)
theorem z_k1037 : Cond.methodLink RX9 87 yX9_isLetter ∈ z_wl := z_mem 1037 (by decide +kernel)
theorem z_k1038 : Cond.static yX9_isLetter ∈ z_wl := z_mem 1038 (by decide +kernel)
theorem z_k1039 : Cond.code yX9_isLetter cX9_isLetter 1 (some .boolean) ∈ z_wl := z_mem 1039 (by decide +kernel)
theorem z_k1040 : Cond.constantLong RX9 95 (118083237733746) ∈ z_wl := z_mem 1040 (by decide +kernel)
theorem z_k1041 : Cond.constantLong RX9 97 (126896627347060) ∈ z_wl := z_mem 1041 (by decide +kernel)
theorem z_k1042 : Cond.methodLink RX9 115 yX9_isGood ∈ z_wl := z_mem 1042 (by decide +kernel)
theorem z_k1044 : Cond.instanceMethod yX9_isGood ∈ z_wl := z_mem 1044 (by decide +kernel)
theorem z_k1045 : Cond.code yX9_isGood cX9_isGood 1 (some .boolean) ∈ z_wl := z_mem 1045 (by decide +kernel)
theorem z_k1046 : Cond.methodLink RX9 119 yX9_readKeeper ∈ z_wl := z_mem 1046 (by decide +kernel)
theorem z_k1048 : Cond.instanceMethod yX9_readKeeper ∈ z_wl := z_mem 1048 (by decide +kernel)
theorem z_k1049 : Cond.code yX9_readKeeper cX9_readKeeper 2 none ∈ z_wl := z_mem 1049 (by decide +kernel)
theorem z_k1050 : Cond.methodLink RX9 125 yX9_misplaced ∈ z_wl := z_mem 1050 (by decide +kernel)
theorem z_k1052 : Cond.instanceMethod yX9_misplaced ∈ z_wl := z_mem 1052 (by decide +kernel)
theorem z_k1053 : Cond.code yX9_misplaced cX9_misplaced 1 none ∈ z_wl := z_mem 1053 (by decide +kernel)
theorem z_k1054 : Cond.methodLink RX9 99 yX9_fails ∈ z_wl := z_mem 1054 (by decide +kernel)
theorem z_k1056 : Cond.instanceMethod yX9_fails ∈ z_wl := z_mem 1056 (by decide +kernel)
theorem z_k1057 : Cond.code yX9_fails cX9_fails 3 none ∈ z_wl := z_mem 1057 (by decide +kernel)
theorem z_k1058 : Cond.methodLink RX9 122 yX9_bitsOf ∈ z_wl := z_mem 1058 (by decide +kernel)
theorem z_k1059 : Cond.static yX9_bitsOf ∈ z_wl := z_mem 1059 (by decide +kernel)
theorem z_k1060 : Cond.code yX9_bitsOf cX9_bitsOf 3 (some .int) ∈ z_wl := z_mem 1060 (by decide +kernel)
theorem z_k1061 : Cond.methodLink RL 31 yX9_fault ∈ z_wl := z_mem 1061 (by decide +kernel)
theorem z_k1062 : Cond.instanceMethod yX9_fault ∈ z_wl := z_mem 1062 (by decide +kernel)
theorem z_k1063 : Cond.selects RX9 yX9_fault yX9_fault ∈ z_wl := z_mem 1063 (by decide +kernel)
theorem z_k1064 : Cond.code yX9_fault cX9_fault 2 (some .int) ∈ z_wl := z_mem 1064 (by decide +kernel)
theorem z_k1065 : Cond.methodLink RL 35 yX9_ask ∈ z_wl := z_mem 1065 (by decide +kernel)
theorem z_k1066 : Cond.instanceMethod yX9_ask ∈ z_wl := z_mem 1066 (by decide +kernel)
theorem z_k1067 : Cond.selects RX9 yX9_ask yX9_ask ∈ z_wl := z_mem 1067 (by decide +kernel)
theorem z_k1068 : Cond.code yX9_ask cX9_ask 3 (some .int) ∈ z_wl := z_mem 1068 (by decide +kernel)
theorem z_k1069 : Cond.methodLink RX9 150 yX9_isUp ∈ z_wl := z_mem 1069 (by decide +kernel)
theorem z_k1071 : Cond.instanceMethod yX9_isUp ∈ z_wl := z_mem 1071 (by decide +kernel)
theorem z_k1072 : Cond.code yX9_isUp cX9_isUp 2 (some .boolean) ∈ z_wl := z_mem 1072 (by decide +kernel)
theorem z_k1073 : Cond.methodLink RX9 143 yX9_isKeeper ∈ z_wl := z_mem 1073 (by decide +kernel)
theorem z_k1075 : Cond.instanceMethod yX9_isKeeper ∈ z_wl := z_mem 1075 (by decide +kernel)
theorem z_k1076 : Cond.code yX9_isKeeper cX9_isKeeper 2 (some .boolean) ∈ z_wl := z_mem 1076 (by decide +kernel)
theorem z_k1077 : Cond.methodLink RX9 128 yX9_many ∈ z_wl := z_mem 1077 (by decide +kernel)
theorem z_k1079 : Cond.instanceMethod yX9_many ∈ z_wl := z_mem 1079 (by decide +kernel)
theorem z_k1080 : Cond.code yX9_many cX9_many 1 (some .int) ∈ z_wl := z_mem 1080 (by decide +kernel)
theorem z_k1081 : Cond.methodLink RX9 132 yX9_isIn ∈ z_wl := z_mem 1081 (by decide +kernel)
theorem z_k1082 : Cond.static yX9_isIn ∈ z_wl := z_mem 1082 (by decide +kernel)
theorem z_k1083 : Cond.code yX9_isIn cX9_isIn 3 (some .boolean) ∈ z_wl := z_mem 1083 (by decide +kernel)
theorem z_k1084 : Cond.methodLink RX9 146 yX9_of ∈ z_wl := z_mem 1084 (by decide +kernel)
theorem z_k1086 : Cond.instanceMethod yX9_of ∈ z_wl := z_mem 1086 (by decide +kernel)
theorem z_k1087 : Cond.code yX9_of cX9_of 3 (some .int) ∈ z_wl := z_mem 1087 (by decide +kernel)
theorem z_k1088 : Cond.methodLink RX9 166 yX9_isVoter ∈ z_wl := z_mem 1088 (by decide +kernel)
theorem z_k1090 : Cond.instanceMethod yX9_isVoter ∈ z_wl := z_mem 1090 (by decide +kernel)
theorem z_k1091 : Cond.code yX9_isVoter cX9_isVoter 2 (some .boolean) ∈ z_wl := z_mem 1091 (by decide +kernel)
theorem z_k1092 : Cond.methodLink RX9 195 yX9_letters ∈ z_wl := z_mem 1092 (by decide +kernel)
theorem z_k1094 : Cond.instanceMethod yX9_letters ∈ z_wl := z_mem 1094 (by decide +kernel)
theorem z_k1095 : Cond.code yX9_letters cX9_letters 3 (some .int) ∈ z_wl := z_mem 1095 (by decide +kernel)
theorem z_k1096 : Cond.methodLink RX9 186 yX9_slotOf ∈ z_wl := z_mem 1096 (by decide +kernel)
theorem z_k1098 : Cond.instanceMethod yX9_slotOf ∈ z_wl := z_mem 1098 (by decide +kernel)
theorem z_k1099 : Cond.code yX9_slotOf cX9_slotOf 3 (some .int) ∈ z_wl := z_mem 1099 (by decide +kernel)
theorem z_k1100 : Cond.methodLink RX9 136 yX9_voters ∈ z_wl := z_mem 1100 (by decide +kernel)
theorem z_k1102 : Cond.instanceMethod yX9_voters ∈ z_wl := z_mem 1102 (by decide +kernel)
theorem z_k1103 : Cond.code yX9_voters cX9_voters 1 (some .int) ∈ z_wl := z_mem 1103 (by decide +kernel)
theorem z_k1104 : Cond.methodLink RX9 172 yX9_termOf ∈ z_wl := z_mem 1104 (by decide +kernel)
theorem z_k1106 : Cond.instanceMethod yX9_termOf ∈ z_wl := z_mem 1106 (by decide +kernel)
theorem z_k1107 : Cond.code yX9_termOf cX9_termOf 3 (some .int) ∈ z_wl := z_mem 1107 (by decide +kernel)
theorem z_k1108 : Cond.methodLink RX9 153 yX9_entryAt ∈ z_wl := z_mem 1108 (by decide +kernel)
theorem z_k1110 : Cond.instanceMethod yX9_entryAt ∈ z_wl := z_mem 1110 (by decide +kernel)
theorem z_k1111 : Cond.code yX9_entryAt cX9_entryAt 3 (some .int) ∈ z_wl := z_mem 1111 (by decide +kernel)
theorem z_k1112 : Cond.methodLink RX9 198 yX9_sends ∈ z_wl := z_mem 1112 (by decide +kernel)
theorem z_k1114 : Cond.instanceMethod yX9_sends ∈ z_wl := z_mem 1114 (by decide +kernel)
theorem z_k1115 : Cond.code yX9_sends cX9_sends 8 (some .int) ∈ z_wl := z_mem 1115 (by decide +kernel)
theorem z_k1116 : Cond.methodLink RX9 189 yX9_empty ∈ z_wl := z_mem 1116 (by decide +kernel)
theorem z_k1118 : Cond.instanceMethod yX9_empty ∈ z_wl := z_mem 1118 (by decide +kernel)
theorem z_k1119 : Cond.code yX9_empty cX9_empty 2 (some .int) ∈ z_wl := z_mem 1119 (by decide +kernel)
theorem z_k1120 : Cond.methodLink RX9 192 yX9_putSlot ∈ z_wl := z_mem 1120 (by decide +kernel)
theorem z_k1122 : Cond.instanceMethod yX9_putSlot ∈ z_wl := z_mem 1122 (by decide +kernel)
theorem z_k1123 : Cond.code yX9_putSlot cX9_putSlot 4 none ∈ z_wl := z_mem 1123 (by decide +kernel)
theorem z_k1124 : Cond.methodLink RX9 202 yX9_leads ∈ z_wl := z_mem 1124 (by decide +kernel)
theorem z_k1126 : Cond.instanceMethod yX9_leads ∈ z_wl := z_mem 1126 (by decide +kernel)
theorem z_k1127 : Cond.code yX9_leads cX9_leads 3 none ∈ z_wl := z_mem 1127 (by decide +kernel)
theorem z_k1128 : Cond.methodLink RX9 169 yX9_most ∈ z_wl := z_mem 1128 (by decide +kernel)
theorem z_k1130 : Cond.instanceMethod yX9_most ∈ z_wl := z_mem 1130 (by decide +kernel)
theorem z_k1131 : Cond.code yX9_most cX9_most 1 (some .int) ∈ z_wl := z_mem 1131 (by decide +kernel)
theorem z_k1132 : Cond.methodLink RX9 182 yX9_settles ∈ z_wl := z_mem 1132 (by decide +kernel)
theorem z_k1134 : Cond.instanceMethod yX9_settles ∈ z_wl := z_mem 1134 (by decide +kernel)
theorem z_k1135 : Cond.code yX9_settles cX9_settles 3 none ∈ z_wl := z_mem 1135 (by decide +kernel)
theorem z_k1136 : Cond.methodLink RX9 175 yX9_isSure ∈ z_wl := z_mem 1136 (by decide +kernel)
theorem z_k1138 : Cond.instanceMethod yX9_isSure ∈ z_wl := z_mem 1138 (by decide +kernel)
theorem z_k1139 : Cond.code yX9_isSure cX9_isSure 5 (some .boolean) ∈ z_wl := z_mem 1139 (by decide +kernel)
theorem z_k1140 : Cond.methodLink RX9 179 yX9_doneTo ∈ z_wl := z_mem 1140 (by decide +kernel)
theorem z_k1142 : Cond.instanceMethod yX9_doneTo ∈ z_wl := z_mem 1142 (by decide +kernel)
theorem z_k1143 : Cond.code yX9_doneTo cX9_doneTo 4 none ∈ z_wl := z_mem 1143 (by decide +kernel)
theorem z_k1144 : Cond.methodLink RX9 163 yX9_works ∈ z_wl := z_mem 1144 (by decide +kernel)
theorem z_k1146 : Cond.instanceMethod yX9_works ∈ z_wl := z_mem 1146 (by decide +kernel)
theorem z_k1147 : Cond.code yX9_works cX9_works 7 none ∈ z_wl := z_mem 1147 (by decide +kernel)
theorem z_k1148 : Cond.methodLink RX9 156 yX9_after ∈ z_wl := z_mem 1148 (by decide +kernel)
theorem z_k1149 : Cond.static yX9_after ∈ z_wl := z_mem 1149 (by decide +kernel)
theorem z_k1150 : Cond.code yX9_after cX9_after 3 (some .int) ∈ z_wl := z_mem 1150 (by decide +kernel)
theorem z_k1151 : Cond.methodLink RX9 160 yX9_answers ∈ z_wl := z_mem 1151 (by decide +kernel)
theorem z_k1152 : Cond.static yX9_answers ∈ z_wl := z_mem 1152 (by decide +kernel)
theorem z_k1153 : Cond.code yX9_answers cX9_answers 3 (some .int) ∈ z_wl := z_mem 1153 (by decide +kernel)
theorem z_k1154 : Cond.methodLink RL 66 yX9_append ∈ z_wl := z_mem 1154 (by decide +kernel)
theorem z_k1155 : Cond.instanceMethod yX9_append ∈ z_wl := z_mem 1155 (by decide +kernel)
theorem z_k1156 : Cond.selects RX9 yX9_append yX9_append ∈ z_wl := z_mem 1156 (by decide +kernel)
theorem z_k1157 : Cond.code yX9_append cX9_append 8 (some .int) ∈ z_wl := z_mem 1157 (by decide +kernel)
theorem z_k1158 : Cond.methodLink RX9 205 yX9_doesLead ∈ z_wl := z_mem 1158 (by decide +kernel)
theorem z_k1160 : Cond.instanceMethod yX9_doesLead ∈ z_wl := z_mem 1160 (by decide +kernel)
theorem z_k1161 : Cond.code yX9_doesLead cX9_doesLead 2 (some .boolean) ∈ z_wl := z_mem 1161 (by decide +kernel)
theorem z_k1162 : Cond.methodLink RX9 208 yX9_copy ∈ z_wl := z_mem 1162 (by decide +kernel)
theorem z_k1164 : Cond.instanceMethod yX9_copy ∈ z_wl := z_mem 1164 (by decide +kernel)
theorem z_k1165 : Cond.code yX9_copy cX9_copy 5 none ∈ z_wl := z_mem 1165 (by decide +kernel)
theorem z_k1166 : Cond.methodLink RL 61 yX9_command ∈ z_wl := z_mem 1166 (by decide +kernel)
theorem z_k1167 : Cond.instanceMethod yX9_command ∈ z_wl := z_mem 1167 (by decide +kernel)
theorem z_k1168 : Cond.selects RX9 yX9_command yX9_command ∈ z_wl := z_mem 1168 (by decide +kernel)
theorem z_k1169 : Cond.code yX9_command cX9_command 8 (some .int) ∈ z_wl := z_mem 1169 (by decide +kernel)
theorem z_k1170 : Cond.methodLink RL 39 yX9_deliver ∈ z_wl := z_mem 1170 (by decide +kernel)
theorem z_k1171 : Cond.instanceMethod yX9_deliver ∈ z_wl := z_mem 1171 (by decide +kernel)
theorem z_k1172 : Cond.selects RX9 yX9_deliver yX9_deliver ∈ z_wl := z_mem 1172 (by decide +kernel)
theorem z_k1173 : Cond.code yX9_deliver cX9_deliver 3 (some .int) ∈ z_wl := z_mem 1173 (by decide +kernel)
theorem z_k1174 : Cond.methodLink RX9 211 yX9_hasLetter ∈ z_wl := z_mem 1174 (by decide +kernel)
theorem z_k1176 : Cond.instanceMethod yX9_hasLetter ∈ z_wl := z_mem 1176 (by decide +kernel)
theorem z_k1177 : Cond.code yX9_hasLetter cX9_hasLetter 2 (some .boolean) ∈ z_wl := z_mem 1177 (by decide +kernel)
theorem z_k1178 : Cond.methodLink RX9 214 yX9_getsAsk ∈ z_wl := z_mem 1178 (by decide +kernel)
theorem z_k1180 : Cond.instanceMethod yX9_getsAsk ∈ z_wl := z_mem 1180 (by decide +kernel)
theorem z_k1181 : Cond.code yX9_getsAsk cX9_getsAsk 7 (some .int) ∈ z_wl := z_mem 1181 (by decide +kernel)
theorem z_k1182 : Cond.methodLink RX9 217 yX9_getsBallot ∈ z_wl := z_mem 1182 (by decide +kernel)
theorem z_k1184 : Cond.instanceMethod yX9_getsBallot ∈ z_wl := z_mem 1184 (by decide +kernel)
theorem z_k1185 : Cond.code yX9_getsBallot cX9_getsBallot 2 (some .int) ∈ z_wl := z_mem 1185 (by decide +kernel)
theorem z_k1186 : Cond.methodLink RX9 220 yX9_getsAppend ∈ z_wl := z_mem 1186 (by decide +kernel)
theorem z_k1188 : Cond.instanceMethod yX9_getsAppend ∈ z_wl := z_mem 1188 (by decide +kernel)
theorem z_k1189 : Cond.code yX9_getsAppend cX9_getsAppend 5 (some .int) ∈ z_wl := z_mem 1189 (by decide +kernel)
theorem z_k1190 : Cond.methodLink RX9 229 yX9_answersBack ∈ z_wl := z_mem 1190 (by decide +kernel)
theorem z_k1192 : Cond.instanceMethod yX9_answersBack ∈ z_wl := z_mem 1192 (by decide +kernel)
theorem z_k1193 : Cond.code yX9_answersBack cX9_answersBack 5 (some .int) ∈ z_wl := z_mem 1193 (by decide +kernel)
theorem z_k1194 : Cond.methodLink RX9 233 yX9_takes ∈ z_wl := z_mem 1194 (by decide +kernel)
theorem z_k1196 : Cond.instanceMethod yX9_takes ∈ z_wl := z_mem 1196 (by decide +kernel)
theorem z_k1197 : Cond.code yX9_takes cX9_takes 5 (some .boolean) ∈ z_wl := z_mem 1197 (by decide +kernel)
theorem z_k1198 : Cond.methodLink RX9 223 yX9_getsAnswer ∈ z_wl := z_mem 1198 (by decide +kernel)
theorem z_k1200 : Cond.instanceMethod yX9_getsAnswer ∈ z_wl := z_mem 1200 (by decide +kernel)
theorem z_k1201 : Cond.code yX9_getsAnswer cX9_getsAnswer 4 (some .int) ∈ z_wl := z_mem 1201 (by decide +kernel)
theorem z_k1202 : Cond.methodLink RX9 226 yX9_getsFolding ∈ z_wl := z_mem 1202 (by decide +kernel)
theorem z_k1204 : Cond.instanceMethod yX9_getsFolding ∈ z_wl := z_mem 1204 (by decide +kernel)
theorem z_k1205 : Cond.code yX9_getsFolding cX9_getsFolding 6 (some .int) ∈ z_wl := z_mem 1205 (by decide +kernel)
theorem z_k1206 : Cond.methodLink RL 43 yX9_drop ∈ z_wl := z_mem 1206 (by decide +kernel)
theorem z_k1207 : Cond.instanceMethod yX9_drop ∈ z_wl := z_mem 1207 (by decide +kernel)
theorem z_k1208 : Cond.selects RX9 yX9_drop yX9_drop ∈ z_wl := z_mem 1208 (by decide +kernel)
theorem z_k1209 : Cond.code yX9_drop cX9_drop 3 (some .int) ∈ z_wl := z_mem 1209 (by decide +kernel)
theorem z_k1210 : Cond.methodLink RL 47 yX9_twice ∈ z_wl := z_mem 1210 (by decide +kernel)
theorem z_k1211 : Cond.instanceMethod yX9_twice ∈ z_wl := z_mem 1211 (by decide +kernel)
theorem z_k1212 : Cond.selects RX9 yX9_twice yX9_twice ∈ z_wl := z_mem 1212 (by decide +kernel)
theorem z_k1213 : Cond.code yX9_twice cX9_twice 3 (some .int) ∈ z_wl := z_mem 1213 (by decide +kernel)
theorem z_k1214 : Cond.methodLink RL 52 yX9_fall ∈ z_wl := z_mem 1214 (by decide +kernel)
theorem z_k1215 : Cond.instanceMethod yX9_fall ∈ z_wl := z_mem 1215 (by decide +kernel)
theorem z_k1216 : Cond.selects RX9 yX9_fall yX9_fall ∈ z_wl := z_mem 1216 (by decide +kernel)
theorem z_k1217 : Cond.code yX9_fall cX9_fall 2 (some .boolean) ∈ z_wl := z_mem 1217 (by decide +kernel)
theorem z_k1218 : Cond.methodLink RL 56 yX9_rise ∈ z_wl := z_mem 1218 (by decide +kernel)
theorem z_k1219 : Cond.instanceMethod yX9_rise ∈ z_wl := z_mem 1219 (by decide +kernel)
theorem z_k1220 : Cond.selects RX9 yX9_rise yX9_rise ∈ z_wl := z_mem 1220 (by decide +kernel)
theorem z_k1221 : Cond.code yX9_rise cX9_rise 2 (some .boolean) ∈ z_wl := z_mem 1221 (by decide +kernel)
theorem z_k1222 : Cond.methodLink RL 70 yX9_fold ∈ z_wl := z_mem 1222 (by decide +kernel)
theorem z_k1223 : Cond.instanceMethod yX9_fold ∈ z_wl := z_mem 1223 (by decide +kernel)
theorem z_k1224 : Cond.selects RX9 yX9_fold yX9_fold ∈ z_wl := z_mem 1224 (by decide +kernel)
theorem z_k1225 : Cond.code yX9_fold cX9_fold 5 (some .int) ∈ z_wl := z_mem 1225 (by decide +kernel)
theorem z_k1226 : Cond.methodLink RL 74 yX9_read ∈ z_wl := z_mem 1226 (by decide +kernel)
theorem z_k1227 : Cond.instanceMethod yX9_read ∈ z_wl := z_mem 1227 (by decide +kernel)
theorem z_k1228 : Cond.selects RX9 yX9_read yX9_read ∈ z_wl := z_mem 1228 (by decide +kernel)
theorem z_k1229 : Cond.code yX9_read cX9_read 4 (some .int) ∈ z_wl := z_mem 1229 (by decide +kernel)
theorem z_k1230 : Cond.methodLink RL 78 yX9_good ∈ z_wl := z_mem 1230 (by decide +kernel)
theorem z_k1231 : Cond.instanceMethod yX9_good ∈ z_wl := z_mem 1231 (by decide +kernel)
theorem z_k1232 : Cond.selects RX9 yX9_good yX9_good ∈ z_wl := z_mem 1232 (by decide +kernel)
theorem z_k1233 : Cond.code yX9_good cX9_good 5 (some .int) ∈ z_wl := z_mem 1233 (by decide +kernel)
theorem z_k1234 : Cond.constant RX9 236 (-1000000) ∈ z_wl := z_mem 1234 (by decide +kernel)
theorem z_k1235 : Cond.methodLink RL 82 yX9_keeper ∈ z_wl := z_mem 1235 (by decide +kernel)
theorem z_k1236 : Cond.instanceMethod yX9_keeper ∈ z_wl := z_mem 1236 (by decide +kernel)
theorem z_k1237 : Cond.selects RX9 yX9_keeper yX9_keeper ∈ z_wl := z_mem 1237 (by decide +kernel)
theorem z_k1238 : Cond.code yX9_keeper cX9_keeper 3 (some .int) ∈ z_wl := z_mem 1238 (by decide +kernel)
theorem z_k1239 : Cond.methodLink RL 87 yX9_entry ∈ z_wl := z_mem 1239 (by decide +kernel)
theorem z_k1240 : Cond.instanceMethod yX9_entry ∈ z_wl := z_mem 1240 (by decide +kernel)
theorem z_k1241 : Cond.selects RX9 yX9_entry yX9_entry ∈ z_wl := z_mem 1241 (by decide +kernel)
theorem z_k1242 : Cond.code yX9_entry cX9_entry 4 (some .int) ∈ z_wl := z_mem 1242 (by decide +kernel)
theorem z_k1243 : Cond.methodLink RL 91 yX9_state ∈ z_wl := z_mem 1243 (by decide +kernel)
theorem z_k1244 : Cond.instanceMethod yX9_state ∈ z_wl := z_mem 1244 (by decide +kernel)
theorem z_k1245 : Cond.selects RX9 yX9_state yX9_state ∈ z_wl := z_mem 1245 (by decide +kernel)
theorem z_k1246 : Cond.code yX9_state cX9_state 3 (some .int) ∈ z_wl := z_mem 1246 (by decide +kernel)
theorem z_k1247 : Cond.methodLink RL 95 yX9_client ∈ z_wl := z_mem 1247 (by decide +kernel)
theorem z_k1248 : Cond.instanceMethod yX9_client ∈ z_wl := z_mem 1248 (by decide +kernel)
theorem z_k1249 : Cond.selects RX9 yX9_client yX9_client ∈ z_wl := z_mem 1249 (by decide +kernel)
theorem z_k1250 : Cond.code yX9_client cX9_client 4 (some .int) ∈ z_wl := z_mem 1250 (by decide +kernel)
theorem z_k1251 : Cond.methodLink RL 99 yX9_peer ∈ z_wl := z_mem 1251 (by decide +kernel)
theorem z_k1252 : Cond.instanceMethod yX9_peer ∈ z_wl := z_mem 1252 (by decide +kernel)
theorem z_k1253 : Cond.selects RX9 yX9_peer yX9_peer ∈ z_wl := z_mem 1253 (by decide +kernel)
theorem z_k1254 : Cond.code yX9_peer cX9_peer 4 (some .int) ∈ z_wl := z_mem 1254 (by decide +kernel)
theorem z_k1255 : Cond.methodLink RL 103 yX9_slot ∈ z_wl := z_mem 1255 (by decide +kernel)
theorem z_k1256 : Cond.instanceMethod yX9_slot ∈ z_wl := z_mem 1256 (by decide +kernel)
theorem z_k1257 : Cond.selects RX9 yX9_slot yX9_slot ∈ z_wl := z_mem 1257 (by decide +kernel)
theorem z_k1258 : Cond.code yX9_slot cX9_slot 3 (some .int) ∈ z_wl := z_mem 1258 (by decide +kernel)
theorem z_k1259 : Cond.methodLink RL 107 yX9_note ∈ z_wl := z_mem 1259 (by decide +kernel)
theorem z_k1260 : Cond.instanceMethod yX9_note ∈ z_wl := z_mem 1260 (by decide +kernel)
theorem z_k1261 : Cond.selects RX9 yX9_note yX9_note ∈ z_wl := z_mem 1261 (by decide +kernel)
theorem z_k1262 : Cond.code yX9_note cX9_note 6 (some .int) ∈ z_wl := z_mem 1262 (by decide +kernel)
theorem z_k1263 : Cond.methodLink RL 111 yX9_hush ∈ z_wl := z_mem 1263 (by decide +kernel)
theorem z_k1264 : Cond.instanceMethod yX9_hush ∈ z_wl := z_mem 1264 (by decide +kernel)
theorem z_k1265 : Cond.selects RX9 yX9_hush yX9_hush ∈ z_wl := z_mem 1265 (by decide +kernel)
theorem z_k1266 : Cond.code yX9_hush cX9_hush 2 (some .int) ∈ z_wl := z_mem 1266 (by decide +kernel)
theorem z_k1267 : Cond.methodLink RL 115 yX9_judge ∈ z_wl := z_mem 1267 (by decide +kernel)
theorem z_k1268 : Cond.instanceMethod yX9_judge ∈ z_wl := z_mem 1268 (by decide +kernel)
theorem z_k1269 : Cond.selects RX9 yX9_judge yX9_judge ∈ z_wl := z_mem 1269 (by decide +kernel)
theorem z_k1270 : Cond.code yX9_judge cX9_judge 1 (some .int) ∈ z_wl := z_mem 1270 (by decide +kernel)
theorem z_k1271 : Cond.methodLink RX9 243 yX9_findOrder ∈ z_wl := z_mem 1271 (by decide +kernel)
theorem z_k1273 : Cond.instanceMethod yX9_findOrder ∈ z_wl := z_mem 1273 (by decide +kernel)
theorem z_k1274 : Cond.code yX9_findOrder cX9_findOrder 4 (some .boolean) ∈ z_wl := z_mem 1274 (by decide +kernel)
theorem z_k1275 : Cond.methodLink RX9 240 yX9_canCome ∈ z_wl := z_mem 1275 (by decide +kernel)
theorem z_k1277 : Cond.instanceMethod yX9_canCome ∈ z_wl := z_mem 1277 (by decide +kernel)
theorem z_k1278 : Cond.code yX9_canCome cX9_canCome 5 (some .boolean) ∈ z_wl := z_mem 1278 (by decide +kernel)
theorem z_k1279 : Cond.methodLink RL 119 yX9_order ∈ z_wl := z_mem 1279 (by decide +kernel)
theorem z_k1280 : Cond.instanceMethod yX9_order ∈ z_wl := z_mem 1280 (by decide +kernel)
theorem z_k1281 : Cond.selects RX9 yX9_order yX9_order ∈ z_wl := z_mem 1281 (by decide +kernel)
theorem z_k1282 : Cond.code yX9_order cX9_order 2 (some .int) ∈ z_wl := z_mem 1282 (by decide +kernel)
theorem z_k1283 : Cond.methodLink RL 123 yX9_image ∈ z_wl := z_mem 1283 (by decide +kernel)
theorem z_k1284 : Cond.instanceMethod yX9_image ∈ z_wl := z_mem 1284 (by decide +kernel)
theorem z_k1285 : Cond.selects RX9 yX9_image yX9_image ∈ z_wl := z_mem 1285 (by decide +kernel)
theorem z_k1286 : Cond.code yX9_image cX9_image 3 (some .int) ∈ z_wl := z_mem 1286 (by decide +kernel)
theorem z_k1287 : Cond.methodLink RL 127 yX9_back ∈ z_wl := z_mem 1287 (by decide +kernel)
theorem z_k1288 : Cond.instanceMethod yX9_back ∈ z_wl := z_mem 1288 (by decide +kernel)
theorem z_k1289 : Cond.selects RX9 yX9_back yX9_back ∈ z_wl := z_mem 1289 (by decide +kernel)
theorem z_k1290 : Cond.code yX9_back cX9_back 3 (some .int) ∈ z_wl := z_mem 1290 (by decide +kernel)
theorem z_k1291 : Cond.methodLink RL 131 yX9_about ∈ z_wl := z_mem 1291 (by decide +kernel)
theorem z_k1292 : Cond.instanceMethod yX9_about ∈ z_wl := z_mem 1292 (by decide +kernel)
theorem z_k1293 : Cond.selects RX9 yX9_about yX9_about ∈ z_wl := z_mem 1293 (by decide +kernel)
theorem z_k1294 : Cond.code yX9_about cX9_about 2 (some .int) ∈ z_wl := z_mem 1294 (by decide +kernel)
theorem z_k1295 : Cond.methodLink RX9 246 yX9_up ∈ z_wl := z_mem 1295 (by decide +kernel)
theorem z_k1297 : Cond.instanceMethod yX9_up ∈ z_wl := z_mem 1297 (by decide +kernel)
theorem z_k1298 : Cond.code yX9_up cX9_up 3 (some .int) ∈ z_wl := z_mem 1298 (by decide +kernel)
theorem z_k1299 : Cond.methodLink RL 17 yX9_feed ∈ z_wl := z_mem 1299 (by decide +kernel)
theorem z_k1300 : Cond.instanceMethod yX9_feed ∈ z_wl := z_mem 1300 (by decide +kernel)
theorem z_k1301 : Cond.selects RX9 yX9_feed yX9_feed ∈ z_wl := z_mem 1301 (by decide +kernel)
theorem z_k1302 : Cond.code yX9_feed cX9_feed 8 (some .int) ∈ z_wl := z_mem 1302 (by decide +kernel)
theorem z_k1303 : Cond.methodLink RL 22 yX9_end ∈ z_wl := z_mem 1303 (by decide +kernel)
theorem z_k1304 : Cond.instanceMethod yX9_end ∈ z_wl := z_mem 1304 (by decide +kernel)
theorem z_k1305 : Cond.selects RX9 yX9_end yX9_end ∈ z_wl := z_mem 1305 (by decide +kernel)
theorem z_k1306 : Cond.code yX9_end cX9_end 2 (some .int) ∈ z_wl := z_mem 1306 (by decide +kernel)
theorem z_k1307 : Cond.fieldLink RJ0 9 "java/lang/String" "value" "[B" ∈ z_wl := z_mem 1307 (by decide +kernel)
theorem z_k1308 : Cond.fieldLink RJ0 15 "java/lang/String" "coder" "B" ∈ z_wl := z_mem 1308 (by decide +kernel)
theorem z_kp0 : Cond.selects RX0 yX0_canGoOn yX0_canGoOn ∈ z_wl := z_memp 0 (by decide +kernel)
theorem z_kp1 : Cond.selects RX9 yX9_begin yX9_begin ∈ z_wl := z_memp 1 (by decide +kernel)
theorem z_kp2 : Cond.selects RX9 yX9_put yX9_put ∈ z_wl := z_memp 2 (by decide +kernel)
theorem z_kp3 : Cond.selects RX9 yX9_goOn yX9_goOn ∈ z_wl := z_memp 3 (by decide +kernel)
theorem z_kp4 : Cond.selects RX9 yX9_sign yX9_sign ∈ z_wl := z_memp 4 (by decide +kernel)
theorem z_kp5 : Cond.selects RX9 yX9_isGood yX9_isGood ∈ z_wl := z_memp 5 (by decide +kernel)
theorem z_kp6 : Cond.selects RX9 yX9_readKeeper yX9_readKeeper ∈ z_wl := z_memp 6 (by decide +kernel)
theorem z_kp7 : Cond.selects RX9 yX9_misplaced yX9_misplaced ∈ z_wl := z_memp 7 (by decide +kernel)
theorem z_kp8 : Cond.selects RX9 yX9_fails yX9_fails ∈ z_wl := z_memp 8 (by decide +kernel)
theorem z_kp9 : Cond.selects RX9 yX9_isUp yX9_isUp ∈ z_wl := z_memp 9 (by decide +kernel)
theorem z_kp10 : Cond.selects RX9 yX9_isKeeper yX9_isKeeper ∈ z_wl := z_memp 10 (by decide +kernel)
theorem z_kp11 : Cond.selects RX9 yX9_many yX9_many ∈ z_wl := z_memp 11 (by decide +kernel)
theorem z_kp12 : Cond.selects RX9 yX9_of yX9_of ∈ z_wl := z_memp 12 (by decide +kernel)
theorem z_kp13 : Cond.selects RX9 yX9_isVoter yX9_isVoter ∈ z_wl := z_memp 13 (by decide +kernel)
theorem z_kp14 : Cond.selects RX9 yX9_letters yX9_letters ∈ z_wl := z_memp 14 (by decide +kernel)
theorem z_kp15 : Cond.selects RX9 yX9_slotOf yX9_slotOf ∈ z_wl := z_memp 15 (by decide +kernel)
theorem z_kp16 : Cond.selects RX9 yX9_voters yX9_voters ∈ z_wl := z_memp 16 (by decide +kernel)
theorem z_kp17 : Cond.selects RX9 yX9_termOf yX9_termOf ∈ z_wl := z_memp 17 (by decide +kernel)
theorem z_kp18 : Cond.selects RX9 yX9_entryAt yX9_entryAt ∈ z_wl := z_memp 18 (by decide +kernel)
theorem z_kp19 : Cond.selects RX9 yX9_sends yX9_sends ∈ z_wl := z_memp 19 (by decide +kernel)
theorem z_kp20 : Cond.selects RX9 yX9_empty yX9_empty ∈ z_wl := z_memp 20 (by decide +kernel)
theorem z_kp21 : Cond.selects RX9 yX9_putSlot yX9_putSlot ∈ z_wl := z_memp 21 (by decide +kernel)
theorem z_kp22 : Cond.selects RX9 yX9_leads yX9_leads ∈ z_wl := z_memp 22 (by decide +kernel)
theorem z_kp23 : Cond.selects RX9 yX9_most yX9_most ∈ z_wl := z_memp 23 (by decide +kernel)
theorem z_kp24 : Cond.selects RX9 yX9_settles yX9_settles ∈ z_wl := z_memp 24 (by decide +kernel)
theorem z_kp25 : Cond.selects RX9 yX9_isSure yX9_isSure ∈ z_wl := z_memp 25 (by decide +kernel)
theorem z_kp26 : Cond.selects RX9 yX9_doneTo yX9_doneTo ∈ z_wl := z_memp 26 (by decide +kernel)
theorem z_kp27 : Cond.selects RX9 yX9_works yX9_works ∈ z_wl := z_memp 27 (by decide +kernel)
theorem z_kp28 : Cond.selects RX9 yX9_doesLead yX9_doesLead ∈ z_wl := z_memp 28 (by decide +kernel)
theorem z_kp29 : Cond.selects RX9 yX9_copy yX9_copy ∈ z_wl := z_memp 29 (by decide +kernel)
theorem z_kp30 : Cond.selects RX9 yX9_hasLetter yX9_hasLetter ∈ z_wl := z_memp 30 (by decide +kernel)
theorem z_kp31 : Cond.selects RX9 yX9_getsAsk yX9_getsAsk ∈ z_wl := z_memp 31 (by decide +kernel)
theorem z_kp32 : Cond.selects RX9 yX9_getsBallot yX9_getsBallot ∈ z_wl := z_memp 32 (by decide +kernel)
theorem z_kp33 : Cond.selects RX9 yX9_getsAppend yX9_getsAppend ∈ z_wl := z_memp 33 (by decide +kernel)
theorem z_kp34 : Cond.selects RX9 yX9_answersBack yX9_answersBack ∈ z_wl := z_memp 34 (by decide +kernel)
theorem z_kp35 : Cond.selects RX9 yX9_takes yX9_takes ∈ z_wl := z_memp 35 (by decide +kernel)
theorem z_kp36 : Cond.selects RX9 yX9_getsAnswer yX9_getsAnswer ∈ z_wl := z_memp 36 (by decide +kernel)
theorem z_kp37 : Cond.selects RX9 yX9_getsFolding yX9_getsFolding ∈ z_wl := z_memp 37 (by decide +kernel)
theorem z_kp38 : Cond.selects RX9 yX9_findOrder yX9_findOrder ∈ z_wl := z_memp 38 (by decide +kernel)
theorem z_kp39 : Cond.selects RX9 yX9_canCome yX9_canCome ∈ z_wl := z_memp 39 (by decide +kernel)
theorem z_kp40 : Cond.selects RX9 yX9_up yX9_up ∈ z_wl := z_memp 40 (by decide +kernel)
end
section
/-! the flat picture of the heap: cells are named by three numbers (what, of which world, which); what may change in a cell stands in a row of ints (or longs) by its name -/
abbrev zJ : Type := Nat × Nat × Nat
abbrev zS : Type := (zJ → Nat → Int32) × (zJ → Nat → Int64)
/-- classes and slots; addresses by names; array classes; the names that are there; what the boxes hold -/
abbrev zE : Type := va_G × (zJ → Nat) × (Nat → ClassId) × List zJ × (Nat → Option Nat)
abbrev z_ad (E : zE) : zJ → Nat := E.2.1
abbrev z_cy (E : zE) : Nat → ClassId := E.2.2.1
abbrev z_ids (E : zE) : List zJ := E.2.2.2.1
abbrev z_bx (E : zE) : Nat → Option Nat := E.2.2.2.2
def z_upR (σ : zS) (a : zJ) (r : Nat → Int32) : zS := (fun b => if b = a then r else σ.1 b, σ.2)
def z_upH (σ : zS) (a : zJ) (r : Nat → Int64) : zS := (σ.1, fun b => if b = a then r else σ.2 b)
def z_up (σ : zS) (a : zJ) (k : Nat) (v : Int32) : zS := z_upR σ a (upd (σ.1 a) k v)
def z_upl (σ : zS) (a : zJ) (k : Nat) (v : Int64) : zS := z_upH σ a (vp_updL (σ.2 a) k v)
def z_nx (a : zJ) : zJ := (a.1 + 1, a.2.1, a.2.2)
/-- a call's answer and state go on -/
def z_bd {α β : Type} (x : Option (α × zS)) (f : α → zS → Option β) : Option β := match x with
  | none => none
  | some o => f o.1 o.2
theorem z_bds {α β : Type} {x : Option (α × zS)} {f : α → zS → Option β} {b : β} (h : z_bd x f = some b) : ∃ a t, x = some (a, t) ∧ f a t = some b := by
  cases x with
  | none => cases h
  | some o => exact ⟨o.1, o.2, rfl, h⟩
theorem z_bde {α β : Type} {f : α → zS → Option β} (a : α) (t : zS) : z_bd (some (a, t)) f = f a t := rfl
/-- an index is in its row -/
def z_in (i : Int32) (n : Nat) : Bool := decide (¬ i < 0) && decide (i.toNatClampNeg < n)
theorem z_in_p {i : Int32} {n : Nat} (h : z_in i n = true) : vp_in i n := by
  simp only [z_in, Bool.and_eq_true, decide_eq_true_eq] at h
  rintro (h1 | h1)
  · exact h.1 h1
  · omega
theorem z_in_lt {i : Int32} {n : Nat} (h : z_in i n = true) : i.toNatClampNeg < n := by
  simp only [z_in, Bool.and_eq_true, decide_eq_true_eq] at h
  exact h.2
theorem z_gd {β : Type} {c : Bool} {x : Option β} {o : β} (h : (if c = true then x else none) = some o) : c = true ∧ x = some o := by
  by_cases hc : c = true
  · rw [if_pos hc] at h; exact ⟨hc, h⟩
  · rw [if_neg hc] at h; cases h
theorem z_t {β : Type} {c : Prop} {d : Decidable c} {x y : β} {o : β} (h : (if c then x else y) = o) (hc : c) : x = o := by rw [if_pos hc] at h; exact h
theorem z_f {β : Type} {c : Prop} {d : Decidable c} {x y : β} {o : β} (h : (if c then x else y) = o) (hc : ¬ c) : y = o := by rw [if_neg hc] at h; exact h
/-- 0 or 1 -/
def z_b01 (v : Int32) : Bool := decide (v = 0) || decide (v = 1)
theorem z_b01n {v : Int32} (h : z_b01 v = true) : narrow .boolean (.int v) = .int v := by
  simp only [z_b01, Bool.or_eq_true, decide_eq_true_eq] at h
  rcases h with rfl | rfl <;> decide +kernel
theorem z_b01f {v : Int32} (h : z_b01 v = true) : fits .boolean (.int v) = true := by
  simp only [z_b01, Bool.or_eq_true, decide_eq_true_eq] at h
  rcases h with rfl | rfl <;> decide +kernel
/-- a copy's places are in their rows -/
def z_cp (sp dp n : Int32) (n0 n1 : Nat) : Bool := decide (¬ sp < 0) && decide (¬ dp < 0) && decide (¬ n < 0) && decide (sp.toNatClampNeg + n.toNatClampNeg ≤ n0) && decide (dp.toNatClampNeg + n.toNatClampNeg ≤ n1)
theorem z_cp_p {sp dp n : Int32} {n0 n1 : Nat} (h : z_cp sp dp n n0 n1 = true) : ¬ sp < 0 ∧ ¬ dp < 0 ∧ ¬ n < 0 ∧ sp.toNatClampNeg + n.toNatClampNeg ≤ n0 ∧ dp.toNatClampNeg + n.toNatClampNeg ≤ n1 := by
  simp only [z_cp, Bool.and_eq_true, decide_eq_true_eq] at h
  exact ⟨h.1.1.1.1, h.1.1.1.2, h.1.1.2, h.1.2, h.2⟩
def z_cpR (σ : zS) (a b : zJ) (sp dp n : Int32) : zS := z_upR σ b (va_cpy (σ.1 a) (σ.1 b) sp.toNatClampNeg dp.toNatClampNeg n.toNatClampNeg)
/-- how far a loop may go: no run is longer -/
def z_fu : Nat := 1000000000
/-- room by levels of calls -/
def z_rm (k : Nat) : Room := { frames := k, cells := 0, slots := 0, locals := 60 * k }
theorem z_rmok {j k n : Nat} (h : j < k) (hn : n ≤ 40) : (z_rm j).frames + 1 ≤ (z_rm k).frames ∧ 8 + (n + 11) + (z_rm j).locals ≤ (z_rm k).locals := by
  show j + 1 ≤ k ∧ 8 + (n + 11) + 60 * j ≤ 60 * k
  omega
end
section
abbrev z_cl : List vw_C := [(RX0, TX0, 10), (RX1, TX1, 17), (RX2, TX2, 11), (RX3, TX3, 2), (RX4, TX4, 5), (RX5, TX5, 1), (RX6, TX6, 10), (RX7, TX7, 5), (RX8, TX8, 5), (RX9, TX9, 27)]
abbrev z_ty (E : zE) : List (ClassId × FieldType) := [(z_cy E 0, .int), (z_cy E 1, .byte), (z_cy E 2, .boolean), (z_cy E 3, .long), (z_cy E 4, .object RX1), (z_cy E 5, .object RX2), (z_cy E 6, .object RX7)]
/-- the cell of a name, out of its rows -/
def z_cell (E : zE) (r : Nat → Int32) (h : Nat → Int64) (a : zJ) : va_E :=
  if a.1 = 0 then .inr (7, [.ref (z_ad E (1, a.2.1, 0)), .ref (z_ad E (2, a.2.1, 0)), .ref (z_ad E (4, a.2.1, 0)), .int (r 3), .int (r 4)]) else
  if a.1 = 1 then .inl (z_cy E 4, 7, .inr (.inr (.inr (.inr (fun j => some (z_ad E (10, a.2.1, j))))))) else
  if a.1 = 2 then .inr (3, [.ref (z_ad E (3, a.2.1, 0)), .ref (z_ad E (20, a.2.1, 40))]) else
  if a.1 = 3 then .inl (z_cy E 5, 40, .inr (.inr (.inr (.inr (fun j => some (z_ad E (20, a.2.1, j))))))) else
  if a.1 = 4 then .inr (4, [.ref (z_ad E (5, a.2.1, 0)), .ref (z_ad E (6, a.2.1, 0)), .ref (z_ad E (7, a.2.1, 0)), .ref (z_ad E (8, a.2.1, 0)), .int (r 4)]) else
  if a.1 = 5 then .inl (z_cy E 0, 40, .inl r) else
  if a.1 = 6 then .inl (z_cy E 0, 40, .inl r) else
  if a.1 = 7 then .inl (z_cy E 0, 40, .inl r) else
  if a.1 = 8 then .inl (z_cy E 0, 40, .inl r) else
  if a.1 = 10 then .inr (1, [.int (r 0), .int (r 1), .int (r 2), .int (r 3), .int (r 4), .int (r 5), .int (r 6), .int (r 7), .int (r 8), .int (r 9), .int (r 10), .ref (z_ad E (11, a.2.1, a.2.2)), .ref (z_ad E (12, a.2.1, a.2.2)), .ref (z_ad E (14, a.2.1, a.2.2)), .ref (z_ad E (16, a.2.1, a.2.2)), .ref (z_ad E (17, a.2.1, a.2.2)), .ref (z_ad E (18, a.2.1, a.2.2))]) else
  if a.1 = 11 then .inl (z_cy E 0, 240, .inl r) else
  if a.1 = 12 then .inr (5, [.ref (z_ad E (z_nx a))]) else
  if a.1 = 13 then .inl (z_cy E 0, 20, .inl r) else
  if a.1 = 14 then .inr (5, [.ref (z_ad E (z_nx a))]) else
  if a.1 = 15 then .inl (z_cy E 0, 20, .inl r) else
  if a.1 = 16 then .inl (z_cy E 0, 7, .inl r) else
  if a.1 = 17 then .inl (z_cy E 0, 7, .inl r) else
  if a.1 = 18 then .inl (z_cy E 0, 7, .inl r) else
  if a.1 = 20 then .inr (2, [.int (r 0), .int (r 1), .int (r 2), .int (r 3), .int (r 4), .int (r 5), .int (r 6), .int (r 7), .int (r 8), .ref (z_ad E (21, a.2.1, a.2.2)), .ref (z_ad E (22, a.2.1, a.2.2))]) else
  if a.1 = 21 then .inl (z_cy E 0, 30, .inl r) else
  if a.1 = 22 then .inr (5, [.ref (z_ad E (z_nx a))]) else
  if a.1 = 23 then .inl (z_cy E 0, 20, .inl r) else
  if a.1 = 30 then .inr (8, [.ref (z_ad E (31, 0, 0)), .ref (z_ad E (0, 0, 0)), .ref (z_ad E (36, 0, 0)), .ref (z_ad E (37, 0, 0)), .ref (z_ad E (40, 0, 0))]) else
  if a.1 = 31 then .inr (6, [.ref (z_ad E (32, 0, 0)), .ref (z_ad E (33, 0, 0)), .ref (z_ad E (34, 0, 0)), .ref (z_ad E (35, 0, 0)), .int (r 4), .int (r 5), .int (r 6), .int (r 7), .int (r 8), .int (r 9)]) else
  if a.1 = 32 then .inl (z_cy E 1, 400, .inl r) else
  if a.1 = 33 then .inl (z_cy E 0, 7, .inl r) else
  if a.1 = 34 then .inl (z_cy E 0, 7, .inl r) else
  if a.1 = 35 then .inl (z_cy E 2, 7, .inl r) else
  if a.1 = 36 then .inl (z_cy E 6, 3, .inr (.inr (.inr (.inr (z_bx E))))) else
  if a.1 = 37 then .inl (z_cy E 2, 3, .inl r) else
  if a.1 = 40 then .inr (0, [.ref (z_ad E (41, 0, 0)), .ref (z_ad E (42, 0, 0)), .ref (z_ad E (43, 0, 0)), .ref (z_ad E (44, 0, 0)), .ref (z_ad E (45, 0, 0)), .ref (z_ad E (46, 0, 0)), .ref (z_ad E (47, 0, 0)), .int (r 7), .int (r 8), .int (r 9)]) else
  if a.1 = 41 then .inl (z_cy E 0, 9, .inl r) else
  if a.1 = 42 then .inl (z_cy E 0, 9, .inl r) else
  if a.1 = 43 then .inl (z_cy E 0, 9, .inl r) else
  if a.1 = 44 then .inl (z_cy E 0, 9, .inl r) else
  if a.1 = 45 then .inl (z_cy E 0, 9, .inl r) else
  if a.1 = 46 then .inl (z_cy E 0, 9, .inl r) else
  if a.1 = 47 then .inl (z_cy E 0, 512, .inl r) else
  if a.1 = 100 then .inr (9, [.ref (z_ad E (101, 0, 0)), .ref (z_ad E (102, 0, 0)), .ref (z_ad E (103, 0, 0)), .ref (z_ad E (104, 0, 0)), .ref (z_ad E (105, 0, 0)), .int (r 5), .int (r 6), .int (r 7), .int (r 8), .ref (z_ad E (106, 0, 0)), .ref (z_ad E (107, 0, 0)), .ref (z_ad E (108, 0, 0)), .int (r 12), .int (r 13), .int (r 14), .int (r 15), .int (r 16), .long (h 17), .ref (z_ad E (109, 0, 0)), .ref (z_ad E (110, 0, 0)), .ref (z_ad E (111, 0, 0)), .ref (z_ad E (112, 0, 0)), .ref (z_ad E (113, 0, 0)), .ref (z_ad E (114, 0, 0)), .ref (z_ad E (115, 0, 0)), .ref (z_ad E (116, 0, 0)), .int (r 26)]) else
  if a.1 = 101 then .inl (z_cy E 1, 420, .inl r) else
  if a.1 = 102 then .inl (z_cy E 1, 400, .inl r) else
  if a.1 = 103 then .inl (z_cy E 0, 5000, .inl r) else
  if a.1 = 104 then .inl (z_cy E 0, 15000, .inl r) else
  if a.1 = 105 then .inl (z_cy E 2, 3, .inl r) else
  if a.1 = 106 then .inl (z_cy E 0, 2, .inl r) else
  if a.1 = 107 then .inl (z_cy E 0, 2, .inl r) else
  if a.1 = 108 then .inl (z_cy E 3, 14, .inr (.inl h)) else
  if a.1 = 109 then .inl (z_cy E 0, 64, .inl r) else
  if a.1 = 110 then .inl (z_cy E 0, 9, .inl r) else
  if a.1 = 111 then .inl (z_cy E 0, 9, .inl r) else
  if a.1 = 112 then .inl (z_cy E 0, 9, .inl r) else
  if a.1 = 113 then .inl (z_cy E 0, 9, .inl r) else
  if a.1 = 114 then .inl (z_cy E 0, 9, .inl r) else
  if a.1 = 115 then .inl (z_cy E 0, 10, .inl r) else
  if a.1 = 116 then .inl (z_cy E 0, 11, .inl r) else
  .inr (99, [])
theorem z_c0 (E : zE) (r : Nat → Int32) (h : Nat → Int64) (w i : Nat) : z_cell E r h (0, w, i) = .inr (7, [.ref (z_ad E (1, w, 0)), .ref (z_ad E (2, w, 0)), .ref (z_ad E (4, w, 0)), .int (r 3), .int (r 4)]) := rfl
theorem z_c1 (E : zE) (r : Nat → Int32) (h : Nat → Int64) (w i : Nat) : z_cell E r h (1, w, i) = .inl (z_cy E 4, 7, .inr (.inr (.inr (.inr (fun j => some (z_ad E (10, w, j))))))) := rfl
theorem z_c2 (E : zE) (r : Nat → Int32) (h : Nat → Int64) (w i : Nat) : z_cell E r h (2, w, i) = .inr (3, [.ref (z_ad E (3, w, 0)), .ref (z_ad E (20, w, 40))]) := rfl
theorem z_c3 (E : zE) (r : Nat → Int32) (h : Nat → Int64) (w i : Nat) : z_cell E r h (3, w, i) = .inl (z_cy E 5, 40, .inr (.inr (.inr (.inr (fun j => some (z_ad E (20, w, j))))))) := rfl
theorem z_c4 (E : zE) (r : Nat → Int32) (h : Nat → Int64) (w i : Nat) : z_cell E r h (4, w, i) = .inr (4, [.ref (z_ad E (5, w, 0)), .ref (z_ad E (6, w, 0)), .ref (z_ad E (7, w, 0)), .ref (z_ad E (8, w, 0)), .int (r 4)]) := rfl
theorem z_c5 (E : zE) (r : Nat → Int32) (h : Nat → Int64) (w i : Nat) : z_cell E r h (5, w, i) = .inl (z_cy E 0, 40, .inl r) := rfl
theorem z_c6 (E : zE) (r : Nat → Int32) (h : Nat → Int64) (w i : Nat) : z_cell E r h (6, w, i) = .inl (z_cy E 0, 40, .inl r) := rfl
theorem z_c7 (E : zE) (r : Nat → Int32) (h : Nat → Int64) (w i : Nat) : z_cell E r h (7, w, i) = .inl (z_cy E 0, 40, .inl r) := rfl
theorem z_c8 (E : zE) (r : Nat → Int32) (h : Nat → Int64) (w i : Nat) : z_cell E r h (8, w, i) = .inl (z_cy E 0, 40, .inl r) := rfl
theorem z_c10 (E : zE) (r : Nat → Int32) (h : Nat → Int64) (w i : Nat) : z_cell E r h (10, w, i) = .inr (1, [.int (r 0), .int (r 1), .int (r 2), .int (r 3), .int (r 4), .int (r 5), .int (r 6), .int (r 7), .int (r 8), .int (r 9), .int (r 10), .ref (z_ad E (11, w, i)), .ref (z_ad E (12, w, i)), .ref (z_ad E (14, w, i)), .ref (z_ad E (16, w, i)), .ref (z_ad E (17, w, i)), .ref (z_ad E (18, w, i))]) := rfl
theorem z_c11 (E : zE) (r : Nat → Int32) (h : Nat → Int64) (w i : Nat) : z_cell E r h (11, w, i) = .inl (z_cy E 0, 240, .inl r) := rfl
theorem z_c12 (E : zE) (r : Nat → Int32) (h : Nat → Int64) (w i : Nat) : z_cell E r h (12, w, i) = .inr (5, [.ref (z_ad E (13, w, i))]) := rfl
theorem z_c13 (E : zE) (r : Nat → Int32) (h : Nat → Int64) (w i : Nat) : z_cell E r h (13, w, i) = .inl (z_cy E 0, 20, .inl r) := rfl
theorem z_c14 (E : zE) (r : Nat → Int32) (h : Nat → Int64) (w i : Nat) : z_cell E r h (14, w, i) = .inr (5, [.ref (z_ad E (15, w, i))]) := rfl
theorem z_c15 (E : zE) (r : Nat → Int32) (h : Nat → Int64) (w i : Nat) : z_cell E r h (15, w, i) = .inl (z_cy E 0, 20, .inl r) := rfl
theorem z_c16 (E : zE) (r : Nat → Int32) (h : Nat → Int64) (w i : Nat) : z_cell E r h (16, w, i) = .inl (z_cy E 0, 7, .inl r) := rfl
theorem z_c17 (E : zE) (r : Nat → Int32) (h : Nat → Int64) (w i : Nat) : z_cell E r h (17, w, i) = .inl (z_cy E 0, 7, .inl r) := rfl
theorem z_c18 (E : zE) (r : Nat → Int32) (h : Nat → Int64) (w i : Nat) : z_cell E r h (18, w, i) = .inl (z_cy E 0, 7, .inl r) := rfl
theorem z_c20 (E : zE) (r : Nat → Int32) (h : Nat → Int64) (w i : Nat) : z_cell E r h (20, w, i) = .inr (2, [.int (r 0), .int (r 1), .int (r 2), .int (r 3), .int (r 4), .int (r 5), .int (r 6), .int (r 7), .int (r 8), .ref (z_ad E (21, w, i)), .ref (z_ad E (22, w, i))]) := rfl
theorem z_c21 (E : zE) (r : Nat → Int32) (h : Nat → Int64) (w i : Nat) : z_cell E r h (21, w, i) = .inl (z_cy E 0, 30, .inl r) := rfl
theorem z_c22 (E : zE) (r : Nat → Int32) (h : Nat → Int64) (w i : Nat) : z_cell E r h (22, w, i) = .inr (5, [.ref (z_ad E (23, w, i))]) := rfl
theorem z_c23 (E : zE) (r : Nat → Int32) (h : Nat → Int64) (w i : Nat) : z_cell E r h (23, w, i) = .inl (z_cy E 0, 20, .inl r) := rfl
theorem z_c30 (E : zE) (r : Nat → Int32) (h : Nat → Int64) (w i : Nat) : z_cell E r h (30, w, i) = .inr (8, [.ref (z_ad E (31, 0, 0)), .ref (z_ad E (0, 0, 0)), .ref (z_ad E (36, 0, 0)), .ref (z_ad E (37, 0, 0)), .ref (z_ad E (40, 0, 0))]) := rfl
theorem z_c31 (E : zE) (r : Nat → Int32) (h : Nat → Int64) (w i : Nat) : z_cell E r h (31, w, i) = .inr (6, [.ref (z_ad E (32, 0, 0)), .ref (z_ad E (33, 0, 0)), .ref (z_ad E (34, 0, 0)), .ref (z_ad E (35, 0, 0)), .int (r 4), .int (r 5), .int (r 6), .int (r 7), .int (r 8), .int (r 9)]) := rfl
theorem z_c32 (E : zE) (r : Nat → Int32) (h : Nat → Int64) (w i : Nat) : z_cell E r h (32, w, i) = .inl (z_cy E 1, 400, .inl r) := rfl
theorem z_c33 (E : zE) (r : Nat → Int32) (h : Nat → Int64) (w i : Nat) : z_cell E r h (33, w, i) = .inl (z_cy E 0, 7, .inl r) := rfl
theorem z_c34 (E : zE) (r : Nat → Int32) (h : Nat → Int64) (w i : Nat) : z_cell E r h (34, w, i) = .inl (z_cy E 0, 7, .inl r) := rfl
theorem z_c35 (E : zE) (r : Nat → Int32) (h : Nat → Int64) (w i : Nat) : z_cell E r h (35, w, i) = .inl (z_cy E 2, 7, .inl r) := rfl
theorem z_c36 (E : zE) (r : Nat → Int32) (h : Nat → Int64) (w i : Nat) : z_cell E r h (36, w, i) = .inl (z_cy E 6, 3, .inr (.inr (.inr (.inr (z_bx E))))) := rfl
theorem z_c37 (E : zE) (r : Nat → Int32) (h : Nat → Int64) (w i : Nat) : z_cell E r h (37, w, i) = .inl (z_cy E 2, 3, .inl r) := rfl
theorem z_c40 (E : zE) (r : Nat → Int32) (h : Nat → Int64) (w i : Nat) : z_cell E r h (40, w, i) = .inr (0, [.ref (z_ad E (41, 0, 0)), .ref (z_ad E (42, 0, 0)), .ref (z_ad E (43, 0, 0)), .ref (z_ad E (44, 0, 0)), .ref (z_ad E (45, 0, 0)), .ref (z_ad E (46, 0, 0)), .ref (z_ad E (47, 0, 0)), .int (r 7), .int (r 8), .int (r 9)]) := rfl
theorem z_c41 (E : zE) (r : Nat → Int32) (h : Nat → Int64) (w i : Nat) : z_cell E r h (41, w, i) = .inl (z_cy E 0, 9, .inl r) := rfl
theorem z_c42 (E : zE) (r : Nat → Int32) (h : Nat → Int64) (w i : Nat) : z_cell E r h (42, w, i) = .inl (z_cy E 0, 9, .inl r) := rfl
theorem z_c43 (E : zE) (r : Nat → Int32) (h : Nat → Int64) (w i : Nat) : z_cell E r h (43, w, i) = .inl (z_cy E 0, 9, .inl r) := rfl
theorem z_c44 (E : zE) (r : Nat → Int32) (h : Nat → Int64) (w i : Nat) : z_cell E r h (44, w, i) = .inl (z_cy E 0, 9, .inl r) := rfl
theorem z_c45 (E : zE) (r : Nat → Int32) (h : Nat → Int64) (w i : Nat) : z_cell E r h (45, w, i) = .inl (z_cy E 0, 9, .inl r) := rfl
theorem z_c46 (E : zE) (r : Nat → Int32) (h : Nat → Int64) (w i : Nat) : z_cell E r h (46, w, i) = .inl (z_cy E 0, 9, .inl r) := rfl
theorem z_c47 (E : zE) (r : Nat → Int32) (h : Nat → Int64) (w i : Nat) : z_cell E r h (47, w, i) = .inl (z_cy E 0, 512, .inl r) := rfl
theorem z_c100 (E : zE) (r : Nat → Int32) (h : Nat → Int64) (w i : Nat) : z_cell E r h (100, w, i) = .inr (9, [.ref (z_ad E (101, 0, 0)), .ref (z_ad E (102, 0, 0)), .ref (z_ad E (103, 0, 0)), .ref (z_ad E (104, 0, 0)), .ref (z_ad E (105, 0, 0)), .int (r 5), .int (r 6), .int (r 7), .int (r 8), .ref (z_ad E (106, 0, 0)), .ref (z_ad E (107, 0, 0)), .ref (z_ad E (108, 0, 0)), .int (r 12), .int (r 13), .int (r 14), .int (r 15), .int (r 16), .long (h 17), .ref (z_ad E (109, 0, 0)), .ref (z_ad E (110, 0, 0)), .ref (z_ad E (111, 0, 0)), .ref (z_ad E (112, 0, 0)), .ref (z_ad E (113, 0, 0)), .ref (z_ad E (114, 0, 0)), .ref (z_ad E (115, 0, 0)), .ref (z_ad E (116, 0, 0)), .int (r 26)]) := rfl
theorem z_c101 (E : zE) (r : Nat → Int32) (h : Nat → Int64) (w i : Nat) : z_cell E r h (101, w, i) = .inl (z_cy E 1, 420, .inl r) := rfl
theorem z_c102 (E : zE) (r : Nat → Int32) (h : Nat → Int64) (w i : Nat) : z_cell E r h (102, w, i) = .inl (z_cy E 1, 400, .inl r) := rfl
theorem z_c103 (E : zE) (r : Nat → Int32) (h : Nat → Int64) (w i : Nat) : z_cell E r h (103, w, i) = .inl (z_cy E 0, 5000, .inl r) := rfl
theorem z_c104 (E : zE) (r : Nat → Int32) (h : Nat → Int64) (w i : Nat) : z_cell E r h (104, w, i) = .inl (z_cy E 0, 15000, .inl r) := rfl
theorem z_c105 (E : zE) (r : Nat → Int32) (h : Nat → Int64) (w i : Nat) : z_cell E r h (105, w, i) = .inl (z_cy E 2, 3, .inl r) := rfl
theorem z_c106 (E : zE) (r : Nat → Int32) (h : Nat → Int64) (w i : Nat) : z_cell E r h (106, w, i) = .inl (z_cy E 0, 2, .inl r) := rfl
theorem z_c107 (E : zE) (r : Nat → Int32) (h : Nat → Int64) (w i : Nat) : z_cell E r h (107, w, i) = .inl (z_cy E 0, 2, .inl r) := rfl
theorem z_c108 (E : zE) (r : Nat → Int32) (h : Nat → Int64) (w i : Nat) : z_cell E r h (108, w, i) = .inl (z_cy E 3, 14, .inr (.inl h)) := rfl
theorem z_c109 (E : zE) (r : Nat → Int32) (h : Nat → Int64) (w i : Nat) : z_cell E r h (109, w, i) = .inl (z_cy E 0, 64, .inl r) := rfl
theorem z_c110 (E : zE) (r : Nat → Int32) (h : Nat → Int64) (w i : Nat) : z_cell E r h (110, w, i) = .inl (z_cy E 0, 9, .inl r) := rfl
theorem z_c111 (E : zE) (r : Nat → Int32) (h : Nat → Int64) (w i : Nat) : z_cell E r h (111, w, i) = .inl (z_cy E 0, 9, .inl r) := rfl
theorem z_c112 (E : zE) (r : Nat → Int32) (h : Nat → Int64) (w i : Nat) : z_cell E r h (112, w, i) = .inl (z_cy E 0, 9, .inl r) := rfl
theorem z_c113 (E : zE) (r : Nat → Int32) (h : Nat → Int64) (w i : Nat) : z_cell E r h (113, w, i) = .inl (z_cy E 0, 9, .inl r) := rfl
theorem z_c114 (E : zE) (r : Nat → Int32) (h : Nat → Int64) (w i : Nat) : z_cell E r h (114, w, i) = .inl (z_cy E 0, 9, .inl r) := rfl
theorem z_c115 (E : zE) (r : Nat → Int32) (h : Nat → Int64) (w i : Nat) : z_cell E r h (115, w, i) = .inl (z_cy E 0, 10, .inl r) := rfl
theorem z_c116 (E : zE) (r : Nat → Int32) (h : Nat → Int64) (w i : Nat) : z_cell E r h (116, w, i) = .inl (z_cy E 0, 11, .inl r) := rfl
def z_isS (a : zJ) : Prop := a.1 = 12 ∨ a.1 = 14 ∨ a.1 = 22
theorem z_cS (E : zE) (r : Nat → Int32) (h : Nat → Int64) {a : zJ} (ha : z_isS a) : z_cell E r h a = .inr (5, [.ref (z_ad E (z_nx a))]) := by
  obtain ⟨p, w, i⟩ := a
  rcases ha with h1 | h1 | h1 <;> (cases h1; rfl)
theorem z_cSn (E : zE) (r : Nat → Int32) (h : Nat → Int64) {a : zJ} (ha : z_isS a) : z_cell E r h (z_nx a) = .inl (z_cy E 0, 20, .inl r) := by
  obtain ⟨p, w, i⟩ := a
  rcases ha with h1 | h1 | h1 <;> (cases h1; rfl)
def z_ws (E : zE) (σ : zS) : va_W := (z_ids E).map (fun a => (z_ad E a, z_cell E (σ.1 a) (σ.2 a) a))
theorem z_at {E : zE} {a : zJ} (σ : zS) (ha : a ∈ z_ids E) : ∃ k : Nat, (z_ids E)[k]? = some a ∧ (z_ws E σ)[k]? = some (z_ad E a, z_cell E (σ.1 a) (σ.2 a) a) := by
  obtain ⟨k, hk⟩ := List.getElem?_of_mem ha
  exact ⟨k, hk, by simp only [z_ws, List.getElem?_map, hk, Option.map_some]⟩
theorem z_setG {E : zE} {σ τ : zS} {A : Nat → Prop} (hD : va_D A (z_ws E σ)) {k : Nat} {a : zJ} (hk : (z_ids E)[k]? = some a) (hτ : ∀ b, b ≠ a → τ.1 b = σ.1 b ∧ τ.2 b = σ.2 b) {x : va_E} (hx : z_cell E (τ.1 a) (τ.2 a) a = x) : (z_ws E σ).set k (z_ad E a, x) = z_ws E τ := by
  apply List.ext_getElem?
  intro j
  by_cases hj : k = j
  · subst hj
    have hl : k < (z_ws E σ).length := by
      rw [z_ws, List.length_map]
      exact (List.getElem?_eq_some_iff.mp hk).1
    rw [List.getElem?_set_self hl, ← hx]
    simp only [z_ws, List.getElem?_map, hk, Option.map_some]
  · rw [List.getElem?_set_ne hj]
    simp only [z_ws, List.getElem?_map]
    cases hb : (z_ids E)[j]? with
    | none => rfl
    | some b =>
      have hne : b ≠ a := by
        intro e
        subst e
        refine hj (hD.1 k j (z_ad E b, z_cell E (σ.1 b) (σ.2 b) b) (z_ad E b, z_cell E (σ.1 b) (σ.2 b) b) ?_ ?_ rfl)
        · simp only [z_ws, List.getElem?_map, hk, Option.map_some]
        · simp only [z_ws, List.getElem?_map, hb, Option.map_some]
      simp only [Option.map_some, (hτ b hne).1, (hτ b hne).2]
theorem z_upR_o {σ : zS} {a : zJ} {r : Nat → Int32} : ∀ b, b ≠ a → (z_upR σ a r).1 b = σ.1 b ∧ (z_upR σ a r).2 b = σ.2 b := fun b hb => ⟨by simp only [z_upR, if_neg hb], rfl⟩
theorem z_upH_o {σ : zS} {a : zJ} {r : Nat → Int64} : ∀ b, b ≠ a → (z_upH σ a r).1 b = σ.1 b ∧ (z_upH σ a r).2 b = σ.2 b := fun b hb => ⟨rfl, by simp only [z_upH, if_neg hb]⟩
theorem z_upR_s {σ : zS} {a : zJ} {r : Nat → Int32} : (z_upR σ a r).1 a = r := by simp only [z_upR, if_true]
theorem z_upH_s {σ : zS} {a : zJ} {r : Nat → Int64} : (z_upH σ a r).2 a = r := by simp only [z_upH, if_true]
theorem z_ws_fst {E : zE} {σ : zS} {k : Nat} {q : Nat × va_E} (h : (z_ws E σ)[k]? = some q) : ∃ a, (z_ids E)[k]? = some a ∧ q.1 = z_ad E a := by
  simp only [z_ws, List.getElem?_map] at h
  cases hb : (z_ids E)[k]? with
  | none => rw [hb] at h; cases h
  | some b => rw [hb] at h; cases h; exact ⟨b, rfl, rfl⟩
/-- addresses apart: the same for every state -/
theorem z_Dall {E : zE} {σ : zS} {A : Nat → Prop} (hD : va_D A (z_ws E σ)) (τ : zS) : va_D A (z_ws E τ) := by
  have tr : ∀ {k : Nat} {q : Nat × va_E}, (z_ws E τ)[k]? = some q → ∃ q' : Nat × va_E, (z_ws E σ)[k]? = some q' ∧ q'.1 = q.1 := by
    intro k q h
    obtain ⟨a, h1, h2⟩ := z_ws_fst h
    exact ⟨(z_ad E a, z_cell E (σ.1 a) (σ.2 a) a), by simp only [z_ws, List.getElem?_map, h1, Option.map_some], h2.symm⟩
  refine ⟨fun i j p q hi hj hpq => ?_, fun k q hk => ?_⟩
  · obtain ⟨p', h1, e1⟩ := tr hi
    obtain ⟨q', h2, e2⟩ := tr hj
    exact hD.1 i j p' q' h1 h2 (by rw [e1, e2, hpq])
  · obtain ⟨q', h1, e1⟩ := tr hk
    rw [← e1]
    exact hD.2 k q' h1
/-- what a method may write: the named cells, and what is new -/
def z_A (E : zE) (sz : Nat) : Nat → Prop := fun q => (∃ a ∈ z_ids E, q = z_ad E a) ∨ sz ≤ q
theorem z_D_A {E : zE} {σ : zS} {A : Nat → Prop} (hD : va_D A (z_ws E σ)) (sz : Nat) : va_D (z_A E sz) (z_ws E σ) := ⟨hD.1, fun k q hk => by
  obtain ⟨a, h1, h2⟩ := z_ws_fst hk
  exact Or.inl ⟨a, List.mem_of_getElem? h1, h2⟩⟩
/-- what the tables say beside the words -/
def z_K (E : zE) (U : State) : Prop := va_K E.1 z_cl (z_ty E) U ∧ ∀ w ∈ z_nl, va_Nw w U
/-- all that stays the same along a method's walk -/
def z_C (E : zE) (own : String) (cc : ByteArray) (nL : Nat) (A : Nat → Prop) (p : Program) (s : State) (m : MethodId) (args : Array Value) (meth : Method) (c : Code) : Prop :=
  p.tables.exec = Jvm.exec ∧ c.code = cc ∧ c.maxLocals = nL ∧ s.vm.findClass own = some m.cls ∧ (∀ w ∈ z_wl, w.before args s = true) ∧ z_K E s ∧ (∀ σ, va_D A (z_ws E σ)) ∧ (∀ q : Nat, s.heap.size ≤ q → A q) ∧ meth.locks = false
/-- the heap holds the state -/
def z_H (E : zE) (A : Nat → Prop) (s : State) (σ : zS) (H : Heap) (locs : List Loc) : Prop := va_P E.1 z_cl (z_ws E σ) H ∧ va_S A s.heap H locs
section z_rows
variable {p : Program} {l : Launch} {e : Env} {R : Room} {s : State} {m : MethodId} {args : Array Value} {below : List Frame} {meth : Method} {c : Code} {H : Heap} {locs : List Loc} {cells slots : Nat} {Q : State → Prop}
variable {cc : ByteArray} {pc nL : Nat} {ls : Array Slot} {rest : List Value} {E : zE} {σ : zS} {A : Nat → Prop} {own : String}
theorem z_get (C : z_C E own cc nL A p s m args meth c) (hs : z_H E A s σ H locs) {a : zJ} (ha : a ∈ z_ids E) {ci N index : Nat} {Cn : String} {T : u_T} {fs : List Value} (hce : z_cell E (σ.1 a) (σ.2 a) a = .inr (ci, fs)) (hc : z_cl[ci]? = some (Cn, T, N)) (hin : ∀ w ∈ u_ws Cn T N, w ∈ z_wl) (k : Nat) (hk : k < N) (hl : Cond.fieldLink own index (T k).1 (T k).2.1 (T k).2.2.1 ∈ z_wl) {v : Value} (hv : fs[k]? = some v) (hdg : decode cc pc = .ok (.getfield index, 3))
    (kk : W p l e R s m args below meth c H locs cells slots Q (F0 m (pc + 3) ls (v :: rest))) : W p l e R s m args below meth c H locs cells slots Q (F0 m pc ls (.ref (z_ad E a) :: rest)) := by
  obtain ⟨hx, hb, hml, hown, hts, hK, hD, hA, -⟩ := C
  obtain ⟨q0, -, he⟩ := z_at σ ha
  rw [hce] at he
  exact va_get hx hb hts hin hown hK.1 hs.1 q0 he hc k hk (hts _ hl) (fun _ h => h) hv hdg kk
theorem z_put (C : z_C E own cc nL A p s m args meth c) (hs : z_H E A s σ H locs) {a : zJ} (ha : a ∈ z_ids E) {ci N index : Nat} {Cn : String} {T : u_T} {fs : List Value} (hce : z_cell E (σ.1 a) (σ.2 a) a = .inr (ci, fs)) (hc : z_cl[ci]? = some (Cn, T, N)) (hin : ∀ w ∈ u_ws Cn T N, w ∈ z_wl) (ty0 : Nat → FieldType) (hty : ∀ k, k < N → parseFieldDescriptor (T k).2.2.1 = some (ty0 k)) (hnm : ∀ a, a < N → ∀ b, b < N → a ≠ b → (T a).2.1 ≠ (T b).2.1) (k : Nat) (hk : k < N) (hl : Cond.fieldLink own index (T k).1 (T k).2.1 (T k).2.2.1 ∈ z_wl) (hfin : (T k).2.2.2 = false) {v : Value} {ty : FieldType} (hd : ty0 k = ty) (hn : narrow ty v = v) (hfit : fits ty v = true) (hlen : k < fs.length) {τ : zS} (hτ : ∀ b, b ≠ a → τ.1 b = σ.1 b ∧ τ.2 b = σ.2 b) (hx : z_cell E (τ.1 a) (τ.2 a) a = .inr (ci, fs.set k v)) (hdg : decode cc pc = .ok (.putfield index, 3))
    (kk : ∀ (H : Heap) (locs : List Loc), z_H E A s τ H locs → W p l e R s m args below meth c H locs cells slots Q (F0 m (pc + 3) ls rest)) : W p l e R s m args below meth c H locs cells slots Q (F0 m pc ls (v :: .ref (z_ad E a) :: rest)) := by
  obtain ⟨hex, hb, hml, hown, hts, hK, hD, hA, -⟩ := C
  obtain ⟨q0, hq, he⟩ := z_at σ ha
  rw [hce] at he
  refine va_put hex hb hts hin ty0 hty hnm hown hK.1 hs.1 (hD σ) hs.2 q0 he hc k hk (hts _ hl) (fun _ h => h) hfin (by rw [hty k hk, hd]) hn hfit hlen hdg (fun H1 locs1 h1 _ h3 => kk H1 locs1 ⟨?_, h3⟩)
  rw [z_setG (hD σ) hq hτ hx] at h1
  exact h1
theorem z_ald (C : z_C E own cc nL A p s m args meth c) (hs : z_H E A s σ H locs) {a : zJ} (ha : a ∈ z_ids E) {n : Nat} (hce : z_cell E (σ.1 a) (σ.2 a) a = .inl (z_cy E 0, n, .inl (σ.1 a))) {i : Int32} (g : z_in i n = true) {k : Nat} (hk : i.toNatClampNeg = k) (hdg : decode cc pc = .ok (.iaload, 1))
    (kk : W p l e R s m args below meth c H locs cells slots Q (F0 m (pc + 1) ls (.int (σ.1 a k) :: rest))) : W p l e R s m args below meth c H locs cells slots Q (F0 m pc ls (.int i :: .ref (z_ad E a) :: rest)) := by
  subst hk
  obtain ⟨hex, hb, hml, hown, hts, hK, hD, hA, -⟩ := C
  obtain ⟨q0, -, he⟩ := z_at σ ha
  rw [hce] at he
  exact va_iald hex hb hK.1 hs.1 q0 0 he rfl (z_in_p g) hdg kk
theorem z_bald (C : z_C E own cc nL A p s m args meth c) (hs : z_H E A s σ H locs) {a : zJ} (ha : a ∈ z_ids E) {n : Nat} (hce : z_cell E (σ.1 a) (σ.2 a) a = .inl (z_cy E 1, n, .inl (σ.1 a))) {i : Int32} (g : z_in i n = true) {k : Nat} (hk : i.toNatClampNeg = k) (hdg : decode cc pc = .ok (.baload, 1))
    (kk : W p l e R s m args below meth c H locs cells slots Q (F0 m (pc + 1) ls (.int (σ.1 a k) :: rest))) : W p l e R s m args below meth c H locs cells slots Q (F0 m pc ls (.int i :: .ref (z_ad E a) :: rest)) := by
  subst hk
  obtain ⟨hex, hb, hml, hown, hts, hK, hD, hA, -⟩ := C
  obtain ⟨q0, -, he⟩ := z_at σ ha
  rw [hce] at he
  exact va_bald hex hb hK.1 hs.1 q0 1 he rfl (z_in_p g) hdg kk
theorem z_zald (C : z_C E own cc nL A p s m args meth c) (hs : z_H E A s σ H locs) {a : zJ} (ha : a ∈ z_ids E) {n : Nat} (hce : z_cell E (σ.1 a) (σ.2 a) a = .inl (z_cy E 2, n, .inl (σ.1 a))) {i : Int32} (g : z_in i n = true) {k : Nat} (hk : i.toNatClampNeg = k) (hdg : decode cc pc = .ok (.baload, 1))
    (kk : W p l e R s m args below meth c H locs cells slots Q (F0 m (pc + 1) ls (.int (σ.1 a k) :: rest))) : W p l e R s m args below meth c H locs cells slots Q (F0 m pc ls (.int i :: .ref (z_ad E a) :: rest)) := by
  subst hk
  obtain ⟨hex, hb, hml, hown, hts, hK, hD, hA, -⟩ := C
  obtain ⟨q0, -, he⟩ := z_at σ ha
  rw [hce] at he
  exact va_zald hex hb hK.1 hs.1 q0 2 he rfl (z_in_p g) hdg kk
theorem z_lald (C : z_C E own cc nL A p s m args meth c) (hs : z_H E A s σ H locs) {a : zJ} (ha : a ∈ z_ids E) {n : Nat} (hce : z_cell E (σ.1 a) (σ.2 a) a = .inl (z_cy E 3, n, .inr (.inl (σ.2 a)))) {i : Int32} (g : z_in i n = true) {k : Nat} (hk : i.toNatClampNeg = k) (hdg : decode cc pc = .ok (.laload, 1))
    (kk : W p l e R s m args below meth c H locs cells slots Q (F0 m (pc + 1) ls (.long (σ.2 a k) :: rest))) : W p l e R s m args below meth c H locs cells slots Q (F0 m pc ls (.int i :: .ref (z_ad E a) :: rest)) := by
  subst hk
  obtain ⟨hex, hb, hml, hown, hts, hK, hD, hA, -⟩ := C
  obtain ⟨q0, -, he⟩ := z_at σ ha
  rw [hce] at he
  exact va_lald hex hb hK.1 hs.1 q0 3 he rfl (z_in_p g) hdg kk
theorem z_aald (C : z_C E own cc nL A p s m args meth c) (hs : z_H E A s σ H locs) {a : zJ} (ha : a ∈ z_ids E) {n t0 : Nat} {Cn : String} {cA : ClassId} {f : Nat → Option Nat} (hce : z_cell E (σ.1 a) (σ.2 a) a = .inl (cA, n, .inr (.inr (.inr (.inr f))))) (ht : (z_ty E)[t0]? = some (cA, .object Cn)) {i : Int32} (g : z_in i n = true) {v : Value} (hv : va_rf (f i.toNatClampNeg) = v) (hdg : decode cc pc = .ok (.aaload, 1))
    (kk : W p l e R s m args below meth c H locs cells slots Q (F0 m (pc + 1) ls (v :: rest))) : W p l e R s m args below meth c H locs cells slots Q (F0 m pc ls (.int i :: .ref (z_ad E a) :: rest)) := by
  obtain ⟨hex, hb, hml, hown, hts, hK, hD, hA, -⟩ := C
  obtain ⟨q0, -, he⟩ := z_at σ ha
  rw [hce] at he
  subst hv
  exact va_aldq hex hb hK.1 hs.1 q0 t0 he ht (z_in_p g) hdg kk
theorem z_alen (C : z_C E own cc nL A p s m args meth c) (hs : z_H E A s σ H locs) {a : zJ} (ha : a ∈ z_ids E) {n : Nat} {r : Nat → Int32} (hce : z_cell E (σ.1 a) (σ.2 a) a = .inl (z_cy E 0, n, .inl r)) {v : Int32} (hv : Int32.ofNat n = v) (hdg : decode cc pc = .ok (.arraylength, 1))
    (kk : W p l e R s m args below meth c H locs cells slots Q (F0 m (pc + 1) ls (.int v :: rest))) : W p l e R s m args below meth c H locs cells slots Q (F0 m pc ls (.ref (z_ad E a) :: rest)) := by
  obtain ⟨hex, hb, hml, hown, hts, hK, hD, hA, -⟩ := C
  obtain ⟨q0, -, he⟩ := z_at σ ha
  rw [hce] at he
  exact va_alen hex hb hK.1 hs.1 q0 0 he rfl hv hdg kk
theorem z_ast (C : z_C E own cc nL A p s m args meth c) (hs : z_H E A s σ H locs) {a : zJ} (ha : a ∈ z_ids E) {n : Nat} (hce : ∀ r h, z_cell E r h a = .inl (z_cy E 0, n, .inl r)) {i x : Int32} (g : z_in i n = true) {k : Nat} (hk : i.toNatClampNeg = k) (hdg : decode cc pc = .ok (.iastore, 1))
    (kk : ∀ (H : Heap) (locs : List Loc), z_H E A s (z_up σ a k x) H locs → W p l e R s m args below meth c H locs cells slots Q (F0 m (pc + 1) ls rest)) : W p l e R s m args below meth c H locs cells slots Q (F0 m pc ls (.int x :: .int i :: .ref (z_ad E a) :: rest)) := by
  subst hk
  obtain ⟨hex, hb, hml, hown, hts, hK, hD, hA, -⟩ := C
  obtain ⟨q0, hq, he⟩ := z_at σ ha
  rw [hce] at he
  refine va_iast hex hb hK.1 hs.1 (hD σ) hs.2 q0 0 he rfl (z_in_p g) hdg (fun H1 locs1 h1 _ h3 => kk H1 locs1 ⟨?_, h3⟩)
  rw [z_setG (hD σ) hq (τ := z_up σ a i.toNatClampNeg x) z_upR_o (by rw [hce, z_up, z_upR_s])] at h1
  exact h1
theorem z_bast (C : z_C E own cc nL A p s m args meth c) (hs : z_H E A s σ H locs) {a : zJ} (ha : a ∈ z_ids E) {n : Nat} (hce : ∀ r h, z_cell E r h a = .inl (z_cy E 1, n, .inl r)) {i x : Int32} (g : z_in i n = true) {k : Nat} (hk : i.toNatClampNeg = k) (hdg : decode cc pc = .ok (.bastore, 1))
    (kk : ∀ (H : Heap) (locs : List Loc), z_H E A s (z_up σ a k (vp_nar .byte x)) H locs → W p l e R s m args below meth c H locs cells slots Q (F0 m (pc + 1) ls rest)) : W p l e R s m args below meth c H locs cells slots Q (F0 m pc ls (.int x :: .int i :: .ref (z_ad E a) :: rest)) := by
  subst hk
  obtain ⟨hex, hb, hml, hown, hts, hK, hD, hA, -⟩ := C
  obtain ⟨q0, hq, he⟩ := z_at σ ha
  rw [hce] at he
  refine va_bast hex hb hK.1 hs.1 (hD σ) hs.2 q0 1 he rfl (z_in_p g) hdg (fun H1 locs1 h1 _ h3 => kk H1 locs1 ⟨?_, h3⟩)
  rw [z_setG (hD σ) hq (τ := z_up σ a i.toNatClampNeg (vp_nar .byte x)) z_upR_o (by rw [hce, z_up, z_upR_s])] at h1
  exact h1
theorem z_zast (C : z_C E own cc nL A p s m args meth c) (hs : z_H E A s σ H locs) {a : zJ} (ha : a ∈ z_ids E) {n : Nat} (hce : ∀ r h, z_cell E r h a = .inl (z_cy E 2, n, .inl r)) {i x : Int32} (g : z_in i n = true) {k : Nat} (hk : i.toNatClampNeg = k) (hdg : decode cc pc = .ok (.bastore, 1))
    (kk : ∀ (H : Heap) (locs : List Loc), z_H E A s (z_up σ a k (vp_nar .boolean x)) H locs → W p l e R s m args below meth c H locs cells slots Q (F0 m (pc + 1) ls rest)) : W p l e R s m args below meth c H locs cells slots Q (F0 m pc ls (.int x :: .int i :: .ref (z_ad E a) :: rest)) := by
  subst hk
  obtain ⟨hex, hb, hml, hown, hts, hK, hD, hA, -⟩ := C
  obtain ⟨q0, hq, he⟩ := z_at σ ha
  rw [hce] at he
  refine va_zast hex hb hK.1 hs.1 (hD σ) hs.2 q0 2 he rfl (z_in_p g) hdg (fun H1 locs1 h1 _ h3 => kk H1 locs1 ⟨?_, h3⟩)
  rw [z_setG (hD σ) hq (τ := z_up σ a i.toNatClampNeg (vp_nar .boolean x)) z_upR_o (by rw [hce, z_up, z_upR_s])] at h1
  exact h1
theorem z_last (C : z_C E own cc nL A p s m args meth c) (hs : z_H E A s σ H locs) {a : zJ} (ha : a ∈ z_ids E) {n : Nat} (hce : ∀ r h, z_cell E r h a = .inl (z_cy E 3, n, .inr (.inl h))) {i : Int32} {x : Int64} (g : z_in i n = true) {k : Nat} (hk : i.toNatClampNeg = k) (hdg : decode cc pc = .ok (.lastore, 1))
    (kk : ∀ (H : Heap) (locs : List Loc), z_H E A s (z_upl σ a k x) H locs → W p l e R s m args below meth c H locs cells slots Q (F0 m (pc + 1) ls rest)) : W p l e R s m args below meth c H locs cells slots Q (F0 m pc ls (.long x :: .int i :: .ref (z_ad E a) :: rest)) := by
  subst hk
  obtain ⟨hex, hb, hml, hown, hts, hK, hD, hA, -⟩ := C
  obtain ⟨q0, hq, he⟩ := z_at σ ha
  rw [hce] at he
  refine va_last hex hb hK.1 hs.1 (hD σ) hs.2 q0 3 he rfl (z_in_p g) hdg (fun H1 locs1 h1 _ h3 => kk H1 locs1 ⟨?_, h3⟩)
  rw [z_setG (hD σ) hq (τ := z_upl σ a i.toNatClampNeg x) z_upH_o (by rw [hce, z_upl, z_upH_s])] at h1
  exact h1
theorem z_acp (C : z_C E own cc nL A p s m args meth c) (hs : z_H E A s σ H locs) (hls : ls.size = nL) {a b : zJ} (ha : a ∈ z_ids E) (hb : b ∈ z_ids E) {n0 n1 : Nat} (hca : ∀ r h, z_cell E r h a = .inl (z_cy E 0, n0, .inl r)) (hcb : ∀ r h, z_cell E r h b = .inl (z_cy E 0, n1, .inl r)) {index : Nat} (hl : Cond.methodLink own index arraycopyName ∈ z_wl) {sp dp n : Int32} (g : z_cp sp dp n n0 n1 = true) (hfr : 1 ≤ R.frames) (hlo : 60 ≤ R.locals) (hrest : (rest.map fun v => v.category).sum ≤ 8) (hnat : (Cond.native arraycopyName) ∈ z_wl) (hst : (Cond.static arraycopyName) ∈ z_wl) (hini : (Cond.initialized "java/lang/System") ∈ z_wl) (hdg : decode cc pc = .ok (.invokestatic index, 3))
    (kk : ∀ (H : Heap) (locs : List Loc), z_H E A s (z_cpR σ a b sp dp n) H locs → W p l e R s m args below meth c H locs cells slots Q (F0 m (pc + 3) ls rest)) : W p l e R s m args below meth c H locs cells slots Q (F0 m pc ls (.int n :: .int dp :: .ref (z_ad E b) :: .int sp :: .ref (z_ad E a) :: rest)) := by
  obtain ⟨hex, hbc, hml, hown, hts, hK, hD, hA, -⟩ := C
  obtain ⟨q0, hq0, he0⟩ := z_at σ ha
  obtain ⟨q1, hq1, he1⟩ := z_at σ hb
  rw [hca] at he0
  rw [hcb] at he1
  obtain ⟨g1, g2, g3, g4, g5⟩ := z_cp_p g
  refine va_copyi hex hbc (hml.trans hls.symm) hown (hts _ hl) (hts _ hnat) (hts _ hst) (hts _ hini) hK.1 hs.1 (hD σ) hs.2 q0 q1 0 0 he0 he1 rfl rfl rfl g1 g2 g3 g4 g5 (fun i _ => rfl) hfr ?_ hdg (fun H1 locs1 h1 _ h3 => kk H1 locs1 ⟨?_, h3⟩)
  · have : nativeFrameWords "java/lang/System" "arraycopy" 5 + 11 ≤ 52 := by decide +kernel
    omega
  · rw [z_setG (hD σ) hq1 (τ := z_cpR σ a b sp dp n) z_upR_o (by rw [hcb, z_cpR, z_upR_s])] at h1
    exact h1
theorem zg_H_begun (C : z_C E own cc nL A p s m args meth c) (hs : z_H E A s σ H locs)  (ha : (40, 0, 0) ∈ z_ids E) {index : Nat} (hl : Cond.fieldLink own index "LogKeepers$History" "begun" "[I" ∈ z_wl) (hdg : decode cc pc = .ok (.getfield index, 3))
    (kk : W p l e R s m args below meth c H locs cells slots Q (F0 m (pc + 3) ls (.ref (z_ad E (41, 0, 0)) :: rest))) : W p l e R s m args below meth c H locs cells slots Q (F0 m pc ls (.ref (z_ad E (40, 0, 0)) :: rest)) :=
  z_get C hs ha (z_c40 E _ _ _ _) rfl z_iX0 0 (by decide) hl rfl hdg kk
theorem zg_H_ended (C : z_C E own cc nL A p s m args meth c) (hs : z_H E A s σ H locs)  (ha : (40, 0, 0) ∈ z_ids E) {index : Nat} (hl : Cond.fieldLink own index "LogKeepers$History" "ended" "[I" ∈ z_wl) (hdg : decode cc pc = .ok (.getfield index, 3))
    (kk : W p l e R s m args below meth c H locs cells slots Q (F0 m (pc + 3) ls (.ref (z_ad E (42, 0, 0)) :: rest))) : W p l e R s m args below meth c H locs cells slots Q (F0 m pc ls (.ref (z_ad E (40, 0, 0)) :: rest)) :=
  z_get C hs ha (z_c40 E _ _ _ _) rfl z_iX0 1 (by decide) hl rfl hdg kk
theorem zg_H_what (C : z_C E own cc nL A p s m args meth c) (hs : z_H E A s σ H locs)  (ha : (40, 0, 0) ∈ z_ids E) {index : Nat} (hl : Cond.fieldLink own index "LogKeepers$History" "what" "[I" ∈ z_wl) (hdg : decode cc pc = .ok (.getfield index, 3))
    (kk : W p l e R s m args below meth c H locs cells slots Q (F0 m (pc + 3) ls (.ref (z_ad E (43, 0, 0)) :: rest))) : W p l e R s m args below meth c H locs cells slots Q (F0 m pc ls (.ref (z_ad E (40, 0, 0)) :: rest)) :=
  z_get C hs ha (z_c40 E _ _ _ _) rfl z_iX0 2 (by decide) hl rfl hdg kk
theorem zg_H_value (C : z_C E own cc nL A p s m args meth c) (hs : z_H E A s σ H locs)  (ha : (40, 0, 0) ∈ z_ids E) {index : Nat} (hl : Cond.fieldLink own index "LogKeepers$History" "value" "[I" ∈ z_wl) (hdg : decode cc pc = .ok (.getfield index, 3))
    (kk : W p l e R s m args below meth c H locs cells slots Q (F0 m (pc + 3) ls (.ref (z_ad E (44, 0, 0)) :: rest))) : W p l e R s m args below meth c H locs cells slots Q (F0 m pc ls (.ref (z_ad E (40, 0, 0)) :: rest)) :=
  z_get C hs ha (z_c40 E _ _ _ _) rfl z_iX0 3 (by decide) hl rfl hdg kk
theorem zg_H_answer (C : z_C E own cc nL A p s m args meth c) (hs : z_H E A s σ H locs)  (ha : (40, 0, 0) ∈ z_ids E) {index : Nat} (hl : Cond.fieldLink own index "LogKeepers$History" "answer" "[I" ∈ z_wl) (hdg : decode cc pc = .ok (.getfield index, 3))
    (kk : W p l e R s m args below meth c H locs cells slots Q (F0 m (pc + 3) ls (.ref (z_ad E (45, 0, 0)) :: rest))) : W p l e R s m args below meth c H locs cells slots Q (F0 m pc ls (.ref (z_ad E (40, 0, 0)) :: rest)) :=
  z_get C hs ha (z_c40 E _ _ _ _) rfl z_iX0 4 (by decide) hl rfl hdg kk
theorem zg_H_first (C : z_C E own cc nL A p s m args meth c) (hs : z_H E A s σ H locs)  (ha : (40, 0, 0) ∈ z_ids E) {index : Nat} (hl : Cond.fieldLink own index "LogKeepers$History" "first" "[I" ∈ z_wl) (hdg : decode cc pc = .ok (.getfield index, 3))
    (kk : W p l e R s m args below meth c H locs cells slots Q (F0 m (pc + 3) ls (.ref (z_ad E (46, 0, 0)) :: rest))) : W p l e R s m args below meth c H locs cells slots Q (F0 m pc ls (.ref (z_ad E (40, 0, 0)) :: rest)) :=
  z_get C hs ha (z_c40 E _ _ _ _) rfl z_iX0 5 (by decide) hl rfl hdg kk
theorem zg_H_hopeless (C : z_C E own cc nL A p s m args meth c) (hs : z_H E A s σ H locs)  (ha : (40, 0, 0) ∈ z_ids E) {index : Nat} (hl : Cond.fieldLink own index "LogKeepers$History" "hopeless" "[I" ∈ z_wl) (hdg : decode cc pc = .ok (.getfield index, 3))
    (kk : W p l e R s m args below meth c H locs cells slots Q (F0 m (pc + 3) ls (.ref (z_ad E (47, 0, 0)) :: rest))) : W p l e R s m args below meth c H locs cells slots Q (F0 m pc ls (.ref (z_ad E (40, 0, 0)) :: rest)) :=
  z_get C hs ha (z_c40 E _ _ _ _) rfl z_iX0 6 (by decide) hl rfl hdg kk
theorem zg_H_size (C : z_C E own cc nL A p s m args meth c) (hs : z_H E A s σ H locs)  (ha : (40, 0, 0) ∈ z_ids E) {index : Nat} (hl : Cond.fieldLink own index "LogKeepers$History" "size" "I" ∈ z_wl) (hdg : decode cc pc = .ok (.getfield index, 3))
    (kk : W p l e R s m args below meth c H locs cells slots Q (F0 m (pc + 3) ls (.int (σ.1 (40, 0, 0) 7) :: rest))) : W p l e R s m args below meth c H locs cells slots Q (F0 m pc ls (.ref (z_ad E (40, 0, 0)) :: rest)) :=
  z_get C hs ha (z_c40 E _ _ _ _) rfl z_iX0 7 (by decide) hl rfl hdg kk
theorem zp_H_size (C : z_C E own cc nL A p s m args meth c) (hs : z_H E A s σ H locs)  (ha : (40, 0, 0) ∈ z_ids E) {index : Nat} (hl : Cond.fieldLink own index "LogKeepers$History" "size" "I" ∈ z_wl) {v : Int32} (hdg : decode cc pc = .ok (.putfield index, 3))
    (kk : ∀ (H : Heap) (locs : List Loc), z_H E A s (z_up σ (40, 0, 0) 7 v) H locs → W p l e R s m args below meth c H locs cells slots Q (F0 m (pc + 3) ls rest)) : W p l e R s m args below meth c H locs cells slots Q (F0 m pc ls (.int v :: .ref (z_ad E (40, 0, 0)) :: rest)) :=
  z_put C hs ha (z_c40 E _ _ _ _) rfl z_iX0 tyX0 tyX0_ok nmX0 7 (by decide) hl rfl (ty := .int) rfl rfl rfl (Nat.le_of_ble_eq_true rfl) (τ := z_up σ (40, 0, 0) 7 v) z_upR_o (by rw [z_up, z_upR_s]; rfl) hdg kk
theorem zg_H_judged (C : z_C E own cc nL A p s m args meth c) (hs : z_H E A s σ H locs)  (ha : (40, 0, 0) ∈ z_ids E) {index : Nat} (hl : Cond.fieldLink own index "LogKeepers$History" "judged" "Z" ∈ z_wl) (hdg : decode cc pc = .ok (.getfield index, 3))
    (kk : W p l e R s m args below meth c H locs cells slots Q (F0 m (pc + 3) ls (.int (σ.1 (40, 0, 0) 8) :: rest))) : W p l e R s m args below meth c H locs cells slots Q (F0 m pc ls (.ref (z_ad E (40, 0, 0)) :: rest)) :=
  z_get C hs ha (z_c40 E _ _ _ _) rfl z_iX0 8 (by decide) hl rfl hdg kk
theorem zp_H_judged (C : z_C E own cc nL A p s m args meth c) (hs : z_H E A s σ H locs)  (ha : (40, 0, 0) ∈ z_ids E) {index : Nat} (hl : Cond.fieldLink own index "LogKeepers$History" "judged" "Z" ∈ z_wl) {v : Int32} (hv : z_b01 v = true) (hdg : decode cc pc = .ok (.putfield index, 3))
    (kk : ∀ (H : Heap) (locs : List Loc), z_H E A s (z_up σ (40, 0, 0) 8 v) H locs → W p l e R s m args below meth c H locs cells slots Q (F0 m (pc + 3) ls rest)) : W p l e R s m args below meth c H locs cells slots Q (F0 m pc ls (.int v :: .ref (z_ad E (40, 0, 0)) :: rest)) :=
  z_put C hs ha (z_c40 E _ _ _ _) rfl z_iX0 tyX0 tyX0_ok nmX0 8 (by decide) hl rfl (ty := .boolean) rfl (z_b01n hv) (z_b01f hv) (Nat.le_of_ble_eq_true rfl) (τ := z_up σ (40, 0, 0) 8 v) z_upR_o (by rw [z_up, z_upR_s]; rfl) hdg kk
theorem zg_H_right (C : z_C E own cc nL A p s m args meth c) (hs : z_H E A s σ H locs)  (ha : (40, 0, 0) ∈ z_ids E) {index : Nat} (hl : Cond.fieldLink own index "LogKeepers$History" "right" "Z" ∈ z_wl) (hdg : decode cc pc = .ok (.getfield index, 3))
    (kk : W p l e R s m args below meth c H locs cells slots Q (F0 m (pc + 3) ls (.int (σ.1 (40, 0, 0) 9) :: rest))) : W p l e R s m args below meth c H locs cells slots Q (F0 m pc ls (.ref (z_ad E (40, 0, 0)) :: rest)) :=
  z_get C hs ha (z_c40 E _ _ _ _) rfl z_iX0 9 (by decide) hl rfl hdg kk
theorem zp_H_right (C : z_C E own cc nL A p s m args meth c) (hs : z_H E A s σ H locs)  (ha : (40, 0, 0) ∈ z_ids E) {index : Nat} (hl : Cond.fieldLink own index "LogKeepers$History" "right" "Z" ∈ z_wl) {v : Int32} (hv : z_b01 v = true) (hdg : decode cc pc = .ok (.putfield index, 3))
    (kk : ∀ (H : Heap) (locs : List Loc), z_H E A s (z_up σ (40, 0, 0) 9 v) H locs → W p l e R s m args below meth c H locs cells slots Q (F0 m (pc + 3) ls rest)) : W p l e R s m args below meth c H locs cells slots Q (F0 m pc ls (.int v :: .ref (z_ad E (40, 0, 0)) :: rest)) :=
  z_put C hs ha (z_c40 E _ _ _ _) rfl z_iX0 tyX0 tyX0_ok nmX0 9 (by decide) hl rfl (ty := .boolean) rfl (z_b01n hv) (z_b01f hv) (Nat.le_of_ble_eq_true rfl) (τ := z_up σ (40, 0, 0) 9 v) z_upR_o (by rw [z_up, z_upR_s]; rfl) hdg kk
theorem zg_K_voter (C : z_C E own cc nL A p s m args meth c) (hs : z_H E A s σ H locs) {w i : Nat} (ha : (10, w, i) ∈ z_ids E) {index : Nat} (hl : Cond.fieldLink own index "LogKeepers$Keeper" "voter" "Z" ∈ z_wl) (hdg : decode cc pc = .ok (.getfield index, 3))
    (kk : W p l e R s m args below meth c H locs cells slots Q (F0 m (pc + 3) ls (.int (σ.1 (10, w, i) 0) :: rest))) : W p l e R s m args below meth c H locs cells slots Q (F0 m pc ls (.ref (z_ad E (10, w, i)) :: rest)) :=
  z_get C hs ha (z_c10 E _ _ _ _) rfl z_iX1 0 (by decide) hl rfl hdg kk
theorem zp_K_voter (C : z_C E own cc nL A p s m args meth c) (hs : z_H E A s σ H locs) {w i : Nat} (ha : (10, w, i) ∈ z_ids E) {index : Nat} (hl : Cond.fieldLink own index "LogKeepers$Keeper" "voter" "Z" ∈ z_wl) {v : Int32} (hv : z_b01 v = true) (hdg : decode cc pc = .ok (.putfield index, 3))
    (kk : ∀ (H : Heap) (locs : List Loc), z_H E A s (z_up σ (10, w, i) 0 v) H locs → W p l e R s m args below meth c H locs cells slots Q (F0 m (pc + 3) ls rest)) : W p l e R s m args below meth c H locs cells slots Q (F0 m pc ls (.int v :: .ref (z_ad E (10, w, i)) :: rest)) :=
  z_put C hs ha (z_c10 E _ _ _ _) rfl z_iX1 tyX1 tyX1_ok nmX1 0 (by decide) hl rfl (ty := .boolean) rfl (z_b01n hv) (z_b01f hv) (Nat.le_of_ble_eq_true rfl) (τ := z_up σ (10, w, i) 0 v) z_upR_o (by rw [z_up, z_upR_s]; rfl) hdg kk
theorem zg_K_fallen (C : z_C E own cc nL A p s m args meth c) (hs : z_H E A s σ H locs) {w i : Nat} (ha : (10, w, i) ∈ z_ids E) {index : Nat} (hl : Cond.fieldLink own index "LogKeepers$Keeper" "fallen" "Z" ∈ z_wl) (hdg : decode cc pc = .ok (.getfield index, 3))
    (kk : W p l e R s m args below meth c H locs cells slots Q (F0 m (pc + 3) ls (.int (σ.1 (10, w, i) 1) :: rest))) : W p l e R s m args below meth c H locs cells slots Q (F0 m pc ls (.ref (z_ad E (10, w, i)) :: rest)) :=
  z_get C hs ha (z_c10 E _ _ _ _) rfl z_iX1 1 (by decide) hl rfl hdg kk
theorem zp_K_fallen (C : z_C E own cc nL A p s m args meth c) (hs : z_H E A s σ H locs) {w i : Nat} (ha : (10, w, i) ∈ z_ids E) {index : Nat} (hl : Cond.fieldLink own index "LogKeepers$Keeper" "fallen" "Z" ∈ z_wl) {v : Int32} (hv : z_b01 v = true) (hdg : decode cc pc = .ok (.putfield index, 3))
    (kk : ∀ (H : Heap) (locs : List Loc), z_H E A s (z_up σ (10, w, i) 1 v) H locs → W p l e R s m args below meth c H locs cells slots Q (F0 m (pc + 3) ls rest)) : W p l e R s m args below meth c H locs cells slots Q (F0 m pc ls (.int v :: .ref (z_ad E (10, w, i)) :: rest)) :=
  z_put C hs ha (z_c10 E _ _ _ _) rfl z_iX1 tyX1 tyX1_ok nmX1 1 (by decide) hl rfl (ty := .boolean) rfl (z_b01n hv) (z_b01f hv) (Nat.le_of_ble_eq_true rfl) (τ := z_up σ (10, w, i) 1 v) z_upR_o (by rw [z_up, z_upR_s]; rfl) hdg kk
theorem zg_K_term (C : z_C E own cc nL A p s m args meth c) (hs : z_H E A s σ H locs) {w i : Nat} (ha : (10, w, i) ∈ z_ids E) {index : Nat} (hl : Cond.fieldLink own index "LogKeepers$Keeper" "term" "I" ∈ z_wl) (hdg : decode cc pc = .ok (.getfield index, 3))
    (kk : W p l e R s m args below meth c H locs cells slots Q (F0 m (pc + 3) ls (.int (σ.1 (10, w, i) 2) :: rest))) : W p l e R s m args below meth c H locs cells slots Q (F0 m pc ls (.ref (z_ad E (10, w, i)) :: rest)) :=
  z_get C hs ha (z_c10 E _ _ _ _) rfl z_iX1 2 (by decide) hl rfl hdg kk
theorem zp_K_term (C : z_C E own cc nL A p s m args meth c) (hs : z_H E A s σ H locs) {w i : Nat} (ha : (10, w, i) ∈ z_ids E) {index : Nat} (hl : Cond.fieldLink own index "LogKeepers$Keeper" "term" "I" ∈ z_wl) {v : Int32} (hdg : decode cc pc = .ok (.putfield index, 3))
    (kk : ∀ (H : Heap) (locs : List Loc), z_H E A s (z_up σ (10, w, i) 2 v) H locs → W p l e R s m args below meth c H locs cells slots Q (F0 m (pc + 3) ls rest)) : W p l e R s m args below meth c H locs cells slots Q (F0 m pc ls (.int v :: .ref (z_ad E (10, w, i)) :: rest)) :=
  z_put C hs ha (z_c10 E _ _ _ _) rfl z_iX1 tyX1 tyX1_ok nmX1 2 (by decide) hl rfl (ty := .int) rfl rfl rfl (Nat.le_of_ble_eq_true rfl) (τ := z_up σ (10, w, i) 2 v) z_upR_o (by rw [z_up, z_upR_s]; rfl) hdg kk
theorem zg_K_vote (C : z_C E own cc nL A p s m args meth c) (hs : z_H E A s σ H locs) {w i : Nat} (ha : (10, w, i) ∈ z_ids E) {index : Nat} (hl : Cond.fieldLink own index "LogKeepers$Keeper" "vote" "I" ∈ z_wl) (hdg : decode cc pc = .ok (.getfield index, 3))
    (kk : W p l e R s m args below meth c H locs cells slots Q (F0 m (pc + 3) ls (.int (σ.1 (10, w, i) 3) :: rest))) : W p l e R s m args below meth c H locs cells slots Q (F0 m pc ls (.ref (z_ad E (10, w, i)) :: rest)) :=
  z_get C hs ha (z_c10 E _ _ _ _) rfl z_iX1 3 (by decide) hl rfl hdg kk
theorem zp_K_vote (C : z_C E own cc nL A p s m args meth c) (hs : z_H E A s σ H locs) {w i : Nat} (ha : (10, w, i) ∈ z_ids E) {index : Nat} (hl : Cond.fieldLink own index "LogKeepers$Keeper" "vote" "I" ∈ z_wl) {v : Int32} (hdg : decode cc pc = .ok (.putfield index, 3))
    (kk : ∀ (H : Heap) (locs : List Loc), z_H E A s (z_up σ (10, w, i) 3 v) H locs → W p l e R s m args below meth c H locs cells slots Q (F0 m (pc + 3) ls rest)) : W p l e R s m args below meth c H locs cells slots Q (F0 m pc ls (.int v :: .ref (z_ad E (10, w, i)) :: rest)) :=
  z_put C hs ha (z_c10 E _ _ _ _) rfl z_iX1 tyX1 tyX1_ok nmX1 3 (by decide) hl rfl (ty := .int) rfl rfl rfl (Nat.le_of_ble_eq_true rfl) (τ := z_up σ (10, w, i) 3 v) z_upR_o (by rw [z_up, z_upR_s]; rfl) hdg kk
theorem zg_K_role (C : z_C E own cc nL A p s m args meth c) (hs : z_H E A s σ H locs) {w i : Nat} (ha : (10, w, i) ∈ z_ids E) {index : Nat} (hl : Cond.fieldLink own index "LogKeepers$Keeper" "role" "I" ∈ z_wl) (hdg : decode cc pc = .ok (.getfield index, 3))
    (kk : W p l e R s m args below meth c H locs cells slots Q (F0 m (pc + 3) ls (.int (σ.1 (10, w, i) 4) :: rest))) : W p l e R s m args below meth c H locs cells slots Q (F0 m pc ls (.ref (z_ad E (10, w, i)) :: rest)) :=
  z_get C hs ha (z_c10 E _ _ _ _) rfl z_iX1 4 (by decide) hl rfl hdg kk
theorem zp_K_role (C : z_C E own cc nL A p s m args meth c) (hs : z_H E A s σ H locs) {w i : Nat} (ha : (10, w, i) ∈ z_ids E) {index : Nat} (hl : Cond.fieldLink own index "LogKeepers$Keeper" "role" "I" ∈ z_wl) {v : Int32} (hdg : decode cc pc = .ok (.putfield index, 3))
    (kk : ∀ (H : Heap) (locs : List Loc), z_H E A s (z_up σ (10, w, i) 4 v) H locs → W p l e R s m args below meth c H locs cells slots Q (F0 m (pc + 3) ls rest)) : W p l e R s m args below meth c H locs cells slots Q (F0 m pc ls (.int v :: .ref (z_ad E (10, w, i)) :: rest)) :=
  z_put C hs ha (z_c10 E _ _ _ _) rfl z_iX1 tyX1 tyX1_ok nmX1 4 (by decide) hl rfl (ty := .int) rfl rfl rfl (Nat.le_of_ble_eq_true rfl) (τ := z_up σ (10, w, i) 4 v) z_upR_o (by rw [z_up, z_upR_s]; rfl) hdg kk
theorem zg_K_folded (C : z_C E own cc nL A p s m args meth c) (hs : z_H E A s σ H locs) {w i : Nat} (ha : (10, w, i) ∈ z_ids E) {index : Nat} (hl : Cond.fieldLink own index "LogKeepers$Keeper" "folded" "I" ∈ z_wl) (hdg : decode cc pc = .ok (.getfield index, 3))
    (kk : W p l e R s m args below meth c H locs cells slots Q (F0 m (pc + 3) ls (.int (σ.1 (10, w, i) 5) :: rest))) : W p l e R s m args below meth c H locs cells slots Q (F0 m pc ls (.ref (z_ad E (10, w, i)) :: rest)) :=
  z_get C hs ha (z_c10 E _ _ _ _) rfl z_iX1 5 (by decide) hl rfl hdg kk
theorem zp_K_folded (C : z_C E own cc nL A p s m args meth c) (hs : z_H E A s σ H locs) {w i : Nat} (ha : (10, w, i) ∈ z_ids E) {index : Nat} (hl : Cond.fieldLink own index "LogKeepers$Keeper" "folded" "I" ∈ z_wl) {v : Int32} (hdg : decode cc pc = .ok (.putfield index, 3))
    (kk : ∀ (H : Heap) (locs : List Loc), z_H E A s (z_up σ (10, w, i) 5 v) H locs → W p l e R s m args below meth c H locs cells slots Q (F0 m (pc + 3) ls rest)) : W p l e R s m args below meth c H locs cells slots Q (F0 m pc ls (.int v :: .ref (z_ad E (10, w, i)) :: rest)) :=
  z_put C hs ha (z_c10 E _ _ _ _) rfl z_iX1 tyX1 tyX1_ok nmX1 5 (by decide) hl rfl (ty := .int) rfl rfl rfl (Nat.le_of_ble_eq_true rfl) (τ := z_up σ (10, w, i) 5 v) z_upR_o (by rw [z_up, z_upR_s]; rfl) hdg kk
theorem zg_K_foldTerm (C : z_C E own cc nL A p s m args meth c) (hs : z_H E A s σ H locs) {w i : Nat} (ha : (10, w, i) ∈ z_ids E) {index : Nat} (hl : Cond.fieldLink own index "LogKeepers$Keeper" "foldTerm" "I" ∈ z_wl) (hdg : decode cc pc = .ok (.getfield index, 3))
    (kk : W p l e R s m args below meth c H locs cells slots Q (F0 m (pc + 3) ls (.int (σ.1 (10, w, i) 6) :: rest))) : W p l e R s m args below meth c H locs cells slots Q (F0 m pc ls (.ref (z_ad E (10, w, i)) :: rest)) :=
  z_get C hs ha (z_c10 E _ _ _ _) rfl z_iX1 6 (by decide) hl rfl hdg kk
theorem zp_K_foldTerm (C : z_C E own cc nL A p s m args meth c) (hs : z_H E A s σ H locs) {w i : Nat} (ha : (10, w, i) ∈ z_ids E) {index : Nat} (hl : Cond.fieldLink own index "LogKeepers$Keeper" "foldTerm" "I" ∈ z_wl) {v : Int32} (hdg : decode cc pc = .ok (.putfield index, 3))
    (kk : ∀ (H : Heap) (locs : List Loc), z_H E A s (z_up σ (10, w, i) 6 v) H locs → W p l e R s m args below meth c H locs cells slots Q (F0 m (pc + 3) ls rest)) : W p l e R s m args below meth c H locs cells slots Q (F0 m pc ls (.int v :: .ref (z_ad E (10, w, i)) :: rest)) :=
  z_put C hs ha (z_c10 E _ _ _ _) rfl z_iX1 tyX1 tyX1_ok nmX1 6 (by decide) hl rfl (ty := .int) rfl rfl rfl (Nat.le_of_ble_eq_true rfl) (τ := z_up σ (10, w, i) 6 v) z_upR_o (by rw [z_up, z_upR_s]; rfl) hdg kk
theorem zg_K_last (C : z_C E own cc nL A p s m args meth c) (hs : z_H E A s σ H locs) {w i : Nat} (ha : (10, w, i) ∈ z_ids E) {index : Nat} (hl : Cond.fieldLink own index "LogKeepers$Keeper" "last" "I" ∈ z_wl) (hdg : decode cc pc = .ok (.getfield index, 3))
    (kk : W p l e R s m args below meth c H locs cells slots Q (F0 m (pc + 3) ls (.int (σ.1 (10, w, i) 7) :: rest))) : W p l e R s m args below meth c H locs cells slots Q (F0 m pc ls (.ref (z_ad E (10, w, i)) :: rest)) :=
  z_get C hs ha (z_c10 E _ _ _ _) rfl z_iX1 7 (by decide) hl rfl hdg kk
theorem zp_K_last (C : z_C E own cc nL A p s m args meth c) (hs : z_H E A s σ H locs) {w i : Nat} (ha : (10, w, i) ∈ z_ids E) {index : Nat} (hl : Cond.fieldLink own index "LogKeepers$Keeper" "last" "I" ∈ z_wl) {v : Int32} (hdg : decode cc pc = .ok (.putfield index, 3))
    (kk : ∀ (H : Heap) (locs : List Loc), z_H E A s (z_up σ (10, w, i) 7 v) H locs → W p l e R s m args below meth c H locs cells slots Q (F0 m (pc + 3) ls rest)) : W p l e R s m args below meth c H locs cells slots Q (F0 m pc ls (.int v :: .ref (z_ad E (10, w, i)) :: rest)) :=
  z_put C hs ha (z_c10 E _ _ _ _) rfl z_iX1 tyX1 tyX1_ok nmX1 7 (by decide) hl rfl (ty := .int) rfl rfl rfl (Nat.le_of_ble_eq_true rfl) (τ := z_up σ (10, w, i) 7 v) z_upR_o (by rw [z_up, z_upR_s]; rfl) hdg kk
theorem zg_K_done (C : z_C E own cc nL A p s m args meth c) (hs : z_H E A s σ H locs) {w i : Nat} (ha : (10, w, i) ∈ z_ids E) {index : Nat} (hl : Cond.fieldLink own index "LogKeepers$Keeper" "done" "I" ∈ z_wl) (hdg : decode cc pc = .ok (.getfield index, 3))
    (kk : W p l e R s m args below meth c H locs cells slots Q (F0 m (pc + 3) ls (.int (σ.1 (10, w, i) 8) :: rest))) : W p l e R s m args below meth c H locs cells slots Q (F0 m pc ls (.ref (z_ad E (10, w, i)) :: rest)) :=
  z_get C hs ha (z_c10 E _ _ _ _) rfl z_iX1 8 (by decide) hl rfl hdg kk
theorem zp_K_done (C : z_C E own cc nL A p s m args meth c) (hs : z_H E A s σ H locs) {w i : Nat} (ha : (10, w, i) ∈ z_ids E) {index : Nat} (hl : Cond.fieldLink own index "LogKeepers$Keeper" "done" "I" ∈ z_wl) {v : Int32} (hdg : decode cc pc = .ok (.putfield index, 3))
    (kk : ∀ (H : Heap) (locs : List Loc), z_H E A s (z_up σ (10, w, i) 8 v) H locs → W p l e R s m args below meth c H locs cells slots Q (F0 m (pc + 3) ls rest)) : W p l e R s m args below meth c H locs cells slots Q (F0 m pc ls (.int v :: .ref (z_ad E (10, w, i)) :: rest)) :=
  z_put C hs ha (z_c10 E _ _ _ _) rfl z_iX1 tyX1 tyX1_ok nmX1 8 (by decide) hl rfl (ty := .int) rfl rfl rfl (Nat.le_of_ble_eq_true rfl) (τ := z_up σ (10, w, i) 8 v) z_upR_o (by rw [z_up, z_upR_s]; rfl) hdg kk
theorem zg_K_ballots (C : z_C E own cc nL A p s m args meth c) (hs : z_H E A s σ H locs) {w i : Nat} (ha : (10, w, i) ∈ z_ids E) {index : Nat} (hl : Cond.fieldLink own index "LogKeepers$Keeper" "ballots" "I" ∈ z_wl) (hdg : decode cc pc = .ok (.getfield index, 3))
    (kk : W p l e R s m args below meth c H locs cells slots Q (F0 m (pc + 3) ls (.int (σ.1 (10, w, i) 9) :: rest))) : W p l e R s m args below meth c H locs cells slots Q (F0 m pc ls (.ref (z_ad E (10, w, i)) :: rest)) :=
  z_get C hs ha (z_c10 E _ _ _ _) rfl z_iX1 9 (by decide) hl rfl hdg kk
theorem zp_K_ballots (C : z_C E own cc nL A p s m args meth c) (hs : z_H E A s σ H locs) {w i : Nat} (ha : (10, w, i) ∈ z_ids E) {index : Nat} (hl : Cond.fieldLink own index "LogKeepers$Keeper" "ballots" "I" ∈ z_wl) {v : Int32} (hdg : decode cc pc = .ok (.putfield index, 3))
    (kk : ∀ (H : Heap) (locs : List Loc), z_H E A s (z_up σ (10, w, i) 9 v) H locs → W p l e R s m args below meth c H locs cells slots Q (F0 m (pc + 3) ls rest)) : W p l e R s m args below meth c H locs cells slots Q (F0 m pc ls (.int v :: .ref (z_ad E (10, w, i)) :: rest)) :=
  z_put C hs ha (z_c10 E _ _ _ _) rfl z_iX1 tyX1 tyX1_ok nmX1 9 (by decide) hl rfl (ty := .int) rfl rfl rfl (Nat.le_of_ble_eq_true rfl) (τ := z_up σ (10, w, i) 9 v) z_upR_o (by rw [z_up, z_upR_s]; rfl) hdg kk
theorem zg_K_round (C : z_C E own cc nL A p s m args meth c) (hs : z_H E A s σ H locs) {w i : Nat} (ha : (10, w, i) ∈ z_ids E) {index : Nat} (hl : Cond.fieldLink own index "LogKeepers$Keeper" "round" "I" ∈ z_wl) (hdg : decode cc pc = .ok (.getfield index, 3))
    (kk : W p l e R s m args below meth c H locs cells slots Q (F0 m (pc + 3) ls (.int (σ.1 (10, w, i) 10) :: rest))) : W p l e R s m args below meth c H locs cells slots Q (F0 m pc ls (.ref (z_ad E (10, w, i)) :: rest)) :=
  z_get C hs ha (z_c10 E _ _ _ _) rfl z_iX1 10 (by decide) hl rfl hdg kk
theorem zp_K_round (C : z_C E own cc nL A p s m args meth c) (hs : z_H E A s σ H locs) {w i : Nat} (ha : (10, w, i) ∈ z_ids E) {index : Nat} (hl : Cond.fieldLink own index "LogKeepers$Keeper" "round" "I" ∈ z_wl) {v : Int32} (hdg : decode cc pc = .ok (.putfield index, 3))
    (kk : ∀ (H : Heap) (locs : List Loc), z_H E A s (z_up σ (10, w, i) 10 v) H locs → W p l e R s m args below meth c H locs cells slots Q (F0 m (pc + 3) ls rest)) : W p l e R s m args below meth c H locs cells slots Q (F0 m pc ls (.int v :: .ref (z_ad E (10, w, i)) :: rest)) :=
  z_put C hs ha (z_c10 E _ _ _ _) rfl z_iX1 tyX1 tyX1_ok nmX1 10 (by decide) hl rfl (ty := .int) rfl rfl rfl (Nat.le_of_ble_eq_true rfl) (τ := z_up σ (10, w, i) 10 v) z_upR_o (by rw [z_up, z_upR_s]; rfl) hdg kk
theorem zg_K_entries (C : z_C E own cc nL A p s m args meth c) (hs : z_H E A s σ H locs) {w i : Nat} (ha : (10, w, i) ∈ z_ids E) {index : Nat} (hl : Cond.fieldLink own index "LogKeepers$Keeper" "entries" "[I" ∈ z_wl) (hdg : decode cc pc = .ok (.getfield index, 3))
    (kk : W p l e R s m args below meth c H locs cells slots Q (F0 m (pc + 3) ls (.ref (z_ad E (11, w, i)) :: rest))) : W p l e R s m args below meth c H locs cells slots Q (F0 m pc ls (.ref (z_ad E (10, w, i)) :: rest)) :=
  z_get C hs ha (z_c10 E _ _ _ _) rfl z_iX1 11 (by decide) hl rfl hdg kk
theorem zg_K_foldState (C : z_C E own cc nL A p s m args meth c) (hs : z_H E A s σ H locs) {w i : Nat} (ha : (10, w, i) ∈ z_ids E) {index : Nat} (hl : Cond.fieldLink own index "LogKeepers$Keeper" "foldState" "LLogKeepers$State;" ∈ z_wl) (hdg : decode cc pc = .ok (.getfield index, 3))
    (kk : W p l e R s m args below meth c H locs cells slots Q (F0 m (pc + 3) ls (.ref (z_ad E (12, w, i)) :: rest))) : W p l e R s m args below meth c H locs cells slots Q (F0 m pc ls (.ref (z_ad E (10, w, i)) :: rest)) :=
  z_get C hs ha (z_c10 E _ _ _ _) rfl z_iX1 12 (by decide) hl rfl hdg kk
theorem zg_K_doneState (C : z_C E own cc nL A p s m args meth c) (hs : z_H E A s σ H locs) {w i : Nat} (ha : (10, w, i) ∈ z_ids E) {index : Nat} (hl : Cond.fieldLink own index "LogKeepers$Keeper" "doneState" "LLogKeepers$State;" ∈ z_wl) (hdg : decode cc pc = .ok (.getfield index, 3))
    (kk : W p l e R s m args below meth c H locs cells slots Q (F0 m (pc + 3) ls (.ref (z_ad E (14, w, i)) :: rest))) : W p l e R s m args below meth c H locs cells slots Q (F0 m pc ls (.ref (z_ad E (10, w, i)) :: rest)) :=
  z_get C hs ha (z_c10 E _ _ _ _) rfl z_iX1 13 (by decide) hl rfl hdg kk
theorem zg_K_next (C : z_C E own cc nL A p s m args meth c) (hs : z_H E A s σ H locs) {w i : Nat} (ha : (10, w, i) ∈ z_ids E) {index : Nat} (hl : Cond.fieldLink own index "LogKeepers$Keeper" "next" "[I" ∈ z_wl) (hdg : decode cc pc = .ok (.getfield index, 3))
    (kk : W p l e R s m args below meth c H locs cells slots Q (F0 m (pc + 3) ls (.ref (z_ad E (16, w, i)) :: rest))) : W p l e R s m args below meth c H locs cells slots Q (F0 m pc ls (.ref (z_ad E (10, w, i)) :: rest)) :=
  z_get C hs ha (z_c10 E _ _ _ _) rfl z_iX1 14 (by decide) hl rfl hdg kk
theorem zg_K_sure (C : z_C E own cc nL A p s m args meth c) (hs : z_H E A s σ H locs) {w i : Nat} (ha : (10, w, i) ∈ z_ids E) {index : Nat} (hl : Cond.fieldLink own index "LogKeepers$Keeper" "sure" "[I" ∈ z_wl) (hdg : decode cc pc = .ok (.getfield index, 3))
    (kk : W p l e R s m args below meth c H locs cells slots Q (F0 m (pc + 3) ls (.ref (z_ad E (17, w, i)) :: rest))) : W p l e R s m args below meth c H locs cells slots Q (F0 m pc ls (.ref (z_ad E (10, w, i)) :: rest)) :=
  z_get C hs ha (z_c10 E _ _ _ _) rfl z_iX1 15 (by decide) hl rfl hdg kk
theorem zg_K_answered (C : z_C E own cc nL A p s m args meth c) (hs : z_H E A s σ H locs) {w i : Nat} (ha : (10, w, i) ∈ z_ids E) {index : Nat} (hl : Cond.fieldLink own index "LogKeepers$Keeper" "answered" "[I" ∈ z_wl) (hdg : decode cc pc = .ok (.getfield index, 3))
    (kk : W p l e R s m args below meth c H locs cells slots Q (F0 m (pc + 3) ls (.ref (z_ad E (18, w, i)) :: rest))) : W p l e R s m args below meth c H locs cells slots Q (F0 m pc ls (.ref (z_ad E (10, w, i)) :: rest)) :=
  z_get C hs ha (z_c10 E _ _ _ _) rfl z_iX1 16 (by decide) hl rfl hdg kk
theorem zg_L_kind (C : z_C E own cc nL A p s m args meth c) (hs : z_H E A s σ H locs) {w i : Nat} (ha : (20, w, i) ∈ z_ids E) {index : Nat} (hl : Cond.fieldLink own index "LogKeepers$Letter" "kind" "I" ∈ z_wl) (hdg : decode cc pc = .ok (.getfield index, 3))
    (kk : W p l e R s m args below meth c H locs cells slots Q (F0 m (pc + 3) ls (.int (σ.1 (20, w, i) 0) :: rest))) : W p l e R s m args below meth c H locs cells slots Q (F0 m pc ls (.ref (z_ad E (20, w, i)) :: rest)) :=
  z_get C hs ha (z_c20 E _ _ _ _) rfl z_iX2 0 (by decide) hl rfl hdg kk
theorem zp_L_kind (C : z_C E own cc nL A p s m args meth c) (hs : z_H E A s σ H locs) {w i : Nat} (ha : (20, w, i) ∈ z_ids E) {index : Nat} (hl : Cond.fieldLink own index "LogKeepers$Letter" "kind" "I" ∈ z_wl) {v : Int32} (hdg : decode cc pc = .ok (.putfield index, 3))
    (kk : ∀ (H : Heap) (locs : List Loc), z_H E A s (z_up σ (20, w, i) 0 v) H locs → W p l e R s m args below meth c H locs cells slots Q (F0 m (pc + 3) ls rest)) : W p l e R s m args below meth c H locs cells slots Q (F0 m pc ls (.int v :: .ref (z_ad E (20, w, i)) :: rest)) :=
  z_put C hs ha (z_c20 E _ _ _ _) rfl z_iX2 tyX2 tyX2_ok nmX2 0 (by decide) hl rfl (ty := .int) rfl rfl rfl (Nat.le_of_ble_eq_true rfl) (τ := z_up σ (20, w, i) 0 v) z_upR_o (by rw [z_up, z_upR_s]; rfl) hdg kk
theorem zg_L_sender (C : z_C E own cc nL A p s m args meth c) (hs : z_H E A s σ H locs) {w i : Nat} (ha : (20, w, i) ∈ z_ids E) {index : Nat} (hl : Cond.fieldLink own index "LogKeepers$Letter" "sender" "I" ∈ z_wl) (hdg : decode cc pc = .ok (.getfield index, 3))
    (kk : W p l e R s m args below meth c H locs cells slots Q (F0 m (pc + 3) ls (.int (σ.1 (20, w, i) 1) :: rest))) : W p l e R s m args below meth c H locs cells slots Q (F0 m pc ls (.ref (z_ad E (20, w, i)) :: rest)) :=
  z_get C hs ha (z_c20 E _ _ _ _) rfl z_iX2 1 (by decide) hl rfl hdg kk
theorem zp_L_sender (C : z_C E own cc nL A p s m args meth c) (hs : z_H E A s σ H locs) {w i : Nat} (ha : (20, w, i) ∈ z_ids E) {index : Nat} (hl : Cond.fieldLink own index "LogKeepers$Letter" "sender" "I" ∈ z_wl) {v : Int32} (hdg : decode cc pc = .ok (.putfield index, 3))
    (kk : ∀ (H : Heap) (locs : List Loc), z_H E A s (z_up σ (20, w, i) 1 v) H locs → W p l e R s m args below meth c H locs cells slots Q (F0 m (pc + 3) ls rest)) : W p l e R s m args below meth c H locs cells slots Q (F0 m pc ls (.int v :: .ref (z_ad E (20, w, i)) :: rest)) :=
  z_put C hs ha (z_c20 E _ _ _ _) rfl z_iX2 tyX2 tyX2_ok nmX2 1 (by decide) hl rfl (ty := .int) rfl rfl rfl (Nat.le_of_ble_eq_true rfl) (τ := z_up σ (20, w, i) 1 v) z_upR_o (by rw [z_up, z_upR_s]; rfl) hdg kk
theorem zg_L_receiver (C : z_C E own cc nL A p s m args meth c) (hs : z_H E A s σ H locs) {w i : Nat} (ha : (20, w, i) ∈ z_ids E) {index : Nat} (hl : Cond.fieldLink own index "LogKeepers$Letter" "receiver" "I" ∈ z_wl) (hdg : decode cc pc = .ok (.getfield index, 3))
    (kk : W p l e R s m args below meth c H locs cells slots Q (F0 m (pc + 3) ls (.int (σ.1 (20, w, i) 2) :: rest))) : W p l e R s m args below meth c H locs cells slots Q (F0 m pc ls (.ref (z_ad E (20, w, i)) :: rest)) :=
  z_get C hs ha (z_c20 E _ _ _ _) rfl z_iX2 2 (by decide) hl rfl hdg kk
theorem zp_L_receiver (C : z_C E own cc nL A p s m args meth c) (hs : z_H E A s σ H locs) {w i : Nat} (ha : (20, w, i) ∈ z_ids E) {index : Nat} (hl : Cond.fieldLink own index "LogKeepers$Letter" "receiver" "I" ∈ z_wl) {v : Int32} (hdg : decode cc pc = .ok (.putfield index, 3))
    (kk : ∀ (H : Heap) (locs : List Loc), z_H E A s (z_up σ (20, w, i) 2 v) H locs → W p l e R s m args below meth c H locs cells slots Q (F0 m (pc + 3) ls rest)) : W p l e R s m args below meth c H locs cells slots Q (F0 m pc ls (.int v :: .ref (z_ad E (20, w, i)) :: rest)) :=
  z_put C hs ha (z_c20 E _ _ _ _) rfl z_iX2 tyX2 tyX2_ok nmX2 2 (by decide) hl rfl (ty := .int) rfl rfl rfl (Nat.le_of_ble_eq_true rfl) (τ := z_up σ (20, w, i) 2 v) z_upR_o (by rw [z_up, z_upR_s]; rfl) hdg kk
theorem zg_L_term (C : z_C E own cc nL A p s m args meth c) (hs : z_H E A s σ H locs) {w i : Nat} (ha : (20, w, i) ∈ z_ids E) {index : Nat} (hl : Cond.fieldLink own index "LogKeepers$Letter" "term" "I" ∈ z_wl) (hdg : decode cc pc = .ok (.getfield index, 3))
    (kk : W p l e R s m args below meth c H locs cells slots Q (F0 m (pc + 3) ls (.int (σ.1 (20, w, i) 3) :: rest))) : W p l e R s m args below meth c H locs cells slots Q (F0 m pc ls (.ref (z_ad E (20, w, i)) :: rest)) :=
  z_get C hs ha (z_c20 E _ _ _ _) rfl z_iX2 3 (by decide) hl rfl hdg kk
theorem zp_L_term (C : z_C E own cc nL A p s m args meth c) (hs : z_H E A s σ H locs) {w i : Nat} (ha : (20, w, i) ∈ z_ids E) {index : Nat} (hl : Cond.fieldLink own index "LogKeepers$Letter" "term" "I" ∈ z_wl) {v : Int32} (hdg : decode cc pc = .ok (.putfield index, 3))
    (kk : ∀ (H : Heap) (locs : List Loc), z_H E A s (z_up σ (20, w, i) 3 v) H locs → W p l e R s m args below meth c H locs cells slots Q (F0 m (pc + 3) ls rest)) : W p l e R s m args below meth c H locs cells slots Q (F0 m pc ls (.int v :: .ref (z_ad E (20, w, i)) :: rest)) :=
  z_put C hs ha (z_c20 E _ _ _ _) rfl z_iX2 tyX2 tyX2_ok nmX2 3 (by decide) hl rfl (ty := .int) rfl rfl rfl (Nat.le_of_ble_eq_true rfl) (τ := z_up σ (20, w, i) 3 v) z_upR_o (by rw [z_up, z_upR_s]; rfl) hdg kk
theorem zg_L_first (C : z_C E own cc nL A p s m args meth c) (hs : z_H E A s σ H locs) {w i : Nat} (ha : (20, w, i) ∈ z_ids E) {index : Nat} (hl : Cond.fieldLink own index "LogKeepers$Letter" "first" "I" ∈ z_wl) (hdg : decode cc pc = .ok (.getfield index, 3))
    (kk : W p l e R s m args below meth c H locs cells slots Q (F0 m (pc + 3) ls (.int (σ.1 (20, w, i) 4) :: rest))) : W p l e R s m args below meth c H locs cells slots Q (F0 m pc ls (.ref (z_ad E (20, w, i)) :: rest)) :=
  z_get C hs ha (z_c20 E _ _ _ _) rfl z_iX2 4 (by decide) hl rfl hdg kk
theorem zp_L_first (C : z_C E own cc nL A p s m args meth c) (hs : z_H E A s σ H locs) {w i : Nat} (ha : (20, w, i) ∈ z_ids E) {index : Nat} (hl : Cond.fieldLink own index "LogKeepers$Letter" "first" "I" ∈ z_wl) {v : Int32} (hdg : decode cc pc = .ok (.putfield index, 3))
    (kk : ∀ (H : Heap) (locs : List Loc), z_H E A s (z_up σ (20, w, i) 4 v) H locs → W p l e R s m args below meth c H locs cells slots Q (F0 m (pc + 3) ls rest)) : W p l e R s m args below meth c H locs cells slots Q (F0 m pc ls (.int v :: .ref (z_ad E (20, w, i)) :: rest)) :=
  z_put C hs ha (z_c20 E _ _ _ _) rfl z_iX2 tyX2 tyX2_ok nmX2 4 (by decide) hl rfl (ty := .int) rfl rfl rfl (Nat.le_of_ble_eq_true rfl) (τ := z_up σ (20, w, i) 4 v) z_upR_o (by rw [z_up, z_upR_s]; rfl) hdg kk
theorem zg_L_second (C : z_C E own cc nL A p s m args meth c) (hs : z_H E A s σ H locs) {w i : Nat} (ha : (20, w, i) ∈ z_ids E) {index : Nat} (hl : Cond.fieldLink own index "LogKeepers$Letter" "second" "I" ∈ z_wl) (hdg : decode cc pc = .ok (.getfield index, 3))
    (kk : W p l e R s m args below meth c H locs cells slots Q (F0 m (pc + 3) ls (.int (σ.1 (20, w, i) 5) :: rest))) : W p l e R s m args below meth c H locs cells slots Q (F0 m pc ls (.ref (z_ad E (20, w, i)) :: rest)) :=
  z_get C hs ha (z_c20 E _ _ _ _) rfl z_iX2 5 (by decide) hl rfl hdg kk
theorem zp_L_second (C : z_C E own cc nL A p s m args meth c) (hs : z_H E A s σ H locs) {w i : Nat} (ha : (20, w, i) ∈ z_ids E) {index : Nat} (hl : Cond.fieldLink own index "LogKeepers$Letter" "second" "I" ∈ z_wl) {v : Int32} (hdg : decode cc pc = .ok (.putfield index, 3))
    (kk : ∀ (H : Heap) (locs : List Loc), z_H E A s (z_up σ (20, w, i) 5 v) H locs → W p l e R s m args below meth c H locs cells slots Q (F0 m (pc + 3) ls rest)) : W p l e R s m args below meth c H locs cells slots Q (F0 m pc ls (.int v :: .ref (z_ad E (20, w, i)) :: rest)) :=
  z_put C hs ha (z_c20 E _ _ _ _) rfl z_iX2 tyX2 tyX2_ok nmX2 5 (by decide) hl rfl (ty := .int) rfl rfl rfl (Nat.le_of_ble_eq_true rfl) (τ := z_up σ (20, w, i) 5 v) z_upR_o (by rw [z_up, z_upR_s]; rfl) hdg kk
theorem zg_L_count (C : z_C E own cc nL A p s m args meth c) (hs : z_H E A s σ H locs) {w i : Nat} (ha : (20, w, i) ∈ z_ids E) {index : Nat} (hl : Cond.fieldLink own index "LogKeepers$Letter" "count" "I" ∈ z_wl) (hdg : decode cc pc = .ok (.getfield index, 3))
    (kk : W p l e R s m args below meth c H locs cells slots Q (F0 m (pc + 3) ls (.int (σ.1 (20, w, i) 6) :: rest))) : W p l e R s m args below meth c H locs cells slots Q (F0 m pc ls (.ref (z_ad E (20, w, i)) :: rest)) :=
  z_get C hs ha (z_c20 E _ _ _ _) rfl z_iX2 6 (by decide) hl rfl hdg kk
theorem zp_L_count (C : z_C E own cc nL A p s m args meth c) (hs : z_H E A s σ H locs) {w i : Nat} (ha : (20, w, i) ∈ z_ids E) {index : Nat} (hl : Cond.fieldLink own index "LogKeepers$Letter" "count" "I" ∈ z_wl) {v : Int32} (hdg : decode cc pc = .ok (.putfield index, 3))
    (kk : ∀ (H : Heap) (locs : List Loc), z_H E A s (z_up σ (20, w, i) 6 v) H locs → W p l e R s m args below meth c H locs cells slots Q (F0 m (pc + 3) ls rest)) : W p l e R s m args below meth c H locs cells slots Q (F0 m pc ls (.int v :: .ref (z_ad E (20, w, i)) :: rest)) :=
  z_put C hs ha (z_c20 E _ _ _ _) rfl z_iX2 tyX2 tyX2_ok nmX2 6 (by decide) hl rfl (ty := .int) rfl rfl rfl (Nat.le_of_ble_eq_true rfl) (τ := z_up σ (20, w, i) 6 v) z_upR_o (by rw [z_up, z_upR_s]; rfl) hdg kk
theorem zg_L_done (C : z_C E own cc nL A p s m args meth c) (hs : z_H E A s σ H locs) {w i : Nat} (ha : (20, w, i) ∈ z_ids E) {index : Nat} (hl : Cond.fieldLink own index "LogKeepers$Letter" "done" "I" ∈ z_wl) (hdg : decode cc pc = .ok (.getfield index, 3))
    (kk : W p l e R s m args below meth c H locs cells slots Q (F0 m (pc + 3) ls (.int (σ.1 (20, w, i) 7) :: rest))) : W p l e R s m args below meth c H locs cells slots Q (F0 m pc ls (.ref (z_ad E (20, w, i)) :: rest)) :=
  z_get C hs ha (z_c20 E _ _ _ _) rfl z_iX2 7 (by decide) hl rfl hdg kk
theorem zp_L_done (C : z_C E own cc nL A p s m args meth c) (hs : z_H E A s σ H locs) {w i : Nat} (ha : (20, w, i) ∈ z_ids E) {index : Nat} (hl : Cond.fieldLink own index "LogKeepers$Letter" "done" "I" ∈ z_wl) {v : Int32} (hdg : decode cc pc = .ok (.putfield index, 3))
    (kk : ∀ (H : Heap) (locs : List Loc), z_H E A s (z_up σ (20, w, i) 7 v) H locs → W p l e R s m args below meth c H locs cells slots Q (F0 m (pc + 3) ls rest)) : W p l e R s m args below meth c H locs cells slots Q (F0 m pc ls (.int v :: .ref (z_ad E (20, w, i)) :: rest)) :=
  z_put C hs ha (z_c20 E _ _ _ _) rfl z_iX2 tyX2 tyX2_ok nmX2 7 (by decide) hl rfl (ty := .int) rfl rfl rfl (Nat.le_of_ble_eq_true rfl) (τ := z_up σ (20, w, i) 7 v) z_upR_o (by rw [z_up, z_upR_s]; rfl) hdg kk
theorem zg_L_round (C : z_C E own cc nL A p s m args meth c) (hs : z_H E A s σ H locs) {w i : Nat} (ha : (20, w, i) ∈ z_ids E) {index : Nat} (hl : Cond.fieldLink own index "LogKeepers$Letter" "round" "I" ∈ z_wl) (hdg : decode cc pc = .ok (.getfield index, 3))
    (kk : W p l e R s m args below meth c H locs cells slots Q (F0 m (pc + 3) ls (.int (σ.1 (20, w, i) 8) :: rest))) : W p l e R s m args below meth c H locs cells slots Q (F0 m pc ls (.ref (z_ad E (20, w, i)) :: rest)) :=
  z_get C hs ha (z_c20 E _ _ _ _) rfl z_iX2 8 (by decide) hl rfl hdg kk
theorem zp_L_round (C : z_C E own cc nL A p s m args meth c) (hs : z_H E A s σ H locs) {w i : Nat} (ha : (20, w, i) ∈ z_ids E) {index : Nat} (hl : Cond.fieldLink own index "LogKeepers$Letter" "round" "I" ∈ z_wl) {v : Int32} (hdg : decode cc pc = .ok (.putfield index, 3))
    (kk : ∀ (H : Heap) (locs : List Loc), z_H E A s (z_up σ (20, w, i) 8 v) H locs → W p l e R s m args below meth c H locs cells slots Q (F0 m (pc + 3) ls rest)) : W p l e R s m args below meth c H locs cells slots Q (F0 m pc ls (.int v :: .ref (z_ad E (20, w, i)) :: rest)) :=
  z_put C hs ha (z_c20 E _ _ _ _) rfl z_iX2 tyX2 tyX2_ok nmX2 8 (by decide) hl rfl (ty := .int) rfl rfl rfl (Nat.le_of_ble_eq_true rfl) (τ := z_up σ (20, w, i) 8 v) z_upR_o (by rw [z_up, z_upR_s]; rfl) hdg kk
theorem zg_L_entries (C : z_C E own cc nL A p s m args meth c) (hs : z_H E A s σ H locs) {w i : Nat} (ha : (20, w, i) ∈ z_ids E) {index : Nat} (hl : Cond.fieldLink own index "LogKeepers$Letter" "entries" "[I" ∈ z_wl) (hdg : decode cc pc = .ok (.getfield index, 3))
    (kk : W p l e R s m args below meth c H locs cells slots Q (F0 m (pc + 3) ls (.ref (z_ad E (21, w, i)) :: rest))) : W p l e R s m args below meth c H locs cells slots Q (F0 m pc ls (.ref (z_ad E (20, w, i)) :: rest)) :=
  z_get C hs ha (z_c20 E _ _ _ _) rfl z_iX2 9 (by decide) hl rfl hdg kk
theorem zg_L_fold (C : z_C E own cc nL A p s m args meth c) (hs : z_H E A s σ H locs) {w i : Nat} (ha : (20, w, i) ∈ z_ids E) {index : Nat} (hl : Cond.fieldLink own index "LogKeepers$Letter" "fold" "LLogKeepers$State;" ∈ z_wl) (hdg : decode cc pc = .ok (.getfield index, 3))
    (kk : W p l e R s m args below meth c H locs cells slots Q (F0 m (pc + 3) ls (.ref (z_ad E (22, w, i)) :: rest))) : W p l e R s m args below meth c H locs cells slots Q (F0 m pc ls (.ref (z_ad E (20, w, i)) :: rest)) :=
  z_get C hs ha (z_c20 E _ _ _ _) rfl z_iX2 10 (by decide) hl rfl hdg kk
theorem zg_P_letters (C : z_C E own cc nL A p s m args meth c) (hs : z_H E A s σ H locs) {w : Nat} (ha : (2, w, 0) ∈ z_ids E) {index : Nat} (hl : Cond.fieldLink own index "LogKeepers$Post" "letters" "[LLogKeepers$Letter;" ∈ z_wl) (hdg : decode cc pc = .ok (.getfield index, 3))
    (kk : W p l e R s m args below meth c H locs cells slots Q (F0 m (pc + 3) ls (.ref (z_ad E (3, w, 0)) :: rest))) : W p l e R s m args below meth c H locs cells slots Q (F0 m pc ls (.ref (z_ad E (2, w, 0)) :: rest)) :=
  z_get C hs ha (z_c2 E _ _ _ _) rfl z_iX3 0 (by decide) hl rfl hdg kk
theorem zg_P_hand (C : z_C E own cc nL A p s m args meth c) (hs : z_H E A s σ H locs) {w : Nat} (ha : (2, w, 0) ∈ z_ids E) {index : Nat} (hl : Cond.fieldLink own index "LogKeepers$Post" "hand" "LLogKeepers$Letter;" ∈ z_wl) (hdg : decode cc pc = .ok (.getfield index, 3))
    (kk : W p l e R s m args below meth c H locs cells slots Q (F0 m (pc + 3) ls (.ref (z_ad E (20, w, 40)) :: rest))) : W p l e R s m args below meth c H locs cells slots Q (F0 m pc ls (.ref (z_ad E (2, w, 0)) :: rest)) :=
  z_get C hs ha (z_c2 E _ _ _ _) rfl z_iX3 1 (by decide) hl rfl hdg kk
theorem zg_R_keeper (C : z_C E own cc nL A p s m args meth c) (hs : z_H E A s σ H locs) {w : Nat} (ha : (4, w, 0) ∈ z_ids E) {index : Nat} (hl : Cond.fieldLink own index "LogKeepers$Reads" "keeper" "[I" ∈ z_wl) (hdg : decode cc pc = .ok (.getfield index, 3))
    (kk : W p l e R s m args below meth c H locs cells slots Q (F0 m (pc + 3) ls (.ref (z_ad E (5, w, 0)) :: rest))) : W p l e R s m args below meth c H locs cells slots Q (F0 m pc ls (.ref (z_ad E (4, w, 0)) :: rest)) :=
  z_get C hs ha (z_c4 E _ _ _ _) rfl z_iX4 0 (by decide) hl rfl hdg kk
theorem zg_R_cell (C : z_C E own cc nL A p s m args meth c) (hs : z_H E A s σ H locs) {w : Nat} (ha : (4, w, 0) ∈ z_ids E) {index : Nat} (hl : Cond.fieldLink own index "LogKeepers$Reads" "cell" "[I" ∈ z_wl) (hdg : decode cc pc = .ok (.getfield index, 3))
    (kk : W p l e R s m args below meth c H locs cells slots Q (F0 m (pc + 3) ls (.ref (z_ad E (6, w, 0)) :: rest))) : W p l e R s m args below meth c H locs cells slots Q (F0 m pc ls (.ref (z_ad E (4, w, 0)) :: rest)) :=
  z_get C hs ha (z_c4 E _ _ _ _) rfl z_iX4 1 (by decide) hl rfl hdg kk
theorem zg_R_term (C : z_C E own cc nL A p s m args meth c) (hs : z_H E A s σ H locs) {w : Nat} (ha : (4, w, 0) ∈ z_ids E) {index : Nat} (hl : Cond.fieldLink own index "LogKeepers$Reads" "term" "[I" ∈ z_wl) (hdg : decode cc pc = .ok (.getfield index, 3))
    (kk : W p l e R s m args below meth c H locs cells slots Q (F0 m (pc + 3) ls (.ref (z_ad E (7, w, 0)) :: rest))) : W p l e R s m args below meth c H locs cells slots Q (F0 m pc ls (.ref (z_ad E (4, w, 0)) :: rest)) :=
  z_get C hs ha (z_c4 E _ _ _ _) rfl z_iX4 2 (by decide) hl rfl hdg kk
theorem zg_R_round (C : z_C E own cc nL A p s m args meth c) (hs : z_H E A s σ H locs) {w : Nat} (ha : (4, w, 0) ∈ z_ids E) {index : Nat} (hl : Cond.fieldLink own index "LogKeepers$Reads" "round" "[I" ∈ z_wl) (hdg : decode cc pc = .ok (.getfield index, 3))
    (kk : W p l e R s m args below meth c H locs cells slots Q (F0 m (pc + 3) ls (.ref (z_ad E (8, w, 0)) :: rest))) : W p l e R s m args below meth c H locs cells slots Q (F0 m pc ls (.ref (z_ad E (4, w, 0)) :: rest)) :=
  z_get C hs ha (z_c4 E _ _ _ _) rfl z_iX4 3 (by decide) hl rfl hdg kk
theorem zg_R_size (C : z_C E own cc nL A p s m args meth c) (hs : z_H E A s σ H locs) {w : Nat} (ha : (4, w, 0) ∈ z_ids E) {index : Nat} (hl : Cond.fieldLink own index "LogKeepers$Reads" "size" "I" ∈ z_wl) (hdg : decode cc pc = .ok (.getfield index, 3))
    (kk : W p l e R s m args below meth c H locs cells slots Q (F0 m (pc + 3) ls (.int (σ.1 (4, w, 0) 4) :: rest))) : W p l e R s m args below meth c H locs cells slots Q (F0 m pc ls (.ref (z_ad E (4, w, 0)) :: rest)) :=
  z_get C hs ha (z_c4 E _ _ _ _) rfl z_iX4 4 (by decide) hl rfl hdg kk
theorem zp_R_size (C : z_C E own cc nL A p s m args meth c) (hs : z_H E A s σ H locs) {w : Nat} (ha : (4, w, 0) ∈ z_ids E) {index : Nat} (hl : Cond.fieldLink own index "LogKeepers$Reads" "size" "I" ∈ z_wl) {v : Int32} (hdg : decode cc pc = .ok (.putfield index, 3))
    (kk : ∀ (H : Heap) (locs : List Loc), z_H E A s (z_up σ (4, w, 0) 4 v) H locs → W p l e R s m args below meth c H locs cells slots Q (F0 m (pc + 3) ls rest)) : W p l e R s m args below meth c H locs cells slots Q (F0 m pc ls (.int v :: .ref (z_ad E (4, w, 0)) :: rest)) :=
  z_put C hs ha (z_c4 E _ _ _ _) rfl z_iX4 tyX4 tyX4_ok nmX4 4 (by decide) hl rfl (ty := .int) rfl rfl rfl (Nat.le_of_ble_eq_true rfl) (τ := z_up σ (4, w, 0) 4 v) z_upR_o (by rw [z_up, z_upR_s]; rfl) hdg kk
theorem zg_S_parts (C : z_C E own cc nL A p s m args meth c) (hs : z_H E A s σ H locs) {a : zJ} (hS : z_isS a) (ha : a ∈ z_ids E) {index : Nat} (hl : Cond.fieldLink own index "LogKeepers$State" "parts" "[I" ∈ z_wl) (hdg : decode cc pc = .ok (.getfield index, 3))
    (kk : W p l e R s m args below meth c H locs cells slots Q (F0 m (pc + 3) ls (.ref (z_ad E (z_nx a)) :: rest))) : W p l e R s m args below meth c H locs cells slots Q (F0 m pc ls (.ref (z_ad E a) :: rest)) :=
  z_get C hs ha (z_cS E _ _ hS) rfl z_iX5 0 (by decide) hl rfl hdg kk
theorem zg_T_bytes (C : z_C E own cc nL A p s m args meth c) (hs : z_H E A s σ H locs)  (ha : (31, 0, 0) ∈ z_ids E) {index : Nat} (hl : Cond.fieldLink own index "LogKeepers$Tape" "bytes" "[B" ∈ z_wl) (hdg : decode cc pc = .ok (.getfield index, 3))
    (kk : W p l e R s m args below meth c H locs cells slots Q (F0 m (pc + 3) ls (.ref (z_ad E (32, 0, 0)) :: rest))) : W p l e R s m args below meth c H locs cells slots Q (F0 m pc ls (.ref (z_ad E (31, 0, 0)) :: rest)) :=
  z_get C hs ha (z_c31 E _ _ _ _) rfl z_iX6 0 (by decide) hl rfl hdg kk
theorem zg_T_nameAt (C : z_C E own cc nL A p s m args meth c) (hs : z_H E A s σ H locs)  (ha : (31, 0, 0) ∈ z_ids E) {index : Nat} (hl : Cond.fieldLink own index "LogKeepers$Tape" "nameAt" "[I" ∈ z_wl) (hdg : decode cc pc = .ok (.getfield index, 3))
    (kk : W p l e R s m args below meth c H locs cells slots Q (F0 m (pc + 3) ls (.ref (z_ad E (33, 0, 0)) :: rest))) : W p l e R s m args below meth c H locs cells slots Q (F0 m pc ls (.ref (z_ad E (31, 0, 0)) :: rest)) :=
  z_get C hs ha (z_c31 E _ _ _ _) rfl z_iX6 1 (by decide) hl rfl hdg kk
theorem zg_T_nameLength (C : z_C E own cc nL A p s m args meth c) (hs : z_H E A s σ H locs)  (ha : (31, 0, 0) ∈ z_ids E) {index : Nat} (hl : Cond.fieldLink own index "LogKeepers$Tape" "nameLength" "[I" ∈ z_wl) (hdg : decode cc pc = .ok (.getfield index, 3))
    (kk : W p l e R s m args below meth c H locs cells slots Q (F0 m (pc + 3) ls (.ref (z_ad E (34, 0, 0)) :: rest))) : W p l e R s m args below meth c H locs cells slots Q (F0 m pc ls (.ref (z_ad E (31, 0, 0)) :: rest)) :=
  z_get C hs ha (z_c31 E _ _ _ _) rfl z_iX6 2 (by decide) hl rfl hdg kk
theorem zg_T_silent (C : z_C E own cc nL A p s m args meth c) (hs : z_H E A s σ H locs)  (ha : (31, 0, 0) ∈ z_ids E) {index : Nat} (hl : Cond.fieldLink own index "LogKeepers$Tape" "silent" "[Z" ∈ z_wl) (hdg : decode cc pc = .ok (.getfield index, 3))
    (kk : W p l e R s m args below meth c H locs cells slots Q (F0 m (pc + 3) ls (.ref (z_ad E (35, 0, 0)) :: rest))) : W p l e R s m args below meth c H locs cells slots Q (F0 m pc ls (.ref (z_ad E (31, 0, 0)) :: rest)) :=
  z_get C hs ha (z_c31 E _ _ _ _) rfl z_iX6 3 (by decide) hl rfl hdg kk
theorem zg_T_length (C : z_C E own cc nL A p s m args meth c) (hs : z_H E A s σ H locs)  (ha : (31, 0, 0) ∈ z_ids E) {index : Nat} (hl : Cond.fieldLink own index "LogKeepers$Tape" "length" "I" ∈ z_wl) (hdg : decode cc pc = .ok (.getfield index, 3))
    (kk : W p l e R s m args below meth c H locs cells slots Q (F0 m (pc + 3) ls (.int (σ.1 (31, 0, 0) 4) :: rest))) : W p l e R s m args below meth c H locs cells slots Q (F0 m pc ls (.ref (z_ad E (31, 0, 0)) :: rest)) :=
  z_get C hs ha (z_c31 E _ _ _ _) rfl z_iX6 4 (by decide) hl rfl hdg kk
theorem zp_T_length (C : z_C E own cc nL A p s m args meth c) (hs : z_H E A s σ H locs)  (ha : (31, 0, 0) ∈ z_ids E) {index : Nat} (hl : Cond.fieldLink own index "LogKeepers$Tape" "length" "I" ∈ z_wl) {v : Int32} (hdg : decode cc pc = .ok (.putfield index, 3))
    (kk : ∀ (H : Heap) (locs : List Loc), z_H E A s (z_up σ (31, 0, 0) 4 v) H locs → W p l e R s m args below meth c H locs cells slots Q (F0 m (pc + 3) ls rest)) : W p l e R s m args below meth c H locs cells slots Q (F0 m pc ls (.int v :: .ref (z_ad E (31, 0, 0)) :: rest)) :=
  z_put C hs ha (z_c31 E _ _ _ _) rfl z_iX6 tyX6 tyX6_ok nmX6 4 (by decide) hl rfl (ty := .int) rfl rfl rfl (Nat.le_of_ble_eq_true rfl) (τ := z_up σ (31, 0, 0) 4 v) z_upR_o (by rw [z_up, z_upR_s]; rfl) hdg kk
theorem zg_T_told (C : z_C E own cc nL A p s m args meth c) (hs : z_H E A s σ H locs)  (ha : (31, 0, 0) ∈ z_ids E) {index : Nat} (hl : Cond.fieldLink own index "LogKeepers$Tape" "told" "I" ∈ z_wl) (hdg : decode cc pc = .ok (.getfield index, 3))
    (kk : W p l e R s m args below meth c H locs cells slots Q (F0 m (pc + 3) ls (.int (σ.1 (31, 0, 0) 5) :: rest))) : W p l e R s m args below meth c H locs cells slots Q (F0 m pc ls (.ref (z_ad E (31, 0, 0)) :: rest)) :=
  z_get C hs ha (z_c31 E _ _ _ _) rfl z_iX6 5 (by decide) hl rfl hdg kk
theorem zp_T_told (C : z_C E own cc nL A p s m args meth c) (hs : z_H E A s σ H locs)  (ha : (31, 0, 0) ∈ z_ids E) {index : Nat} (hl : Cond.fieldLink own index "LogKeepers$Tape" "told" "I" ∈ z_wl) {v : Int32} (hdg : decode cc pc = .ok (.putfield index, 3))
    (kk : ∀ (H : Heap) (locs : List Loc), z_H E A s (z_up σ (31, 0, 0) 5 v) H locs → W p l e R s m args below meth c H locs cells slots Q (F0 m (pc + 3) ls rest)) : W p l e R s m args below meth c H locs cells slots Q (F0 m pc ls (.int v :: .ref (z_ad E (31, 0, 0)) :: rest)) :=
  z_put C hs ha (z_c31 E _ _ _ _) rfl z_iX6 tyX6 tyX6_ok nmX6 5 (by decide) hl rfl (ty := .int) rfl rfl rfl (Nat.le_of_ble_eq_true rfl) (τ := z_up σ (31, 0, 0) 5 v) z_upR_o (by rw [z_up, z_upR_s]; rfl) hdg kk
theorem zg_T_fault (C : z_C E own cc nL A p s m args meth c) (hs : z_H E A s σ H locs)  (ha : (31, 0, 0) ∈ z_ids E) {index : Nat} (hl : Cond.fieldLink own index "LogKeepers$Tape" "fault" "I" ∈ z_wl) (hdg : decode cc pc = .ok (.getfield index, 3))
    (kk : W p l e R s m args below meth c H locs cells slots Q (F0 m (pc + 3) ls (.int (σ.1 (31, 0, 0) 6) :: rest))) : W p l e R s m args below meth c H locs cells slots Q (F0 m pc ls (.ref (z_ad E (31, 0, 0)) :: rest)) :=
  z_get C hs ha (z_c31 E _ _ _ _) rfl z_iX6 6 (by decide) hl rfl hdg kk
theorem zp_T_fault (C : z_C E own cc nL A p s m args meth c) (hs : z_H E A s σ H locs)  (ha : (31, 0, 0) ∈ z_ids E) {index : Nat} (hl : Cond.fieldLink own index "LogKeepers$Tape" "fault" "I" ∈ z_wl) {v : Int32} (hdg : decode cc pc = .ok (.putfield index, 3))
    (kk : ∀ (H : Heap) (locs : List Loc), z_H E A s (z_up σ (31, 0, 0) 6 v) H locs → W p l e R s m args below meth c H locs cells slots Q (F0 m (pc + 3) ls rest)) : W p l e R s m args below meth c H locs cells slots Q (F0 m pc ls (.int v :: .ref (z_ad E (31, 0, 0)) :: rest)) :=
  z_put C hs ha (z_c31 E _ _ _ _) rfl z_iX6 tyX6 tyX6_ok nmX6 6 (by decide) hl rfl (ty := .int) rfl rfl rfl (Nat.le_of_ble_eq_true rfl) (τ := z_up σ (31, 0, 0) 6 v) z_upR_o (by rw [z_up, z_upR_s]; rfl) hdg kk
theorem zg_T_faultPlace (C : z_C E own cc nL A p s m args meth c) (hs : z_H E A s σ H locs)  (ha : (31, 0, 0) ∈ z_ids E) {index : Nat} (hl : Cond.fieldLink own index "LogKeepers$Tape" "faultPlace" "I" ∈ z_wl) (hdg : decode cc pc = .ok (.getfield index, 3))
    (kk : W p l e R s m args below meth c H locs cells slots Q (F0 m (pc + 3) ls (.int (σ.1 (31, 0, 0) 7) :: rest))) : W p l e R s m args below meth c H locs cells slots Q (F0 m pc ls (.ref (z_ad E (31, 0, 0)) :: rest)) :=
  z_get C hs ha (z_c31 E _ _ _ _) rfl z_iX6 7 (by decide) hl rfl hdg kk
theorem zp_T_faultPlace (C : z_C E own cc nL A p s m args meth c) (hs : z_H E A s σ H locs)  (ha : (31, 0, 0) ∈ z_ids E) {index : Nat} (hl : Cond.fieldLink own index "LogKeepers$Tape" "faultPlace" "I" ∈ z_wl) {v : Int32} (hdg : decode cc pc = .ok (.putfield index, 3))
    (kk : ∀ (H : Heap) (locs : List Loc), z_H E A s (z_up σ (31, 0, 0) 7 v) H locs → W p l e R s m args below meth c H locs cells slots Q (F0 m (pc + 3) ls rest)) : W p l e R s m args below meth c H locs cells slots Q (F0 m pc ls (.int v :: .ref (z_ad E (31, 0, 0)) :: rest)) :=
  z_put C hs ha (z_c31 E _ _ _ _) rfl z_iX6 tyX6 tyX6_ok nmX6 7 (by decide) hl rfl (ty := .int) rfl rfl rfl (Nat.le_of_ble_eq_true rfl) (τ := z_up σ (31, 0, 0) 7 v) z_upR_o (by rw [z_up, z_upR_s]; rfl) hdg kk
theorem zg_T_tokenAt (C : z_C E own cc nL A p s m args meth c) (hs : z_H E A s σ H locs)  (ha : (31, 0, 0) ∈ z_ids E) {index : Nat} (hl : Cond.fieldLink own index "LogKeepers$Tape" "tokenAt" "I" ∈ z_wl) (hdg : decode cc pc = .ok (.getfield index, 3))
    (kk : W p l e R s m args below meth c H locs cells slots Q (F0 m (pc + 3) ls (.int (σ.1 (31, 0, 0) 8) :: rest))) : W p l e R s m args below meth c H locs cells slots Q (F0 m pc ls (.ref (z_ad E (31, 0, 0)) :: rest)) :=
  z_get C hs ha (z_c31 E _ _ _ _) rfl z_iX6 8 (by decide) hl rfl hdg kk
theorem zp_T_tokenAt (C : z_C E own cc nL A p s m args meth c) (hs : z_H E A s σ H locs)  (ha : (31, 0, 0) ∈ z_ids E) {index : Nat} (hl : Cond.fieldLink own index "LogKeepers$Tape" "tokenAt" "I" ∈ z_wl) {v : Int32} (hdg : decode cc pc = .ok (.putfield index, 3))
    (kk : ∀ (H : Heap) (locs : List Loc), z_H E A s (z_up σ (31, 0, 0) 8 v) H locs → W p l e R s m args below meth c H locs cells slots Q (F0 m (pc + 3) ls rest)) : W p l e R s m args below meth c H locs cells slots Q (F0 m pc ls (.int v :: .ref (z_ad E (31, 0, 0)) :: rest)) :=
  z_put C hs ha (z_c31 E _ _ _ _) rfl z_iX6 tyX6 tyX6_ok nmX6 8 (by decide) hl rfl (ty := .int) rfl rfl rfl (Nat.le_of_ble_eq_true rfl) (τ := z_up σ (31, 0, 0) 8 v) z_upR_o (by rw [z_up, z_upR_s]; rfl) hdg kk
theorem zg_T_tokenEnd (C : z_C E own cc nL A p s m args meth c) (hs : z_H E A s σ H locs)  (ha : (31, 0, 0) ∈ z_ids E) {index : Nat} (hl : Cond.fieldLink own index "LogKeepers$Tape" "tokenEnd" "I" ∈ z_wl) (hdg : decode cc pc = .ok (.getfield index, 3))
    (kk : W p l e R s m args below meth c H locs cells slots Q (F0 m (pc + 3) ls (.int (σ.1 (31, 0, 0) 9) :: rest))) : W p l e R s m args below meth c H locs cells slots Q (F0 m pc ls (.ref (z_ad E (31, 0, 0)) :: rest)) :=
  z_get C hs ha (z_c31 E _ _ _ _) rfl z_iX6 9 (by decide) hl rfl hdg kk
theorem zp_T_tokenEnd (C : z_C E own cc nL A p s m args meth c) (hs : z_H E A s σ H locs)  (ha : (31, 0, 0) ∈ z_ids E) {index : Nat} (hl : Cond.fieldLink own index "LogKeepers$Tape" "tokenEnd" "I" ∈ z_wl) {v : Int32} (hdg : decode cc pc = .ok (.putfield index, 3))
    (kk : ∀ (H : Heap) (locs : List Loc), z_H E A s (z_up σ (31, 0, 0) 9 v) H locs → W p l e R s m args below meth c H locs cells slots Q (F0 m (pc + 3) ls rest)) : W p l e R s m args below meth c H locs cells slots Q (F0 m pc ls (.int v :: .ref (z_ad E (31, 0, 0)) :: rest)) :=
  z_put C hs ha (z_c31 E _ _ _ _) rfl z_iX6 tyX6 tyX6_ok nmX6 9 (by decide) hl rfl (ty := .int) rfl rfl rfl (Nat.le_of_ble_eq_true rfl) (τ := z_up σ (31, 0, 0) 9 v) z_upR_o (by rw [z_up, z_upR_s]; rfl) hdg kk
theorem zg_W_keepers (C : z_C E own cc nL A p s m args meth c) (hs : z_H E A s σ H locs) {w : Nat} (ha : (0, w, 0) ∈ z_ids E) {index : Nat} (hl : Cond.fieldLink own index "LogKeepers$World" "keepers" "[LLogKeepers$Keeper;" ∈ z_wl) (hdg : decode cc pc = .ok (.getfield index, 3))
    (kk : W p l e R s m args below meth c H locs cells slots Q (F0 m (pc + 3) ls (.ref (z_ad E (1, w, 0)) :: rest))) : W p l e R s m args below meth c H locs cells slots Q (F0 m pc ls (.ref (z_ad E (0, w, 0)) :: rest)) :=
  z_get C hs ha (z_c0 E _ _ _ _) rfl z_iX7 0 (by decide) hl rfl hdg kk
theorem zg_W_post (C : z_C E own cc nL A p s m args meth c) (hs : z_H E A s σ H locs) {w : Nat} (ha : (0, w, 0) ∈ z_ids E) {index : Nat} (hl : Cond.fieldLink own index "LogKeepers$World" "post" "LLogKeepers$Post;" ∈ z_wl) (hdg : decode cc pc = .ok (.getfield index, 3))
    (kk : W p l e R s m args below meth c H locs cells slots Q (F0 m (pc + 3) ls (.ref (z_ad E (2, w, 0)) :: rest))) : W p l e R s m args below meth c H locs cells slots Q (F0 m pc ls (.ref (z_ad E (0, w, 0)) :: rest)) :=
  z_get C hs ha (z_c0 E _ _ _ _) rfl z_iX7 1 (by decide) hl rfl hdg kk
theorem zg_W_reads (C : z_C E own cc nL A p s m args meth c) (hs : z_H E A s σ H locs) {w : Nat} (ha : (0, w, 0) ∈ z_ids E) {index : Nat} (hl : Cond.fieldLink own index "LogKeepers$World" "reads" "LLogKeepers$Reads;" ∈ z_wl) (hdg : decode cc pc = .ok (.getfield index, 3))
    (kk : W p l e R s m args below meth c H locs cells slots Q (F0 m (pc + 3) ls (.ref (z_ad E (4, w, 0)) :: rest))) : W p l e R s m args below meth c H locs cells slots Q (F0 m pc ls (.ref (z_ad E (0, w, 0)) :: rest)) :=
  z_get C hs ha (z_c0 E _ _ _ _) rfl z_iX7 2 (by decide) hl rfl hdg kk
theorem zg_W_count (C : z_C E own cc nL A p s m args meth c) (hs : z_H E A s σ H locs) {w : Nat} (ha : (0, w, 0) ∈ z_ids E) {index : Nat} (hl : Cond.fieldLink own index "LogKeepers$World" "count" "I" ∈ z_wl) (hdg : decode cc pc = .ok (.getfield index, 3))
    (kk : W p l e R s m args below meth c H locs cells slots Q (F0 m (pc + 3) ls (.int (σ.1 (0, w, 0) 3) :: rest))) : W p l e R s m args below meth c H locs cells slots Q (F0 m pc ls (.ref (z_ad E (0, w, 0)) :: rest)) :=
  z_get C hs ha (z_c0 E _ _ _ _) rfl z_iX7 3 (by decide) hl rfl hdg kk
theorem zp_W_count (C : z_C E own cc nL A p s m args meth c) (hs : z_H E A s σ H locs) {w : Nat} (ha : (0, w, 0) ∈ z_ids E) {index : Nat} (hl : Cond.fieldLink own index "LogKeepers$World" "count" "I" ∈ z_wl) {v : Int32} (hdg : decode cc pc = .ok (.putfield index, 3))
    (kk : ∀ (H : Heap) (locs : List Loc), z_H E A s (z_up σ (0, w, 0) 3 v) H locs → W p l e R s m args below meth c H locs cells slots Q (F0 m (pc + 3) ls rest)) : W p l e R s m args below meth c H locs cells slots Q (F0 m pc ls (.int v :: .ref (z_ad E (0, w, 0)) :: rest)) :=
  z_put C hs ha (z_c0 E _ _ _ _) rfl z_iX7 tyX7 tyX7_ok nmX7 3 (by decide) hl rfl (ty := .int) rfl rfl rfl (Nat.le_of_ble_eq_true rfl) (τ := z_up σ (0, w, 0) 3 v) z_upR_o (by rw [z_up, z_upR_s]; rfl) hdg kk
theorem zg_W_voters (C : z_C E own cc nL A p s m args meth c) (hs : z_H E A s σ H locs) {w : Nat} (ha : (0, w, 0) ∈ z_ids E) {index : Nat} (hl : Cond.fieldLink own index "LogKeepers$World" "voters" "I" ∈ z_wl) (hdg : decode cc pc = .ok (.getfield index, 3))
    (kk : W p l e R s m args below meth c H locs cells slots Q (F0 m (pc + 3) ls (.int (σ.1 (0, w, 0) 4) :: rest))) : W p l e R s m args below meth c H locs cells slots Q (F0 m pc ls (.ref (z_ad E (0, w, 0)) :: rest)) :=
  z_get C hs ha (z_c0 E _ _ _ _) rfl z_iX7 4 (by decide) hl rfl hdg kk
theorem zp_W_voters (C : z_C E own cc nL A p s m args meth c) (hs : z_H E A s σ H locs) {w : Nat} (ha : (0, w, 0) ∈ z_ids E) {index : Nat} (hl : Cond.fieldLink own index "LogKeepers$World" "voters" "I" ∈ z_wl) {v : Int32} (hdg : decode cc pc = .ok (.putfield index, 3))
    (kk : ∀ (H : Heap) (locs : List Loc), z_H E A s (z_up σ (0, w, 0) 4 v) H locs → W p l e R s m args below meth c H locs cells slots Q (F0 m (pc + 3) ls rest)) : W p l e R s m args below meth c H locs cells slots Q (F0 m pc ls (.int v :: .ref (z_ad E (0, w, 0)) :: rest)) :=
  z_put C hs ha (z_c0 E _ _ _ _) rfl z_iX7 tyX7 tyX7_ok nmX7 4 (by decide) hl rfl (ty := .int) rfl rfl rfl (Nat.le_of_ble_eq_true rfl) (τ := z_up σ (0, w, 0) 4 v) z_upR_o (by rw [z_up, z_upR_s]; rfl) hdg kk
theorem zg_X_tape (C : z_C E own cc nL A p s m args meth c) (hs : z_H E A s σ H locs)  (ha : (30, 0, 0) ∈ z_ids E) {index : Nat} (hl : Cond.fieldLink own index "LogKeepers" "tape" "LLogKeepers$Tape;" ∈ z_wl) (hdg : decode cc pc = .ok (.getfield index, 3))
    (kk : W p l e R s m args below meth c H locs cells slots Q (F0 m (pc + 3) ls (.ref (z_ad E (31, 0, 0)) :: rest))) : W p l e R s m args below meth c H locs cells slots Q (F0 m pc ls (.ref (z_ad E (30, 0, 0)) :: rest)) :=
  z_get C hs ha (z_c30 E _ _ _ _) rfl z_iX8 0 (by decide) hl rfl hdg kk
theorem zg_X_world (C : z_C E own cc nL A p s m args meth c) (hs : z_H E A s σ H locs)  (ha : (30, 0, 0) ∈ z_ids E) {index : Nat} (hl : Cond.fieldLink own index "LogKeepers" "world" "LLogKeepers$World;" ∈ z_wl) (hdg : decode cc pc = .ok (.getfield index, 3))
    (kk : W p l e R s m args below meth c H locs cells slots Q (F0 m (pc + 3) ls (.ref (z_ad E (0, 0, 0)) :: rest))) : W p l e R s m args below meth c H locs cells slots Q (F0 m pc ls (.ref (z_ad E (30, 0, 0)) :: rest)) :=
  z_get C hs ha (z_c30 E _ _ _ _) rfl z_iX8 1 (by decide) hl rfl hdg kk
theorem zg_X_boxes (C : z_C E own cc nL A p s m args meth c) (hs : z_H E A s σ H locs)  (ha : (30, 0, 0) ∈ z_ids E) {index : Nat} (hl : Cond.fieldLink own index "LogKeepers" "boxes" "[LLogKeepers$World;" ∈ z_wl) (hdg : decode cc pc = .ok (.getfield index, 3))
    (kk : W p l e R s m args below meth c H locs cells slots Q (F0 m (pc + 3) ls (.ref (z_ad E (36, 0, 0)) :: rest))) : W p l e R s m args below meth c H locs cells slots Q (F0 m pc ls (.ref (z_ad E (30, 0, 0)) :: rest)) :=
  z_get C hs ha (z_c30 E _ _ _ _) rfl z_iX8 2 (by decide) hl rfl hdg kk
theorem zg_X_kept (C : z_C E own cc nL A p s m args meth c) (hs : z_H E A s σ H locs)  (ha : (30, 0, 0) ∈ z_ids E) {index : Nat} (hl : Cond.fieldLink own index "LogKeepers" "kept" "[Z" ∈ z_wl) (hdg : decode cc pc = .ok (.getfield index, 3))
    (kk : W p l e R s m args below meth c H locs cells slots Q (F0 m (pc + 3) ls (.ref (z_ad E (37, 0, 0)) :: rest))) : W p l e R s m args below meth c H locs cells slots Q (F0 m pc ls (.ref (z_ad E (30, 0, 0)) :: rest)) :=
  z_get C hs ha (z_c30 E _ _ _ _) rfl z_iX8 3 (by decide) hl rfl hdg kk
theorem zg_X_history (C : z_C E own cc nL A p s m args meth c) (hs : z_H E A s σ H locs)  (ha : (30, 0, 0) ∈ z_ids E) {index : Nat} (hl : Cond.fieldLink own index "LogKeepers" "history" "LLogKeepers$History;" ∈ z_wl) (hdg : decode cc pc = .ok (.getfield index, 3))
    (kk : W p l e R s m args below meth c H locs cells slots Q (F0 m (pc + 3) ls (.ref (z_ad E (40, 0, 0)) :: rest))) : W p l e R s m args below meth c H locs cells slots Q (F0 m pc ls (.ref (z_ad E (30, 0, 0)) :: rest)) :=
  z_get C hs ha (z_c30 E _ _ _ _) rfl z_iX8 4 (by decide) hl rfl hdg kk
theorem zg_M_tape (C : z_C E own cc nL A p s m args meth c) (hs : z_H E A s σ H locs)  (ha : (100, 0, 0) ∈ z_ids E) {index : Nat} (hl : Cond.fieldLink own index "LogKeepersModel" "tape" "[B" ∈ z_wl) (hdg : decode cc pc = .ok (.getfield index, 3))
    (kk : W p l e R s m args below meth c H locs cells slots Q (F0 m (pc + 3) ls (.ref (z_ad E (101, 0, 0)) :: rest))) : W p l e R s m args below meth c H locs cells slots Q (F0 m pc ls (.ref (z_ad E (100, 0, 0)) :: rest)) :=
  z_get C hs ha (z_c100 E _ _ _ _) rfl z_iX9 0 (by decide) hl rfl hdg kk
theorem zg_M_text (C : z_C E own cc nL A p s m args meth c) (hs : z_H E A s σ H locs)  (ha : (100, 0, 0) ∈ z_ids E) {index : Nat} (hl : Cond.fieldLink own index "LogKeepersModel" "text" "[B" ∈ z_wl) (hdg : decode cc pc = .ok (.getfield index, 3))
    (kk : W p l e R s m args below meth c H locs cells slots Q (F0 m (pc + 3) ls (.ref (z_ad E (102, 0, 0)) :: rest))) : W p l e R s m args below meth c H locs cells slots Q (F0 m pc ls (.ref (z_ad E (100, 0, 0)) :: rest)) :=
  z_get C hs ha (z_c100 E _ _ _ _) rfl z_iX9 1 (by decide) hl rfl hdg kk
theorem zg_M_all (C : z_C E own cc nL A p s m args meth c) (hs : z_H E A s σ H locs)  (ha : (100, 0, 0) ∈ z_ids E) {index : Nat} (hl : Cond.fieldLink own index "LogKeepersModel" "all" "[I" ∈ z_wl) (hdg : decode cc pc = .ok (.getfield index, 3))
    (kk : W p l e R s m args below meth c H locs cells slots Q (F0 m (pc + 3) ls (.ref (z_ad E (103, 0, 0)) :: rest))) : W p l e R s m args below meth c H locs cells slots Q (F0 m pc ls (.ref (z_ad E (100, 0, 0)) :: rest)) :=
  z_get C hs ha (z_c100 E _ _ _ _) rfl z_iX9 2 (by decide) hl rfl hdg kk
theorem zg_M_boxes (C : z_C E own cc nL A p s m args meth c) (hs : z_H E A s σ H locs)  (ha : (100, 0, 0) ∈ z_ids E) {index : Nat} (hl : Cond.fieldLink own index "LogKeepersModel" "boxes" "[I" ∈ z_wl) (hdg : decode cc pc = .ok (.getfield index, 3))
    (kk : W p l e R s m args below meth c H locs cells slots Q (F0 m (pc + 3) ls (.ref (z_ad E (104, 0, 0)) :: rest))) : W p l e R s m args below meth c H locs cells slots Q (F0 m pc ls (.ref (z_ad E (100, 0, 0)) :: rest)) :=
  z_get C hs ha (z_c100 E _ _ _ _) rfl z_iX9 3 (by decide) hl rfl hdg kk
theorem zg_M_isBoxed (C : z_C E own cc nL A p s m args meth c) (hs : z_H E A s σ H locs)  (ha : (100, 0, 0) ∈ z_ids E) {index : Nat} (hl : Cond.fieldLink own index "LogKeepersModel" "isBoxed" "[Z" ∈ z_wl) (hdg : decode cc pc = .ok (.getfield index, 3))
    (kk : W p l e R s m args below meth c H locs cells slots Q (F0 m (pc + 3) ls (.ref (z_ad E (105, 0, 0)) :: rest))) : W p l e R s m args below meth c H locs cells slots Q (F0 m pc ls (.ref (z_ad E (100, 0, 0)) :: rest)) :=
  z_get C hs ha (z_c100 E _ _ _ _) rfl z_iX9 4 (by decide) hl rfl hdg kk
theorem zg_M_taped (C : z_C E own cc nL A p s m args meth c) (hs : z_H E A s σ H locs)  (ha : (100, 0, 0) ∈ z_ids E) {index : Nat} (hl : Cond.fieldLink own index "LogKeepersModel" "taped" "I" ∈ z_wl) (hdg : decode cc pc = .ok (.getfield index, 3))
    (kk : W p l e R s m args below meth c H locs cells slots Q (F0 m (pc + 3) ls (.int (σ.1 (100, 0, 0) 5) :: rest))) : W p l e R s m args below meth c H locs cells slots Q (F0 m pc ls (.ref (z_ad E (100, 0, 0)) :: rest)) :=
  z_get C hs ha (z_c100 E _ _ _ _) rfl z_iX9 5 (by decide) hl rfl hdg kk
theorem zp_M_taped (C : z_C E own cc nL A p s m args meth c) (hs : z_H E A s σ H locs)  (ha : (100, 0, 0) ∈ z_ids E) {index : Nat} (hl : Cond.fieldLink own index "LogKeepersModel" "taped" "I" ∈ z_wl) {v : Int32} (hdg : decode cc pc = .ok (.putfield index, 3))
    (kk : ∀ (H : Heap) (locs : List Loc), z_H E A s (z_up σ (100, 0, 0) 5 v) H locs → W p l e R s m args below meth c H locs cells slots Q (F0 m (pc + 3) ls rest)) : W p l e R s m args below meth c H locs cells slots Q (F0 m pc ls (.int v :: .ref (z_ad E (100, 0, 0)) :: rest)) :=
  z_put C hs ha (z_c100 E _ _ _ _) rfl z_iX9 tyX9 tyX9_ok nmX9 5 (by decide) hl rfl (ty := .int) rfl rfl rfl (Nat.le_of_ble_eq_true rfl) (τ := z_up σ (100, 0, 0) 5 v) z_upR_o (by rw [z_up, z_upR_s]; rfl) hdg kk
theorem zg_M_size (C : z_C E own cc nL A p s m args meth c) (hs : z_H E A s σ H locs)  (ha : (100, 0, 0) ∈ z_ids E) {index : Nat} (hl : Cond.fieldLink own index "LogKeepersModel" "size" "I" ∈ z_wl) (hdg : decode cc pc = .ok (.getfield index, 3))
    (kk : W p l e R s m args below meth c H locs cells slots Q (F0 m (pc + 3) ls (.int (σ.1 (100, 0, 0) 6) :: rest))) : W p l e R s m args below meth c H locs cells slots Q (F0 m pc ls (.ref (z_ad E (100, 0, 0)) :: rest)) :=
  z_get C hs ha (z_c100 E _ _ _ _) rfl z_iX9 6 (by decide) hl rfl hdg kk
theorem zp_M_size (C : z_C E own cc nL A p s m args meth c) (hs : z_H E A s σ H locs)  (ha : (100, 0, 0) ∈ z_ids E) {index : Nat} (hl : Cond.fieldLink own index "LogKeepersModel" "size" "I" ∈ z_wl) {v : Int32} (hdg : decode cc pc = .ok (.putfield index, 3))
    (kk : ∀ (H : Heap) (locs : List Loc), z_H E A s (z_up σ (100, 0, 0) 6 v) H locs → W p l e R s m args below meth c H locs cells slots Q (F0 m (pc + 3) ls rest)) : W p l e R s m args below meth c H locs cells slots Q (F0 m pc ls (.int v :: .ref (z_ad E (100, 0, 0)) :: rest)) :=
  z_put C hs ha (z_c100 E _ _ _ _) rfl z_iX9 tyX9 tyX9_ok nmX9 6 (by decide) hl rfl (ty := .int) rfl rfl rfl (Nat.le_of_ble_eq_true rfl) (τ := z_up σ (100, 0, 0) 6 v) z_upR_o (by rw [z_up, z_upR_s]; rfl) hdg kk
theorem zg_M_faultKind (C : z_C E own cc nL A p s m args meth c) (hs : z_H E A s σ H locs)  (ha : (100, 0, 0) ∈ z_ids E) {index : Nat} (hl : Cond.fieldLink own index "LogKeepersModel" "faultKind" "I" ∈ z_wl) (hdg : decode cc pc = .ok (.getfield index, 3))
    (kk : W p l e R s m args below meth c H locs cells slots Q (F0 m (pc + 3) ls (.int (σ.1 (100, 0, 0) 7) :: rest))) : W p l e R s m args below meth c H locs cells slots Q (F0 m pc ls (.ref (z_ad E (100, 0, 0)) :: rest)) :=
  z_get C hs ha (z_c100 E _ _ _ _) rfl z_iX9 7 (by decide) hl rfl hdg kk
theorem zp_M_faultKind (C : z_C E own cc nL A p s m args meth c) (hs : z_H E A s σ H locs)  (ha : (100, 0, 0) ∈ z_ids E) {index : Nat} (hl : Cond.fieldLink own index "LogKeepersModel" "faultKind" "I" ∈ z_wl) {v : Int32} (hdg : decode cc pc = .ok (.putfield index, 3))
    (kk : ∀ (H : Heap) (locs : List Loc), z_H E A s (z_up σ (100, 0, 0) 7 v) H locs → W p l e R s m args below meth c H locs cells slots Q (F0 m (pc + 3) ls rest)) : W p l e R s m args below meth c H locs cells slots Q (F0 m pc ls (.int v :: .ref (z_ad E (100, 0, 0)) :: rest)) :=
  z_put C hs ha (z_c100 E _ _ _ _) rfl z_iX9 tyX9 tyX9_ok nmX9 7 (by decide) hl rfl (ty := .int) rfl rfl rfl (Nat.le_of_ble_eq_true rfl) (τ := z_up σ (100, 0, 0) 7 v) z_upR_o (by rw [z_up, z_upR_s]; rfl) hdg kk
theorem zg_M_faultPlace (C : z_C E own cc nL A p s m args meth c) (hs : z_H E A s σ H locs)  (ha : (100, 0, 0) ∈ z_ids E) {index : Nat} (hl : Cond.fieldLink own index "LogKeepersModel" "faultPlace" "I" ∈ z_wl) (hdg : decode cc pc = .ok (.getfield index, 3))
    (kk : W p l e R s m args below meth c H locs cells slots Q (F0 m (pc + 3) ls (.int (σ.1 (100, 0, 0) 8) :: rest))) : W p l e R s m args below meth c H locs cells slots Q (F0 m pc ls (.ref (z_ad E (100, 0, 0)) :: rest)) :=
  z_get C hs ha (z_c100 E _ _ _ _) rfl z_iX9 8 (by decide) hl rfl hdg kk
theorem zp_M_faultPlace (C : z_C E own cc nL A p s m args meth c) (hs : z_H E A s σ H locs)  (ha : (100, 0, 0) ∈ z_ids E) {index : Nat} (hl : Cond.fieldLink own index "LogKeepersModel" "faultPlace" "I" ∈ z_wl) {v : Int32} (hdg : decode cc pc = .ok (.putfield index, 3))
    (kk : ∀ (H : Heap) (locs : List Loc), z_H E A s (z_up σ (100, 0, 0) 8 v) H locs → W p l e R s m args below meth c H locs cells slots Q (F0 m (pc + 3) ls rest)) : W p l e R s m args below meth c H locs cells slots Q (F0 m pc ls (.int v :: .ref (z_ad E (100, 0, 0)) :: rest)) :=
  z_put C hs ha (z_c100 E _ _ _ _) rfl z_iX9 tyX9 tyX9_ok nmX9 8 (by decide) hl rfl (ty := .int) rfl rfl rfl (Nat.le_of_ble_eq_true rfl) (τ := z_up σ (100, 0, 0) 8 v) z_upR_o (by rw [z_up, z_upR_s]; rfl) hdg kk
theorem zg_M_keepers (C : z_C E own cc nL A p s m args meth c) (hs : z_H E A s σ H locs)  (ha : (100, 0, 0) ∈ z_ids E) {index : Nat} (hl : Cond.fieldLink own index "LogKeepersModel" "keepers" "[I" ∈ z_wl) (hdg : decode cc pc = .ok (.getfield index, 3))
    (kk : W p l e R s m args below meth c H locs cells slots Q (F0 m (pc + 3) ls (.ref (z_ad E (106, 0, 0)) :: rest))) : W p l e R s m args below meth c H locs cells slots Q (F0 m pc ls (.ref (z_ad E (100, 0, 0)) :: rest)) :=
  z_get C hs ha (z_c100 E _ _ _ _) rfl z_iX9 9 (by decide) hl rfl hdg kk
theorem zg_M_silent (C : z_C E own cc nL A p s m args meth c) (hs : z_H E A s σ H locs)  (ha : (100, 0, 0) ∈ z_ids E) {index : Nat} (hl : Cond.fieldLink own index "LogKeepersModel" "silent" "[I" ∈ z_wl) (hdg : decode cc pc = .ok (.getfield index, 3))
    (kk : W p l e R s m args below meth c H locs cells slots Q (F0 m (pc + 3) ls (.ref (z_ad E (107, 0, 0)) :: rest))) : W p l e R s m args below meth c H locs cells slots Q (F0 m pc ls (.ref (z_ad E (100, 0, 0)) :: rest)) :=
  z_get C hs ha (z_c100 E _ _ _ _) rfl z_iX9 10 (by decide) hl rfl hdg kk
theorem zg_M_kName (C : z_C E own cc nL A p s m args meth c) (hs : z_H E A s σ H locs)  (ha : (100, 0, 0) ∈ z_ids E) {index : Nat} (hl : Cond.fieldLink own index "LogKeepersModel" "kName" "[J" ∈ z_wl) (hdg : decode cc pc = .ok (.getfield index, 3))
    (kk : W p l e R s m args below meth c H locs cells slots Q (F0 m (pc + 3) ls (.ref (z_ad E (108, 0, 0)) :: rest))) : W p l e R s m args below meth c H locs cells slots Q (F0 m pc ls (.ref (z_ad E (100, 0, 0)) :: rest)) :=
  z_get C hs ha (z_c100 E _ _ _ _) rfl z_iX9 11 (by decide) hl rfl hdg kk
theorem zg_M_bank (C : z_C E own cc nL A p s m args meth c) (hs : z_H E A s σ H locs)  (ha : (100, 0, 0) ∈ z_ids E) {index : Nat} (hl : Cond.fieldLink own index "LogKeepersModel" "bank" "I" ∈ z_wl) (hdg : decode cc pc = .ok (.getfield index, 3))
    (kk : W p l e R s m args below meth c H locs cells slots Q (F0 m (pc + 3) ls (.int (σ.1 (100, 0, 0) 12) :: rest))) : W p l e R s m args below meth c H locs cells slots Q (F0 m pc ls (.ref (z_ad E (100, 0, 0)) :: rest)) :=
  z_get C hs ha (z_c100 E _ _ _ _) rfl z_iX9 12 (by decide) hl rfl hdg kk
theorem zp_M_bank (C : z_C E own cc nL A p s m args meth c) (hs : z_H E A s σ H locs)  (ha : (100, 0, 0) ∈ z_ids E) {index : Nat} (hl : Cond.fieldLink own index "LogKeepersModel" "bank" "I" ∈ z_wl) {v : Int32} (hdg : decode cc pc = .ok (.putfield index, 3))
    (kk : ∀ (H : Heap) (locs : List Loc), z_H E A s (z_up σ (100, 0, 0) 12 v) H locs → W p l e R s m args below meth c H locs cells slots Q (F0 m (pc + 3) ls rest)) : W p l e R s m args below meth c H locs cells slots Q (F0 m pc ls (.int v :: .ref (z_ad E (100, 0, 0)) :: rest)) :=
  z_put C hs ha (z_c100 E _ _ _ _) rfl z_iX9 tyX9 tyX9_ok nmX9 12 (by decide) hl rfl (ty := .int) rfl rfl rfl (Nat.le_of_ble_eq_true rfl) (τ := z_up σ (100, 0, 0) 12 v) z_upR_o (by rw [z_up, z_upR_s]; rfl) hdg kk
theorem zg_M_rb (C : z_C E own cc nL A p s m args meth c) (hs : z_H E A s σ H locs)  (ha : (100, 0, 0) ∈ z_ids E) {index : Nat} (hl : Cond.fieldLink own index "LogKeepersModel" "rb" "I" ∈ z_wl) (hdg : decode cc pc = .ok (.getfield index, 3))
    (kk : W p l e R s m args below meth c H locs cells slots Q (F0 m (pc + 3) ls (.int (σ.1 (100, 0, 0) 13) :: rest))) : W p l e R s m args below meth c H locs cells slots Q (F0 m pc ls (.ref (z_ad E (100, 0, 0)) :: rest)) :=
  z_get C hs ha (z_c100 E _ _ _ _) rfl z_iX9 13 (by decide) hl rfl hdg kk
theorem zp_M_rb (C : z_C E own cc nL A p s m args meth c) (hs : z_H E A s σ H locs)  (ha : (100, 0, 0) ∈ z_ids E) {index : Nat} (hl : Cond.fieldLink own index "LogKeepersModel" "rb" "I" ∈ z_wl) {v : Int32} (hdg : decode cc pc = .ok (.putfield index, 3))
    (kk : ∀ (H : Heap) (locs : List Loc), z_H E A s (z_up σ (100, 0, 0) 13 v) H locs → W p l e R s m args below meth c H locs cells slots Q (F0 m (pc + 3) ls rest)) : W p l e R s m args below meth c H locs cells slots Q (F0 m pc ls (.int v :: .ref (z_ad E (100, 0, 0)) :: rest)) :=
  z_put C hs ha (z_c100 E _ _ _ _) rfl z_iX9 tyX9 tyX9_ok nmX9 13 (by decide) hl rfl (ty := .int) rfl rfl rfl (Nat.le_of_ble_eq_true rfl) (τ := z_up σ (100, 0, 0) 13 v) z_upR_o (by rw [z_up, z_upR_s]; rfl) hdg kk
theorem zg_M_at (C : z_C E own cc nL A p s m args meth c) (hs : z_H E A s σ H locs)  (ha : (100, 0, 0) ∈ z_ids E) {index : Nat} (hl : Cond.fieldLink own index "LogKeepersModel" "at" "I" ∈ z_wl) (hdg : decode cc pc = .ok (.getfield index, 3))
    (kk : W p l e R s m args below meth c H locs cells slots Q (F0 m (pc + 3) ls (.int (σ.1 (100, 0, 0) 14) :: rest))) : W p l e R s m args below meth c H locs cells slots Q (F0 m pc ls (.ref (z_ad E (100, 0, 0)) :: rest)) :=
  z_get C hs ha (z_c100 E _ _ _ _) rfl z_iX9 14 (by decide) hl rfl hdg kk
theorem zp_M_at (C : z_C E own cc nL A p s m args meth c) (hs : z_H E A s σ H locs)  (ha : (100, 0, 0) ∈ z_ids E) {index : Nat} (hl : Cond.fieldLink own index "LogKeepersModel" "at" "I" ∈ z_wl) {v : Int32} (hdg : decode cc pc = .ok (.putfield index, 3))
    (kk : ∀ (H : Heap) (locs : List Loc), z_H E A s (z_up σ (100, 0, 0) 14 v) H locs → W p l e R s m args below meth c H locs cells slots Q (F0 m (pc + 3) ls rest)) : W p l e R s m args below meth c H locs cells slots Q (F0 m pc ls (.int v :: .ref (z_ad E (100, 0, 0)) :: rest)) :=
  z_put C hs ha (z_c100 E _ _ _ _) rfl z_iX9 tyX9 tyX9_ok nmX9 14 (by decide) hl rfl (ty := .int) rfl rfl rfl (Nat.le_of_ble_eq_true rfl) (τ := z_up σ (100, 0, 0) 14 v) z_upR_o (by rw [z_up, z_upR_s]; rfl) hdg kk
theorem zg_M_end (C : z_C E own cc nL A p s m args meth c) (hs : z_H E A s σ H locs)  (ha : (100, 0, 0) ∈ z_ids E) {index : Nat} (hl : Cond.fieldLink own index "LogKeepersModel" "end" "I" ∈ z_wl) (hdg : decode cc pc = .ok (.getfield index, 3))
    (kk : W p l e R s m args below meth c H locs cells slots Q (F0 m (pc + 3) ls (.int (σ.1 (100, 0, 0) 15) :: rest))) : W p l e R s m args below meth c H locs cells slots Q (F0 m pc ls (.ref (z_ad E (100, 0, 0)) :: rest)) :=
  z_get C hs ha (z_c100 E _ _ _ _) rfl z_iX9 15 (by decide) hl rfl hdg kk
theorem zp_M_end (C : z_C E own cc nL A p s m args meth c) (hs : z_H E A s σ H locs)  (ha : (100, 0, 0) ∈ z_ids E) {index : Nat} (hl : Cond.fieldLink own index "LogKeepersModel" "end" "I" ∈ z_wl) {v : Int32} (hdg : decode cc pc = .ok (.putfield index, 3))
    (kk : ∀ (H : Heap) (locs : List Loc), z_H E A s (z_up σ (100, 0, 0) 15 v) H locs → W p l e R s m args below meth c H locs cells slots Q (F0 m (pc + 3) ls rest)) : W p l e R s m args below meth c H locs cells slots Q (F0 m pc ls (.int v :: .ref (z_ad E (100, 0, 0)) :: rest)) :=
  z_put C hs ha (z_c100 E _ _ _ _) rfl z_iX9 tyX9 tyX9_ok nmX9 15 (by decide) hl rfl (ty := .int) rfl rfl rfl (Nat.le_of_ble_eq_true rfl) (τ := z_up σ (100, 0, 0) 15 v) z_upR_o (by rw [z_up, z_upR_s]; rfl) hdg kk
theorem zg_M_token (C : z_C E own cc nL A p s m args meth c) (hs : z_H E A s σ H locs)  (ha : (100, 0, 0) ∈ z_ids E) {index : Nat} (hl : Cond.fieldLink own index "LogKeepersModel" "token" "I" ∈ z_wl) (hdg : decode cc pc = .ok (.getfield index, 3))
    (kk : W p l e R s m args below meth c H locs cells slots Q (F0 m (pc + 3) ls (.int (σ.1 (100, 0, 0) 16) :: rest))) : W p l e R s m args below meth c H locs cells slots Q (F0 m pc ls (.ref (z_ad E (100, 0, 0)) :: rest)) :=
  z_get C hs ha (z_c100 E _ _ _ _) rfl z_iX9 16 (by decide) hl rfl hdg kk
theorem zp_M_token (C : z_C E own cc nL A p s m args meth c) (hs : z_H E A s σ H locs)  (ha : (100, 0, 0) ∈ z_ids E) {index : Nat} (hl : Cond.fieldLink own index "LogKeepersModel" "token" "I" ∈ z_wl) {v : Int32} (hdg : decode cc pc = .ok (.putfield index, 3))
    (kk : ∀ (H : Heap) (locs : List Loc), z_H E A s (z_up σ (100, 0, 0) 16 v) H locs → W p l e R s m args below meth c H locs cells slots Q (F0 m (pc + 3) ls rest)) : W p l e R s m args below meth c H locs cells slots Q (F0 m pc ls (.int v :: .ref (z_ad E (100, 0, 0)) :: rest)) :=
  z_put C hs ha (z_c100 E _ _ _ _) rfl z_iX9 tyX9 tyX9_ok nmX9 16 (by decide) hl rfl (ty := .int) rfl rfl rfl (Nat.le_of_ble_eq_true rfl) (τ := z_up σ (100, 0, 0) 16 v) z_upR_o (by rw [z_up, z_upR_s]; rfl) hdg kk
theorem zg_M_name (C : z_C E own cc nL A p s m args meth c) (hs : z_H E A s σ H locs)  (ha : (100, 0, 0) ∈ z_ids E) {index : Nat} (hl : Cond.fieldLink own index "LogKeepersModel" "name" "J" ∈ z_wl) (hdg : decode cc pc = .ok (.getfield index, 3))
    (kk : W p l e R s m args below meth c H locs cells slots Q (F0 m (pc + 3) ls (.long (σ.2 (100, 0, 0) 17) :: rest))) : W p l e R s m args below meth c H locs cells slots Q (F0 m pc ls (.ref (z_ad E (100, 0, 0)) :: rest)) :=
  z_get C hs ha (z_c100 E _ _ _ _) rfl z_iX9 17 (by decide) hl rfl hdg kk
theorem zp_M_name (C : z_C E own cc nL A p s m args meth c) (hs : z_H E A s σ H locs)  (ha : (100, 0, 0) ∈ z_ids E) {index : Nat} (hl : Cond.fieldLink own index "LogKeepersModel" "name" "J" ∈ z_wl) {v : Int64} (hdg : decode cc pc = .ok (.putfield index, 3))
    (kk : ∀ (H : Heap) (locs : List Loc), z_H E A s (z_upl σ (100, 0, 0) 17 v) H locs → W p l e R s m args below meth c H locs cells slots Q (F0 m (pc + 3) ls rest)) : W p l e R s m args below meth c H locs cells slots Q (F0 m pc ls (.long v :: .ref (z_ad E (100, 0, 0)) :: rest)) :=
  z_put C hs ha (z_c100 E _ _ _ _) rfl z_iX9 tyX9 tyX9_ok nmX9 17 (by decide) hl rfl (ty := .long) rfl rfl rfl (Nat.le_of_ble_eq_true rfl) (τ := z_upl σ (100, 0, 0) 17 v) z_upH_o (by rw [z_upl, z_upH_s]; rfl) hdg kk
theorem zg_M_letter (C : z_C E own cc nL A p s m args meth c) (hs : z_H E A s σ H locs)  (ha : (100, 0, 0) ∈ z_ids E) {index : Nat} (hl : Cond.fieldLink own index "LogKeepersModel" "letter" "[I" ∈ z_wl) (hdg : decode cc pc = .ok (.getfield index, 3))
    (kk : W p l e R s m args below meth c H locs cells slots Q (F0 m (pc + 3) ls (.ref (z_ad E (109, 0, 0)) :: rest))) : W p l e R s m args below meth c H locs cells slots Q (F0 m pc ls (.ref (z_ad E (100, 0, 0)) :: rest)) :=
  z_get C hs ha (z_c100 E _ _ _ _) rfl z_iX9 18 (by decide) hl rfl hdg kk
theorem zg_M_nBegun (C : z_C E own cc nL A p s m args meth c) (hs : z_H E A s σ H locs)  (ha : (100, 0, 0) ∈ z_ids E) {index : Nat} (hl : Cond.fieldLink own index "LogKeepersModel" "nBegun" "[I" ∈ z_wl) (hdg : decode cc pc = .ok (.getfield index, 3))
    (kk : W p l e R s m args below meth c H locs cells slots Q (F0 m (pc + 3) ls (.ref (z_ad E (110, 0, 0)) :: rest))) : W p l e R s m args below meth c H locs cells slots Q (F0 m pc ls (.ref (z_ad E (100, 0, 0)) :: rest)) :=
  z_get C hs ha (z_c100 E _ _ _ _) rfl z_iX9 19 (by decide) hl rfl hdg kk
theorem zg_M_nEnded (C : z_C E own cc nL A p s m args meth c) (hs : z_H E A s σ H locs)  (ha : (100, 0, 0) ∈ z_ids E) {index : Nat} (hl : Cond.fieldLink own index "LogKeepersModel" "nEnded" "[I" ∈ z_wl) (hdg : decode cc pc = .ok (.getfield index, 3))
    (kk : W p l e R s m args below meth c H locs cells slots Q (F0 m (pc + 3) ls (.ref (z_ad E (111, 0, 0)) :: rest))) : W p l e R s m args below meth c H locs cells slots Q (F0 m pc ls (.ref (z_ad E (100, 0, 0)) :: rest)) :=
  z_get C hs ha (z_c100 E _ _ _ _) rfl z_iX9 20 (by decide) hl rfl hdg kk
theorem zg_M_nWhat (C : z_C E own cc nL A p s m args meth c) (hs : z_H E A s σ H locs)  (ha : (100, 0, 0) ∈ z_ids E) {index : Nat} (hl : Cond.fieldLink own index "LogKeepersModel" "nWhat" "[I" ∈ z_wl) (hdg : decode cc pc = .ok (.getfield index, 3))
    (kk : W p l e R s m args below meth c H locs cells slots Q (F0 m (pc + 3) ls (.ref (z_ad E (112, 0, 0)) :: rest))) : W p l e R s m args below meth c H locs cells slots Q (F0 m pc ls (.ref (z_ad E (100, 0, 0)) :: rest)) :=
  z_get C hs ha (z_c100 E _ _ _ _) rfl z_iX9 21 (by decide) hl rfl hdg kk
theorem zg_M_nValue (C : z_C E own cc nL A p s m args meth c) (hs : z_H E A s σ H locs)  (ha : (100, 0, 0) ∈ z_ids E) {index : Nat} (hl : Cond.fieldLink own index "LogKeepersModel" "nValue" "[I" ∈ z_wl) (hdg : decode cc pc = .ok (.getfield index, 3))
    (kk : W p l e R s m args below meth c H locs cells slots Q (F0 m (pc + 3) ls (.ref (z_ad E (113, 0, 0)) :: rest))) : W p l e R s m args below meth c H locs cells slots Q (F0 m pc ls (.ref (z_ad E (100, 0, 0)) :: rest)) :=
  z_get C hs ha (z_c100 E _ _ _ _) rfl z_iX9 22 (by decide) hl rfl hdg kk
theorem zg_M_nAnswer (C : z_C E own cc nL A p s m args meth c) (hs : z_H E A s σ H locs)  (ha : (100, 0, 0) ∈ z_ids E) {index : Nat} (hl : Cond.fieldLink own index "LogKeepersModel" "nAnswer" "[I" ∈ z_wl) (hdg : decode cc pc = .ok (.getfield index, 3))
    (kk : W p l e R s m args below meth c H locs cells slots Q (F0 m (pc + 3) ls (.ref (z_ad E (114, 0, 0)) :: rest))) : W p l e R s m args below meth c H locs cells slots Q (F0 m pc ls (.ref (z_ad E (100, 0, 0)) :: rest)) :=
  z_get C hs ha (z_c100 E _ _ _ _) rfl z_iX9 23 (by decide) hl rfl hdg kk
theorem zg_M_row (C : z_C E own cc nL A p s m args meth c) (hs : z_H E A s σ H locs)  (ha : (100, 0, 0) ∈ z_ids E) {index : Nat} (hl : Cond.fieldLink own index "LogKeepersModel" "row" "[I" ∈ z_wl) (hdg : decode cc pc = .ok (.getfield index, 3))
    (kk : W p l e R s m args below meth c H locs cells slots Q (F0 m (pc + 3) ls (.ref (z_ad E (115, 0, 0)) :: rest))) : W p l e R s m args below meth c H locs cells slots Q (F0 m pc ls (.ref (z_ad E (100, 0, 0)) :: rest)) :=
  z_get C hs ha (z_c100 E _ _ _ _) rfl z_iX9 24 (by decide) hl rfl hdg kk
theorem zg_M_cell (C : z_C E own cc nL A p s m args meth c) (hs : z_H E A s σ H locs)  (ha : (100, 0, 0) ∈ z_ids E) {index : Nat} (hl : Cond.fieldLink own index "LogKeepersModel" "cell" "[I" ∈ z_wl) (hdg : decode cc pc = .ok (.getfield index, 3))
    (kk : W p l e R s m args below meth c H locs cells slots Q (F0 m (pc + 3) ls (.ref (z_ad E (116, 0, 0)) :: rest))) : W p l e R s m args below meth c H locs cells slots Q (F0 m pc ls (.ref (z_ad E (100, 0, 0)) :: rest)) :=
  z_get C hs ha (z_c100 E _ _ _ _) rfl z_iX9 25 (by decide) hl rfl hdg kk
theorem zg_M_noted (C : z_C E own cc nL A p s m args meth c) (hs : z_H E A s σ H locs)  (ha : (100, 0, 0) ∈ z_ids E) {index : Nat} (hl : Cond.fieldLink own index "LogKeepersModel" "noted" "I" ∈ z_wl) (hdg : decode cc pc = .ok (.getfield index, 3))
    (kk : W p l e R s m args below meth c H locs cells slots Q (F0 m (pc + 3) ls (.int (σ.1 (100, 0, 0) 26) :: rest))) : W p l e R s m args below meth c H locs cells slots Q (F0 m pc ls (.ref (z_ad E (100, 0, 0)) :: rest)) :=
  z_get C hs ha (z_c100 E _ _ _ _) rfl z_iX9 26 (by decide) hl rfl hdg kk
theorem zp_M_noted (C : z_C E own cc nL A p s m args meth c) (hs : z_H E A s σ H locs)  (ha : (100, 0, 0) ∈ z_ids E) {index : Nat} (hl : Cond.fieldLink own index "LogKeepersModel" "noted" "I" ∈ z_wl) {v : Int32} (hdg : decode cc pc = .ok (.putfield index, 3))
    (kk : ∀ (H : Heap) (locs : List Loc), z_H E A s (z_up σ (100, 0, 0) 26 v) H locs → W p l e R s m args below meth c H locs cells slots Q (F0 m (pc + 3) ls rest)) : W p l e R s m args below meth c H locs cells slots Q (F0 m pc ls (.int v :: .ref (z_ad E (100, 0, 0)) :: rest)) :=
  z_put C hs ha (z_c100 E _ _ _ _) rfl z_iX9 tyX9 tyX9_ok nmX9 26 (by decide) hl rfl (ty := .int) rfl rfl rfl (Nat.le_of_ble_eq_true rfl) (τ := z_up σ (100, 0, 0) 26 v) z_upR_o (by rw [z_up, z_upR_s]; rfl) hdg kk
end z_rows
end
section
/-! contracts over the flat picture, and calls by them -/
def z_let {α β : Type} (v : α) (f : α → β) : β := f v
theorem z_lte {α β : Type} {v x : α} {f : α → β} {o : β} (h : x = v) (hf : z_let v f = o) : f x = o := by subst h; exact hf
theorem z_top {E : zE} {A : Nat → Prop} {s : State} {v : zS} {H : Heap} {locs : List Loc} {β : Type} {f : zS → β} {o : β} (hs : z_H E A s v H locs) (hf : z_let v f = o) : ∃ x, x = v ∧ z_H E A s x H locs ∧ f x = o := ⟨v, rfl, hs, hf⟩
abbrev z_QI (E : zE) (ro : Int32) (σo : zS) (A : Nat → Prop) : Array Value → State → Outcome → State → Prop := va_Qi (S := Unit) (fun r _ => r = ro) (fun _ t => va_P E.1 z_cl (z_ws E σo) t.heap) A
abbrev z_QV (E : zE) (_ : Unit) (σo : zS) (A : Nat → Prop) : Array Value → State → Outcome → State → Prop := va_Qv (S := Unit) (fun _ => True) (fun _ t => va_P E.1 z_cl (z_ws E σo) t.heap) A
abbrev z_QQ (E : zE) (ro : Option zJ) (σo : zS) (A : Nat → Prop) : Array Value → State → Outcome → State → Prop := va_Qq (S := Unit) (fun r _ => r = ro.map (z_ad E)) (fun _ t => va_P E.1 z_cl (z_ws E σo) t.heap) A
/-- a method's contract: from any heap that holds the state σ, with these arguments, it ends as Q says -/
def z_T (l : Launch) (E : zE) (y : MethodName) (b : ByteArray) (n : Nat) (ret : Option FieldType) (rm : Room) (Q : (Nat → Prop) → Array Value → State → Outcome → State → Prop) (av : List Value) (σ : zS) : Prop :=
  ∀ sz : Nat, Met l y (.code y b n ret :: z_wl) rm (va_Pc av (fun U => U.heap.size = sz ∧ va_P E.1 z_cl (z_ws E σ) U.heap ∧ z_K E U ∧ va_D (fun _ => True) (z_ws E σ))) (Q (z_A E sz)) 0 0 (z_A E sz)
theorem z_enter {l : Launch} {E : zE} {y : MethodName} {b : ByteArray} {n : Nat} {ret : Option FieldType} {rm : Room} {Q : (Nat → Prop) → Array Value → State → Outcome → State → Prop} {av : List Value} {σ : zS} {lv : List (Nat × Value)} (hy : plainName y.cls = true) (hlen : (lg_sl av).length ≤ n) (hlv : lv_args 0 av = lv)
    (body : ∀ (p : Program) (e : Env) (s : State) (m : MethodId) (below : List Frame) (meth : Method) (c : Code) (A : Nat → Prop) (ls : Array Slot), z_C E y.cls b n A p s m av.toArray meth c → meth.sig.returnType = ret → z_H E A s σ s.heap [] → lv_has ls n lv → W p l e rm s m av.toArray below meth c s.heap [] 0 0 (MQ below (Q A) av.toArray s 0 0 A) (F0 m 0 ls [])) : z_T l E y b n ret rm Q av σ := by
  intro sz
  refine Met.ofW (cc := b) (maxL := n) (ret := ret) hy rfl ?_
  intro p e s m args below meth c s₁ B hml hv
  obtain ⟨rfl, hsz, hP, hK, hD0⟩ := hv
  have hts := atoms_spec (ws := .code y b n ret :: z_wl) B.pre
  have hown : s.vm.findClass y.cls = some m.cls := findClass_of_methodNamed B.named
  subst hsz
  have hl := lv_entry av (n := n) hlen
  rw [lg_entry_eq]
  rw [hlv] at hl
  exact body p e s m below meth c (z_A E s.heap.size) _ ⟨B.exec, B.bytes, hml, hown, fun w hw => hts w (List.mem_cons_of_mem _ hw), hK, fun τ => z_D_A (z_Dall hD0 τ) _, fun q h => Or.inr h, B.notSynchronized⟩ B.returns ⟨hP, va_S.rf⟩ hl
/-- the words of a call -/
def z_CV (own : String) (index : Nat) (y : MethodName) (b : ByteArray) (n : Nat) (ret : Option FieldType) (k : Nat) : Prop :=
  (Cond.methodLink own index y ∈ z_wl ∧ Cond.instanceMethod y ∈ z_wl ∧ Cond.selects y.cls y y ∈ z_wl ∧ Cond.initialized y.cls ∈ z_wl ∧ Cond.code y b n ret ∈ z_wl) ∧ (y.cls ≠ "java/lang/invoke/MethodHandle" ∧ y.cls ≠ "java/lang/invoke/VarHandle" ∧ (parseMethodDescriptor y.desc).map (fun d => d.parameters.length) = some k) ∧ n ≤ 40
def z_CS (own : String) (index : Nat) (y : MethodName) (b : ByteArray) (n : Nat) (ret : Option FieldType) (k : Nat) : Prop :=
  (Cond.methodLink own index y ∈ z_wl ∧ Cond.static y ∈ z_wl ∧ Cond.initialized y.cls ∈ z_wl ∧ Cond.code y b n ret ∈ z_wl) ∧ (y.cls ≠ "java/lang/invoke/MethodHandle" ∧ y.cls ≠ "java/lang/invoke/VarHandle" ∧ (parseMethodDescriptor y.desc).map (fun d => d.parameters.length) = some k) ∧ n ≤ 40
/-- a nest mate's static method -/
def z_CN (own : String) (index : Nat) (y : MethodName) (host : String) (b : ByteArray) (n : Nat) (ret : Option FieldType) (k : Nat) : Prop :=
  (Cond.methodLinkNest own index y host ∈ z_nl ∧ Cond.static y ∈ z_wl ∧ Cond.initialized y.cls ∈ z_wl ∧ Cond.code y b n ret ∈ z_wl) ∧ (y.cls ≠ "java/lang/invoke/MethodHandle" ∧ y.cls ≠ "java/lang/invoke/VarHandle" ∧ (parseMethodDescriptor y.desc).map (fun d => d.parameters.length) = some k) ∧ n ≤ 40
theorem z_K.moved {E : zE} {s U : State} (hW : s.WarmedH U.vm) (h : z_K E s) : z_K E U := ⟨va_K.moved hW.alike h.1, fun w hw => by
  have h1 := h.2 w hw
  have h2 : ∃ a i x ho, w = Cond.methodLinkNest a i x ho := by
    have := hw
    simp only [z_nl, List.mem_cons, List.not_mem_nil, or_false] at this
    rcases this with h | h | h | h | h | h | h | h | h | h | h | h | h <;> exact ⟨_, _, _, _, h⟩
  obtain ⟨a, i, x, ho, rfl⟩ := h2
  exact va_Nw.warmM hW h1⟩
theorem z_blind {E : zE} {av : List Value} {sz : Nat} {σ : zS} : FrameBlind (va_Pc av (fun U => U.heap.size = sz ∧ va_P E.1 z_cl (z_ws E σ) U.heap ∧ z_K E U ∧ va_D (fun _ => True) (z_ws E σ))) := fun a U g mk q => by
  obtain ⟨q0, q1, qP, qK, qD⟩ := q
  exact ⟨q0, q1, qP, ⟨va_K.moved (u := U) (U := U.calling g mk a) (Vm.Alike.refl U.vm) qK.1, fun w hw => qK.2 w hw⟩, qD⟩
section z_callrows
variable {p : Program} {l : Launch} {e : Env} {s : State} {m : MethodId} {args : Array Value} {below : List Frame} {meth : Method} {c : Code} {H : Heap} {locs : List Loc} {Q : State → Prop}
variable {cc : ByteArray} {pc nL lev j : Nat} {ls : Array Slot} {rest st : List Value} {E : zE} {σ τ : zS} {A : Nat → Prop} {own : String} {y : MethodName} {b : ByteArray} {n : Nat} {ret : Option FieldType}
theorem z_freeA (C : z_C E own cc nL A p s m args meth c) (hs : z_H E A s σ H locs) : ∀ q, z_A E H.size q → A q := by
  obtain ⟨hex, hb, hml, hown, hts, hK, hD, hA, -⟩ := C
  rintro q (⟨a, ha, rfl⟩ | h)
  · obtain ⟨k, -, he⟩ := z_at σ ha
    exact (hD σ).2 k _ he
  · exact hA q (Nat.le_trans hs.2.1 h)
theorem z_wsin {ws : List Cond} (hc : Cond.code y b n ret ∈ z_wl) (h : ∀ w ∈ ws, w ∈ z_wl) : ∀ w ∈ ws ++ (Cond.code y b n ret :: z_wl), w ∈ z_wl := by
  intro w hw
  rcases List.mem_append.mp hw with h1 | h1
  · exact h w h1
  · rcases List.mem_cons.mp h1 with rfl | h2
    · exact hc
    · exact h2
theorem z_preS (C : z_C E own cc nL A p s m args meth c) (hs : z_H E A s σ H locs) (av : List Value) : PreS s H (va_Pc av (fun U => U.heap.size = H.size ∧ va_P E.1 z_cl (z_ws E σ) U.heap ∧ z_K E U ∧ va_D (fun _ => True) (z_ws E σ))) av := by
  obtain ⟨hex, hb, hml, hown, hts, hK, hD, hA, -⟩ := C
  refine ⟨z_blind, fun U hU hW => ⟨rfl, by rw [hU], by rw [hU]; exact hs.1, hK.moved hW, (hD σ).weaken (fun _ _ _ _ => trivial)⟩⟩
theorem z_runV {Qx : (Nat → Prop) → Array Value → State → Outcome → State → Prop} {As : List Value} {a : zJ} {ci N index k : Nat} {T : u_T} {fs : List Value} (C : z_C E own cc nL A p s m args meth c) (hs : z_H E A s σ H locs) (hls : ls.size = nL) (hM : z_T l E y b n ret (z_rm j) Qx (.ref (z_ad E a) :: As) σ) (cv : z_CV own index y b n ret k) (ha : a ∈ z_ids E) (hce : z_cell E (σ.1 a) (σ.2 a) a = .inr (ci, fs)) (hc : z_cl[ci]? = some (y.cls, T, N)) (hlen : As.length = k) (hst : st = As.reverse ++ .ref (z_ad E a) :: rest) (hj : j < lev) (hrest : (rest.map fun v => v.category).sum ≤ 8) (hdg : decode cc pc = .ok (.invokevirtual index, 3)) :
    va_Run p l e (z_rm lev) s m args below meth c H locs 0 0 0 0 (F0 m pc ls st) rest (Qx (z_A E H.size) (Value.ref (z_ad E a) :: As).toArray) (z_A E H.size) := by
  obtain ⟨⟨w1, w2, w3, w4, w5⟩, ⟨d1, d2, d3⟩, hn⟩ := cv
  have hp := z_preS C hs (Value.ref (z_ad E a) :: As)
  obtain ⟨q0, -, he⟩ := z_at σ ha
  rw [hce] at he
  have hrv := va_recv C.2.2.2.2.2.1.1 hs.1 hc he
  refine va_runV (bytes := b) (maxL := n) (ret := ret) (C := y.cls) ⟨C.1, C.2.1, C.2.2.1, C.2.2.2.1, C.2.2.2.2.1⟩ (hM H.size) (cwV k C.2.2.2.2.1 (z_gin (fun w h => h) ?_) rfl rfl rfl ⟨rfl, d1, d2, d3⟩ (z_rmok hj hn)) ⟨hp.1, hrv, hp.2⟩ rfl hlen hls hst (lv_room hrest) hdg ⟨Nat.le_refl _, Nat.le_refl _⟩
  refine z_wsin w5 (fun w hw => ?_)
  simp only [List.mem_cons, List.not_mem_nil, or_false] at hw
  rcases hw with rfl | rfl | rfl | rfl
  · exact w1
  · exact w2
  · exact w3
  · exact w4
theorem z_runS {Qx : (Nat → Prop) → Array Value → State → Outcome → State → Prop} {As : List Value} {index k : Nat} (C : z_C E own cc nL A p s m args meth c) (hs : z_H E A s σ H locs) (hls : ls.size = nL) (hM : z_T l E y b n ret (z_rm j) Qx As σ) (cv : z_CS own index y b n ret k) (hown : y.cls = own) (hlen : As.length = k) (hst : st = As.reverse ++ rest) (hj : j < lev) (hrest : (rest.map fun v => v.category).sum ≤ 8) (hdg : decode cc pc = .ok (.invokestatic index, 3)) :
    va_Run p l e (z_rm lev) s m args below meth c H locs 0 0 0 0 (F0 m pc ls st) rest (Qx (z_A E H.size) As.toArray) (z_A E H.size) := by
  obtain ⟨⟨w1, w2, w4, w5⟩, ⟨d1, d2, d3⟩, hn⟩ := cv
  have hp := z_preS C hs As
  refine va_runS (bytes := b) (maxL := n) (ret := ret) ⟨C.1, C.2.1, C.2.2.1, C.2.2.2.1, C.2.2.2.2.1⟩ (hM H.size) (cwS k C.2.2.2.2.1 (z_gin (fun w h => h) ?_) rfl rfl rfl ⟨hown, d1, d2, d3⟩ (z_rmok hj hn)) hp rfl hlen hls hst (lv_room hrest) hdg ⟨Nat.le_refl _, Nat.le_refl _⟩
  refine z_wsin w5 (fun w hw => ?_)
  simp only [List.mem_cons, List.not_mem_nil, or_false] at hw
  rcases hw with rfl | rfl | rfl
  · exact w1
  · exact w2
  · rw [← hown]; exact w4
theorem z_runN {Qx : (Nat → Prop) → Array Value → State → Outcome → State → Prop} {As : List Value} {index k : Nat} {host : String} (C : z_C E own cc nL A p s m args meth c) (hs : z_H E A s σ H locs) (hls : ls.size = nL) (hM : z_T l E y b n ret (z_rm j) Qx As σ) (cv : z_CN own index y host b n ret k) (hlen : As.length = k) (hst : st = As.reverse ++ rest) (hj : j < lev) (hrest : (rest.map fun v => v.category).sum ≤ 8) (hdg : decode cc pc = .ok (.invokestatic index, 3)) :
    va_Run p l e (z_rm lev) s m args below meth c H locs 0 0 0 0 (F0 m pc ls st) rest (Qx (z_A E H.size) As.toArray) (z_A E H.size) := by
  obtain ⟨⟨w1, w2, w4, w5⟩, ⟨d1, d2, d3⟩, hn⟩ := cv
  have hp := z_preS C hs As
  refine va_runSN (bytes := b) (maxL := n) (ret := ret) ⟨C.1, C.2.1, C.2.2.1, C.2.2.2.1, C.2.2.2.2.1⟩ (hM H.size) ⟨va_cnB k C.2.2.2.2.1 (z_gin (fun w h => h) ?_) rfl rfl rfl (C.2.2.2.2.2.1.2 _ w1) (C.2.2.2.2.1 _ w4) ⟨d1, d2, d3⟩ (z_rmok hj hn), C.2.2.2.2.1 _ w2, trivial⟩ hp rfl hlen hls hst (lv_room hrest) hdg ⟨Nat.le_refl _, Nat.le_refl _⟩
  exact z_wsin (ws := []) w5 (fun w hw => by cases hw)
theorem z_goI {rv : Int32} {a : Array Value} (C : z_C E own cc nL A p s m args meth c) (hs : z_H E A s σ H locs) (hr : va_Run p l e (z_rm lev) s m args below meth c H locs 0 0 0 0 (F0 m pc ls st) rest (z_QI E rv τ (z_A E H.size) a) (z_A E H.size))
    (kk : ∀ (H : Heap) (locs : List Loc), z_H E A s τ H locs → W p l e (z_rm lev) s m args below meth c H locs 0 0 Q (F0 m (pc + 3) ls (.int rv :: rest))) : W p l e (z_rm lev) s m args below meth c H locs 0 0 Q (F0 m pc ls st) := by
  refine va_calli hr hs.2 (fun q _ h => z_freeA C hs q h) (z_freeA C hs) (fun r u t H1 locs1 ht _ hw hB _ _ hS => ?_)
  subst hw
  rw [ht] at hB
  exact kk H1 locs1 ⟨hB, hS⟩
theorem z_goV {a : Array Value} (C : z_C E own cc nL A p s m args meth c) (hs : z_H E A s σ H locs) (hr : va_Run p l e (z_rm lev) s m args below meth c H locs 0 0 0 0 (F0 m pc ls st) rest (z_QV E () τ (z_A E H.size) a) (z_A E H.size))
    (kk : ∀ (H : Heap) (locs : List Loc), z_H E A s τ H locs → W p l e (z_rm lev) s m args below meth c H locs 0 0 Q (F0 m (pc + 3) ls rest)) : W p l e (z_rm lev) s m args below meth c H locs 0 0 Q (F0 m pc ls st) := by
  refine va_callv hr hs.2 (fun q _ h => z_freeA C hs q h) (z_freeA C hs) (fun u t H1 locs1 ht _ hw hB _ _ hS => ?_)
  rw [ht] at hB
  exact kk H1 locs1 ⟨hB, hS⟩
theorem z_goQ {ro : Option zJ} {a : Array Value} (C : z_C E own cc nL A p s m args meth c) (hs : z_H E A s σ H locs) (hr : va_Run p l e (z_rm lev) s m args below meth c H locs 0 0 0 0 (F0 m pc ls st) rest (z_QQ E ro τ (z_A E H.size) a) (z_A E H.size))
    (kk : ∀ (H : Heap) (locs : List Loc), z_H E A s τ H locs → W p l e (z_rm lev) s m args below meth c H locs 0 0 Q (F0 m (pc + 3) ls (va_rf (ro.map (z_ad E)) :: rest))) : W p l e (z_rm lev) s m args below meth c H locs 0 0 Q (F0 m pc ls st) := by
  refine va_callq hr hs.2 (fun q _ h => z_freeA C hs q h) (z_freeA C hs) (fun r u t H1 locs1 ht _ hw hB _ _ hS => ?_)
  subst hw
  rw [ht] at hB
  exact kk H1 locs1 ⟨hB, hS⟩
theorem z_reti {ro v : Int32} {σo : zS} {R : Room} (C : z_C E own cc nL A p s m args meth c) (hr : meth.sig.returnType = some .int) (hs : z_H E A s σ H locs) (hf : some (v, σ) = some (ro, σo)) (hdg : decode cc pc = .ok (.ireturn, 1)) : W p l e R s m args below meth c H locs 0 0 (MQ below (z_QI E ro σo A) args s 0 0 A) (F0 m pc ls [.int v]) := by
  cases hf
  exact W.iret C.1 C.2.1 hr (fun t ht _ => ⟨⟨v, (), rfl, rfl, by rw [ht]; exact hs.1⟩, hs.2.F ht⟩) hs.2.2.2 hdg C.2.2.2.2.2.2.2.2
theorem z_retz {ro v : Int32} {σo : zS} {R : Room} (C : z_C E own cc nL A p s m args meth c) (hr : meth.sig.returnType = some .boolean) (hs : z_H E A s σ H locs) (hv : z_b01 v = true) (hf : some (v, σ) = some (ro, σo)) (hdg : decode cc pc = .ok (.ireturn, 1)) : W p l e R s m args below meth c H locs 0 0 (MQ below (z_QI E ro σo A) args s 0 0 A) (F0 m pc ls [.int v]) := by
  cases hf
  exact W.zret C.1 C.2.1 hr (z_b01n hv) (fun t ht _ => ⟨⟨v, (), rfl, rfl, by rw [ht]; exact hs.1⟩, hs.2.F ht⟩) hs.2.2.2 hdg C.2.2.2.2.2.2.2.2
theorem z_retv {ro : Unit} {σo : zS} {R : Room} (C : z_C E own cc nL A p s m args meth c) (hr : meth.sig.returnType = none) (hs : z_H E A s σ H locs) (hf : some ((), σ) = some (ro, σo)) (hdg : decode cc pc = .ok (.return_, 1)) : W p l e R s m args below meth c H locs 0 0 (MQ below (z_QV E ro σo A) args s 0 0 A) (F0 m pc ls []) := by
  cases hf
  exact W.vret C.1 C.2.1 hr (fun t ht _ => ⟨⟨(), rfl, trivial, by rw [ht]; exact hs.1⟩, hs.2.F ht⟩) hs.2.2.2 hdg C.2.2.2.2.2.2.2.2
theorem z_retq {ro r : Option zJ} {σo : zS} {R : Room} {rt : String} {v : Value} (C : z_C E own cc nL A p s m args meth c) (hr : meth.sig.returnType = some (.object rt)) (hs : z_H E A s σ H locs) (hv : v = va_rf (r.map (z_ad E))) (hf : some (r, σ) = some (ro, σo)) (hdg : decode cc pc = .ok (.areturn, 1)) : W p l e R s m args below meth c H locs 0 0 (MQ below (z_QQ E ro σo A) args s 0 0 A) (F0 m pc ls [v]) := by
  cases hf
  subst hv
  exact W.aret C.1 C.2.1 hr (Or.inl ⟨_, rfl⟩) (va_rf_or _) (fun t ht _ => ⟨⟨_, (), rfl, rfl, by rw [ht]; exact hs.1⟩, hs.2.F ht⟩) hs.2.2.2 hdg C.2.2.2.2.2.2.2.2
end z_callrows
end
