-- ===== PART A: goes FIRST, ahead of the names: the tables' words, and 'selects' of the private methods out of them =====
/-- a private method of a class that the tables say can be made, by its rows of tables_1 -/
def lw_okq (q : MethodName × Nat) : Prop := (q.1.cls ≠ "java/lang/invoke/MethodHandle" ∧ q.1.cls ≠ "java/lang/invoke/VarHandle") ∧ Cond.instantiable q.1.cls q.2 ∈ tables_1 ∧ Cond.privateMethod q.1 ∈ tables_1 ∧ Cond.instanceMethod q.1 ∈ tables_1
theorem inF_1 {w : Cond} (i : Nat) (h : tables_1_1[i]? = some w) : w ∈ tables_1 := show w ∈ tables_1 from List.mem_append_left _ (List.mem_of_getElem? h)
theorem inF_2 {w : Cond} (i : Nat) (h : tables_1_2[i]? = some w) : w ∈ tables_1 := show w ∈ tables_1 from List.mem_append_right _ (List.mem_append_left _ (List.mem_of_getElem? h))
theorem inF_3 {w : Cond} (i : Nat) (h : tables_1_3[i]? = some w) : w ∈ tables_1 := show w ∈ tables_1 from List.mem_append_right _ (List.mem_append_right _ (List.mem_append_left _ (List.mem_of_getElem? h)))
theorem inF_4 {w : Cond} (i : Nat) (h : tables_1_4[i]? = some w) : w ∈ tables_1 := show w ∈ tables_1 from List.mem_append_right _ (List.mem_append_right _ (List.mem_append_right _ (List.mem_append_left _ (List.mem_of_getElem? h))))
theorem inF_5 {w : Cond} (i : Nat) (h : tables_1_5[i]? = some w) : w ∈ tables_1 := show w ∈ tables_1 from List.mem_append_right _ (List.mem_append_right _ (List.mem_append_right _ (List.mem_append_right _ (List.mem_append_left _ (List.mem_of_getElem? h)))))
theorem inF_6 {w : Cond} (i : Nat) (h : tables_1_6[i]? = some w) : w ∈ tables_1 := show w ∈ tables_1 from List.mem_append_right _ (List.mem_append_right _ (List.mem_append_right _ (List.mem_append_right _ (List.mem_append_right _ (List.mem_append_left _ (List.mem_of_getElem? h))))))
theorem inF_7 {w : Cond} (i : Nat) (h : tables_1_7[i]? = some w) : w ∈ tables_1 := show w ∈ tables_1 from List.mem_append_right _ (List.mem_append_right _ (List.mem_append_right _ (List.mem_append_right _ (List.mem_append_right _ (List.mem_append_right _ (List.mem_append_left _ (List.mem_of_getElem? h)))))))
theorem inF_8 {w : Cond} (i : Nat) (h : tables_1_8[i]? = some w) : w ∈ tables_1 := show w ∈ tables_1 from List.mem_append_right _ (List.mem_append_right _ (List.mem_append_right _ (List.mem_append_right _ (List.mem_append_right _ (List.mem_append_right _ (List.mem_append_right _ (List.mem_of_getElem? h)))))))
set_option maxRecDepth 400000 in
theorem lw_p0 : lw_okq (⟨"VillageStories$Shape", "layOut", "()V"⟩, 8) := ⟨⟨by decide +kernel, by decide +kernel⟩, inF_1 40 (by rfl), inF_2 164 (by rfl), inF_2 165 (by rfl)⟩
set_option maxRecDepth 400000 in
theorem lw_p1 : lw_okq (⟨"VillageStories$Solver", "canTell", "()Z"⟩, 12) := ⟨⟨by decide +kernel, by decide +kernel⟩, inF_1 28 (by rfl), inF_3 1 (by rfl), inF_3 2 (by rfl)⟩
set_option maxRecDepth 400000 in
theorem lw_p2 : lw_okq (⟨"VillageStories$OtherNumbers", "layOut", "(LVillageStories$Shape;)V"⟩, 8) := ⟨⟨by decide +kernel, by decide +kernel⟩, inF_1 203 (by rfl), inF_3 9 (by rfl), inF_3 10 (by rfl)⟩
set_option maxRecDepth 400000 in
theorem lw_p3 : lw_okq (⟨"VillageStories$OtherNumbers", "addWay", "(LVillageStories$Shape;)V"⟩, 8) := ⟨⟨by decide +kernel, by decide +kernel⟩, inF_1 203 (by rfl), inF_3 18 (by rfl), inF_3 19 (by rfl)⟩
set_option maxRecDepth 400000 in
theorem lw_p4 : lw_okq (⟨"VillageStories$OtherNumbers", "ordered", "(II)I"⟩, 8) := ⟨⟨by decide +kernel, by decide +kernel⟩, inF_1 203 (by rfl), inF_3 22 (by rfl), inF_3 23 (by rfl)⟩
set_option maxRecDepth 400000 in
theorem lw_p5 : lw_okq (⟨"VillageStories$OtherNumbers", "renumbered", "(II)I"⟩, 8) := ⟨⟨by decide +kernel, by decide +kernel⟩, inF_1 203 (by rfl), inF_3 32 (by rfl), inF_3 33 (by rfl)⟩
set_option maxRecDepth 400000 in
theorem lw_p6 : lw_okq (⟨"VillageStories$Reader", "expectPart", "(I)V"⟩, 12) := ⟨⟨by decide +kernel, by decide +kernel⟩, inF_2 55 (by rfl), inF_3 67 (by rfl), inF_3 68 (by rfl)⟩
set_option maxRecDepth 400000 in
theorem lw_p7 : lw_okq (⟨"VillageStories$Reader", "advance", "()V"⟩, 12) := ⟨⟨by decide +kernel, by decide +kernel⟩, inF_2 55 (by rfl), inF_3 71 (by rfl), inF_3 72 (by rfl)⟩
set_option maxRecDepth 400000 in
theorem lw_p8 : lw_okq (⟨"VillageStories$Reader", "isLetter", "(I)Z"⟩, 12) := ⟨⟨by decide +kernel, by decide +kernel⟩, inF_2 55 (by rfl), inF_3 75 (by rfl), inF_3 76 (by rfl)⟩
set_option maxRecDepth 400000 in
theorem lw_p9 : lw_okq (⟨"VillageStories$Reader", "isDigit", "(I)Z"⟩, 12) := ⟨⟨by decide +kernel, by decide +kernel⟩, inF_2 55 (by rfl), inF_3 79 (by rfl), inF_3 80 (by rfl)⟩
set_option maxRecDepth 400000 in
theorem lw_p10 : lw_okq (⟨"VillageStories$Reader", "readPart", "()V"⟩, 12) := ⟨⟨by decide +kernel, by decide +kernel⟩, inF_2 55 (by rfl), inF_3 83 (by rfl), inF_3 84 (by rfl)⟩
set_option maxRecDepth 400000 in
theorem lw_p11 : lw_okq (⟨"VillageStories$Reader", "firstWord", "()I"⟩, 12) := ⟨⟨by decide +kernel, by decide +kernel⟩, inF_2 55 (by rfl), inF_3 87 (by rfl), inF_3 88 (by rfl)⟩
set_option maxRecDepth 400000 in
theorem lw_p12 : lw_okq (⟨"VillageStories$Reader", "isWord", "(Ljava/lang/String;)Z"⟩, 12) := ⟨⟨by decide +kernel, by decide +kernel⟩, inF_2 55 (by rfl), inF_3 92 (by rfl), inF_3 93 (by rfl)⟩
set_option maxRecDepth 400000 in
theorem lw_p13 : lw_okq (⟨"VillageStories$Reader", "oneLetter", "()I"⟩, 12) := ⟨⟨by decide +kernel, by decide +kernel⟩, inF_2 55 (by rfl), inF_3 154 (by rfl), inF_3 155 (by rfl)⟩
set_option maxRecDepth 400000 in
theorem lw_p14 : lw_okq (⟨"VillageStories$Reader", "refuse", "()V"⟩, 12) := ⟨⟨by decide +kernel, by decide +kernel⟩, inF_2 55 (by rfl), inF_3 159 (by rfl), inF_3 160 (by rfl)⟩
set_option maxRecDepth 400000 in
theorem lw_p15 : lw_okq (⟨"VillageStories$Reader", "note", "(II)V"⟩, 12) := ⟨⟨by decide +kernel, by decide +kernel⟩, inF_2 55 (by rfl), inF_3 163 (by rfl), inF_3 164 (by rfl)⟩
def lw_privs_1 : List (MethodName × Nat) := [(⟨"VillageStories$Shape", "layOut", "()V"⟩, 8), (⟨"VillageStories$Solver", "canTell", "()Z"⟩, 12), (⟨"VillageStories$OtherNumbers", "layOut", "(LVillageStories$Shape;)V"⟩, 8), (⟨"VillageStories$OtherNumbers", "addWay", "(LVillageStories$Shape;)V"⟩, 8), (⟨"VillageStories$OtherNumbers", "ordered", "(II)I"⟩, 8), (⟨"VillageStories$OtherNumbers", "renumbered", "(II)I"⟩, 8), (⟨"VillageStories$Reader", "expectPart", "(I)V"⟩, 12), (⟨"VillageStories$Reader", "advance", "()V"⟩, 12), (⟨"VillageStories$Reader", "isLetter", "(I)Z"⟩, 12), (⟨"VillageStories$Reader", "isDigit", "(I)Z"⟩, 12), (⟨"VillageStories$Reader", "readPart", "()V"⟩, 12), (⟨"VillageStories$Reader", "firstWord", "()I"⟩, 12), (⟨"VillageStories$Reader", "isWord", "(Ljava/lang/String;)Z"⟩, 12), (⟨"VillageStories$Reader", "oneLetter", "()I"⟩, 12), (⟨"VillageStories$Reader", "refuse", "()V"⟩, 12), (⟨"VillageStories$Reader", "note", "(II)V"⟩, 12)]
theorem lw_r1 : ∀ q ∈ lw_privs_1, lw_okq q := List.forall_mem_cons.mpr ⟨lw_p0, List.forall_mem_cons.mpr ⟨lw_p1, List.forall_mem_cons.mpr ⟨lw_p2, List.forall_mem_cons.mpr ⟨lw_p3, List.forall_mem_cons.mpr ⟨lw_p4, List.forall_mem_cons.mpr ⟨lw_p5, List.forall_mem_cons.mpr ⟨lw_p6, List.forall_mem_cons.mpr ⟨lw_p7, List.forall_mem_cons.mpr ⟨lw_p8, List.forall_mem_cons.mpr ⟨lw_p9, List.forall_mem_cons.mpr ⟨lw_p10, List.forall_mem_cons.mpr ⟨lw_p11, List.forall_mem_cons.mpr ⟨lw_p12, List.forall_mem_cons.mpr ⟨lw_p13, List.forall_mem_cons.mpr ⟨lw_p14, List.forall_mem_cons.mpr ⟨lw_p15, fun _ h => absurd h List.not_mem_nil⟩⟩⟩⟩⟩⟩⟩⟩⟩⟩⟩⟩⟩⟩⟩⟩
set_option maxRecDepth 400000 in
theorem lw_p16 : lw_okq (⟨"VillageStories$Reader", "readBinder", "(II)V"⟩, 12) := ⟨⟨by decide +kernel, by decide +kernel⟩, inF_2 55 (by rfl), inF_3 167 (by rfl), inF_3 168 (by rfl)⟩
set_option maxRecDepth 400000 in
theorem lw_p17 : lw_okq (⟨"VillageStories$Reader", "takeNumber", "()I"⟩, 12) := ⟨⟨by decide +kernel, by decide +kernel⟩, inF_2 55 (by rfl), inF_3 174 (by rfl), inF_3 175 (by rfl)⟩
set_option maxRecDepth 400000 in
theorem lw_p18 : lw_okq (⟨"VillageStories$Reader", "takeVariable", "()I"⟩, 12) := ⟨⟨by decide +kernel, by decide +kernel⟩, inF_2 55 (by rfl), inF_3 178 (by rfl), inF_3 179 (by rfl)⟩
set_option maxRecDepth 400000 in
theorem lw_p19 : lw_okq (⟨"VillageStories$Reader", "takeKind", "()I"⟩, 12) := ⟨⟨by decide +kernel, by decide +kernel⟩, inF_2 55 (by rfl), inF_3 182 (by rfl), inF_3 183 (by rfl)⟩
set_option maxRecDepth 400000 in
theorem lw_p20 : lw_okq (⟨"VillageStories$Reader", "readJoint", "(II)V"⟩, 12) := ⟨⟨by decide +kernel, by decide +kernel⟩, inF_2 55 (by rfl), inF_3 198 (by rfl), inF_3 199 (by rfl)⟩
set_option maxRecDepth 400000 in
theorem lw_p21 : lw_okq (⟨"VillageStories$Reader", "readSame", "(I)V"⟩, 12) := ⟨⟨by decide +kernel, by decide +kernel⟩, inF_2 55 (by rfl), inF_3 202 (by rfl), inF_3 203 (by rfl)⟩
set_option maxRecDepth 400000 in
theorem lw_p22 : lw_okq (⟨"VillageStories$Reader", "takeBound", "(II)I"⟩, 12) := ⟨⟨by decide +kernel, by decide +kernel⟩, inF_2 55 (by rfl), inF_3 206 (by rfl), inF_3 207 (by rfl)⟩
set_option maxRecDepth 400000 in
theorem lw_p23 : lw_okq (⟨"VillageStories$Reader", "readReach", "(I)V"⟩, 12) := ⟨⟨by decide +kernel, by decide +kernel⟩, inF_2 55 (by rfl), inF_3 216 (by rfl), inF_3 217 (by rfl)⟩
set_option maxRecDepth 400000 in
theorem lw_p24 : lw_okq (⟨"VillageStories$Reader", "takeRoad", "()I"⟩, 12) := ⟨⟨by decide +kernel, by decide +kernel⟩, inF_2 55 (by rfl), inF_3 220 (by rfl), inF_3 221 (by rfl)⟩
set_option maxRecDepth 400000 in
theorem lw_p25 : lw_okq (⟨"VillageStories$Reader", "takeRelation", "()I"⟩, 12) := ⟨⟨by decide +kernel, by decide +kernel⟩, inF_2 55 (by rfl), inF_3 224 (by rfl), inF_3 225 (by rfl)⟩
set_option maxRecDepth 400000 in
theorem lw_p26 : lw_okq (⟨"VillageStories$Reader", "readTree", "()V"⟩, 12) := ⟨⟨by decide +kernel, by decide +kernel⟩, inF_2 55 (by rfl), inF_3 232 (by rfl), inF_3 233 (by rfl)⟩
set_option maxRecDepth 400000 in
theorem lw_p27 : lw_okq (⟨"VillageStories$Reader", "readFact", "(I)V"⟩, 12) := ⟨⟨by decide +kernel, by decide +kernel⟩, inF_2 55 (by rfl), inF_3 236 (by rfl), inF_3 237 (by rfl)⟩
set_option maxRecDepth 400000 in
theorem lw_p28 : lw_okq (⟨"VillageStories$Text", "findBehind", "()V"⟩, 6) := ⟨⟨by decide +kernel, by decide +kernel⟩, inF_2 61 (by rfl), inF_4 8 (by rfl), inF_4 9 (by rfl)⟩
set_option maxRecDepth 400000 in
theorem lw_p29 : lw_okq (⟨"VillageStories$Judge", "takeWorld", "(LVillageStories$Shape;LVillageStories$Text;J)V"⟩, 6) := ⟨⟨by decide +kernel, by decide +kernel⟩, inF_1 178 (by rfl), inF_4 61 (by rfl), inF_4 62 (by rfl)⟩
set_option maxRecDepth 400000 in
theorem lw_p30 : lw_okq (⟨"VillageStories$Judge", "judged", "(II)J"⟩, 6) := ⟨⟨by decide +kernel, by decide +kernel⟩, inF_1 178 (by rfl), inF_4 67 (by rfl), inF_4 68 (by rfl)⟩
set_option maxRecDepth 400000 in
theorem lw_p31 : lw_okq (⟨"VillageStories$Judge", "counted", "(II)J"⟩, 6) := ⟨⟨by decide +kernel, by decide +kernel⟩, inF_1 178 (by rfl), inF_4 71 (by rfl), inF_4 72 (by rfl)⟩
def lw_privs_2 : List (MethodName × Nat) := [(⟨"VillageStories$Reader", "readBinder", "(II)V"⟩, 12), (⟨"VillageStories$Reader", "takeNumber", "()I"⟩, 12), (⟨"VillageStories$Reader", "takeVariable", "()I"⟩, 12), (⟨"VillageStories$Reader", "takeKind", "()I"⟩, 12), (⟨"VillageStories$Reader", "readJoint", "(II)V"⟩, 12), (⟨"VillageStories$Reader", "readSame", "(I)V"⟩, 12), (⟨"VillageStories$Reader", "takeBound", "(II)I"⟩, 12), (⟨"VillageStories$Reader", "readReach", "(I)V"⟩, 12), (⟨"VillageStories$Reader", "takeRoad", "()I"⟩, 12), (⟨"VillageStories$Reader", "takeRelation", "()I"⟩, 12), (⟨"VillageStories$Reader", "readTree", "()V"⟩, 12), (⟨"VillageStories$Reader", "readFact", "(I)V"⟩, 12), (⟨"VillageStories$Text", "findBehind", "()V"⟩, 6), (⟨"VillageStories$Judge", "takeWorld", "(LVillageStories$Shape;LVillageStories$Text;J)V"⟩, 6), (⟨"VillageStories$Judge", "judged", "(II)J"⟩, 6), (⟨"VillageStories$Judge", "counted", "(II)J"⟩, 6)]
theorem lw_r2 : ∀ q ∈ lw_privs_2, lw_okq q := List.forall_mem_cons.mpr ⟨lw_p16, List.forall_mem_cons.mpr ⟨lw_p17, List.forall_mem_cons.mpr ⟨lw_p18, List.forall_mem_cons.mpr ⟨lw_p19, List.forall_mem_cons.mpr ⟨lw_p20, List.forall_mem_cons.mpr ⟨lw_p21, List.forall_mem_cons.mpr ⟨lw_p22, List.forall_mem_cons.mpr ⟨lw_p23, List.forall_mem_cons.mpr ⟨lw_p24, List.forall_mem_cons.mpr ⟨lw_p25, List.forall_mem_cons.mpr ⟨lw_p26, List.forall_mem_cons.mpr ⟨lw_p27, List.forall_mem_cons.mpr ⟨lw_p28, List.forall_mem_cons.mpr ⟨lw_p29, List.forall_mem_cons.mpr ⟨lw_p30, List.forall_mem_cons.mpr ⟨lw_p31, fun _ h => absurd h List.not_mem_nil⟩⟩⟩⟩⟩⟩⟩⟩⟩⟩⟩⟩⟩⟩⟩⟩
set_option maxRecDepth 400000 in
theorem lw_p32 : lw_okq (⟨"VillageStories$Judge", "sizeAt", "(I)I"⟩, 6) := ⟨⟨by decide +kernel, by decide +kernel⟩, inF_1 178 (by rfl), inF_4 75 (by rfl), inF_4 76 (by rfl)⟩
set_option maxRecDepth 400000 in
theorem lw_p33 : lw_okq (⟨"VillageStories$Judge", "joined", "(II)J"⟩, 6) := ⟨⟨by decide +kernel, by decide +kernel⟩, inF_1 178 (by rfl), inF_4 82 (by rfl), inF_4 83 (by rfl)⟩
set_option maxRecDepth 400000 in
theorem lw_p34 : lw_okq (⟨"VillageStories$Judge", "slot", "(I)I"⟩, 6) := ⟨⟨by decide +kernel, by decide +kernel⟩, inF_1 178 (by rfl), inF_4 86 (by rfl), inF_4 87 (by rfl)⟩
set_option maxRecDepth 400000 in
theorem lw_p35 : lw_okq (⟨"VillageStories$Judge", "reached", "(III)J"⟩, 6) := ⟨⟨by decide +kernel, by decide +kernel⟩, inF_1 178 (by rfl), inF_4 90 (by rfl), inF_4 91 (by rfl)⟩
set_option maxRecDepth 400000 in
theorem lw_p36 : lw_okq (⟨"VillageStories$Judge", "findPaths", "(I)V"⟩, 6) := ⟨⟨by decide +kernel, by decide +kernel⟩, inF_1 178 (by rfl), inF_4 95 (by rfl), inF_4 96 (by rfl)⟩
set_option maxRecDepth 400000 in
theorem lw_p37 : lw_okq (⟨"VillageStories$Judge", "treeLike", "(I)J"⟩, 6) := ⟨⟨by decide +kernel, by decide +kernel⟩, inF_1 178 (by rfl), inF_4 103 (by rfl), inF_4 104 (by rfl)⟩
set_option maxRecDepth 400000 in
theorem lw_p38 : lw_okq (⟨"VillageStories$Judge", "factAt", "(III)J"⟩, 6) := ⟨⟨by decide +kernel, by decide +kernel⟩, inF_1 178 (by rfl), inF_4 107 (by rfl), inF_4 108 (by rfl)⟩
set_option maxRecDepth 400000 in
theorem lw_p39 : lw_okq (⟨"VillageStories$Judge", "chooseNext", "(I)V"⟩, 6) := ⟨⟨by decide +kernel, by decide +kernel⟩, inF_1 178 (by rfl), inF_4 123 (by rfl), inF_4 124 (by rfl)⟩
set_option maxRecDepth 400000 in
theorem lw_p40 : lw_okq (⟨"VillageStories$Solver", "lookUp", "()Z"⟩, 12) := ⟨⟨by decide +kernel, by decide +kernel⟩, inF_1 28 (by rfl), inF_4 135 (by rfl), inF_4 136 (by rfl)⟩
set_option maxRecDepth 400000 in
theorem lw_p41 : lw_okq (⟨"VillageStories$Solver", "findPossible", "()V"⟩, 12) := ⟨⟨by decide +kernel, by decide +kernel⟩, inF_1 28 (by rfl), inF_4 139 (by rfl), inF_4 140 (by rfl)⟩
set_option maxRecDepth 400000 in
theorem lw_p42 : lw_okq (⟨"VillageStories$Told", "viewedDay", "()I"⟩, 19) := ⟨⟨by decide +kernel, by decide +kernel⟩, inF_1 34 (by rfl), inF_4 158 (by rfl), inF_4 159 (by rfl)⟩
set_option maxRecDepth 400000 in
theorem lw_p43 : lw_okq (⟨"VillageStories$Solver", "truth", "(ILVillageStories$Text;)LVillageStories$WorldSet;"⟩, 12) := ⟨⟨by decide +kernel, by decide +kernel⟩, inF_1 28 (by rfl), inF_4 182 (by rfl), inF_4 183 (by rfl)⟩
set_option maxRecDepth 400000 in
theorem lw_p44 : lw_okq (⟨"VillageStories$Solver", "pickForms", "()V"⟩, 12) := ⟨⟨by decide +kernel, by decide +kernel⟩, inF_1 28 (by rfl), inF_4 218 (by rfl), inF_4 219 (by rfl)⟩
set_option maxRecDepth 400000 in
theorem lw_p45 : lw_okq (⟨"VillageStories$OtherNumbers", "markLeastOnes", "()V"⟩, 8) := ⟨⟨by decide +kernel, by decide +kernel⟩, inF_1 203 (by rfl), inF_4 226 (by rfl), inF_4 227 (by rfl)⟩
set_option maxRecDepth 400000 in
theorem lw_p46 : lw_okq (⟨"VillageStories", "becomes", "(I)Z"⟩, 5) := ⟨⟨by decide +kernel, by decide +kernel⟩, inF_1 20 (by rfl), inF_5 17 (by rfl), inF_5 18 (by rfl)⟩
set_option maxRecDepth 400000 in
theorem lw_p47 : lw_okq (⟨"VillageStories$Solver", "findLeastSizes", "(I)V"⟩, 12) := ⟨⟨by decide +kernel, by decide +kernel⟩, inF_1 28 (by rfl), inF_5 42 (by rfl), inF_5 43 (by rfl)⟩
def lw_privs_3 : List (MethodName × Nat) := [(⟨"VillageStories$Judge", "sizeAt", "(I)I"⟩, 6), (⟨"VillageStories$Judge", "joined", "(II)J"⟩, 6), (⟨"VillageStories$Judge", "slot", "(I)I"⟩, 6), (⟨"VillageStories$Judge", "reached", "(III)J"⟩, 6), (⟨"VillageStories$Judge", "findPaths", "(I)V"⟩, 6), (⟨"VillageStories$Judge", "treeLike", "(I)J"⟩, 6), (⟨"VillageStories$Judge", "factAt", "(III)J"⟩, 6), (⟨"VillageStories$Judge", "chooseNext", "(I)V"⟩, 6), (⟨"VillageStories$Solver", "lookUp", "()Z"⟩, 12), (⟨"VillageStories$Solver", "findPossible", "()V"⟩, 12), (⟨"VillageStories$Told", "viewedDay", "()I"⟩, 19), (⟨"VillageStories$Solver", "truth", "(ILVillageStories$Text;)LVillageStories$WorldSet;"⟩, 12), (⟨"VillageStories$Solver", "pickForms", "()V"⟩, 12), (⟨"VillageStories$OtherNumbers", "markLeastOnes", "()V"⟩, 8), (⟨"VillageStories", "becomes", "(I)Z"⟩, 5), (⟨"VillageStories$Solver", "findLeastSizes", "(I)V"⟩, 12)]
theorem lw_r3 : ∀ q ∈ lw_privs_3, lw_okq q := List.forall_mem_cons.mpr ⟨lw_p32, List.forall_mem_cons.mpr ⟨lw_p33, List.forall_mem_cons.mpr ⟨lw_p34, List.forall_mem_cons.mpr ⟨lw_p35, List.forall_mem_cons.mpr ⟨lw_p36, List.forall_mem_cons.mpr ⟨lw_p37, List.forall_mem_cons.mpr ⟨lw_p38, List.forall_mem_cons.mpr ⟨lw_p39, List.forall_mem_cons.mpr ⟨lw_p40, List.forall_mem_cons.mpr ⟨lw_p41, List.forall_mem_cons.mpr ⟨lw_p42, List.forall_mem_cons.mpr ⟨lw_p43, List.forall_mem_cons.mpr ⟨lw_p44, List.forall_mem_cons.mpr ⟨lw_p45, List.forall_mem_cons.mpr ⟨lw_p46, List.forall_mem_cons.mpr ⟨lw_p47, fun _ h => absurd h List.not_mem_nil⟩⟩⟩⟩⟩⟩⟩⟩⟩⟩⟩⟩⟩⟩⟩⟩
set_option maxRecDepth 400000 in
theorem lw_p48 : lw_okq (⟨"VillageStories$Solver", "fits", "(IIII)Z"⟩, 12) := ⟨⟨by decide +kernel, by decide +kernel⟩, inF_1 28 (by rfl), inF_5 51 (by rfl), inF_5 52 (by rfl)⟩
set_option maxRecDepth 400000 in
theorem lw_p49 : lw_okq (⟨"VillageStories$Solver", "fewestAgainst", "(LVillageStories$WorldSet;)I"⟩, 12) := ⟨⟨by decide +kernel, by decide +kernel⟩, inF_1 28 (by rfl), inF_5 69 (by rfl), inF_5 70 (by rfl)⟩
set_option maxRecDepth 400000 in
theorem lw_p50 : lw_okq (⟨"VillageStories$Solver", "leavesNothing", "(LVillageStories$WorldSet;I)Z"⟩, 12) := ⟨⟨by decide +kernel, by decide +kernel⟩, inF_1 28 (by rfl), inF_5 77 (by rfl), inF_5 78 (by rfl)⟩
set_option maxRecDepth 400000 in
theorem lw_p51 : lw_okq (⟨"VillageStories$Solver", "takeAsked", "()I"⟩, 12) := ⟨⟨by decide +kernel, by decide +kernel⟩, inF_1 28 (by rfl), inF_5 121 (by rfl), inF_5 122 (by rfl)⟩
set_option maxRecDepth 400000 in
theorem lw_p52 : lw_okq (⟨"VillageStories$Told", "copyWorlds", "(LVillageStories$Told;)V"⟩, 19) := ⟨⟨by decide +kernel, by decide +kernel⟩, inF_1 34 (by rfl), inF_5 207 (by rfl), inF_5 208 (by rfl)⟩
set_option maxRecDepth 400000 in
theorem lw_p53 : lw_okq (⟨"VillageStories$Told", "copyStories", "(LVillageStories$Told;)V"⟩, 19) := ⟨⟨by decide +kernel, by decide +kernel⟩, inF_1 34 (by rfl), inF_5 212 (by rfl), inF_5 213 (by rfl)⟩
set_option maxRecDepth 400000 in
theorem lw_p54 : lw_okq (⟨"VillageStoriesModel", "clearWorld", "()V"⟩, 63) := ⟨⟨by decide +kernel, by decide +kernel⟩, inF_5 220 (by rfl), inF_6 184 (by rfl), inF_6 185 (by rfl)⟩
set_option maxRecDepth 400000 in
theorem lw_p55 : lw_okq (⟨"VillageStoriesModel", "bringSizes", "()V"⟩, 63) := ⟨⟨by decide +kernel, by decide +kernel⟩, inF_5 220 (by rfl), inF_6 196 (by rfl), inF_6 197 (by rfl)⟩
set_option maxRecDepth 400000 in
theorem lw_p56 : lw_okq (⟨"VillageStoriesModel", "findStarts", "()V"⟩, 63) := ⟨⟨by decide +kernel, by decide +kernel⟩, inF_5 220 (by rfl), inF_6 200 (by rfl), inF_6 201 (by rfl)⟩
set_option maxRecDepth 400000 in
theorem lw_p57 : lw_okq (⟨"VillageStoriesModel", "sizeOf", "(I)I"⟩, 63) := ⟨⟨by decide +kernel, by decide +kernel⟩, inF_5 220 (by rfl), inF_6 204 (by rfl), inF_6 205 (by rfl)⟩
set_option maxRecDepth 400000 in
theorem lw_p58 : lw_okq (⟨"VillageStoriesModel", "manyFacts", "()I"⟩, 63) := ⟨⟨by decide +kernel, by decide +kernel⟩, inF_5 220 (by rfl), inF_6 208 (by rfl), inF_6 209 (by rfl)⟩
set_option maxRecDepth 400000 in
theorem lw_p59 : lw_okq (⟨"VillageStoriesModel", "toldFact", "(III)I"⟩, 63) := ⟨⟨by decide +kernel, by decide +kernel⟩, inF_5 220 (by rfl), inF_6 216 (by rfl), inF_6 217 (by rfl)⟩
set_option maxRecDepth 400000 in
theorem lw_p60 : lw_okq (⟨"VillageStoriesModel", "isRelation", "(I)Z"⟩, 63) := ⟨⟨by decide +kernel, by decide +kernel⟩, inF_5 220 (by rfl), inF_6 220 (by rfl), inF_6 221 (by rfl)⟩
set_option maxRecDepth 400000 in
theorem lw_p61 : lw_okq (⟨"VillageStoriesModel", "factAt", "(III)I"⟩, 63) := ⟨⟨by decide +kernel, by decide +kernel⟩, inF_5 220 (by rfl), inF_6 224 (by rfl), inF_6 225 (by rfl)⟩
set_option maxRecDepth 400000 in
theorem lw_p62 : lw_okq (⟨"VillageStoriesModel", "canTell", "()Z"⟩, 63) := ⟨⟨by decide +kernel, by decide +kernel⟩, inF_5 220 (by rfl), inF_7 4 (by rfl), inF_7 5 (by rfl)⟩
set_option maxRecDepth 400000 in
theorem lw_p63 : lw_okq (⟨"VillageStoriesModel", "numberOfWorld", "()I"⟩, 63) := ⟨⟨by decide +kernel, by decide +kernel⟩, inF_5 220 (by rfl), inF_7 8 (by rfl), inF_7 9 (by rfl)⟩
def lw_privs_4 : List (MethodName × Nat) := [(⟨"VillageStories$Solver", "fits", "(IIII)Z"⟩, 12), (⟨"VillageStories$Solver", "fewestAgainst", "(LVillageStories$WorldSet;)I"⟩, 12), (⟨"VillageStories$Solver", "leavesNothing", "(LVillageStories$WorldSet;I)Z"⟩, 12), (⟨"VillageStories$Solver", "takeAsked", "()I"⟩, 12), (⟨"VillageStories$Told", "copyWorlds", "(LVillageStories$Told;)V"⟩, 19), (⟨"VillageStories$Told", "copyStories", "(LVillageStories$Told;)V"⟩, 19), (⟨"VillageStoriesModel", "clearWorld", "()V"⟩, 63), (⟨"VillageStoriesModel", "bringSizes", "()V"⟩, 63), (⟨"VillageStoriesModel", "findStarts", "()V"⟩, 63), (⟨"VillageStoriesModel", "sizeOf", "(I)I"⟩, 63), (⟨"VillageStoriesModel", "manyFacts", "()I"⟩, 63), (⟨"VillageStoriesModel", "toldFact", "(III)I"⟩, 63), (⟨"VillageStoriesModel", "isRelation", "(I)Z"⟩, 63), (⟨"VillageStoriesModel", "factAt", "(III)I"⟩, 63), (⟨"VillageStoriesModel", "canTell", "()Z"⟩, 63), (⟨"VillageStoriesModel", "numberOfWorld", "()I"⟩, 63)]
theorem lw_r4 : ∀ q ∈ lw_privs_4, lw_okq q := List.forall_mem_cons.mpr ⟨lw_p48, List.forall_mem_cons.mpr ⟨lw_p49, List.forall_mem_cons.mpr ⟨lw_p50, List.forall_mem_cons.mpr ⟨lw_p51, List.forall_mem_cons.mpr ⟨lw_p52, List.forall_mem_cons.mpr ⟨lw_p53, List.forall_mem_cons.mpr ⟨lw_p54, List.forall_mem_cons.mpr ⟨lw_p55, List.forall_mem_cons.mpr ⟨lw_p56, List.forall_mem_cons.mpr ⟨lw_p57, List.forall_mem_cons.mpr ⟨lw_p58, List.forall_mem_cons.mpr ⟨lw_p59, List.forall_mem_cons.mpr ⟨lw_p60, List.forall_mem_cons.mpr ⟨lw_p61, List.forall_mem_cons.mpr ⟨lw_p62, List.forall_mem_cons.mpr ⟨lw_p63, fun _ h => absurd h List.not_mem_nil⟩⟩⟩⟩⟩⟩⟩⟩⟩⟩⟩⟩⟩⟩⟩⟩
set_option maxRecDepth 400000 in
theorem lw_p64 : lw_okq (⟨"VillageStoriesModel", "takeOrders", "(I)Z"⟩, 63) := ⟨⟨by decide +kernel, by decide +kernel⟩, inF_5 220 (by rfl), inF_7 12 (by rfl), inF_7 13 (by rfl)⟩
set_option maxRecDepth 400000 in
theorem lw_p65 : lw_okq (⟨"VillageStoriesModel", "imageOf", "()I"⟩, 63) := ⟨⟨by decide +kernel, by decide +kernel⟩, inF_5 220 (by rfl), inF_7 22 (by rfl), inF_7 23 (by rfl)⟩
set_option maxRecDepth 400000 in
theorem lw_p66 : lw_okq (⟨"VillageStoriesModel", "renamed", "(II)I"⟩, 63) := ⟨⟨by decide +kernel, by decide +kernel⟩, inF_5 220 (by rfl), inF_7 26 (by rfl), inF_7 27 (by rfl)⟩
set_option maxRecDepth 400000 in
theorem lw_p67 : lw_okq (⟨"VillageStoriesModel", "four", "(I)V"⟩, 63) := ⟨⟨by decide +kernel, by decide +kernel⟩, inF_5 220 (by rfl), inF_7 37 (by rfl), inF_7 38 (by rfl)⟩
set_option maxRecDepth 400000 in
theorem lw_p68 : lw_okq (⟨"VillageStoriesModel", "readText", "()Z"⟩, 63) := ⟨⟨by decide +kernel, by decide +kernel⟩, inF_5 220 (by rfl), inF_7 49 (by rfl), inF_7 50 (by rfl)⟩
set_option maxRecDepth 400000 in
theorem lw_p69 : lw_okq (⟨"VillageStoriesModel", "wait", "(I)V"⟩, 63) := ⟨⟨by decide +kernel, by decide +kernel⟩, inF_5 220 (by rfl), inF_7 53 (by rfl), inF_7 54 (by rfl)⟩
set_option maxRecDepth 400000 in
theorem lw_p70 : lw_okq (⟨"VillageStoriesModel", "token", "()V"⟩, 63) := ⟨⟨by decide +kernel, by decide +kernel⟩, inF_5 220 (by rfl), inF_7 57 (by rfl), inF_7 58 (by rfl)⟩
set_option maxRecDepth 400000 in
theorem lw_p71 : lw_okq (⟨"VillageStoriesModel", "see", "()I"⟩, 63) := ⟨⟨by decide +kernel, by decide +kernel⟩, inF_5 220 (by rfl), inF_7 61 (by rfl), inF_7 62 (by rfl)⟩
set_option maxRecDepth 400000 in
theorem lw_p72 : lw_okq (⟨"VillageStoriesModel", "readPart", "(I)Z"⟩, 63) := ⟨⟨by decide +kernel, by decide +kernel⟩, inF_5 220 (by rfl), inF_7 65 (by rfl), inF_7 66 (by rfl)⟩
set_option maxRecDepth 400000 in
theorem lw_p73 : lw_okq (⟨"VillageStoriesModel", "later", "(II)V"⟩, 63) := ⟨⟨by decide +kernel, by decide +kernel⟩, inF_5 220 (by rfl), inF_7 69 (by rfl), inF_7 70 (by rfl)⟩
set_option maxRecDepth 400000 in
theorem lw_p74 : lw_okq (⟨"VillageStoriesModel", "actOf", "()I"⟩, 63) := ⟨⟨by decide +kernel, by decide +kernel⟩, inF_5 220 (by rfl), inF_7 73 (by rfl), inF_7 74 (by rfl)⟩
set_option maxRecDepth 400000 in
theorem lw_p75 : lw_okq (⟨"VillageStoriesModel", "isWord", "(J)Z"⟩, 63) := ⟨⟨by decide +kernel, by decide +kernel⟩, inF_5 220 (by rfl), inF_7 78 (by rfl), inF_7 79 (by rfl)⟩
set_option maxRecDepth 400000 in
theorem lw_p76 : lw_okq (⟨"VillageStoriesModel", "readRelation", "(II)Z"⟩, 63) := ⟨⟨by decide +kernel, by decide +kernel⟩, inF_5 220 (by rfl), inF_7 92 (by rfl), inF_7 93 (by rfl)⟩
set_option maxRecDepth 400000 in
theorem lw_p77 : lw_okq (⟨"VillageStoriesModel", "relOf", "()I"⟩, 63) := ⟨⟨by decide +kernel, by decide +kernel⟩, inF_5 220 (by rfl), inF_7 96 (by rfl), inF_7 97 (by rfl)⟩
set_option maxRecDepth 400000 in
theorem lw_p78 : lw_okq (⟨"VillageStoriesModel", "readVar", "(II)I"⟩, 63) := ⟨⟨by decide +kernel, by decide +kernel⟩, inF_5 220 (by rfl), inF_7 104 (by rfl), inF_7 105 (by rfl)⟩
set_option maxRecDepth 400000 in
theorem lw_p79 : lw_okq (⟨"VillageStoriesModel", "varOf", "()I"⟩, 63) := ⟨⟨by decide +kernel, by decide +kernel⟩, inF_5 220 (by rfl), inF_7 108 (by rfl), inF_7 109 (by rfl)⟩
def lw_privs_5 : List (MethodName × Nat) := [(⟨"VillageStoriesModel", "takeOrders", "(I)Z"⟩, 63), (⟨"VillageStoriesModel", "imageOf", "()I"⟩, 63), (⟨"VillageStoriesModel", "renamed", "(II)I"⟩, 63), (⟨"VillageStoriesModel", "four", "(I)V"⟩, 63), (⟨"VillageStoriesModel", "readText", "()Z"⟩, 63), (⟨"VillageStoriesModel", "wait", "(I)V"⟩, 63), (⟨"VillageStoriesModel", "token", "()V"⟩, 63), (⟨"VillageStoriesModel", "see", "()I"⟩, 63), (⟨"VillageStoriesModel", "readPart", "(I)Z"⟩, 63), (⟨"VillageStoriesModel", "later", "(II)V"⟩, 63), (⟨"VillageStoriesModel", "actOf", "()I"⟩, 63), (⟨"VillageStoriesModel", "isWord", "(J)Z"⟩, 63), (⟨"VillageStoriesModel", "readRelation", "(II)Z"⟩, 63), (⟨"VillageStoriesModel", "relOf", "()I"⟩, 63), (⟨"VillageStoriesModel", "readVar", "(II)I"⟩, 63), (⟨"VillageStoriesModel", "varOf", "()I"⟩, 63)]
theorem lw_r5 : ∀ q ∈ lw_privs_5, lw_okq q := List.forall_mem_cons.mpr ⟨lw_p64, List.forall_mem_cons.mpr ⟨lw_p65, List.forall_mem_cons.mpr ⟨lw_p66, List.forall_mem_cons.mpr ⟨lw_p67, List.forall_mem_cons.mpr ⟨lw_p68, List.forall_mem_cons.mpr ⟨lw_p69, List.forall_mem_cons.mpr ⟨lw_p70, List.forall_mem_cons.mpr ⟨lw_p71, List.forall_mem_cons.mpr ⟨lw_p72, List.forall_mem_cons.mpr ⟨lw_p73, List.forall_mem_cons.mpr ⟨lw_p74, List.forall_mem_cons.mpr ⟨lw_p75, List.forall_mem_cons.mpr ⟨lw_p76, List.forall_mem_cons.mpr ⟨lw_p77, List.forall_mem_cons.mpr ⟨lw_p78, List.forall_mem_cons.mpr ⟨lw_p79, fun _ h => absurd h List.not_mem_nil⟩⟩⟩⟩⟩⟩⟩⟩⟩⟩⟩⟩⟩⟩⟩⟩
set_option maxRecDepth 400000 in
theorem lw_p80 : lw_okq (⟨"VillageStoriesModel", "wrong", "()I"⟩, 63) := ⟨⟨by decide +kernel, by decide +kernel⟩, inF_5 220 (by rfl), inF_7 116 (by rfl), inF_7 117 (by rfl)⟩
set_option maxRecDepth 400000 in
theorem lw_p81 : lw_okq (⟨"VillageStoriesModel", "readBinder", "(II)Z"⟩, 63) := ⟨⟨by decide +kernel, by decide +kernel⟩, inF_5 220 (by rfl), inF_7 123 (by rfl), inF_7 124 (by rfl)⟩
set_option maxRecDepth 400000 in
theorem lw_p82 : lw_okq (⟨"VillageStoriesModel", "kindOf", "()I"⟩, 63) := ⟨⟨by decide +kernel, by decide +kernel⟩, inF_5 220 (by rfl), inF_7 127 (by rfl), inF_7 128 (by rfl)⟩
set_option maxRecDepth 400000 in
theorem lw_p83 : lw_okq (⟨"VillageStoriesModel", "readSame", "(II)Z"⟩, 63) := ⟨⟨by decide +kernel, by decide +kernel⟩, inF_5 220 (by rfl), inF_7 134 (by rfl), inF_7 135 (by rfl)⟩
set_option maxRecDepth 400000 in
theorem lw_p84 : lw_okq (⟨"VillageStoriesModel", "keepText", "(I)V"⟩, 63) := ⟨⟨by decide +kernel, by decide +kernel⟩, inF_5 220 (by rfl), inF_7 138 (by rfl), inF_7 139 (by rfl)⟩
set_option maxRecDepth 400000 in
theorem lw_p85 : lw_okq (⟨"VillageStoriesModel", "bringWorld", "()V"⟩, 63) := ⟨⟨by decide +kernel, by decide +kernel⟩, inF_5 220 (by rfl), inF_7 166 (by rfl), inF_7 167 (by rfl)⟩
set_option maxRecDepth 400000 in
theorem lw_p86 : lw_okq (⟨"VillageStoriesModel", "means", "(I)Z"⟩, 63) := ⟨⟨by decide +kernel, by decide +kernel⟩, inF_5 220 (by rfl), inF_7 170 (by rfl), inF_7 171 (by rfl)⟩
set_option maxRecDepth 400000 in
theorem lw_p87 : lw_okq (⟨"VillageStoriesModel", "work", "(II)V"⟩, 63) := ⟨⟨by decide +kernel, by decide +kernel⟩, inF_5 220 (by rfl), inF_7 174 (by rfl), inF_7 175 (by rfl)⟩
set_option maxRecDepth 400000 in
theorem lw_p88 : lw_okq (⟨"VillageStoriesModel", "leaf", "(I)V"⟩, 63) := ⟨⟨by decide +kernel, by decide +kernel⟩, inF_5 220 (by rfl), inF_7 178 (by rfl), inF_7 179 (by rfl)⟩
set_option maxRecDepth 400000 in
theorem lw_p89 : lw_okq (⟨"VillageStoriesModel", "isTree", "(I)Z"⟩, 63) := ⟨⟨by decide +kernel, by decide +kernel⟩, inF_5 220 (by rfl), inF_7 182 (by rfl), inF_7 183 (by rfl)⟩
set_option maxRecDepth 400000 in
theorem lw_p90 : lw_okq (⟨"VillageStoriesModel", "findJoined", "(I)V"⟩, 63) := ⟨⟨by decide +kernel, by decide +kernel⟩, inF_5 220 (by rfl), inF_7 186 (by rfl), inF_7 187 (by rfl)⟩
set_option maxRecDepth 400000 in
theorem lw_p91 : lw_okq (⟨"VillageStoriesModel", "isSo", "(III)Z"⟩, 63) := ⟨⟨by decide +kernel, by decide +kernel⟩, inF_5 220 (by rfl), inF_7 190 (by rfl), inF_7 191 (by rfl)⟩
set_option maxRecDepth 400000 in
theorem lw_p92 : lw_okq (⟨"VillageStoriesModel", "bind", "(I)V"⟩, 63) := ⟨⟨by decide +kernel, by decide +kernel⟩, inF_5 220 (by rfl), inF_7 200 (by rfl), inF_7 201 (by rfl)⟩
set_option maxRecDepth 400000 in
theorem lw_p93 : lw_okq (⟨"VillageStoriesModel", "join", "(I)V"⟩, 63) := ⟨⟨by decide +kernel, by decide +kernel⟩, inF_5 220 (by rfl), inF_7 204 (by rfl), inF_7 205 (by rfl)⟩
set_option maxRecDepth 400000 in
theorem lw_p94 : lw_okq (⟨"VillageStoriesModel", "prepare", "()V"⟩, 63) := ⟨⟨by decide +kernel, by decide +kernel⟩, inF_5 220 (by rfl), inF_7 216 (by rfl), inF_7 217 (by rfl)⟩
set_option maxRecDepth 400000 in
theorem lw_p95 : lw_okq (⟨"VillageStoriesModel", "told", "()I"⟩, 63) := ⟨⟨by decide +kernel, by decide +kernel⟩, inF_5 220 (by rfl), inF_7 220 (by rfl), inF_7 221 (by rfl)⟩
def lw_privs_6 : List (MethodName × Nat) := [(⟨"VillageStoriesModel", "wrong", "()I"⟩, 63), (⟨"VillageStoriesModel", "readBinder", "(II)Z"⟩, 63), (⟨"VillageStoriesModel", "kindOf", "()I"⟩, 63), (⟨"VillageStoriesModel", "readSame", "(II)Z"⟩, 63), (⟨"VillageStoriesModel", "keepText", "(I)V"⟩, 63), (⟨"VillageStoriesModel", "bringWorld", "()V"⟩, 63), (⟨"VillageStoriesModel", "means", "(I)Z"⟩, 63), (⟨"VillageStoriesModel", "work", "(II)V"⟩, 63), (⟨"VillageStoriesModel", "leaf", "(I)V"⟩, 63), (⟨"VillageStoriesModel", "isTree", "(I)Z"⟩, 63), (⟨"VillageStoriesModel", "findJoined", "(I)V"⟩, 63), (⟨"VillageStoriesModel", "isSo", "(III)Z"⟩, 63), (⟨"VillageStoriesModel", "bind", "(I)V"⟩, 63), (⟨"VillageStoriesModel", "join", "(I)V"⟩, 63), (⟨"VillageStoriesModel", "prepare", "()V"⟩, 63), (⟨"VillageStoriesModel", "told", "()I"⟩, 63)]
theorem lw_r6 : ∀ q ∈ lw_privs_6, lw_okq q := List.forall_mem_cons.mpr ⟨lw_p80, List.forall_mem_cons.mpr ⟨lw_p81, List.forall_mem_cons.mpr ⟨lw_p82, List.forall_mem_cons.mpr ⟨lw_p83, List.forall_mem_cons.mpr ⟨lw_p84, List.forall_mem_cons.mpr ⟨lw_p85, List.forall_mem_cons.mpr ⟨lw_p86, List.forall_mem_cons.mpr ⟨lw_p87, List.forall_mem_cons.mpr ⟨lw_p88, List.forall_mem_cons.mpr ⟨lw_p89, List.forall_mem_cons.mpr ⟨lw_p90, List.forall_mem_cons.mpr ⟨lw_p91, List.forall_mem_cons.mpr ⟨lw_p92, List.forall_mem_cons.mpr ⟨lw_p93, List.forall_mem_cons.mpr ⟨lw_p94, List.forall_mem_cons.mpr ⟨lw_p95, fun _ h => absurd h List.not_mem_nil⟩⟩⟩⟩⟩⟩⟩⟩⟩⟩⟩⟩⟩⟩⟩⟩
set_option maxRecDepth 400000 in
theorem lw_p96 : lw_okq (⟨"VillageStoriesModel", "findKnown", "()V"⟩, 63) := ⟨⟨by decide +kernel, by decide +kernel⟩, inF_5 220 (by rfl), inF_7 224 (by rfl), inF_7 225 (by rfl)⟩
set_option maxRecDepth 400000 in
theorem lw_p97 : lw_okq (⟨"VillageStoriesModel", "isWorld", "(I)Z"⟩, 63) := ⟨⟨by decide +kernel, by decide +kernel⟩, inF_5 220 (by rfl), inF_7 228 (by rfl), inF_7 229 (by rfl)⟩
set_option maxRecDepth 400000 in
theorem lw_p98 : lw_okq (⟨"VillageStoriesModel", "isAsKnown", "(I)Z"⟩, 63) := ⟨⟨by decide +kernel, by decide +kernel⟩, inF_5 220 (by rfl), inF_7 232 (by rfl), inF_7 233 (by rfl)⟩
set_option maxRecDepth 400000 in
theorem lw_p99 : lw_okq (⟨"VillageStoriesModel", "layWorld", "(I)V"⟩, 63) := ⟨⟨by decide +kernel, by decide +kernel⟩, inF_5 220 (by rfl), inF_7 236 (by rfl), inF_7 237 (by rfl)⟩
set_option maxRecDepth 400000 in
theorem lw_p100 : lw_okq (⟨"VillageStoriesModel", "isForm", "(I)Z"⟩, 63) := ⟨⟨by decide +kernel, by decide +kernel⟩, inF_5 220 (by rfl), inF_8 4 (by rfl), inF_8 5 (by rfl)⟩
set_option maxRecDepth 400000 in
theorem lw_p101 : lw_okq (⟨"VillageStoriesModel", "leastImage", "()I"⟩, 63) := ⟨⟨by decide +kernel, by decide +kernel⟩, inF_5 220 (by rfl), inF_8 8 (by rfl), inF_8 9 (by rfl)⟩
set_option maxRecDepth 400000 in
theorem lw_p102 : lw_okq (⟨"VillageStoriesModel", "takeWorld", "(I)V"⟩, 63) := ⟨⟨by decide +kernel, by decide +kernel⟩, inF_5 220 (by rfl), inF_8 16 (by rfl), inF_8 17 (by rfl)⟩
set_option maxRecDepth 400000 in
theorem lw_p103 : lw_okq (⟨"VillageStoriesModel", "findLeast", "()Z"⟩, 63) := ⟨⟨by decide +kernel, by decide +kernel⟩, inF_5 220 (by rfl), inF_8 28 (by rfl), inF_8 29 (by rfl)⟩
set_option maxRecDepth 400000 in
theorem lw_p104 : lw_okq (⟨"VillageStoriesModel", "findTogether", "(IZ)V"⟩, 63) := ⟨⟨by decide +kernel, by decide +kernel⟩, inF_5 220 (by rfl), inF_8 36 (by rfl), inF_8 37 (by rfl)⟩
set_option maxRecDepth 400000 in
theorem lw_p105 : lw_okq (⟨"VillageStoriesModel", "fewestApart", "()I"⟩, 63) := ⟨⟨by decide +kernel, by decide +kernel⟩, inF_5 220 (by rfl), inF_8 40 (by rfl), inF_8 41 (by rfl)⟩
set_option maxRecDepth 400000 in
theorem lw_p106 : lw_okq (⟨"VillageStoriesModel", "isTogether", "(I)Z"⟩, 63) := ⟨⟨by decide +kernel, by decide +kernel⟩, inF_5 220 (by rfl), inF_8 44 (by rfl), inF_8 45 (by rfl)⟩
set_option maxRecDepth 400000 in
theorem lw_p107 : lw_okq (⟨"VillageStoriesModel", "countFacts", "()V"⟩, 63) := ⟨⟨by decide +kernel, by decide +kernel⟩, inF_5 220 (by rfl), inF_8 58 (by rfl), inF_8 59 (by rfl)⟩
set_option maxRecDepth 400000 in
theorem lw_p108 : lw_okq (⟨"VillageStoriesModel", "findYes", "(I)V"⟩, 63) := ⟨⟨by decide +kernel, by decide +kernel⟩, inF_5 220 (by rfl), inF_8 74 (by rfl), inF_8 75 (by rfl)⟩
set_option maxRecDepth 400000 in
theorem lw_p109 : lw_okq (⟨"VillageStoriesModel", "asks", "(I)Z"⟩, 63) := ⟨⟨by decide +kernel, by decide +kernel⟩, inF_5 220 (by rfl), inF_8 78 (by rfl), inF_8 79 (by rfl)⟩
set_option maxRecDepth 400000 in
theorem lw_p110 : lw_okq (⟨"VillageStoriesModel", "copy", "(II)V"⟩, 63) := ⟨⟨by decide +kernel, by decide +kernel⟩, inF_5 220 (by rfl), inF_8 106 (by rfl), inF_8 107 (by rfl)⟩
def lw_privs_7 : List (MethodName × Nat) := [(⟨"VillageStoriesModel", "findKnown", "()V"⟩, 63), (⟨"VillageStoriesModel", "isWorld", "(I)Z"⟩, 63), (⟨"VillageStoriesModel", "isAsKnown", "(I)Z"⟩, 63), (⟨"VillageStoriesModel", "layWorld", "(I)V"⟩, 63), (⟨"VillageStoriesModel", "isForm", "(I)Z"⟩, 63), (⟨"VillageStoriesModel", "leastImage", "()I"⟩, 63), (⟨"VillageStoriesModel", "takeWorld", "(I)V"⟩, 63), (⟨"VillageStoriesModel", "findLeast", "()Z"⟩, 63), (⟨"VillageStoriesModel", "findTogether", "(IZ)V"⟩, 63), (⟨"VillageStoriesModel", "fewestApart", "()I"⟩, 63), (⟨"VillageStoriesModel", "isTogether", "(I)Z"⟩, 63), (⟨"VillageStoriesModel", "countFacts", "()V"⟩, 63), (⟨"VillageStoriesModel", "findYes", "(I)V"⟩, 63), (⟨"VillageStoriesModel", "asks", "(I)Z"⟩, 63), (⟨"VillageStoriesModel", "copy", "(II)V"⟩, 63)]
theorem lw_r7 : ∀ q ∈ lw_privs_7, lw_okq q := List.forall_mem_cons.mpr ⟨lw_p96, List.forall_mem_cons.mpr ⟨lw_p97, List.forall_mem_cons.mpr ⟨lw_p98, List.forall_mem_cons.mpr ⟨lw_p99, List.forall_mem_cons.mpr ⟨lw_p100, List.forall_mem_cons.mpr ⟨lw_p101, List.forall_mem_cons.mpr ⟨lw_p102, List.forall_mem_cons.mpr ⟨lw_p103, List.forall_mem_cons.mpr ⟨lw_p104, List.forall_mem_cons.mpr ⟨lw_p105, List.forall_mem_cons.mpr ⟨lw_p106, List.forall_mem_cons.mpr ⟨lw_p107, List.forall_mem_cons.mpr ⟨lw_p108, List.forall_mem_cons.mpr ⟨lw_p109, List.forall_mem_cons.mpr ⟨lw_p110, fun _ h => absurd h List.not_mem_nil⟩⟩⟩⟩⟩⟩⟩⟩⟩⟩⟩⟩⟩⟩⟩
def lw_privs : List (MethodName × Nat) := lw_privs_1 ++ (lw_privs_2 ++ (lw_privs_3 ++ (lw_privs_4 ++ (lw_privs_5 ++ (lw_privs_6 ++ (lw_privs_7))))))
def lw_tbl : List Cond := k2_sels lw_privs ++ tables_1
theorem lw_privs_ok : ∀ q ∈ lw_privs, lw_okq q := by
  show ∀ q ∈ lw_privs_1 ++ (lw_privs_2 ++ (lw_privs_3 ++ (lw_privs_4 ++ (lw_privs_5 ++ (lw_privs_6 ++ (lw_privs_7)))))), lw_okq q
  exact List.forall_mem_append.mpr ⟨lw_r1, List.forall_mem_append.mpr ⟨lw_r2, List.forall_mem_append.mpr ⟨lw_r3, List.forall_mem_append.mpr ⟨lw_r4, List.forall_mem_append.mpr ⟨lw_r5, List.forall_mem_append.mpr ⟨lw_r6, lw_r7⟩⟩⟩⟩⟩⟩

def RX0 : String := "VillageStories$Judge"
def TX0 : u_T := fun k => match k with
  | 0 => ("VillageStories$Judge", "shape", "LVillageStories$Shape;", false)
  | 1 => ("VillageStories$Judge", "text", "LVillageStories$Text;", false)
  | 2 => ("VillageStories$Judge", "facts", "[J", true)
  | 3 => ("VillageStories$Judge", "chosen", "[I", true)
  | 4 => ("VillageStories$Judge", "paths", "[J", true)
  | _ => ("VillageStories$Judge", "pathed", "I", false)

def tyX0 : Nat → FieldType := fun k => match k with
  | 0 => .object "VillageStories$Shape"
  | 1 => .object "VillageStories$Text"
  | 2 => .array .long
  | 3 => .array .int
  | 4 => .array .long
  | _ => .int

theorem nmX0 : ∀ a, a < 6 → ∀ b, b < 6 → a ≠ b → (TX0 a).2.1 ≠ (TX0 b).2.1 := by decide +kernel
theorem tyX0_ok : ∀ k, k < 6 → parseFieldDescriptor (TX0 k).2.2.1 = some (tyX0 k) := by decide +kernel
abbrev cX0_init : ByteArray := prog_2_method_1_code
abbrev cX0_isSoIn : ByteArray := prog_2_method_2_code
abbrev cX0_soInWord : ByteArray := prog_2_method_3_code
abbrev cX0_takeWorld : ByteArray := prog_2_method_4_code
abbrev cX0_breakNumber : ByteArray := prog_2_method_5_code
abbrev cX0_chooseNext : ByteArray := prog_2_method_6_code
abbrev cX0_sizeAt : ByteArray := prog_2_method_7_code
abbrev cX0_judged : ByteArray := prog_2_method_8_code
abbrev cX0_slot : ByteArray := prog_2_method_9_code
abbrev cX0_joined : ByteArray := prog_2_method_10_code
abbrev cX0_counted : ByteArray := prog_2_method_11_code
abbrev cX0_atLeast : ByteArray := prog_2_method_12_code
abbrev cX0_factAt : ByteArray := prog_2_method_13_code
abbrev cX0_reached : ByteArray := prog_2_method_14_code
abbrev cX0_treeLike : ByteArray := prog_2_method_15_code
abbrev cX0_findPaths : ByteArray := prog_2_method_16_code
def yX0_init : MethodName := ⟨RX0, "<init>", "()V"⟩
def yX0_isSoIn : MethodName := ⟨RX0, "isSoIn", "(LVillageStories$Shape;LVillageStories$Text;J)Z"⟩
def yX0_soInWord : MethodName := ⟨RX0, "soInWord", "(LVillageStories$Shape;LVillageStories$Text;I)J"⟩
def yX0_takeWorld : MethodName := ⟨RX0, "takeWorld", "(LVillageStories$Shape;LVillageStories$Text;J)V"⟩
def yX0_breakNumber : MethodName := ⟨RX0, "breakNumber", "(LVillageStories$Shape;LVillageStories$Text;JI)I"⟩
def yX0_chooseNext : MethodName := ⟨RX0, "chooseNext", "(I)V"⟩
def yX0_sizeAt : MethodName := ⟨RX0, "sizeAt", "(I)I"⟩
def yX0_judged : MethodName := ⟨RX0, "judged", "(II)J"⟩
def yX0_slot : MethodName := ⟨RX0, "slot", "(I)I"⟩
def yX0_joined : MethodName := ⟨RX0, "joined", "(II)J"⟩
def yX0_counted : MethodName := ⟨RX0, "counted", "(II)J"⟩
def yX0_atLeast : MethodName := ⟨RX0, "atLeast", "(IJJJ)J"⟩
def yX0_factAt : MethodName := ⟨RX0, "factAt", "(III)J"⟩
def yX0_reached : MethodName := ⟨RX0, "reached", "(III)J"⟩
def yX0_treeLike : MethodName := ⟨RX0, "treeLike", "(I)J"⟩
def yX0_findPaths : MethodName := ⟨RX0, "findPaths", "(I)V"⟩
def RX1 : String := "VillageStories$OtherNumbers"
def TX1 : u_T := fun k => match k with
  | 0 => ("VillageStories$OtherNumbers", "order", "[I", true)
  | 1 => ("VillageStories$OtherNumbers", "moved", "[I", true)
  | 2 => ("VillageStories$OtherNumbers", "leastRows", "LVillageStories$WorldSet;", true)
  | 3 => ("VillageStories$OtherNumbers", "seen", "LVillageStories$WorldSet;", true)
  | 4 => ("VillageStories$OtherNumbers", "ways", "I", false)
  | 5 => ("VillageStories$OtherNumbers", "facts", "I", false)
  | 6 => ("VillageStories$OtherNumbers", "isLaidOut", "Z", false)
  | _ => ("VillageStories$OtherNumbers", "isMarked", "Z", false)

def tyX1 : Nat → FieldType := fun k => match k with
  | 0 => .array .int
  | 1 => .array .int
  | 2 => .object "VillageStories$WorldSet"
  | 3 => .object "VillageStories$WorldSet"
  | 4 => .int
  | 5 => .int
  | 6 => .boolean
  | _ => .boolean

theorem nmX1 : ∀ a, a < 8 → ∀ b, b < 8 → a ≠ b → (TX1 a).2.1 ≠ (TX1 b).2.1 := by decide +kernel
theorem tyX1_ok : ∀ k, k < 8 → parseFieldDescriptor (TX1 k).2.2.1 = some (tyX1 k) := by decide +kernel
abbrev cX1_init : ByteArray := prog_3_method_1_code
abbrev cX1_forget : ByteArray := prog_3_method_2_code
abbrev cX1_leastOnes : ByteArray := prog_3_method_3_code
abbrev cX1_leastOf : ByteArray := prog_3_method_4_code
abbrev cX1_fewestApart : ByteArray := prog_3_method_5_code
abbrev cX1_markLeastOnes : ByteArray := prog_3_method_6_code
abbrev cX1_renumbered : ByteArray := prog_3_method_7_code
abbrev cX1_layOut : ByteArray := prog_3_method_8_code
abbrev cX1_ordersOf : ByteArray := prog_3_method_9_code
abbrev cX1_addWay : ByteArray := prog_3_method_10_code
abbrev cX1_ordered : ByteArray := prog_3_method_11_code
def yX1_init : MethodName := ⟨RX1, "<init>", "()V"⟩
def yX1_forget : MethodName := ⟨RX1, "forget", "()V"⟩
def yX1_leastOnes : MethodName := ⟨RX1, "leastOnes", "(LVillageStories$Shape;)LVillageStories$WorldSet;"⟩
def yX1_leastOf : MethodName := ⟨RX1, "leastOf", "(LVillageStories$Shape;I)I"⟩
def yX1_fewestApart : MethodName := ⟨RX1, "fewestApart", "(LVillageStories$Shape;II)I"⟩
def yX1_markLeastOnes : MethodName := ⟨RX1, "markLeastOnes", "()V"⟩
def yX1_renumbered : MethodName := ⟨RX1, "renumbered", "(II)I"⟩
def yX1_layOut : MethodName := ⟨RX1, "layOut", "(LVillageStories$Shape;)V"⟩
def yX1_ordersOf : MethodName := ⟨RX1, "ordersOf", "(LVillageStories$Shape;I)I"⟩
def yX1_addWay : MethodName := ⟨RX1, "addWay", "(LVillageStories$Shape;)V"⟩
def yX1_ordered : MethodName := ⟨RX1, "ordered", "(II)I"⟩
def RX2 : String := "VillageStories$Reader"
def TX2 : u_T := fun k => match k with
  | 0 => ("VillageStories$Reader", "told", "LVillageStories$Told;", false)
  | 1 => ("VillageStories$Reader", "bytes", "[I", false)
  | 2 => ("VillageStories$Reader", "length", "I", false)
  | 3 => ("VillageStories$Reader", "shape", "LVillageStories$Shape;", false)
  | 4 => ("VillageStories$Reader", "broken", "Z", false)
  | 5 => ("VillageStories$Reader", "draft", "LVillageStories$Text;", true)
  | 6 => ("VillageStories$Reader", "scopes", "[I", true)
  | 7 => ("VillageStories$Reader", "waiting", "I", false)
  | 8 => ("VillageStories$Reader", "token", "I", false)
  | 9 => ("VillageStories$Reader", "place", "I", false)
  | 10 => ("VillageStories$Reader", "next", "I", false)
  | _ => ("VillageStories$Reader", "number", "I", false)

def tyX2 : Nat → FieldType := fun k => match k with
  | 0 => .object "VillageStories$Told"
  | 1 => .array .int
  | 2 => .int
  | 3 => .object "VillageStories$Shape"
  | 4 => .boolean
  | 5 => .object "VillageStories$Text"
  | 6 => .array .int
  | 7 => .int
  | 8 => .int
  | 9 => .int
  | 10 => .int
  | _ => .int

theorem nmX2 : ∀ a, a < 12 → ∀ b, b < 12 → a ≠ b → (TX2 a).2.1 ≠ (TX2 b).2.1 := by decide +kernel
theorem tyX2_ok : ∀ k, k < 12 → parseFieldDescriptor (TX2 k).2.2.1 = some (tyX2 k) := by decide +kernel
abbrev cX2_init : ByteArray := prog_4_method_1_code
abbrev cX2_read : ByteArray := prog_4_method_2_code
abbrev cX2_readPart : ByteArray := prog_4_method_3_code
abbrev cX2_firstWord : ByteArray := prog_4_method_4_code
abbrev cX2_readBinder : ByteArray := prog_4_method_5_code
abbrev cX2_readJoint : ByteArray := prog_4_method_6_code
abbrev cX2_readSame : ByteArray := prog_4_method_7_code
abbrev cX2_readReach : ByteArray := prog_4_method_8_code
abbrev cX2_readTree : ByteArray := prog_4_method_9_code
abbrev cX2_readFact : ByteArray := prog_4_method_10_code
abbrev cX2_takeNumber : ByteArray := prog_4_method_11_code
abbrev cX2_takeVariable : ByteArray := prog_4_method_12_code
abbrev cX2_takeKind : ByteArray := prog_4_method_13_code
abbrev cX2_takeRelation : ByteArray := prog_4_method_14_code
abbrev cX2_takeRoad : ByteArray := prog_4_method_15_code
abbrev cX2_takeBound : ByteArray := prog_4_method_16_code
abbrev cX2_bind : ByteArray := prog_4_method_17_code
abbrev cX2_depth : ByteArray := prog_4_method_18_code
abbrev cX2_kindOf : ByteArray := prog_4_method_19_code
abbrev cX2_slotOf : ByteArray := prog_4_method_20_code
abbrev cX2_expectPart : ByteArray := prog_4_method_21_code
abbrev cX2_refuse : ByteArray := prog_4_method_22_code
abbrev cX2_note : ByteArray := prog_4_method_23_code
abbrev cX2_advance : ByteArray := prog_4_method_24_code
abbrev cX2_isLetter : ByteArray := prog_4_method_25_code
abbrev cX2_isDigit : ByteArray := prog_4_method_26_code
abbrev cX2_isWord : ByteArray := prog_4_method_27_code
abbrev cX2_oneLetter : ByteArray := prog_4_method_28_code
def yX2_init : MethodName := ⟨RX2, "<init>", "()V"⟩
def yX2_read : MethodName := ⟨RX2, "read", "(LVillageStories$Told;)LVillageStories$Text;"⟩
def yX2_readPart : MethodName := ⟨RX2, "readPart", "()V"⟩
def yX2_firstWord : MethodName := ⟨RX2, "firstWord", "()I"⟩
def yX2_readBinder : MethodName := ⟨RX2, "readBinder", "(II)V"⟩
def yX2_readJoint : MethodName := ⟨RX2, "readJoint", "(II)V"⟩
def yX2_readSame : MethodName := ⟨RX2, "readSame", "(I)V"⟩
def yX2_readReach : MethodName := ⟨RX2, "readReach", "(I)V"⟩
def yX2_readTree : MethodName := ⟨RX2, "readTree", "()V"⟩
def yX2_readFact : MethodName := ⟨RX2, "readFact", "(I)V"⟩
def yX2_takeNumber : MethodName := ⟨RX2, "takeNumber", "()I"⟩
def yX2_takeVariable : MethodName := ⟨RX2, "takeVariable", "()I"⟩
def yX2_takeKind : MethodName := ⟨RX2, "takeKind", "()I"⟩
def yX2_takeRelation : MethodName := ⟨RX2, "takeRelation", "()I"⟩
def yX2_takeRoad : MethodName := ⟨RX2, "takeRoad", "()I"⟩
def yX2_takeBound : MethodName := ⟨RX2, "takeBound", "(II)I"⟩
def yX2_bind : MethodName := ⟨RX2, "bind", "(IIII)I"⟩
def yX2_depth : MethodName := ⟨RX2, "depth", "(I)I"⟩
def yX2_kindOf : MethodName := ⟨RX2, "kindOf", "(I)I"⟩
def yX2_slotOf : MethodName := ⟨RX2, "slotOf", "(I)I"⟩
def yX2_expectPart : MethodName := ⟨RX2, "expectPart", "(I)V"⟩
def yX2_refuse : MethodName := ⟨RX2, "refuse", "()V"⟩
def yX2_note : MethodName := ⟨RX2, "note", "(II)V"⟩
def yX2_advance : MethodName := ⟨RX2, "advance", "()V"⟩
def yX2_isLetter : MethodName := ⟨RX2, "isLetter", "(I)Z"⟩
def yX2_isDigit : MethodName := ⟨RX2, "isDigit", "(I)Z"⟩
def yX2_isWord : MethodName := ⟨RX2, "isWord", "(Ljava/lang/String;)Z"⟩
def yX2_oneLetter : MethodName := ⟨RX2, "oneLetter", "()I"⟩
def RX3 : String := "VillageStories$Shape"
def TX3 : u_T := fun k => match k with
  | 0 => ("VillageStories$Shape", "sizes", "[I", true)
  | 1 => ("VillageStories$Shape", "first", "[I", true)
  | 2 => ("VillageStories$Shape", "second", "[I", true)
  | 3 => ("VillageStories$Shape", "start", "[I", true)
  | 4 => ("VillageStories$Shape", "height", "[I", true)
  | 5 => ("VillageStories$Shape", "width", "[I", true)
  | 6 => ("VillageStories$Shape", "relations", "I", false)
  | _ => ("VillageStories$Shape", "facts", "I", false)

def tyX3 : Nat → FieldType := fun k => match k with
  | 0 => .array .int
  | 1 => .array .int
  | 2 => .array .int
  | 3 => .array .int
  | 4 => .array .int
  | 5 => .array .int
  | 6 => .int
  | _ => .int

theorem nmX3 : ∀ a, a < 8 → ∀ b, b < 8 → a ≠ b → (TX3 a).2.1 ≠ (TX3 b).2.1 := by decide +kernel
theorem tyX3_ok : ∀ k, k < 8 → parseFieldDescriptor (TX3 k).2.2.1 = some (tyX3 k) := by decide +kernel
abbrev cX3_init : ByteArray := prog_5_method_1_code
abbrev cX3_isKind : ByteArray := prog_5_method_2_code
abbrev cX3_copy : ByteArray := prog_5_method_3_code
abbrev cX3_resize : ByteArray := prog_5_method_4_code
abbrev cX3_addRelation : ByteArray := prog_5_method_5_code
abbrev cX3_layOut : ByteArray := prog_5_method_6_code
abbrev cX3_hasRelation : ByteArray := prog_5_method_7_code
abbrev cX3_isOfTwo : ByteArray := prog_5_method_8_code
abbrev cX3_isOfOneKindTwice : ByteArray := prog_5_method_9_code
abbrev cX3_place : ByteArray := prog_5_method_10_code
abbrev cX3_bit : ByteArray := prog_5_method_11_code
abbrev cX3_relationAt : ByteArray := prog_5_method_12_code
abbrev cX3_firstAt : ByteArray := prog_5_method_13_code
abbrev cX3_secondAt : ByteArray := prog_5_method_14_code
def yX3_init : MethodName := ⟨RX3, "<init>", "()V"⟩
def yX3_isKind : MethodName := ⟨RX3, "isKind", "(I)Z"⟩
def yX3_copy : MethodName := ⟨RX3, "copy", "(LVillageStories$Shape;)V"⟩
def yX3_resize : MethodName := ⟨RX3, "resize", "(II)Z"⟩
def yX3_addRelation : MethodName := ⟨RX3, "addRelation", "(II)I"⟩
def yX3_layOut : MethodName := ⟨RX3, "layOut", "()V"⟩
def yX3_hasRelation : MethodName := ⟨RX3, "hasRelation", "(I)Z"⟩
def yX3_isOfTwo : MethodName := ⟨RX3, "isOfTwo", "(I)Z"⟩
def yX3_isOfOneKindTwice : MethodName := ⟨RX3, "isOfOneKindTwice", "(I)Z"⟩
def yX3_place : MethodName := ⟨RX3, "place", "(III)I"⟩
def yX3_bit : MethodName := ⟨RX3, "bit", "(I)I"⟩
def yX3_relationAt : MethodName := ⟨RX3, "relationAt", "(I)I"⟩
def yX3_firstAt : MethodName := ⟨RX3, "firstAt", "(II)I"⟩
def yX3_secondAt : MethodName := ⟨RX3, "secondAt", "(II)I"⟩
def RX4 : String := "VillageStories$Solver"
def TX4 : u_T := fun k => match k with
  | 0 => ("VillageStories$Solver", "told", "LVillageStories$Told;", true)
  | 1 => ("VillageStories$Solver", "judge", "LVillageStories$Judge;", true)
  | 2 => ("VillageStories$Solver", "others", "LVillageStories$OtherNumbers;", true)
  | 3 => ("VillageStories$Solver", "truths", "[LVillageStories$WorldSet;", true)
  | 4 => ("VillageStories$Solver", "judged", "I", false)
  | 5 => ("VillageStories$Solver", "possible", "LVillageStories$WorldSet;", true)
  | 6 => ("VillageStories$Solver", "worlds", "LVillageStories$WorldSet;", true)
  | 7 => ("VillageStories$Solver", "picked", "LVillageStories$WorldSet;", true)
  | 8 => ("VillageStories$Solver", "trial", "LVillageStories$Shape;", true)
  | 9 => ("VillageStories$Solver", "leastSizes", "[I", true)
  | 10 => ("VillageStories$Solver", "leastFor", "I", false)
  | _ => ("VillageStories$Solver", "asked", "[I", true)

def tyX4 : Nat → FieldType := fun k => match k with
  | 0 => .object "VillageStories$Told"
  | 1 => .object "VillageStories$Judge"
  | 2 => .object "VillageStories$OtherNumbers"
  | 3 => .array (.object "VillageStories$WorldSet")
  | 4 => .int
  | 5 => .object "VillageStories$WorldSet"
  | 6 => .object "VillageStories$WorldSet"
  | 7 => .object "VillageStories$WorldSet"
  | 8 => .object "VillageStories$Shape"
  | 9 => .array .int
  | 10 => .int
  | _ => .array .int

theorem nmX4 : ∀ a, a < 12 → ∀ b, b < 12 → a ≠ b → (TX4 a).2.1 ≠ (TX4 b).2.1 := by decide +kernel
theorem tyX4_ok : ∀ k, k < 12 → parseFieldDescriptor (TX4 k).2.2.1 = some (tyX4 k) := by decide +kernel
abbrev cX4_init : ByteArray := prog_6_method_1_code
abbrev cX4_forget : ByteArray := prog_6_method_2_code
abbrev cX4_forgetGuess : ByteArray := prog_6_method_3_code
abbrev cX4_canTell : ByteArray := prog_6_method_4_code
abbrev cX4_lookUp : ByteArray := prog_6_method_5_code
abbrev cX4_findPossible : ByteArray := prog_6_method_6_code
abbrev cX4_truth : ByteArray := prog_6_method_7_code
abbrev cX4_countWorlds : ByteArray := prog_6_method_8_code
abbrev cX4_pickForms : ByteArray := prog_6_method_9_code
abbrev cX4_countForms : ByteArray := prog_6_method_10_code
abbrev cX4_nthForm : ByteArray := prog_6_method_11_code
abbrev cX4_leastRow : ByteArray := prog_6_method_12_code
abbrev cX4_fewestApart : ByteArray := prog_6_method_13_code
abbrev cX4_leastSize : ByteArray := prog_6_method_14_code
abbrev cX4_findLeastSizes : ByteArray := prog_6_method_15_code
abbrev cX4_fits : ByteArray := prog_6_method_16_code
abbrev cX4_coreStories : ByteArray := prog_6_method_17_code
abbrev cX4_sureness : ByteArray := prog_6_method_18_code
abbrev cX4_causeStories : ByteArray := prog_6_method_19_code
abbrev cX4_fewestAgainst : ByteArray := prog_6_method_20_code
abbrev cX4_isBefore : ByteArray := prog_6_method_21_code
abbrev cX4_leavesNothing : ByteArray := prog_6_method_22_code
abbrev cX4_countWithout : ByteArray := prog_6_method_23_code
abbrev cX4_fewestQuestions : ByteArray := prog_6_method_24_code
abbrev cX4_takeAsked : ByteArray := prog_6_method_25_code
abbrev cX4_suffice : ByteArray := prog_6_method_26_code
abbrev cX4_settlingPlace : ByteArray := prog_6_method_27_code
abbrev cX4_greaterAt : ByteArray := prog_6_method_28_code
abbrev cX4_nearestWorld : ByteArray := prog_6_method_29_code
abbrev cX4_countGuessWorlds : ByteArray := prog_6_method_30_code
abbrev cX4_countGuessForms : ByteArray := prog_6_method_31_code
abbrev cX4_formAgainst : ByteArray := prog_6_method_32_code
def yX4_init : MethodName := ⟨RX4, "<init>", "()V"⟩
def yX4_forget : MethodName := ⟨RX4, "forget", "()V"⟩
def yX4_forgetGuess : MethodName := ⟨RX4, "forgetGuess", "()V"⟩
def yX4_canTell : MethodName := ⟨RX4, "canTell", "()Z"⟩
def yX4_lookUp : MethodName := ⟨RX4, "lookUp", "()Z"⟩
def yX4_findPossible : MethodName := ⟨RX4, "findPossible", "()V"⟩
def yX4_truth : MethodName := ⟨RX4, "truth", "(ILVillageStories$Text;)LVillageStories$WorldSet;"⟩
def yX4_countWorlds : MethodName := ⟨RX4, "countWorlds", "()I"⟩
def yX4_pickForms : MethodName := ⟨RX4, "pickForms", "()V"⟩
def yX4_countForms : MethodName := ⟨RX4, "countForms", "()I"⟩
def yX4_nthForm : MethodName := ⟨RX4, "nthForm", "(I)I"⟩
def yX4_leastRow : MethodName := ⟨RX4, "leastRow", "()I"⟩
def yX4_fewestApart : MethodName := ⟨RX4, "fewestApart", "(J)I"⟩
def yX4_leastSize : MethodName := ⟨RX4, "leastSize", "(I)I"⟩
def yX4_findLeastSizes : MethodName := ⟨RX4, "findLeastSizes", "(I)V"⟩
def yX4_fits : MethodName := ⟨RX4, "fits", "(IIII)Z"⟩
def yX4_coreStories : MethodName := ⟨RX4, "coreStories", "()I"⟩
def yX4_sureness : MethodName := ⟨RX4, "sureness", "(I)I"⟩
def yX4_causeStories : MethodName := ⟨RX4, "causeStories", "(II)I"⟩
def yX4_fewestAgainst : MethodName := ⟨RX4, "fewestAgainst", "(LVillageStories$WorldSet;)I"⟩
def yX4_isBefore : MethodName := ⟨RX4, "isBefore", "(II)Z"⟩
def yX4_leavesNothing : MethodName := ⟨RX4, "leavesNothing", "(LVillageStories$WorldSet;I)Z"⟩
def yX4_countWithout : MethodName := ⟨RX4, "countWithout", "(I)I"⟩
def yX4_fewestQuestions : MethodName := ⟨RX4, "fewestQuestions", "()I"⟩
def yX4_takeAsked : MethodName := ⟨RX4, "takeAsked", "()I"⟩
def yX4_suffice : MethodName := ⟨RX4, "suffice", "([III)Z"⟩
def yX4_settlingPlace : MethodName := ⟨RX4, "settlingPlace", "()I"⟩
def yX4_greaterAt : MethodName := ⟨RX4, "greaterAt", "(I)I"⟩
def yX4_nearestWorld : MethodName := ⟨RX4, "nearestWorld", "()I"⟩
def yX4_countGuessWorlds : MethodName := ⟨RX4, "countGuessWorlds", "()I"⟩
def yX4_countGuessForms : MethodName := ⟨RX4, "countGuessForms", "()I"⟩
def yX4_formAgainst : MethodName := ⟨RX4, "formAgainst", "()I"⟩
def RX5 : String := "VillageStories$Text"
def TX5 : u_T := fun k => match k with
  | 0 => ("VillageStories$Text", "word", "[I", true)
  | 1 => ("VillageStories$Text", "of", "[I", true)
  | 2 => ("VillageStories$Text", "first", "[I", true)
  | 3 => ("VillageStories$Text", "second", "[I", true)
  | 4 => ("VillageStories$Text", "behind", "[I", true)
  | _ => ("VillageStories$Text", "parts", "I", false)

def tyX5 : Nat → FieldType := fun k => match k with
  | 0 => .array .int
  | 1 => .array .int
  | 2 => .array .int
  | 3 => .array .int
  | 4 => .array .int
  | _ => .int

theorem nmX5 : ∀ a, a < 6 → ∀ b, b < 6 → a ≠ b → (TX5 a).2.1 ≠ (TX5 b).2.1 := by decide +kernel
theorem tyX5_ok : ∀ k, k < 6 → parseFieldDescriptor (TX5 k).2.2.1 = some (tyX5 k) := by decide +kernel
abbrev cX5_init : ByteArray := prog_7_method_1_code
abbrev cX5_write : ByteArray := prog_7_method_2_code
abbrev cX5_finished : ByteArray := prog_7_method_3_code
abbrev cX5_findBehind : ByteArray := prog_7_method_4_code
abbrev cX5_partsInside : ByteArray := prog_7_method_5_code
abbrev cX5_leadingAlls : ByteArray := prog_7_method_6_code
def yX5_init : MethodName := ⟨RX5, "<init>", "(I)V"⟩
def yX5_write : MethodName := ⟨RX5, "write", "(IIII)V"⟩
def yX5_finished : MethodName := ⟨RX5, "finished", "()LVillageStories$Text;"⟩
def yX5_findBehind : MethodName := ⟨RX5, "findBehind", "()V"⟩
def yX5_partsInside : MethodName := ⟨RX5, "partsInside", "(I)I"⟩
def yX5_leadingAlls : MethodName := ⟨RX5, "leadingAlls", "()I"⟩
def RX6 : String := "VillageStories$Told"
def TX6 : u_T := fun k => match k with
  | 0 => ("VillageStories$Told", "shape", "LVillageStories$Shape;", true)
  | 1 => ("VillageStories$Told", "world", "J", false)
  | 2 => ("VillageStories$Told", "kept", "[J", true)
  | 3 => ("VillageStories$Told", "isKept", "[Z", true)
  | 4 => ("VillageStories$Told", "tape", "[I", true)
  | 5 => ("VillageStories$Told", "taped", "I", false)
  | 6 => ("VillageStories$Told", "fault", "I", false)
  | 7 => ("VillageStories$Told", "faultPlace", "I", false)
  | 8 => ("VillageStories$Told", "texts", "[LVillageStories$Text;", true)
  | 9 => ("VillageStories$Told", "toldOn", "[I", true)
  | 10 => ("VillageStories$Told", "struckOn", "[I", true)
  | 11 => ("VillageStories$Told", "stories", "I", false)
  | 12 => ("VillageStories$Told", "guess", "LVillageStories$Text;", false)
  | 13 => ("VillageStories$Told", "day", "I", false)
  | 14 => ("VillageStories$Told", "view", "I", false)
  | 15 => ("VillageStories$Told", "knownFact", "[I", true)
  | 16 => ("VillageStories$Told", "knownSo", "[Z", true)
  | 17 => ("VillageStories$Told", "knownOn", "[I", true)
  | _ => ("VillageStories$Told", "knowns", "I", false)

def tyX6 : Nat → FieldType := fun k => match k with
  | 0 => .object "VillageStories$Shape"
  | 1 => .long
  | 2 => .array .long
  | 3 => .array .boolean
  | 4 => .array .int
  | 5 => .int
  | 6 => .int
  | 7 => .int
  | 8 => .array (.object "VillageStories$Text")
  | 9 => .array .int
  | 10 => .array .int
  | 11 => .int
  | 12 => .object "VillageStories$Text"
  | 13 => .int
  | 14 => .int
  | 15 => .array .int
  | 16 => .array .boolean
  | 17 => .array .int
  | _ => .int

theorem nmX6 : ∀ a, a < 19 → ∀ b, b < 19 → a ≠ b → (TX6 a).2.1 ≠ (TX6 b).2.1 := by decide +kernel
theorem tyX6_ok : ∀ k, k < 19 → parseFieldDescriptor (TX6 k).2.2.1 = some (tyX6 k) := by decide +kernel
abbrev cX6_init : ByteArray := prog_8_method_1_code
abbrev cX6_copy : ByteArray := prog_8_method_2_code
abbrev cX6_copyWorlds : ByteArray := prog_8_method_3_code
abbrev cX6_copyStories : ByteArray := prog_8_method_4_code
abbrev cX6_clearWorlds : ByteArray := prog_8_method_5_code
abbrev cX6_isSo : ByteArray := prog_8_method_6_code
abbrev cX6_clearTape : ByteArray := prog_8_method_7_code
abbrev cX6_addBytes : ByteArray := prog_8_method_8_code
abbrev cX6_hasStory : ByteArray := prog_8_method_9_code
abbrev cX6_storyText : ByteArray := prog_8_method_10_code
abbrev cX6_addStory : ByteArray := prog_8_method_11_code
abbrev cX6_viewedDay : ByteArray := prog_8_method_12_code
abbrev cX6_viewedStories : ByteArray := prog_8_method_13_code
abbrev cX6_addKnown : ByteArray := prog_8_method_14_code
abbrev cX6_knownOf : ByteArray := prog_8_method_15_code
def yX6_init : MethodName := ⟨RX6, "<init>", "()V"⟩
def yX6_copy : MethodName := ⟨RX6, "copy", "(LVillageStories$Told;)V"⟩
def yX6_copyWorlds : MethodName := ⟨RX6, "copyWorlds", "(LVillageStories$Told;)V"⟩
def yX6_copyStories : MethodName := ⟨RX6, "copyStories", "(LVillageStories$Told;)V"⟩
def yX6_clearWorlds : MethodName := ⟨RX6, "clearWorlds", "()V"⟩
def yX6_isSo : MethodName := ⟨RX6, "isSo", "(I)Z"⟩
def yX6_clearTape : MethodName := ⟨RX6, "clearTape", "()V"⟩
def yX6_addBytes : MethodName := ⟨RX6, "addBytes", "(I)V"⟩
def yX6_hasStory : MethodName := ⟨RX6, "hasStory", "(I)Z"⟩
def yX6_storyText : MethodName := ⟨RX6, "storyText", "(I)LVillageStories$Text;"⟩
def yX6_addStory : MethodName := ⟨RX6, "addStory", "(LVillageStories$Text;)I"⟩
def yX6_viewedDay : MethodName := ⟨RX6, "viewedDay", "()I"⟩
def yX6_viewedStories : MethodName := ⟨RX6, "viewedStories", "()I"⟩
def yX6_addKnown : MethodName := ⟨RX6, "addKnown", "(IIIZ)Z"⟩
def yX6_knownOf : MethodName := ⟨RX6, "knownOf", "(III)I"⟩
def RX7 : String := "VillageStories$WorldSet"
def TX7 : u_T := fun k => match k with
  | 0 => ("VillageStories$WorldSet", "words", "[J", true)
  | 1 => ("VillageStories$WorldSet", "used", "I", false)
  | _ => ("VillageStories$WorldSet", "facts", "I", false)

def tyX7 : Nat → FieldType := fun k => match k with
  | 0 => .array .long
  | 1 => .int
  | _ => .int

theorem nmX7 : ∀ a, a < 3 → ∀ b, b < 3 → a ≠ b → (TX7 a).2.1 ≠ (TX7 b).2.1 := by decide +kernel
theorem tyX7_ok : ∀ k, k < 3 → parseFieldDescriptor (TX7 k).2.2.1 = some (tyX7 k) := by decide +kernel
abbrev cX7_init : ByteArray := prog_9_method_1_code
abbrev cX7_takeNone : ByteArray := prog_9_method_2_code
abbrev cX7_takeAll : ByteArray := prog_9_method_3_code
abbrev cX7_copy : ByteArray := prog_9_method_4_code
abbrev cX7_usedWords : ByteArray := prog_9_method_5_code
abbrev cX7_most : ByteArray := prog_9_method_6_code
abbrev cX7_add : ByteArray := prog_9_method_7_code
abbrev cX7_has : ByteArray := prog_9_method_8_code
abbrev cX7_keepOnly : ByteArray := prog_9_method_9_code
abbrev cX7_drop : ByteArray := prog_9_method_10_code
abbrev cX7_keepWhere : ByteArray := prog_9_method_11_code
abbrev cX7_countWhere : ByteArray := prog_9_method_12_code
abbrev cX7_soAt : ByteArray := prog_9_method_13_code
abbrev cX7_count : ByteArray := prog_9_method_14_code
abbrev cX7_isNothing : ByteArray := prog_9_method_15_code
abbrev cX7_nth : ByteArray := prog_9_method_16_code
def yX7_init : MethodName := ⟨RX7, "<init>", "()V"⟩
def yX7_takeNone : MethodName := ⟨RX7, "takeNone", "(I)V"⟩
def yX7_takeAll : MethodName := ⟨RX7, "takeAll", "(I)V"⟩
def yX7_copy : MethodName := ⟨RX7, "copy", "(LVillageStories$WorldSet;)V"⟩
def yX7_usedWords : MethodName := ⟨RX7, "usedWords", "()I"⟩
def yX7_most : MethodName := ⟨RX7, "most", "()I"⟩
def yX7_add : MethodName := ⟨RX7, "add", "(I)V"⟩
def yX7_has : MethodName := ⟨RX7, "has", "(I)Z"⟩
def yX7_keepOnly : MethodName := ⟨RX7, "keepOnly", "(LVillageStories$WorldSet;)V"⟩
def yX7_drop : MethodName := ⟨RX7, "drop", "(LVillageStories$WorldSet;)V"⟩
def yX7_keepWhere : MethodName := ⟨RX7, "keepWhere", "(IZ)V"⟩
def yX7_countWhere : MethodName := ⟨RX7, "countWhere", "(I)I"⟩
def yX7_soAt : MethodName := ⟨RX7, "soAt", "(II)J"⟩
def yX7_count : MethodName := ⟨RX7, "count", "()I"⟩
def yX7_isNothing : MethodName := ⟨RX7, "isNothing", "()Z"⟩
def yX7_nth : MethodName := ⟨RX7, "nth", "(I)I"⟩
def RX8 : String := "VillageStories"
def TX8 : u_T := fun k => match k with
  | 0 => ("VillageStories", "solver", "LVillageStories$Solver;", true)
  | 1 => ("VillageStories", "told", "LVillageStories$Told;", true)
  | 2 => ("VillageStories", "reader", "LVillageStories$Reader;", true)
  | 3 => ("VillageStories", "images", "[LVillageStories$Told;", true)
  | _ => ("VillageStories", "imaged", "[Z", true)

def tyX8 : Nat → FieldType := fun k => match k with
  | 0 => .object "VillageStories$Solver"
  | 1 => .object "VillageStories$Told"
  | 2 => .object "VillageStories$Reader"
  | 3 => .array (.object "VillageStories$Told")
  | _ => .array .boolean

theorem nmX8 : ∀ a, a < 5 → ∀ b, b < 5 → a ≠ b → (TX8 a).2.1 ≠ (TX8 b).2.1 := by decide +kernel
theorem tyX8_ok : ∀ k, k < 5 → parseFieldDescriptor (TX8 k).2.2.1 = some (tyX8 k) := by decide +kernel
abbrev cX8_init : ByteArray := prog_1_method_1_code
abbrev cX8_size : ByteArray := prog_1_method_2_code
abbrev cX8_relation : ByteArray := prog_1_method_3_code
abbrev cX8_facts : ByteArray := prog_1_method_4_code
abbrev cX8_tell : ByteArray := prog_1_method_5_code
abbrev cX8_fact : ByteArray := prog_1_method_6_code
abbrev cX8_known : ByteArray := prog_1_method_7_code
abbrev cX8_keep : ByteArray := prog_1_method_8_code
abbrev cX8_apart : ByteArray := prog_1_method_9_code
abbrev cX8_feed : ByteArray := prog_1_method_10_code
abbrev cX8_end : ByteArray := prog_1_method_11_code
abbrev cX8_story : ByteArray := prog_1_method_12_code
abbrev cX8_guess : ByteArray := prog_1_method_13_code
abbrev cX8_fault : ByteArray := prog_1_method_14_code
abbrev cX8_strike : ByteArray := prog_1_method_15_code
abbrev cX8_day : ByteArray := prog_1_method_16_code
abbrev cX8_view : ByteArray := prog_1_method_17_code
abbrev cX8_so : ByteArray := prog_1_method_18_code
abbrev cX8_breaks : ByteArray := prog_1_method_19_code
abbrev cX8_worlds : ByteArray := prog_1_method_20_code
abbrev cX8_forms : ByteArray := prog_1_method_21_code
abbrev cX8_form : ByteArray := prog_1_method_22_code
abbrev cX8_name : ByteArray := prog_1_method_23_code
abbrev cX8_least : ByteArray := prog_1_method_24_code
abbrev cX8_core : ByteArray := prog_1_method_25_code
abbrev cX8_sure : ByteArray := prog_1_method_26_code
abbrev cX8_cause : ByteArray := prog_1_method_27_code
abbrev cX8_without : ByteArray := prog_1_method_28_code
abbrev cX8_questions : ByteArray := prog_1_method_29_code
abbrev cX8_settle : ByteArray := prog_1_method_30_code
abbrev cX8_near : ByteArray := prog_1_method_31_code
abbrev cX8_holds : ByteArray := prog_1_method_32_code
abbrev cX8_against : ByteArray := prog_1_method_33_code
abbrev cX8_many : ByteArray := prog_1_method_34_code
abbrev cX8_image : ByteArray := prog_1_method_35_code
abbrev cX8_again : ByteArray := prog_1_method_36_code
abbrev cX8_becomes : ByteArray := prog_1_method_37_code
abbrev cX8_nthBit : ByteArray := prog_1_method_38_code
def yX8_init : MethodName := ⟨RX8, "<init>", "()V"⟩
def yX8_size : MethodName := ⟨RX8, "size", "(II)Z"⟩
def yX8_relation : MethodName := ⟨RX8, "relation", "(II)I"⟩
def yX8_facts : MethodName := ⟨RX8, "facts", "()I"⟩
def yX8_tell : MethodName := ⟨RX8, "tell", "(IIIZ)Z"⟩
def yX8_fact : MethodName := ⟨RX8, "fact", "(III)I"⟩
def yX8_known : MethodName := ⟨RX8, "known", "(IIIZ)Z"⟩
def yX8_keep : MethodName := ⟨RX8, "keep", "(I)Z"⟩
def yX8_apart : MethodName := ⟨RX8, "apart", "(I)I"⟩
def yX8_feed : MethodName := ⟨RX8, "feed", "(IIIII)I"⟩
def yX8_end : MethodName := ⟨RX8, "end", "(I)I"⟩
def yX8_story : MethodName := ⟨RX8, "story", "()I"⟩
def yX8_guess : MethodName := ⟨RX8, "guess", "()I"⟩
def yX8_fault : MethodName := ⟨RX8, "fault", "(I)I"⟩
def yX8_strike : MethodName := ⟨RX8, "strike", "(I)Z"⟩
def yX8_day : MethodName := ⟨RX8, "day", "(I)Z"⟩
def yX8_view : MethodName := ⟨RX8, "view", "(I)Z"⟩
def yX8_so : MethodName := ⟨RX8, "so", "(I)I"⟩
def yX8_breaks : MethodName := ⟨RX8, "breaks", "(II)I"⟩
def yX8_worlds : MethodName := ⟨RX8, "worlds", "()I"⟩
def yX8_forms : MethodName := ⟨RX8, "forms", "()I"⟩
def yX8_form : MethodName := ⟨RX8, "form", "(I)Z"⟩
def yX8_name : MethodName := ⟨RX8, "name", "()Z"⟩
def yX8_least : MethodName := ⟨RX8, "least", "(I)I"⟩
def yX8_core : MethodName := ⟨RX8, "core", "(I)I"⟩
def yX8_sure : MethodName := ⟨RX8, "sure", "(III)I"⟩
def yX8_cause : MethodName := ⟨RX8, "cause", "(IIII)I"⟩
def yX8_without : MethodName := ⟨RX8, "without", "(I)I"⟩
def yX8_questions : MethodName := ⟨RX8, "questions", "()I"⟩
def yX8_settle : MethodName := ⟨RX8, "settle", "(I)I"⟩
def yX8_near : MethodName := ⟨RX8, "near", "()I"⟩
def yX8_holds : MethodName := ⟨RX8, "holds", "(I)I"⟩
def yX8_against : MethodName := ⟨RX8, "against", "()Z"⟩
def yX8_many : MethodName := ⟨RX8, "many", "(I)I"⟩
def yX8_image : MethodName := ⟨RX8, "image", "(I)Z"⟩
def yX8_again : MethodName := ⟨RX8, "again", "(I)Z"⟩
def yX8_becomes : MethodName := ⟨RX8, "becomes", "(I)Z"⟩
def yX8_nthBit : MethodName := ⟨RX8, "nthBit", "(II)I"⟩
def RX9 : String := "VillageStoriesModel"
def TX9 : u_T := fun k => match k with
  | 0 => ("VillageStoriesModel", "code", "I", false)
  | 1 => ("VillageStoriesModel", "tape", "[B", true)
  | 2 => ("VillageStoriesModel", "size", "[I", true)
  | 3 => ("VillageStoriesModel", "fault", "[I", true)
  | 4 => ("VillageStoriesModel", "faultPlace", "[I", true)
  | 5 => ("VillageStoriesModel", "days", "[I", true)
  | 6 => ("VillageStoriesModel", "viewed", "[I", true)
  | 7 => ("VillageStoriesModel", "sizes", "[I", true)
  | 8 => ("VillageStoriesModel", "relations", "[I", true)
  | 9 => ("VillageStoriesModel", "firstKind", "[I", true)
  | 10 => ("VillageStoriesModel", "secondKind", "[I", true)
  | 11 => ("VillageStoriesModel", "world", "[Z", true)
  | 12 => ("VillageStoriesModel", "stories", "[I", true)
  | 13 => ("VillageStoriesModel", "storyDay", "[I", true)
  | 14 => ("VillageStoriesModel", "struckDay", "[I", true)
  | 15 => ("VillageStoriesModel", "parts", "[I", true)
  | 16 => ("VillageStoriesModel", "act", "[I", true)
  | 17 => ("VillageStoriesModel", "one", "[I", true)
  | 18 => ("VillageStoriesModel", "two", "[I", true)
  | 19 => ("VillageStoriesModel", "three", "[I", true)
  | 20 => ("VillageStoriesModel", "knowns", "[I", true)
  | 21 => ("VillageStoriesModel", "knownOf", "[I", true)
  | 22 => ("VillageStoriesModel", "knownIs", "[I", true)
  | 23 => ("VillageStoriesModel", "knownDay", "[I", true)
  | 24 => ("VillageStoriesModel", "held", "[Z", true)
  | 25 => ("VillageStoriesModel", "holdsPlace", "[Z", true)
  | 26 => ("VillageStoriesModel", "now", "[I", true)
  | 27 => ("VillageStoriesModel", "start", "[I", true)
  | 28 => ("VillageStoriesModel", "is", "[Z", true)
  | 29 => ("VillageStoriesModel", "ahead", "I", false)
  | 30 => ("VillageStoriesModel", "length", "I", false)
  | 31 => ("VillageStoriesModel", "begins", "I", false)
  | 32 => ("VillageStoriesModel", "sort", "I", false)
  | 33 => ("VillageStoriesModel", "value", "I", false)
  | 34 => ("VillageStoriesModel", "word", "J", false)
  | 35 => ("VillageStoriesModel", "wrongAt", "I", false)
  | 36 => ("VillageStoriesModel", "laterFault", "I", false)
  | 37 => ("VillageStoriesModel", "laterPlace", "I", false)
  | 38 => ("VillageStoriesModel", "waiting", "I", false)
  | 39 => ("VillageStoriesModel", "around", "[I", true)
  | 40 => ("VillageStoriesModel", "newParts", "I", false)
  | 41 => ("VillageStoriesModel", "newAct", "[I", true)
  | 42 => ("VillageStoriesModel", "newOne", "[I", true)
  | 43 => ("VillageStoriesModel", "newTwo", "[I", true)
  | 44 => ("VillageStoriesModel", "newThree", "[I", true)
  | 45 => ("VillageStoriesModel", "ready", "[Z", true)
  | 46 => ("VillageStoriesModel", "top", "I", false)
  | 47 => ("VillageStoriesModel", "joined", "[Z", true)
  | 48 => ("VillageStoriesModel", "storiesToldNow", "I", false)
  | 49 => ("VillageStoriesModel", "knownBits", "I", false)
  | 50 => ("VillageStoriesModel", "knownSo", "I", false)
  | 51 => ("VillageStoriesModel", "orderOf", "[I", true)
  | 52 => ("VillageStoriesModel", "leastMen", "I", false)
  | 53 => ("VillageStoriesModel", "leastHouses", "I", false)
  | 54 => ("VillageStoriesModel", "leastDays", "I", false)
  | 55 => ("VillageStoriesModel", "together", "[Z", true)
  | 56 => ("VillageStoriesModel", "often", "[I", true)
  | 57 => ("VillageStoriesModel", "allWorlds", "I", false)
  | 58 => ("VillageStoriesModel", "fewWorlds", "[I", true)
  | 59 => ("VillageStoriesModel", "does", "[Z", true)
  | 60 => ("VillageStoriesModel", "doesNow", "[Z", true)
  | 61 => ("VillageStoriesModel", "yes", "[I", true)
  | _ => ("VillageStoriesModel", "kept", "[Z", true)

def tyX9 : Nat → FieldType := fun k => match k with
  | 0 => .int
  | 1 => .array .byte
  | 2 => .array .int
  | 3 => .array .int
  | 4 => .array .int
  | 5 => .array .int
  | 6 => .array .int
  | 7 => .array .int
  | 8 => .array .int
  | 9 => .array .int
  | 10 => .array .int
  | 11 => .array .boolean
  | 12 => .array .int
  | 13 => .array .int
  | 14 => .array .int
  | 15 => .array .int
  | 16 => .array .int
  | 17 => .array .int
  | 18 => .array .int
  | 19 => .array .int
  | 20 => .array .int
  | 21 => .array .int
  | 22 => .array .int
  | 23 => .array .int
  | 24 => .array .boolean
  | 25 => .array .boolean
  | 26 => .array .int
  | 27 => .array .int
  | 28 => .array .boolean
  | 29 => .int
  | 30 => .int
  | 31 => .int
  | 32 => .int
  | 33 => .int
  | 34 => .long
  | 35 => .int
  | 36 => .int
  | 37 => .int
  | 38 => .int
  | 39 => .array .int
  | 40 => .int
  | 41 => .array .int
  | 42 => .array .int
  | 43 => .array .int
  | 44 => .array .int
  | 45 => .array .boolean
  | 46 => .int
  | 47 => .array .boolean
  | 48 => .int
  | 49 => .int
  | 50 => .int
  | 51 => .array .int
  | 52 => .int
  | 53 => .int
  | 54 => .int
  | 55 => .array .boolean
  | 56 => .array .int
  | 57 => .int
  | 58 => .array .int
  | 59 => .array .boolean
  | 60 => .array .boolean
  | 61 => .array .int
  | _ => .array .boolean

theorem nmX9 : ∀ a, a < 63 → ∀ b, b < 63 → a ≠ b → (TX9 a).2.1 ≠ (TX9 b).2.1 := by decide +kernel
theorem tyX9_ok : ∀ k, k < 63 → parseFieldDescriptor (TX9 k).2.2.1 = some (tyX9 k) := by decide +kernel
abbrev cX9_init : ByteArray := prog_11_method_1_code
abbrev cX9_in : ByteArray := prog_11_method_3_code
abbrev cX9_move : ByteArray := prog_11_method_4_code
abbrev cX9_copy : ByteArray := prog_11_method_5_code
abbrev cX9_sizeOf : ByteArray := prog_11_method_6_code
abbrev cX9_findStarts : ByteArray := prog_11_method_7_code
abbrev cX9_bringSizes : ByteArray := prog_11_method_8_code
abbrev cX9_bringWorld : ByteArray := prog_11_method_9_code
abbrev cX9_manyFacts : ByteArray := prog_11_method_10_code
abbrev cX9_factAt : ByteArray := prog_11_method_11_code
abbrev cX9_isSo : ByteArray := prog_11_method_12_code
abbrev cX9_clearWorld : ByteArray := prog_11_method_13_code
abbrev cX9_size : ByteArray := prog_11_method_14_code
abbrev cX9_relation : ByteArray := prog_11_method_15_code
abbrev cX9_facts : ByteArray := prog_11_method_16_code
abbrev cX9_isRelation : ByteArray := prog_11_method_17_code
abbrev cX9_toldFact : ByteArray := prog_11_method_18_code
abbrev cX9_tell : ByteArray := prog_11_method_19_code
abbrev cX9_fact : ByteArray := prog_11_method_20_code
abbrev cX9_known : ByteArray := prog_11_method_21_code
abbrev cX9_keep : ByteArray := prog_11_method_22_code
abbrev cX9_apart : ByteArray := prog_11_method_23_code
abbrev cX9_ones : ByteArray := prog_11_method_24_code
abbrev cX9_feed : ByteArray := prog_11_method_25_code
abbrev cX9_four : ByteArray := prog_11_method_26_code
abbrev cX9_end : ByteArray := prog_11_method_27_code
abbrev cX9_see : ByteArray := prog_11_method_28_code
abbrev cX9_token : ByteArray := prog_11_method_29_code
abbrev cX9_isWord : ByteArray := prog_11_method_30_code
abbrev cX9_actOf : ByteArray := prog_11_method_31_code
abbrev cX9_varOf : ByteArray := prog_11_method_32_code
abbrev cX9_kindOf : ByteArray := prog_11_method_33_code
abbrev cX9_relOf : ByteArray := prog_11_method_34_code
abbrev cX9_wrong : ByteArray := prog_11_method_35_code
abbrev cX9_later : ByteArray := prog_11_method_36_code
abbrev cX9_bound : ByteArray := prog_11_method_37_code
abbrev cX9_readVar : ByteArray := prog_11_method_38_code
abbrev cX9_wait : ByteArray := prog_11_method_39_code
abbrev cX9_readBinder : ByteArray := prog_11_method_40_code
abbrev cX9_readSame : ByteArray := prog_11_method_41_code
abbrev cX9_readRelation : ByteArray := prog_11_method_42_code
abbrev cX9_readPart : ByteArray := prog_11_method_43_code
abbrev cX9_readText : ByteArray := prog_11_method_44_code
abbrev cX9_keepText : ByteArray := prog_11_method_45_code
abbrev cX9_story : ByteArray := prog_11_method_46_code
abbrev cX9_guess : ByteArray := prog_11_method_47_code
abbrev cX9_fault : ByteArray := prog_11_method_48_code
abbrev cX9_strike : ByteArray := prog_11_method_49_code
abbrev cX9_day : ByteArray := prog_11_method_50_code
abbrev cX9_view : ByteArray := prog_11_method_51_code
abbrev cX9_told : ByteArray := prog_11_method_52_code
abbrev cX9_unit : ByteArray := prog_11_method_53_code
abbrev cX9_valueIn : ByteArray := prog_11_method_54_code
abbrev cX9_findJoined : ByteArray := prog_11_method_55_code
abbrev cX9_isTree : ByteArray := prog_11_method_56_code
abbrev cX9_leaf : ByteArray := prog_11_method_57_code
abbrev cX9_bind : ByteArray := prog_11_method_58_code
abbrev cX9_join : ByteArray := prog_11_method_59_code
abbrev cX9_work : ByteArray := prog_11_method_60_code
abbrev cX9_means : ByteArray := prog_11_method_61_code
abbrev cX9_so : ByteArray := prog_11_method_62_code
abbrev cX9_breaks : ByteArray := prog_11_method_63_code
abbrev cX9_layWorld : ByteArray := prog_11_method_64_code
abbrev cX9_numberOfWorld : ByteArray := prog_11_method_65_code
abbrev cX9_takeWorld : ByteArray := prog_11_method_66_code
abbrev cX9_canTell : ByteArray := prog_11_method_67_code
abbrev cX9_findKnown : ByteArray := prog_11_method_68_code
abbrev cX9_prepare : ByteArray := prog_11_method_69_code
abbrev cX9_isAsKnown : ByteArray := prog_11_method_70_code
abbrev cX9_isWorld : ByteArray := prog_11_method_71_code
abbrev cX9_inOrder : ByteArray := prog_11_method_72_code
abbrev cX9_isOrder : ByteArray := prog_11_method_73_code
abbrev cX9_renamed : ByteArray := prog_11_method_74_code
abbrev cX9_imageOf : ByteArray := prog_11_method_75_code
abbrev cX9_takeOrders : ByteArray := prog_11_method_76_code
abbrev cX9_leastImage : ByteArray := prog_11_method_77_code
abbrev cX9_isForm : ByteArray := prog_11_method_78_code
abbrev cX9_worlds : ByteArray := prog_11_method_79_code
abbrev cX9_forms : ByteArray := prog_11_method_80_code
abbrev cX9_form : ByteArray := prog_11_method_81_code
abbrev cX9_name : ByteArray := prog_11_method_82_code
abbrev cX9_findLeast : ByteArray := prog_11_method_83_code
abbrev cX9_least : ByteArray := prog_11_method_84_code
abbrev cX9_findTogether : ByteArray := prog_11_method_85_code
abbrev cX9_fewestApart : ByteArray := prog_11_method_86_code
abbrev cX9_isTogether : ByteArray := prog_11_method_87_code
abbrev cX9_isLessRow : ByteArray := prog_11_method_88_code
abbrev cX9_core : ByteArray := prog_11_method_89_code
abbrev cX9_numberIn : ByteArray := prog_11_method_90_code
abbrev cX9_countFacts : ByteArray := prog_11_method_91_code
abbrev cX9_sure : ByteArray := prog_11_method_92_code
abbrev cX9_cause : ByteArray := prog_11_method_93_code
abbrev cX9_without : ByteArray := prog_11_method_94_code
abbrev cX9_findYes : ByteArray := prog_11_method_95_code
abbrev cX9_asks : ByteArray := prog_11_method_96_code
abbrev cX9_questions : ByteArray := prog_11_method_97_code
abbrev cX9_settle : ByteArray := prog_11_method_98_code
abbrev cX9_near : ByteArray := prog_11_method_99_code
abbrev cX9_holds : ByteArray := prog_11_method_100_code
abbrev cX9_against : ByteArray := prog_11_method_101_code
abbrev cX9_many : ByteArray := prog_11_method_102_code
abbrev cX9_image : ByteArray := prog_11_method_103_code
abbrev cX9_again : ByteArray := prog_11_method_104_code
def yX9_init : MethodName := ⟨RX9, "<init>", "()V"⟩
def yX9_in : MethodName := ⟨RX9, "in", "(III)Z"⟩
def yX9_move : MethodName := ⟨RX9, "move", "([IIII)V"⟩
def yX9_copy : MethodName := ⟨RX9, "copy", "(II)V"⟩
def yX9_sizeOf : MethodName := ⟨RX9, "sizeOf", "(I)I"⟩
def yX9_findStarts : MethodName := ⟨RX9, "findStarts", "()V"⟩
def yX9_bringSizes : MethodName := ⟨RX9, "bringSizes", "()V"⟩
def yX9_bringWorld : MethodName := ⟨RX9, "bringWorld", "()V"⟩
def yX9_manyFacts : MethodName := ⟨RX9, "manyFacts", "()I"⟩
def yX9_factAt : MethodName := ⟨RX9, "factAt", "(III)I"⟩
def yX9_isSo : MethodName := ⟨RX9, "isSo", "(III)Z"⟩
def yX9_clearWorld : MethodName := ⟨RX9, "clearWorld", "()V"⟩
def yX9_size : MethodName := ⟨RX9, "size", "(II)Z"⟩
def yX9_relation : MethodName := ⟨RX9, "relation", "(II)I"⟩
def yX9_facts : MethodName := ⟨RX9, "facts", "()I"⟩
def yX9_isRelation : MethodName := ⟨RX9, "isRelation", "(I)Z"⟩
def yX9_toldFact : MethodName := ⟨RX9, "toldFact", "(III)I"⟩
def yX9_tell : MethodName := ⟨RX9, "tell", "(IIIZ)Z"⟩
def yX9_fact : MethodName := ⟨RX9, "fact", "(III)I"⟩
def yX9_known : MethodName := ⟨RX9, "known", "(IIIZ)Z"⟩
def yX9_keep : MethodName := ⟨RX9, "keep", "(I)Z"⟩
def yX9_apart : MethodName := ⟨RX9, "apart", "(I)I"⟩
def yX9_ones : MethodName := ⟨RX9, "ones", "(I)I"⟩
def yX9_feed : MethodName := ⟨RX9, "feed", "(IIIII)I"⟩
def yX9_four : MethodName := ⟨RX9, "four", "(I)V"⟩
def yX9_end : MethodName := ⟨RX9, "end", "(I)I"⟩
def yX9_see : MethodName := ⟨RX9, "see", "()I"⟩
def yX9_token : MethodName := ⟨RX9, "token", "()V"⟩
def yX9_isWord : MethodName := ⟨RX9, "isWord", "(J)Z"⟩
def yX9_actOf : MethodName := ⟨RX9, "actOf", "()I"⟩
def yX9_varOf : MethodName := ⟨RX9, "varOf", "()I"⟩
def yX9_kindOf : MethodName := ⟨RX9, "kindOf", "()I"⟩
def yX9_relOf : MethodName := ⟨RX9, "relOf", "()I"⟩
def yX9_wrong : MethodName := ⟨RX9, "wrong", "()I"⟩
def yX9_later : MethodName := ⟨RX9, "later", "(II)V"⟩
def yX9_bound : MethodName := ⟨RX9, "bound", "(II)I"⟩
def yX9_readVar : MethodName := ⟨RX9, "readVar", "(II)I"⟩
def yX9_wait : MethodName := ⟨RX9, "wait", "(I)V"⟩
def yX9_readBinder : MethodName := ⟨RX9, "readBinder", "(II)Z"⟩
def yX9_readSame : MethodName := ⟨RX9, "readSame", "(II)Z"⟩
def yX9_readRelation : MethodName := ⟨RX9, "readRelation", "(II)Z"⟩
def yX9_readPart : MethodName := ⟨RX9, "readPart", "(I)Z"⟩
def yX9_readText : MethodName := ⟨RX9, "readText", "()Z"⟩
def yX9_keepText : MethodName := ⟨RX9, "keepText", "(I)V"⟩
def yX9_story : MethodName := ⟨RX9, "story", "()I"⟩
def yX9_guess : MethodName := ⟨RX9, "guess", "()I"⟩
def yX9_fault : MethodName := ⟨RX9, "fault", "(I)I"⟩
def yX9_strike : MethodName := ⟨RX9, "strike", "(I)Z"⟩
def yX9_day : MethodName := ⟨RX9, "day", "(I)Z"⟩
def yX9_view : MethodName := ⟨RX9, "view", "(I)Z"⟩
def yX9_told : MethodName := ⟨RX9, "told", "()I"⟩
def yX9_unit : MethodName := ⟨RX9, "unit", "(I)I"⟩
def yX9_valueIn : MethodName := ⟨RX9, "valueIn", "(II)I"⟩
def yX9_findJoined : MethodName := ⟨RX9, "findJoined", "(I)V"⟩
def yX9_isTree : MethodName := ⟨RX9, "isTree", "(I)Z"⟩
def yX9_leaf : MethodName := ⟨RX9, "leaf", "(I)V"⟩
def yX9_bind : MethodName := ⟨RX9, "bind", "(I)V"⟩
def yX9_join : MethodName := ⟨RX9, "join", "(I)V"⟩
def yX9_work : MethodName := ⟨RX9, "work", "(II)V"⟩
def yX9_means : MethodName := ⟨RX9, "means", "(I)Z"⟩
def yX9_so : MethodName := ⟨RX9, "so", "(I)I"⟩
def yX9_breaks : MethodName := ⟨RX9, "breaks", "(II)I"⟩
def yX9_layWorld : MethodName := ⟨RX9, "layWorld", "(I)V"⟩
def yX9_numberOfWorld : MethodName := ⟨RX9, "numberOfWorld", "()I"⟩
def yX9_takeWorld : MethodName := ⟨RX9, "takeWorld", "(I)V"⟩
def yX9_canTell : MethodName := ⟨RX9, "canTell", "()Z"⟩
def yX9_findKnown : MethodName := ⟨RX9, "findKnown", "()V"⟩
def yX9_prepare : MethodName := ⟨RX9, "prepare", "()V"⟩
def yX9_isAsKnown : MethodName := ⟨RX9, "isAsKnown", "(I)Z"⟩
def yX9_isWorld : MethodName := ⟨RX9, "isWorld", "(I)Z"⟩
def yX9_inOrder : MethodName := ⟨RX9, "inOrder", "(II)I"⟩
def yX9_isOrder : MethodName := ⟨RX9, "isOrder", "(II)Z"⟩
def yX9_renamed : MethodName := ⟨RX9, "renamed", "(II)I"⟩
def yX9_imageOf : MethodName := ⟨RX9, "imageOf", "()I"⟩
def yX9_takeOrders : MethodName := ⟨RX9, "takeOrders", "(I)Z"⟩
def yX9_leastImage : MethodName := ⟨RX9, "leastImage", "()I"⟩
def yX9_isForm : MethodName := ⟨RX9, "isForm", "(I)Z"⟩
def yX9_worlds : MethodName := ⟨RX9, "worlds", "()I"⟩
def yX9_forms : MethodName := ⟨RX9, "forms", "()I"⟩
def yX9_form : MethodName := ⟨RX9, "form", "(I)Z"⟩
def yX9_name : MethodName := ⟨RX9, "name", "()Z"⟩
def yX9_findLeast : MethodName := ⟨RX9, "findLeast", "()Z"⟩
def yX9_least : MethodName := ⟨RX9, "least", "(I)I"⟩
def yX9_findTogether : MethodName := ⟨RX9, "findTogether", "(IZ)V"⟩
def yX9_fewestApart : MethodName := ⟨RX9, "fewestApart", "()I"⟩
def yX9_isTogether : MethodName := ⟨RX9, "isTogether", "(I)Z"⟩
def yX9_isLessRow : MethodName := ⟨RX9, "isLessRow", "(II)Z"⟩
def yX9_core : MethodName := ⟨RX9, "core", "(I)I"⟩
def yX9_numberIn : MethodName := ⟨RX9, "numberIn", "(II)I"⟩
def yX9_countFacts : MethodName := ⟨RX9, "countFacts", "()V"⟩
def yX9_sure : MethodName := ⟨RX9, "sure", "(III)I"⟩
def yX9_cause : MethodName := ⟨RX9, "cause", "(IIII)I"⟩
def yX9_without : MethodName := ⟨RX9, "without", "(I)I"⟩
def yX9_findYes : MethodName := ⟨RX9, "findYes", "(I)V"⟩
def yX9_asks : MethodName := ⟨RX9, "asks", "(I)Z"⟩
def yX9_questions : MethodName := ⟨RX9, "questions", "()I"⟩
def yX9_settle : MethodName := ⟨RX9, "settle", "(I)I"⟩
def yX9_near : MethodName := ⟨RX9, "near", "()I"⟩
def yX9_holds : MethodName := ⟨RX9, "holds", "(I)I"⟩
def yX9_against : MethodName := ⟨RX9, "against", "()Z"⟩
def yX9_many : MethodName := ⟨RX9, "many", "(I)I"⟩
def yX9_image : MethodName := ⟨RX9, "image", "(I)Z"⟩
def yX9_again : MethodName := ⟨RX9, "again", "(I)Z"⟩
def RJ6 : String := "java/lang/Integer"
def TJ6 : u_T := fun k => match k with
  | _ => ("", "", "", false)

def tyJ6 : Nat → FieldType := fun k => match k with
  | _ => .int

theorem nmJ6 : ∀ a, a < 0 → ∀ b, b < 0 → a ≠ b → (TJ6 a).2.1 ≠ (TJ6 b).2.1 := by decide +kernel
theorem tyJ6_ok : ∀ k, k < 0 → parseFieldDescriptor (TJ6 k).2.2.1 = some (tyJ6 k) := by decide +kernel
abbrev cJ6_bitCount_0f7a4 : ByteArray := prog_12_method_49_code
def yJ6_bitCount_0f7a4 : MethodName := ⟨RJ6, "bitCount", "(I)I"⟩
def RJ13 : String := "java/lang/Long"
def TJ13 : u_T := fun k => match k with
  | _ => ("", "", "", false)

def tyJ13 : Nat → FieldType := fun k => match k with
  | _ => .int

theorem nmJ13 : ∀ a, a < 0 → ∀ b, b < 0 → a ≠ b → (TJ13 a).2.1 ≠ (TJ13 b).2.1 := by decide +kernel
theorem tyJ13_ok : ∀ k, k < 0 → parseFieldDescriptor (TJ13 k).2.2.1 = some (tyJ13 k) := by decide +kernel
abbrev cJ13_bitCount_95d88 : ByteArray := prog_13_method_50_code
def yJ13_bitCount_95d88 : MethodName := ⟨RJ13, "bitCount", "(J)I"⟩
def RJ9 : String := "java/lang/Math"
def TJ9 : u_T := fun k => match k with
  | _ => ("", "", "", false)

def tyJ9 : Nat → FieldType := fun k => match k with
  | _ => .int

theorem nmJ9 : ∀ a, a < 0 → ∀ b, b < 0 → a ≠ b → (TJ9 a).2.1 ≠ (TJ9 b).2.1 := by decide +kernel
theorem tyJ9_ok : ∀ k, k < 0 → parseFieldDescriptor (TJ9 k).2.2.1 = some (tyJ9 k) := by decide +kernel
abbrev cJ9_max_7cf53 : ByteArray := prog_14_method_65_code
abbrev cJ9_min_7cf53 : ByteArray := prog_14_method_69_code
def yJ9_max_7cf53 : MethodName := ⟨RJ9, "max", "(II)I"⟩
def yJ9_min_7cf53 : MethodName := ⟨RJ9, "min", "(II)I"⟩
def RJ0 : String := "java/lang/String"
def TJ0 : u_T := fun k => match k with
  | _ => ("", "", "", false)

def tyJ0 : Nat → FieldType := fun k => match k with
  | _ => .int

theorem nmJ0 : ∀ a, a < 0 → ∀ b, b < 0 → a ≠ b → (TJ0 a).2.1 ≠ (TJ0 b).2.1 := by decide +kernel
theorem tyJ0_ok : ∀ k, k < 0 → parseFieldDescriptor (TJ0 k).2.2.1 = some (tyJ0 k) := by decide +kernel
abbrev cJ0_length_8abf5 : ByteArray := prog_15_method_54_code
abbrev cJ0_charAt_5068e : ByteArray := prog_15_method_56_code
abbrev cJ0_coder_7d493 : ByteArray := prog_15_method_152_code
abbrev cJ0_isLatin1_aae02 : ByteArray := prog_15_method_154_code
abbrev cJ0_checkIndex_df160 : ByteArray := prog_15_method_155_code
def yJ0_length_8abf5 : MethodName := ⟨RJ0, "length", "()I"⟩
def yJ0_charAt_5068e : MethodName := ⟨RJ0, "charAt", "(I)C"⟩
def yJ0_coder_7d493 : MethodName := ⟨RJ0, "coder", "()B"⟩
def yJ0_isLatin1_aae02 : MethodName := ⟨RJ0, "isLatin1", "()Z"⟩
def yJ0_checkIndex_df160 : MethodName := ⟨RJ0, "checkIndex", "(II)V"⟩
def RJ1 : String := "java/lang/StringLatin1"
def TJ1 : u_T := fun k => match k with
  | _ => ("", "", "", false)

def tyJ1 : Nat → FieldType := fun k => match k with
  | _ => .int

theorem nmJ1 : ∀ a, a < 0 → ∀ b, b < 0 → a ≠ b → (TJ1 a).2.1 ≠ (TJ1 b).2.1 := by decide +kernel
theorem tyJ1_ok : ∀ k, k < 0 → parseFieldDescriptor (TJ1 k).2.2.1 = some (tyJ1 k) := by decide +kernel
abbrev cJ1_charAt_3b067 : ByteArray := prog_16_method_2_code
def yJ1_charAt_3b067 : MethodName := ⟨RJ1, "charAt", "([BI)C"⟩
def RJ2 : String := "java/lang/StringUTF16"
def TJ2 : u_T := fun k => match k with
  | _ => ("", "", "", false)

def tyJ2 : Nat → FieldType := fun k => match k with
  | _ => .int

theorem nmJ2 : ∀ a, a < 0 → ∀ b, b < 0 → a ≠ b → (TJ2 a).2.1 ≠ (TJ2 b).2.1 := by decide +kernel
theorem tyJ2_ok : ∀ k, k < 0 → parseFieldDescriptor (TJ2 k).2.2.1 = some (tyJ2 k) := by decide +kernel
abbrev cJ2_getChar_3b067 : ByteArray := prog_17_method_5_code
abbrev cJ2_length_9d52b : ByteArray := prog_17_method_6_code
abbrev cJ2_charAt_3b067 : ByteArray := prog_17_method_83_code
abbrev cJ2_checkIndex_2214a : ByteArray := prog_17_method_91_code
def yJ2_getChar_3b067 : MethodName := ⟨RJ2, "getChar", "([BI)C"⟩
def yJ2_length_9d52b : MethodName := ⟨RJ2, "length", "([B)I"⟩
def yJ2_charAt_3b067 : MethodName := ⟨RJ2, "charAt", "([BI)C"⟩
def yJ2_checkIndex_2214a : MethodName := ⟨RJ2, "checkIndex", "(I[B)V"⟩
def RJ10 : String := "java/lang/System"
def TJ10 : u_T := fun k => match k with
  | _ => ("", "", "", false)

def tyJ10 : Nat → FieldType := fun k => match k with
  | _ => .int

theorem nmJ10 : ∀ a, a < 0 → ∀ b, b < 0 → a ≠ b → (TJ10 a).2.1 ≠ (TJ10 b).2.1 := by decide +kernel
theorem tyJ10_ok : ∀ k, k < 0 → parseFieldDescriptor (TJ10 k).2.2.1 = some (tyJ10 k) := by decide +kernel
def RJ3 : String := "jdk/internal/util/Preconditions"
def TJ3 : u_T := fun k => match k with
  | _ => ("", "", "", false)

def tyJ3 : Nat → FieldType := fun k => match k with
  | _ => .int

theorem nmJ3 : ∀ a, a < 0 → ∀ b, b < 0 → a ≠ b → (TJ3 a).2.1 ≠ (TJ3 b).2.1 := by decide +kernel
theorem tyJ3_ok : ∀ k, k < 0 → parseFieldDescriptor (TJ3 k).2.2.1 = some (tyJ3 k) := by decide +kernel
abbrev cJ3_checkIndex_8e157 : ByteArray := prog_19_method_11_code
def yJ3_checkIndex_8e157 : MethodName := ⟨RJ3, "checkIndex", "(IILjava/util/function/BiFunction;)I"⟩
abbrev vwCl : List vw_C := [(RX0, TX0, 6), (RX1, TX1, 8), (RX2, TX2, 12), (RX3, TX3, 8), (RX4, TX4, 12), (RX5, TX5, 6), (RX6, TX6, 19), (RX7, TX7, 3), (RX8, TX8, 5), (RX9, TX9, 63)]
/-- the tables' words that keep -/
def tblG : List Cond := lw_tbl.filter goodWord
theorem inG1 {w : Cond} (i : Nat) (h : lw_tbl[i]? = some w) (g : goodWord w = true) : w ∈ tblG := List.mem_filter.mpr ⟨List.mem_of_getElem? h, g⟩
theorem inG_r (ws : List Cond) (ps : List Nat) (hp : ws = ps.filterMap (fun i => lw_tbl[i]?)) (h : ws.all goodWord = true) : ∀ w ∈ ws, w ∈ tblG := by
  intro w hw
  have h1 := List.all_eq_true.mp h w hw
  rw [hp] at hw
  obtain ⟨i, -, hi⟩ := List.mem_filterMap.mp hw
  exact inG1 i hi h1
theorem tblG_good : ∀ w ∈ tblG, goodWord w = true := fun w h => (List.mem_filter.mp h).2
theorem tblG_tbl : ∀ w ∈ tblG, w ∈ lw_tbl := fun w h => (List.mem_filter.mp h).1
theorem goodWs {y : MethodName} {b : ByteArray} {n : Nat} {r : Option FieldType} (h : Cond.code y b n r ∈ tblG) : GoodIn tblG (Cond.code y b n r :: tblG) := by
  intro w hw
  rcases List.mem_cons.mp hw with e | e
  · rw [e]; exact ⟨h, good_of_word (tblG_good _ h)⟩
  · exact ⟨e, good_of_word (tblG_good _ e)⟩
theorem inX0 : ∀ w ∈ u_ws RX0 TX0 6, w ∈ tblG := inG_r _ [300, 302, 304, 306, 308, 310] (by decide +kernel) (by decide +kernel)
theorem inX1 : ∀ w ∈ u_ws RX1 TX1 8, w ∈ tblG := inG_r _ [344, 346, 348, 350, 352, 354, 356, 358] (by decide +kernel) (by decide +kernel)
theorem inX2 : ∀ w ∈ u_ws RX2 TX2 12, w ∈ tblG := inG_r _ [459, 461, 463, 465, 467, 469, 471, 473, 475, 477, 479, 481] (by decide +kernel) (by decide +kernel)
theorem inX3 : ∀ w ∈ u_ws RX3 TX3 8, w ∈ tblG := inG_r _ [186, 188, 190, 192, 194, 196, 198, 200] (by decide +kernel) (by decide +kernel)
theorem inX4 : ∀ w ∈ u_ws RX4 TX4 12, w ∈ tblG := inG_r _ [380, 382, 384, 386, 388, 390, 392, 394, 396, 398, 400, 402] (by decide +kernel) (by decide +kernel)
theorem inX5 : ∀ w ∈ u_ws RX5 TX5 6, w ∈ tblG := inG_r _ [434, 436, 438, 440, 442, 444] (by decide +kernel) (by decide +kernel)
theorem inX6 : ∀ w ∈ u_ws RX6 TX6 19, w ∈ tblG := inG_r _ [247, 249, 251, 253, 255, 257, 259, 261, 263, 265, 267, 269, 271, 273, 275, 277, 279, 281, 283] (by decide +kernel) (by decide +kernel)
theorem inX7 : ∀ w ∈ u_ws RX7 TX7 3, w ∈ tblG := inG_r _ [329, 331, 333] (by decide +kernel) (by decide +kernel)
theorem inX8 : ∀ w ∈ u_ws RX8 TX8 5, w ∈ tblG := inG_r _ [492, 494, 496, 498, 500] (by decide +kernel) (by decide +kernel)
theorem inX9 : ∀ w ∈ u_ws RX9 TX9 63, w ∈ tblG := inG_r _ [1360, 1362, 1364, 1366, 1368, 1370, 1372, 1374, 1376, 1378, 1380, 1382, 1384, 1386, 1388, 1390, 1392, 1394, 1396, 1398, 1400, 1402, 1404, 1406, 1408, 1410, 1412, 1414, 1416, 1418, 1420, 1422, 1424, 1426, 1428, 1430, 1432, 1434, 1436, 1438, 1440, 1442, 1444, 1446, 1448, 1450, 1452, 1454, 1456, 1458, 1460, 1462, 1464, 1466, 1468, 1470, 1472, 1474, 1476, 1478, 1480, 1482, 1484] (by decide +kernel) (by decide +kernel)
set_option maxRecDepth 400000 in
theorem tw_0 : Cond.selects "VillageStories$Shape" ⟨"VillageStories$Shape", "layOut", "()V"⟩ ⟨"VillageStories$Shape", "layOut", "()V"⟩ ∈ tblG := inG1 0 (by rfl) rfl
set_option maxRecDepth 400000 in
theorem tw_1 : Cond.selects "VillageStories$Solver" ⟨"VillageStories$Solver", "canTell", "()Z"⟩ ⟨"VillageStories$Solver", "canTell", "()Z"⟩ ∈ tblG := inG1 1 (by rfl) rfl
set_option maxRecDepth 400000 in
theorem tw_2 : Cond.selects "VillageStories$OtherNumbers" ⟨"VillageStories$OtherNumbers", "layOut", "(LVillageStories$Shape;)V"⟩ ⟨"VillageStories$OtherNumbers", "layOut", "(LVillageStories$Shape;)V"⟩ ∈ tblG := inG1 2 (by rfl) rfl
set_option maxRecDepth 400000 in
theorem tw_3 : Cond.selects "VillageStories$OtherNumbers" ⟨"VillageStories$OtherNumbers", "addWay", "(LVillageStories$Shape;)V"⟩ ⟨"VillageStories$OtherNumbers", "addWay", "(LVillageStories$Shape;)V"⟩ ∈ tblG := inG1 3 (by rfl) rfl
set_option maxRecDepth 400000 in
theorem tw_4 : Cond.selects "VillageStories$OtherNumbers" ⟨"VillageStories$OtherNumbers", "ordered", "(II)I"⟩ ⟨"VillageStories$OtherNumbers", "ordered", "(II)I"⟩ ∈ tblG := inG1 4 (by rfl) rfl
set_option maxRecDepth 400000 in
theorem tw_5 : Cond.selects "VillageStories$OtherNumbers" ⟨"VillageStories$OtherNumbers", "renumbered", "(II)I"⟩ ⟨"VillageStories$OtherNumbers", "renumbered", "(II)I"⟩ ∈ tblG := inG1 5 (by rfl) rfl
set_option maxRecDepth 400000 in
theorem tw_6 : Cond.selects "VillageStories$Reader" ⟨"VillageStories$Reader", "expectPart", "(I)V"⟩ ⟨"VillageStories$Reader", "expectPart", "(I)V"⟩ ∈ tblG := inG1 6 (by rfl) rfl
set_option maxRecDepth 400000 in
theorem tw_7 : Cond.selects "VillageStories$Reader" ⟨"VillageStories$Reader", "advance", "()V"⟩ ⟨"VillageStories$Reader", "advance", "()V"⟩ ∈ tblG := inG1 7 (by rfl) rfl
set_option maxRecDepth 400000 in
theorem tw_8 : Cond.selects "VillageStories$Reader" ⟨"VillageStories$Reader", "isLetter", "(I)Z"⟩ ⟨"VillageStories$Reader", "isLetter", "(I)Z"⟩ ∈ tblG := inG1 8 (by rfl) rfl
set_option maxRecDepth 400000 in
theorem tw_9 : Cond.selects "VillageStories$Reader" ⟨"VillageStories$Reader", "isDigit", "(I)Z"⟩ ⟨"VillageStories$Reader", "isDigit", "(I)Z"⟩ ∈ tblG := inG1 9 (by rfl) rfl
set_option maxRecDepth 400000 in
theorem tw_10 : Cond.selects "VillageStories$Reader" ⟨"VillageStories$Reader", "readPart", "()V"⟩ ⟨"VillageStories$Reader", "readPart", "()V"⟩ ∈ tblG := inG1 10 (by rfl) rfl
set_option maxRecDepth 400000 in
theorem tw_11 : Cond.selects "VillageStories$Reader" ⟨"VillageStories$Reader", "firstWord", "()I"⟩ ⟨"VillageStories$Reader", "firstWord", "()I"⟩ ∈ tblG := inG1 11 (by rfl) rfl
set_option maxRecDepth 400000 in
theorem tw_12 : Cond.selects "VillageStories$Reader" ⟨"VillageStories$Reader", "isWord", "(Ljava/lang/String;)Z"⟩ ⟨"VillageStories$Reader", "isWord", "(Ljava/lang/String;)Z"⟩ ∈ tblG := inG1 12 (by rfl) rfl
set_option maxRecDepth 400000 in
theorem tw_13 : Cond.selects "VillageStories$Reader" ⟨"VillageStories$Reader", "oneLetter", "()I"⟩ ⟨"VillageStories$Reader", "oneLetter", "()I"⟩ ∈ tblG := inG1 13 (by rfl) rfl
set_option maxRecDepth 400000 in
theorem tw_14 : Cond.selects "VillageStories$Reader" ⟨"VillageStories$Reader", "refuse", "()V"⟩ ⟨"VillageStories$Reader", "refuse", "()V"⟩ ∈ tblG := inG1 14 (by rfl) rfl
set_option maxRecDepth 400000 in
theorem tw_15 : Cond.selects "VillageStories$Reader" ⟨"VillageStories$Reader", "note", "(II)V"⟩ ⟨"VillageStories$Reader", "note", "(II)V"⟩ ∈ tblG := inG1 15 (by rfl) rfl
set_option maxRecDepth 400000 in
theorem tw_16 : Cond.selects "VillageStories$Reader" ⟨"VillageStories$Reader", "readBinder", "(II)V"⟩ ⟨"VillageStories$Reader", "readBinder", "(II)V"⟩ ∈ tblG := inG1 16 (by rfl) rfl
set_option maxRecDepth 400000 in
theorem tw_17 : Cond.selects "VillageStories$Reader" ⟨"VillageStories$Reader", "takeNumber", "()I"⟩ ⟨"VillageStories$Reader", "takeNumber", "()I"⟩ ∈ tblG := inG1 17 (by rfl) rfl
set_option maxRecDepth 400000 in
theorem tw_18 : Cond.selects "VillageStories$Reader" ⟨"VillageStories$Reader", "takeVariable", "()I"⟩ ⟨"VillageStories$Reader", "takeVariable", "()I"⟩ ∈ tblG := inG1 18 (by rfl) rfl
set_option maxRecDepth 400000 in
theorem tw_19 : Cond.selects "VillageStories$Reader" ⟨"VillageStories$Reader", "takeKind", "()I"⟩ ⟨"VillageStories$Reader", "takeKind", "()I"⟩ ∈ tblG := inG1 19 (by rfl) rfl
set_option maxRecDepth 400000 in
theorem tw_20 : Cond.selects "VillageStories$Reader" ⟨"VillageStories$Reader", "readJoint", "(II)V"⟩ ⟨"VillageStories$Reader", "readJoint", "(II)V"⟩ ∈ tblG := inG1 20 (by rfl) rfl
set_option maxRecDepth 400000 in
theorem tw_21 : Cond.selects "VillageStories$Reader" ⟨"VillageStories$Reader", "readSame", "(I)V"⟩ ⟨"VillageStories$Reader", "readSame", "(I)V"⟩ ∈ tblG := inG1 21 (by rfl) rfl
set_option maxRecDepth 400000 in
theorem tw_22 : Cond.selects "VillageStories$Reader" ⟨"VillageStories$Reader", "takeBound", "(II)I"⟩ ⟨"VillageStories$Reader", "takeBound", "(II)I"⟩ ∈ tblG := inG1 22 (by rfl) rfl
set_option maxRecDepth 400000 in
theorem tw_23 : Cond.selects "VillageStories$Reader" ⟨"VillageStories$Reader", "readReach", "(I)V"⟩ ⟨"VillageStories$Reader", "readReach", "(I)V"⟩ ∈ tblG := inG1 23 (by rfl) rfl
set_option maxRecDepth 400000 in
theorem tw_24 : Cond.selects "VillageStories$Reader" ⟨"VillageStories$Reader", "takeRoad", "()I"⟩ ⟨"VillageStories$Reader", "takeRoad", "()I"⟩ ∈ tblG := inG1 24 (by rfl) rfl
set_option maxRecDepth 400000 in
theorem tw_25 : Cond.selects "VillageStories$Reader" ⟨"VillageStories$Reader", "takeRelation", "()I"⟩ ⟨"VillageStories$Reader", "takeRelation", "()I"⟩ ∈ tblG := inG1 25 (by rfl) rfl
set_option maxRecDepth 400000 in
theorem tw_26 : Cond.selects "VillageStories$Reader" ⟨"VillageStories$Reader", "readTree", "()V"⟩ ⟨"VillageStories$Reader", "readTree", "()V"⟩ ∈ tblG := inG1 26 (by rfl) rfl
set_option maxRecDepth 400000 in
theorem tw_27 : Cond.selects "VillageStories$Reader" ⟨"VillageStories$Reader", "readFact", "(I)V"⟩ ⟨"VillageStories$Reader", "readFact", "(I)V"⟩ ∈ tblG := inG1 27 (by rfl) rfl
set_option maxRecDepth 400000 in
theorem tw_28 : Cond.selects "VillageStories$Text" ⟨"VillageStories$Text", "findBehind", "()V"⟩ ⟨"VillageStories$Text", "findBehind", "()V"⟩ ∈ tblG := inG1 28 (by rfl) rfl
set_option maxRecDepth 400000 in
theorem tw_29 : Cond.selects "VillageStories$Judge" ⟨"VillageStories$Judge", "takeWorld", "(LVillageStories$Shape;LVillageStories$Text;J)V"⟩ ⟨"VillageStories$Judge", "takeWorld", "(LVillageStories$Shape;LVillageStories$Text;J)V"⟩ ∈ tblG := inG1 29 (by rfl) rfl
set_option maxRecDepth 400000 in
theorem tw_30 : Cond.selects "VillageStories$Judge" ⟨"VillageStories$Judge", "judged", "(II)J"⟩ ⟨"VillageStories$Judge", "judged", "(II)J"⟩ ∈ tblG := inG1 30 (by rfl) rfl
set_option maxRecDepth 400000 in
theorem tw_31 : Cond.selects "VillageStories$Judge" ⟨"VillageStories$Judge", "counted", "(II)J"⟩ ⟨"VillageStories$Judge", "counted", "(II)J"⟩ ∈ tblG := inG1 31 (by rfl) rfl
set_option maxRecDepth 400000 in
theorem tw_32 : Cond.selects "VillageStories$Judge" ⟨"VillageStories$Judge", "sizeAt", "(I)I"⟩ ⟨"VillageStories$Judge", "sizeAt", "(I)I"⟩ ∈ tblG := inG1 32 (by rfl) rfl
set_option maxRecDepth 400000 in
theorem tw_33 : Cond.selects "VillageStories$Judge" ⟨"VillageStories$Judge", "joined", "(II)J"⟩ ⟨"VillageStories$Judge", "joined", "(II)J"⟩ ∈ tblG := inG1 33 (by rfl) rfl
set_option maxRecDepth 400000 in
theorem tw_34 : Cond.selects "VillageStories$Judge" ⟨"VillageStories$Judge", "slot", "(I)I"⟩ ⟨"VillageStories$Judge", "slot", "(I)I"⟩ ∈ tblG := inG1 34 (by rfl) rfl
set_option maxRecDepth 400000 in
theorem tw_35 : Cond.selects "VillageStories$Judge" ⟨"VillageStories$Judge", "reached", "(III)J"⟩ ⟨"VillageStories$Judge", "reached", "(III)J"⟩ ∈ tblG := inG1 35 (by rfl) rfl
set_option maxRecDepth 400000 in
theorem tw_36 : Cond.selects "VillageStories$Judge" ⟨"VillageStories$Judge", "findPaths", "(I)V"⟩ ⟨"VillageStories$Judge", "findPaths", "(I)V"⟩ ∈ tblG := inG1 36 (by rfl) rfl
set_option maxRecDepth 400000 in
theorem tw_37 : Cond.selects "VillageStories$Judge" ⟨"VillageStories$Judge", "treeLike", "(I)J"⟩ ⟨"VillageStories$Judge", "treeLike", "(I)J"⟩ ∈ tblG := inG1 37 (by rfl) rfl
set_option maxRecDepth 400000 in
theorem tw_38 : Cond.selects "VillageStories$Judge" ⟨"VillageStories$Judge", "factAt", "(III)J"⟩ ⟨"VillageStories$Judge", "factAt", "(III)J"⟩ ∈ tblG := inG1 38 (by rfl) rfl
set_option maxRecDepth 400000 in
theorem tw_39 : Cond.selects "VillageStories$Judge" ⟨"VillageStories$Judge", "chooseNext", "(I)V"⟩ ⟨"VillageStories$Judge", "chooseNext", "(I)V"⟩ ∈ tblG := inG1 39 (by rfl) rfl
set_option maxRecDepth 400000 in
theorem tw_40 : Cond.selects "VillageStories$Solver" ⟨"VillageStories$Solver", "lookUp", "()Z"⟩ ⟨"VillageStories$Solver", "lookUp", "()Z"⟩ ∈ tblG := inG1 40 (by rfl) rfl
set_option maxRecDepth 400000 in
theorem tw_41 : Cond.selects "VillageStories$Solver" ⟨"VillageStories$Solver", "findPossible", "()V"⟩ ⟨"VillageStories$Solver", "findPossible", "()V"⟩ ∈ tblG := inG1 41 (by rfl) rfl
set_option maxRecDepth 400000 in
theorem tw_42 : Cond.selects "VillageStories$Told" ⟨"VillageStories$Told", "viewedDay", "()I"⟩ ⟨"VillageStories$Told", "viewedDay", "()I"⟩ ∈ tblG := inG1 42 (by rfl) rfl
set_option maxRecDepth 400000 in
theorem tw_43 : Cond.selects "VillageStories$Solver" ⟨"VillageStories$Solver", "truth", "(ILVillageStories$Text;)LVillageStories$WorldSet;"⟩ ⟨"VillageStories$Solver", "truth", "(ILVillageStories$Text;)LVillageStories$WorldSet;"⟩ ∈ tblG := inG1 43 (by rfl) rfl
set_option maxRecDepth 400000 in
theorem tw_44 : Cond.selects "VillageStories$Solver" ⟨"VillageStories$Solver", "pickForms", "()V"⟩ ⟨"VillageStories$Solver", "pickForms", "()V"⟩ ∈ tblG := inG1 44 (by rfl) rfl
set_option maxRecDepth 400000 in
theorem tw_45 : Cond.selects "VillageStories$OtherNumbers" ⟨"VillageStories$OtherNumbers", "markLeastOnes", "()V"⟩ ⟨"VillageStories$OtherNumbers", "markLeastOnes", "()V"⟩ ∈ tblG := inG1 45 (by rfl) rfl
set_option maxRecDepth 400000 in
theorem tw_46 : Cond.selects "VillageStories" ⟨"VillageStories", "becomes", "(I)Z"⟩ ⟨"VillageStories", "becomes", "(I)Z"⟩ ∈ tblG := inG1 46 (by rfl) rfl
set_option maxRecDepth 400000 in
theorem tw_47 : Cond.selects "VillageStories$Solver" ⟨"VillageStories$Solver", "findLeastSizes", "(I)V"⟩ ⟨"VillageStories$Solver", "findLeastSizes", "(I)V"⟩ ∈ tblG := inG1 47 (by rfl) rfl
set_option maxRecDepth 400000 in
theorem tw_48 : Cond.selects "VillageStories$Solver" ⟨"VillageStories$Solver", "fits", "(IIII)Z"⟩ ⟨"VillageStories$Solver", "fits", "(IIII)Z"⟩ ∈ tblG := inG1 48 (by rfl) rfl
set_option maxRecDepth 400000 in
theorem tw_49 : Cond.selects "VillageStories$Solver" ⟨"VillageStories$Solver", "fewestAgainst", "(LVillageStories$WorldSet;)I"⟩ ⟨"VillageStories$Solver", "fewestAgainst", "(LVillageStories$WorldSet;)I"⟩ ∈ tblG := inG1 49 (by rfl) rfl
set_option maxRecDepth 400000 in
theorem tw_50 : Cond.selects "VillageStories$Solver" ⟨"VillageStories$Solver", "leavesNothing", "(LVillageStories$WorldSet;I)Z"⟩ ⟨"VillageStories$Solver", "leavesNothing", "(LVillageStories$WorldSet;I)Z"⟩ ∈ tblG := inG1 50 (by rfl) rfl
set_option maxRecDepth 400000 in
theorem tw_51 : Cond.selects "VillageStories$Solver" ⟨"VillageStories$Solver", "takeAsked", "()I"⟩ ⟨"VillageStories$Solver", "takeAsked", "()I"⟩ ∈ tblG := inG1 51 (by rfl) rfl
set_option maxRecDepth 400000 in
theorem tw_52 : Cond.selects "VillageStories$Told" ⟨"VillageStories$Told", "copyWorlds", "(LVillageStories$Told;)V"⟩ ⟨"VillageStories$Told", "copyWorlds", "(LVillageStories$Told;)V"⟩ ∈ tblG := inG1 52 (by rfl) rfl
set_option maxRecDepth 400000 in
theorem tw_53 : Cond.selects "VillageStories$Told" ⟨"VillageStories$Told", "copyStories", "(LVillageStories$Told;)V"⟩ ⟨"VillageStories$Told", "copyStories", "(LVillageStories$Told;)V"⟩ ∈ tblG := inG1 53 (by rfl) rfl
set_option maxRecDepth 400000 in
theorem tw_54 : Cond.selects "VillageStoriesModel" ⟨"VillageStoriesModel", "clearWorld", "()V"⟩ ⟨"VillageStoriesModel", "clearWorld", "()V"⟩ ∈ tblG := inG1 54 (by rfl) rfl
set_option maxRecDepth 400000 in
theorem tw_55 : Cond.selects "VillageStoriesModel" ⟨"VillageStoriesModel", "bringSizes", "()V"⟩ ⟨"VillageStoriesModel", "bringSizes", "()V"⟩ ∈ tblG := inG1 55 (by rfl) rfl
set_option maxRecDepth 400000 in
theorem tw_56 : Cond.selects "VillageStoriesModel" ⟨"VillageStoriesModel", "findStarts", "()V"⟩ ⟨"VillageStoriesModel", "findStarts", "()V"⟩ ∈ tblG := inG1 56 (by rfl) rfl
set_option maxRecDepth 400000 in
theorem tw_57 : Cond.selects "VillageStoriesModel" ⟨"VillageStoriesModel", "sizeOf", "(I)I"⟩ ⟨"VillageStoriesModel", "sizeOf", "(I)I"⟩ ∈ tblG := inG1 57 (by rfl) rfl
set_option maxRecDepth 400000 in
theorem tw_58 : Cond.selects "VillageStoriesModel" ⟨"VillageStoriesModel", "manyFacts", "()I"⟩ ⟨"VillageStoriesModel", "manyFacts", "()I"⟩ ∈ tblG := inG1 58 (by rfl) rfl
set_option maxRecDepth 400000 in
theorem tw_59 : Cond.selects "VillageStoriesModel" ⟨"VillageStoriesModel", "toldFact", "(III)I"⟩ ⟨"VillageStoriesModel", "toldFact", "(III)I"⟩ ∈ tblG := inG1 59 (by rfl) rfl
set_option maxRecDepth 400000 in
theorem tw_60 : Cond.selects "VillageStoriesModel" ⟨"VillageStoriesModel", "isRelation", "(I)Z"⟩ ⟨"VillageStoriesModel", "isRelation", "(I)Z"⟩ ∈ tblG := inG1 60 (by rfl) rfl
set_option maxRecDepth 400000 in
theorem tw_61 : Cond.selects "VillageStoriesModel" ⟨"VillageStoriesModel", "factAt", "(III)I"⟩ ⟨"VillageStoriesModel", "factAt", "(III)I"⟩ ∈ tblG := inG1 61 (by rfl) rfl
set_option maxRecDepth 400000 in
theorem tw_62 : Cond.selects "VillageStoriesModel" ⟨"VillageStoriesModel", "canTell", "()Z"⟩ ⟨"VillageStoriesModel", "canTell", "()Z"⟩ ∈ tblG := inG1 62 (by rfl) rfl
set_option maxRecDepth 400000 in
theorem tw_63 : Cond.selects "VillageStoriesModel" ⟨"VillageStoriesModel", "numberOfWorld", "()I"⟩ ⟨"VillageStoriesModel", "numberOfWorld", "()I"⟩ ∈ tblG := inG1 63 (by rfl) rfl
set_option maxRecDepth 400000 in
theorem tw_64 : Cond.selects "VillageStoriesModel" ⟨"VillageStoriesModel", "takeOrders", "(I)Z"⟩ ⟨"VillageStoriesModel", "takeOrders", "(I)Z"⟩ ∈ tblG := inG1 64 (by rfl) rfl
set_option maxRecDepth 400000 in
theorem tw_65 : Cond.selects "VillageStoriesModel" ⟨"VillageStoriesModel", "imageOf", "()I"⟩ ⟨"VillageStoriesModel", "imageOf", "()I"⟩ ∈ tblG := inG1 65 (by rfl) rfl
set_option maxRecDepth 400000 in
theorem tw_66 : Cond.selects "VillageStoriesModel" ⟨"VillageStoriesModel", "renamed", "(II)I"⟩ ⟨"VillageStoriesModel", "renamed", "(II)I"⟩ ∈ tblG := inG1 66 (by rfl) rfl
set_option maxRecDepth 400000 in
theorem tw_67 : Cond.selects "VillageStoriesModel" ⟨"VillageStoriesModel", "four", "(I)V"⟩ ⟨"VillageStoriesModel", "four", "(I)V"⟩ ∈ tblG := inG1 67 (by rfl) rfl
set_option maxRecDepth 400000 in
theorem tw_68 : Cond.selects "VillageStoriesModel" ⟨"VillageStoriesModel", "readText", "()Z"⟩ ⟨"VillageStoriesModel", "readText", "()Z"⟩ ∈ tblG := inG1 68 (by rfl) rfl
set_option maxRecDepth 400000 in
theorem tw_69 : Cond.selects "VillageStoriesModel" ⟨"VillageStoriesModel", "wait", "(I)V"⟩ ⟨"VillageStoriesModel", "wait", "(I)V"⟩ ∈ tblG := inG1 69 (by rfl) rfl
set_option maxRecDepth 400000 in
theorem tw_70 : Cond.selects "VillageStoriesModel" ⟨"VillageStoriesModel", "token", "()V"⟩ ⟨"VillageStoriesModel", "token", "()V"⟩ ∈ tblG := inG1 70 (by rfl) rfl
set_option maxRecDepth 400000 in
theorem tw_71 : Cond.selects "VillageStoriesModel" ⟨"VillageStoriesModel", "see", "()I"⟩ ⟨"VillageStoriesModel", "see", "()I"⟩ ∈ tblG := inG1 71 (by rfl) rfl
set_option maxRecDepth 400000 in
theorem tw_72 : Cond.selects "VillageStoriesModel" ⟨"VillageStoriesModel", "readPart", "(I)Z"⟩ ⟨"VillageStoriesModel", "readPart", "(I)Z"⟩ ∈ tblG := inG1 72 (by rfl) rfl
set_option maxRecDepth 400000 in
theorem tw_73 : Cond.selects "VillageStoriesModel" ⟨"VillageStoriesModel", "later", "(II)V"⟩ ⟨"VillageStoriesModel", "later", "(II)V"⟩ ∈ tblG := inG1 73 (by rfl) rfl
set_option maxRecDepth 400000 in
theorem tw_74 : Cond.selects "VillageStoriesModel" ⟨"VillageStoriesModel", "actOf", "()I"⟩ ⟨"VillageStoriesModel", "actOf", "()I"⟩ ∈ tblG := inG1 74 (by rfl) rfl
set_option maxRecDepth 400000 in
theorem tw_75 : Cond.selects "VillageStoriesModel" ⟨"VillageStoriesModel", "isWord", "(J)Z"⟩ ⟨"VillageStoriesModel", "isWord", "(J)Z"⟩ ∈ tblG := inG1 75 (by rfl) rfl
set_option maxRecDepth 400000 in
theorem tw_76 : Cond.selects "VillageStoriesModel" ⟨"VillageStoriesModel", "readRelation", "(II)Z"⟩ ⟨"VillageStoriesModel", "readRelation", "(II)Z"⟩ ∈ tblG := inG1 76 (by rfl) rfl
set_option maxRecDepth 400000 in
theorem tw_77 : Cond.selects "VillageStoriesModel" ⟨"VillageStoriesModel", "relOf", "()I"⟩ ⟨"VillageStoriesModel", "relOf", "()I"⟩ ∈ tblG := inG1 77 (by rfl) rfl
set_option maxRecDepth 400000 in
theorem tw_78 : Cond.selects "VillageStoriesModel" ⟨"VillageStoriesModel", "readVar", "(II)I"⟩ ⟨"VillageStoriesModel", "readVar", "(II)I"⟩ ∈ tblG := inG1 78 (by rfl) rfl
set_option maxRecDepth 400000 in
theorem tw_79 : Cond.selects "VillageStoriesModel" ⟨"VillageStoriesModel", "varOf", "()I"⟩ ⟨"VillageStoriesModel", "varOf", "()I"⟩ ∈ tblG := inG1 79 (by rfl) rfl
set_option maxRecDepth 400000 in
theorem tw_80 : Cond.selects "VillageStoriesModel" ⟨"VillageStoriesModel", "wrong", "()I"⟩ ⟨"VillageStoriesModel", "wrong", "()I"⟩ ∈ tblG := inG1 80 (by rfl) rfl
set_option maxRecDepth 400000 in
theorem tw_81 : Cond.selects "VillageStoriesModel" ⟨"VillageStoriesModel", "readBinder", "(II)Z"⟩ ⟨"VillageStoriesModel", "readBinder", "(II)Z"⟩ ∈ tblG := inG1 81 (by rfl) rfl
set_option maxRecDepth 400000 in
theorem tw_82 : Cond.selects "VillageStoriesModel" ⟨"VillageStoriesModel", "kindOf", "()I"⟩ ⟨"VillageStoriesModel", "kindOf", "()I"⟩ ∈ tblG := inG1 82 (by rfl) rfl
set_option maxRecDepth 400000 in
theorem tw_83 : Cond.selects "VillageStoriesModel" ⟨"VillageStoriesModel", "readSame", "(II)Z"⟩ ⟨"VillageStoriesModel", "readSame", "(II)Z"⟩ ∈ tblG := inG1 83 (by rfl) rfl
set_option maxRecDepth 400000 in
theorem tw_84 : Cond.selects "VillageStoriesModel" ⟨"VillageStoriesModel", "keepText", "(I)V"⟩ ⟨"VillageStoriesModel", "keepText", "(I)V"⟩ ∈ tblG := inG1 84 (by rfl) rfl
set_option maxRecDepth 400000 in
theorem tw_85 : Cond.selects "VillageStoriesModel" ⟨"VillageStoriesModel", "bringWorld", "()V"⟩ ⟨"VillageStoriesModel", "bringWorld", "()V"⟩ ∈ tblG := inG1 85 (by rfl) rfl
set_option maxRecDepth 400000 in
theorem tw_86 : Cond.selects "VillageStoriesModel" ⟨"VillageStoriesModel", "means", "(I)Z"⟩ ⟨"VillageStoriesModel", "means", "(I)Z"⟩ ∈ tblG := inG1 86 (by rfl) rfl
set_option maxRecDepth 400000 in
theorem tw_87 : Cond.selects "VillageStoriesModel" ⟨"VillageStoriesModel", "work", "(II)V"⟩ ⟨"VillageStoriesModel", "work", "(II)V"⟩ ∈ tblG := inG1 87 (by rfl) rfl
set_option maxRecDepth 400000 in
theorem tw_88 : Cond.selects "VillageStoriesModel" ⟨"VillageStoriesModel", "leaf", "(I)V"⟩ ⟨"VillageStoriesModel", "leaf", "(I)V"⟩ ∈ tblG := inG1 88 (by rfl) rfl
set_option maxRecDepth 400000 in
theorem tw_89 : Cond.selects "VillageStoriesModel" ⟨"VillageStoriesModel", "isTree", "(I)Z"⟩ ⟨"VillageStoriesModel", "isTree", "(I)Z"⟩ ∈ tblG := inG1 89 (by rfl) rfl
set_option maxRecDepth 400000 in
theorem tw_90 : Cond.selects "VillageStoriesModel" ⟨"VillageStoriesModel", "findJoined", "(I)V"⟩ ⟨"VillageStoriesModel", "findJoined", "(I)V"⟩ ∈ tblG := inG1 90 (by rfl) rfl
set_option maxRecDepth 400000 in
theorem tw_91 : Cond.selects "VillageStoriesModel" ⟨"VillageStoriesModel", "isSo", "(III)Z"⟩ ⟨"VillageStoriesModel", "isSo", "(III)Z"⟩ ∈ tblG := inG1 91 (by rfl) rfl
set_option maxRecDepth 400000 in
theorem tw_92 : Cond.selects "VillageStoriesModel" ⟨"VillageStoriesModel", "bind", "(I)V"⟩ ⟨"VillageStoriesModel", "bind", "(I)V"⟩ ∈ tblG := inG1 92 (by rfl) rfl
set_option maxRecDepth 400000 in
theorem tw_93 : Cond.selects "VillageStoriesModel" ⟨"VillageStoriesModel", "join", "(I)V"⟩ ⟨"VillageStoriesModel", "join", "(I)V"⟩ ∈ tblG := inG1 93 (by rfl) rfl
set_option maxRecDepth 400000 in
theorem tw_94 : Cond.selects "VillageStoriesModel" ⟨"VillageStoriesModel", "prepare", "()V"⟩ ⟨"VillageStoriesModel", "prepare", "()V"⟩ ∈ tblG := inG1 94 (by rfl) rfl
set_option maxRecDepth 400000 in
theorem tw_95 : Cond.selects "VillageStoriesModel" ⟨"VillageStoriesModel", "told", "()I"⟩ ⟨"VillageStoriesModel", "told", "()I"⟩ ∈ tblG := inG1 95 (by rfl) rfl
set_option maxRecDepth 400000 in
theorem tw_96 : Cond.selects "VillageStoriesModel" ⟨"VillageStoriesModel", "findKnown", "()V"⟩ ⟨"VillageStoriesModel", "findKnown", "()V"⟩ ∈ tblG := inG1 96 (by rfl) rfl
set_option maxRecDepth 400000 in
theorem tw_97 : Cond.selects "VillageStoriesModel" ⟨"VillageStoriesModel", "isWorld", "(I)Z"⟩ ⟨"VillageStoriesModel", "isWorld", "(I)Z"⟩ ∈ tblG := inG1 97 (by rfl) rfl
set_option maxRecDepth 400000 in
theorem tw_98 : Cond.selects "VillageStoriesModel" ⟨"VillageStoriesModel", "isAsKnown", "(I)Z"⟩ ⟨"VillageStoriesModel", "isAsKnown", "(I)Z"⟩ ∈ tblG := inG1 98 (by rfl) rfl
set_option maxRecDepth 400000 in
theorem tw_99 : Cond.selects "VillageStoriesModel" ⟨"VillageStoriesModel", "layWorld", "(I)V"⟩ ⟨"VillageStoriesModel", "layWorld", "(I)V"⟩ ∈ tblG := inG1 99 (by rfl) rfl
set_option maxRecDepth 400000 in
theorem tw_100 : Cond.selects "VillageStoriesModel" ⟨"VillageStoriesModel", "isForm", "(I)Z"⟩ ⟨"VillageStoriesModel", "isForm", "(I)Z"⟩ ∈ tblG := inG1 100 (by rfl) rfl
set_option maxRecDepth 400000 in
theorem tw_101 : Cond.selects "VillageStoriesModel" ⟨"VillageStoriesModel", "leastImage", "()I"⟩ ⟨"VillageStoriesModel", "leastImage", "()I"⟩ ∈ tblG := inG1 101 (by rfl) rfl
set_option maxRecDepth 400000 in
theorem tw_102 : Cond.selects "VillageStoriesModel" ⟨"VillageStoriesModel", "takeWorld", "(I)V"⟩ ⟨"VillageStoriesModel", "takeWorld", "(I)V"⟩ ∈ tblG := inG1 102 (by rfl) rfl
set_option maxRecDepth 400000 in
theorem tw_103 : Cond.selects "VillageStoriesModel" ⟨"VillageStoriesModel", "findLeast", "()Z"⟩ ⟨"VillageStoriesModel", "findLeast", "()Z"⟩ ∈ tblG := inG1 103 (by rfl) rfl
set_option maxRecDepth 400000 in
theorem tw_104 : Cond.selects "VillageStoriesModel" ⟨"VillageStoriesModel", "findTogether", "(IZ)V"⟩ ⟨"VillageStoriesModel", "findTogether", "(IZ)V"⟩ ∈ tblG := inG1 104 (by rfl) rfl
set_option maxRecDepth 400000 in
theorem tw_105 : Cond.selects "VillageStoriesModel" ⟨"VillageStoriesModel", "fewestApart", "()I"⟩ ⟨"VillageStoriesModel", "fewestApart", "()I"⟩ ∈ tblG := inG1 105 (by rfl) rfl
set_option maxRecDepth 400000 in
theorem tw_106 : Cond.selects "VillageStoriesModel" ⟨"VillageStoriesModel", "isTogether", "(I)Z"⟩ ⟨"VillageStoriesModel", "isTogether", "(I)Z"⟩ ∈ tblG := inG1 106 (by rfl) rfl
set_option maxRecDepth 400000 in
theorem tw_107 : Cond.selects "VillageStoriesModel" ⟨"VillageStoriesModel", "countFacts", "()V"⟩ ⟨"VillageStoriesModel", "countFacts", "()V"⟩ ∈ tblG := inG1 107 (by rfl) rfl
set_option maxRecDepth 400000 in
theorem tw_108 : Cond.selects "VillageStoriesModel" ⟨"VillageStoriesModel", "findYes", "(I)V"⟩ ⟨"VillageStoriesModel", "findYes", "(I)V"⟩ ∈ tblG := inG1 108 (by rfl) rfl
set_option maxRecDepth 400000 in
theorem tw_109 : Cond.selects "VillageStoriesModel" ⟨"VillageStoriesModel", "asks", "(I)Z"⟩ ⟨"VillageStoriesModel", "asks", "(I)Z"⟩ ∈ tblG := inG1 109 (by rfl) rfl
set_option maxRecDepth 400000 in
theorem tw_110 : Cond.selects "VillageStoriesModel" ⟨"VillageStoriesModel", "copy", "(II)V"⟩ ⟨"VillageStoriesModel", "copy", "(II)V"⟩ ∈ tblG := inG1 110 (by rfl) rfl
theorem inT_1 : ∀ w ∈ tables_1_1, w ∈ lw_tbl := fun w h => List.mem_append_right _ (show w ∈ tables_1 from List.mem_append_left _ (h))
theorem inC_1 {w : Cond} (i : Nat) (h : tables_1_1[i]? = some w) (g : goodWord w = true) : w ∈ tblG := List.mem_filter.mpr ⟨inT_1 _ (List.mem_of_getElem? h), g⟩
theorem inT_2 : ∀ w ∈ tables_1_2, w ∈ lw_tbl := fun w h => List.mem_append_right _ (show w ∈ tables_1 from List.mem_append_right _ (List.mem_append_left _ (h)))
theorem inC_2 {w : Cond} (i : Nat) (h : tables_1_2[i]? = some w) (g : goodWord w = true) : w ∈ tblG := List.mem_filter.mpr ⟨inT_2 _ (List.mem_of_getElem? h), g⟩
theorem inT_3 : ∀ w ∈ tables_1_3, w ∈ lw_tbl := fun w h => List.mem_append_right _ (show w ∈ tables_1 from List.mem_append_right _ (List.mem_append_right _ (List.mem_append_left _ (h))))
theorem inC_3 {w : Cond} (i : Nat) (h : tables_1_3[i]? = some w) (g : goodWord w = true) : w ∈ tblG := List.mem_filter.mpr ⟨inT_3 _ (List.mem_of_getElem? h), g⟩
theorem inT_4 : ∀ w ∈ tables_1_4, w ∈ lw_tbl := fun w h => List.mem_append_right _ (show w ∈ tables_1 from List.mem_append_right _ (List.mem_append_right _ (List.mem_append_right _ (List.mem_append_left _ (h)))))
theorem inC_4 {w : Cond} (i : Nat) (h : tables_1_4[i]? = some w) (g : goodWord w = true) : w ∈ tblG := List.mem_filter.mpr ⟨inT_4 _ (List.mem_of_getElem? h), g⟩
theorem inT_5 : ∀ w ∈ tables_1_5, w ∈ lw_tbl := fun w h => List.mem_append_right _ (show w ∈ tables_1 from List.mem_append_right _ (List.mem_append_right _ (List.mem_append_right _ (List.mem_append_right _ (List.mem_append_left _ (h))))))
theorem inC_5 {w : Cond} (i : Nat) (h : tables_1_5[i]? = some w) (g : goodWord w = true) : w ∈ tblG := List.mem_filter.mpr ⟨inT_5 _ (List.mem_of_getElem? h), g⟩
theorem inT_6 : ∀ w ∈ tables_1_6, w ∈ lw_tbl := fun w h => List.mem_append_right _ (show w ∈ tables_1 from List.mem_append_right _ (List.mem_append_right _ (List.mem_append_right _ (List.mem_append_right _ (List.mem_append_right _ (List.mem_append_left _ (h)))))))
theorem inC_6 {w : Cond} (i : Nat) (h : tables_1_6[i]? = some w) (g : goodWord w = true) : w ∈ tblG := List.mem_filter.mpr ⟨inT_6 _ (List.mem_of_getElem? h), g⟩
theorem inT_7 : ∀ w ∈ tables_1_7, w ∈ lw_tbl := fun w h => List.mem_append_right _ (show w ∈ tables_1 from List.mem_append_right _ (List.mem_append_right _ (List.mem_append_right _ (List.mem_append_right _ (List.mem_append_right _ (List.mem_append_right _ (List.mem_append_left _ (h))))))))
theorem inC_7 {w : Cond} (i : Nat) (h : tables_1_7[i]? = some w) (g : goodWord w = true) : w ∈ tblG := List.mem_filter.mpr ⟨inT_7 _ (List.mem_of_getElem? h), g⟩
theorem inT_8 : ∀ w ∈ tables_1_8, w ∈ lw_tbl := fun w h => List.mem_append_right _ (show w ∈ tables_1 from List.mem_append_right _ (List.mem_append_right _ (List.mem_append_right _ (List.mem_append_right _ (List.mem_append_right _ (List.mem_append_right _ (List.mem_append_right _ (h))))))))
theorem inC_8 {w : Cond} (i : Nat) (h : tables_1_8[i]? = some w) (g : goodWord w = true) : w ∈ tblG := List.mem_filter.mpr ⟨inT_8 _ (List.mem_of_getElem? h), g⟩
set_option maxRecDepth 400000 in
theorem tw_111 : (Jvm.Cond.initialized "VillageStoriesLaw") ∈ tblG := inC_1 0 (by rfl) rfl
set_option maxRecDepth 400000 in
theorem tw_112 : (Jvm.Cond.initialized "VillageStories") ∈ tblG := inC_1 1 (by rfl) rfl
set_option maxRecDepth 400000 in
theorem tw_113 : (Jvm.Cond.initialized "VillageStories$Solver") ∈ tblG := inC_1 2 (by rfl) rfl
set_option maxRecDepth 400000 in
theorem tw_114 : (Jvm.Cond.initialized "VillageStories$Told") ∈ tblG := inC_1 3 (by rfl) rfl
set_option maxRecDepth 400000 in
theorem tw_115 : (Jvm.Cond.initialized "VillageStories$Shape") ∈ tblG := inC_1 4 (by rfl) rfl
set_option maxRecDepth 400000 in
theorem tw_116 : (Jvm.Cond.initialized "VillageStories$Judge") ∈ tblG := inC_1 5 (by rfl) rfl
set_option maxRecDepth 400000 in
theorem tw_117 : (Jvm.Cond.initialized "VillageStories$OtherNumbers") ∈ tblG := inC_1 6 (by rfl) rfl
set_option maxRecDepth 400000 in
theorem tw_118 : (Jvm.Cond.initialized "VillageStories$WorldSet") ∈ tblG := inC_1 7 (by rfl) rfl
set_option maxRecDepth 400000 in
theorem tw_119 : (Jvm.Cond.initialized "VillageStories$Reader") ∈ tblG := inC_1 8 (by rfl) rfl
set_option maxRecDepth 400000 in
theorem tw_120 : (Jvm.Cond.initialized "VillageStories$Text") ∈ tblG := inC_1 9 (by rfl) rfl
set_option maxRecDepth 400000 in
theorem tw_121 : (Jvm.Cond.initialized "java/lang/Math") ∈ tblG := inC_1 10 (by rfl) rfl
set_option maxRecDepth 400000 in
theorem tw_122 : (Jvm.Cond.initialized "VillageStoriesModel") ∈ tblG := inC_1 11 (by rfl) rfl
set_option maxRecDepth 400000 in
theorem tw_123 : (Jvm.Cond.initialized "java/lang/Integer") ∈ tblG := inC_1 12 (by rfl) rfl
set_option maxRecDepth 400000 in
theorem tw_124 : (Jvm.Cond.initialized "java/lang/String") ∈ tblG := inC_1 13 (by rfl) rfl
set_option maxRecDepth 400000 in
theorem tw_125 : (Jvm.Cond.initialized "java/lang/StringLatin1") ∈ tblG := inC_1 14 (by rfl) rfl
set_option maxRecDepth 400000 in
theorem tw_126 : (Jvm.Cond.initialized "jdk/internal/util/Preconditions") ∈ tblG := inC_1 15 (by rfl) rfl
set_option maxRecDepth 400000 in
theorem tw_127 : (Jvm.Cond.initialized "java/lang/StringUTF16") ∈ tblG := inC_1 16 (by rfl) rfl
set_option maxRecDepth 400000 in
theorem tw_128 : (Jvm.Cond.initialized "java/lang/System") ∈ tblG := inC_1 17 (by rfl) rfl
set_option maxRecDepth 400000 in
theorem tw_129 : (Jvm.Cond.initialized "java/lang/Long") ∈ tblG := inC_1 18 (by rfl) rfl
set_option maxRecDepth 400000 in
theorem tw_130 : (Jvm.Cond.classLink "VillageStoriesLaw" (7 : Nat) "VillageStories") ∈ tblG := inC_1 19 (by rfl) rfl
set_option maxRecDepth 400000 in
theorem tw_131 : (Jvm.Cond.instantiable "VillageStories" (5 : Nat)) ∈ tblG := inC_1 20 (by rfl) rfl
set_option maxRecDepth 400000 in
theorem tw_132 : (Jvm.Cond.methodLink "VillageStoriesLaw" (9 : Nat) ({ cls := "VillageStories", name := "<init>", desc := "()V" } : Jvm.MethodName)) ∈ tblG := inC_1 21 (by rfl) rfl
set_option maxRecDepth 400000 in
theorem tw_133 : (Jvm.Cond.instanceMethod ({ cls := "VillageStories", name := "<init>", desc := "()V" } : Jvm.MethodName)) ∈ tblG := inC_1 22 (by rfl) rfl
set_option maxRecDepth 400000 in
theorem tw_134 : (Jvm.Cond.code ({ cls := "VillageStories", name := "<init>", desc := "()V" } : Jvm.MethodName) prog_1_method_1_code (2 : Nat) (Option.none : Option Jvm.ClassFile.FieldType)) ∈ tblG := inC_1 23 (by rfl) rfl
set_option maxRecDepth 400000 in
theorem tw_135 : (Jvm.Cond.methodLink "VillageStories" (1 : Nat) ({ cls := "java/lang/Object", name := "<init>", desc := "()V" } : Jvm.MethodName)) ∈ tblG := inC_1 24 (by rfl) rfl
set_option maxRecDepth 400000 in
theorem tw_136 : (Jvm.Cond.instanceMethod ({ cls := "java/lang/Object", name := "<init>", desc := "()V" } : Jvm.MethodName)) ∈ tblG := inC_1 25 (by rfl) rfl
set_option maxRecDepth 400000 in
theorem tw_137 : (Jvm.Cond.code ({ cls := "java/lang/Object", name := "<init>", desc := "()V" } : Jvm.MethodName) object_method_1_code (1 : Nat) (Option.none : Option Jvm.ClassFile.FieldType)) ∈ tblG := inC_1 26 (by rfl) rfl
set_option maxRecDepth 400000 in
theorem tw_138 : (Jvm.Cond.classLink "VillageStories" (7 : Nat) "VillageStories$Solver") ∈ tblG := inC_1 27 (by rfl) rfl
set_option maxRecDepth 400000 in
theorem tw_139 : (Jvm.Cond.instantiable "VillageStories$Solver" (12 : Nat)) ∈ tblG := inC_1 28 (by rfl) rfl
set_option maxRecDepth 400000 in
theorem tw_140 : (Jvm.Cond.methodLink "VillageStories" (9 : Nat) ({ cls := "VillageStories$Solver", name := "<init>", desc := "()V" } : Jvm.MethodName)) ∈ tblG := inC_1 29 (by rfl) rfl
set_option maxRecDepth 400000 in
theorem tw_141 : (Jvm.Cond.instanceMethod ({ cls := "VillageStories$Solver", name := "<init>", desc := "()V" } : Jvm.MethodName)) ∈ tblG := inC_1 30 (by rfl) rfl
set_option maxRecDepth 400000 in
theorem tw_142 : (Jvm.Cond.code ({ cls := "VillageStories$Solver", name := "<init>", desc := "()V" } : Jvm.MethodName) prog_6_method_1_code (2 : Nat) (Option.none : Option Jvm.ClassFile.FieldType)) ∈ tblG := inC_1 31 (by rfl) rfl
set_option maxRecDepth 400000 in
theorem tw_143 : (Jvm.Cond.methodLink "VillageStories$Solver" (3 : Nat) ({ cls := "java/lang/Object", name := "<init>", desc := "()V" } : Jvm.MethodName)) ∈ tblG := inC_1 32 (by rfl) rfl
set_option maxRecDepth 400000 in
theorem tw_144 : (Jvm.Cond.classLink "VillageStories$Solver" (9 : Nat) "VillageStories$Told") ∈ tblG := inC_1 33 (by rfl) rfl
set_option maxRecDepth 400000 in
theorem tw_145 : (Jvm.Cond.instantiable "VillageStories$Told" (19 : Nat)) ∈ tblG := inC_1 34 (by rfl) rfl
set_option maxRecDepth 400000 in
theorem tw_147 : (Jvm.Cond.instanceMethod ({ cls := "VillageStories$Told", name := "<init>", desc := "()V" } : Jvm.MethodName)) ∈ tblG := inC_1 36 (by rfl) rfl
set_option maxRecDepth 400000 in
theorem tw_148 : (Jvm.Cond.code ({ cls := "VillageStories$Told", name := "<init>", desc := "()V" } : Jvm.MethodName) prog_8_method_1_code (1 : Nat) (Option.none : Option Jvm.ClassFile.FieldType)) ∈ tblG := inC_1 37 (by rfl) rfl
set_option maxRecDepth 400000 in
theorem tw_149 : (Jvm.Cond.methodLink "VillageStories$Told" (3 : Nat) ({ cls := "java/lang/Object", name := "<init>", desc := "()V" } : Jvm.MethodName)) ∈ tblG := inC_1 38 (by rfl) rfl
set_option maxRecDepth 400000 in
theorem tw_150 : (Jvm.Cond.classLink "VillageStories$Told" (9 : Nat) "VillageStories$Shape") ∈ tblG := inC_1 39 (by rfl) rfl
set_option maxRecDepth 400000 in
theorem tw_151 : (Jvm.Cond.instantiable "VillageStories$Shape" (8 : Nat)) ∈ tblG := inC_1 40 (by rfl) rfl
set_option maxRecDepth 400000 in
theorem tw_153 : (Jvm.Cond.instanceMethod ({ cls := "VillageStories$Shape", name := "<init>", desc := "()V" } : Jvm.MethodName)) ∈ tblG := inC_1 42 (by rfl) rfl
set_option maxRecDepth 400000 in
theorem tw_154 : (Jvm.Cond.code ({ cls := "VillageStories$Shape", name := "<init>", desc := "()V" } : Jvm.MethodName) prog_5_method_1_code (1 : Nat) (Option.none : Option Jvm.ClassFile.FieldType)) ∈ tblG := inC_1 43 (by rfl) rfl
set_option maxRecDepth 400000 in
theorem tw_155 : (Jvm.Cond.methodLink "VillageStories$Shape" (3 : Nat) ({ cls := "java/lang/Object", name := "<init>", desc := "()V" } : Jvm.MethodName)) ∈ tblG := inC_1 44 (by rfl) rfl
set_option maxRecDepth 400000 in
theorem tw_156 : (Jvm.Cond.fieldLink "VillageStories$Shape" (9 : Nat) "VillageStories$Shape" "sizes" "[I") ∈ tblG := inC_1 45 (by rfl) rfl
set_option maxRecDepth 400000 in
theorem tw_157 : (Jvm.Cond.fieldLink "VillageStories$Judge" (73 : Nat) "VillageStories$Shape" "sizes" "[I") ∈ tblG := inC_1 46 (by rfl) rfl
set_option maxRecDepth 400000 in
theorem tw_158 : (Jvm.Cond.fieldLink "VillageStories$OtherNumbers" (101 : Nat) "VillageStories$Shape" "sizes" "[I") ∈ tblG := inC_1 47 (by rfl) rfl
set_option maxRecDepth 400000 in
theorem tw_159 : (Jvm.Cond.fieldLink "VillageStories$Solver" (185 : Nat) "VillageStories$Shape" "sizes" "[I") ∈ tblG := inC_1 48 (by rfl) rfl
set_option maxRecDepth 400000 in
theorem tw_160 : (Jvm.Cond.fieldLink "VillageStories" (236 : Nat) "VillageStories$Shape" "sizes" "[I") ∈ tblG := inC_1 49 (by rfl) rfl
set_option maxRecDepth 400000 in
theorem tw_161 : (Jvm.Cond.fieldLink "VillageStories$Shape" (15 : Nat) "VillageStories$Shape" "first" "[I") ∈ tblG := inC_1 50 (by rfl) rfl
set_option maxRecDepth 400000 in
theorem tw_162 : (Jvm.Cond.fieldLink "VillageStories$Reader" (195 : Nat) "VillageStories$Shape" "first" "[I") ∈ tblG := inC_1 51 (by rfl) rfl
set_option maxRecDepth 400000 in
theorem tw_163 : (Jvm.Cond.fieldLink "VillageStories$OtherNumbers" (92 : Nat) "VillageStories$Shape" "first" "[I") ∈ tblG := inC_1 52 (by rfl) rfl
set_option maxRecDepth 400000 in
theorem tw_164 : (Jvm.Cond.fieldLink "VillageStories$Shape" (18 : Nat) "VillageStories$Shape" "second" "[I") ∈ tblG := inC_1 53 (by rfl) rfl
set_option maxRecDepth 400000 in
theorem tw_165 : (Jvm.Cond.fieldLink "VillageStories$OtherNumbers" (95 : Nat) "VillageStories$Shape" "second" "[I") ∈ tblG := inC_1 54 (by rfl) rfl
set_option maxRecDepth 400000 in
theorem tw_166 : (Jvm.Cond.fieldLink "VillageStories$Reader" (204 : Nat) "VillageStories$Shape" "second" "[I") ∈ tblG := inC_1 55 (by rfl) rfl
set_option maxRecDepth 400000 in
theorem tw_167 : (Jvm.Cond.fieldLink "VillageStories$Shape" (21 : Nat) "VillageStories$Shape" "start" "[I") ∈ tblG := inC_1 56 (by rfl) rfl
set_option maxRecDepth 400000 in
theorem tw_168 : (Jvm.Cond.fieldLink "VillageStories$OtherNumbers" (113 : Nat) "VillageStories$Shape" "start" "[I") ∈ tblG := inC_1 57 (by rfl) rfl
set_option maxRecDepth 400000 in
theorem tw_169 : (Jvm.Cond.fieldLink "VillageStories$Judge" (126 : Nat) "VillageStories$Shape" "start" "[I") ∈ tblG := inC_1 58 (by rfl) rfl
set_option maxRecDepth 400000 in
theorem tw_170 : (Jvm.Cond.fieldLink "VillageStories$Shape" (24 : Nat) "VillageStories$Shape" "height" "[I") ∈ tblG := inC_1 59 (by rfl) rfl
set_option maxRecDepth 400000 in
theorem tw_171 : (Jvm.Cond.fieldLink "VillageStories$Solver" (112 : Nat) "VillageStories$Shape" "height" "[I") ∈ tblG := inC_1 60 (by rfl) rfl
set_option maxRecDepth 400000 in
theorem tw_172 : (Jvm.Cond.fieldLink "VillageStories$OtherNumbers" (104 : Nat) "VillageStories$Shape" "height" "[I") ∈ tblG := inC_1 61 (by rfl) rfl
set_option maxRecDepth 400000 in
theorem tw_173 : (Jvm.Cond.fieldLink "VillageStories$Shape" (27 : Nat) "VillageStories$Shape" "width" "[I") ∈ tblG := inC_1 62 (by rfl) rfl
set_option maxRecDepth 400000 in
theorem tw_174 : (Jvm.Cond.fieldLink "VillageStories$Solver" (115 : Nat) "VillageStories$Shape" "width" "[I") ∈ tblG := inC_1 63 (by rfl) rfl
set_option maxRecDepth 400000 in
theorem tw_175 : (Jvm.Cond.fieldLink "VillageStories$OtherNumbers" (110 : Nat) "VillageStories$Shape" "width" "[I") ∈ tblG := inC_1 64 (by rfl) rfl
set_option maxRecDepth 400000 in
theorem tw_176 : (Jvm.Cond.fieldLink "VillageStories$Judge" (129 : Nat) "VillageStories$Shape" "width" "[I") ∈ tblG := inC_1 65 (by rfl) rfl
set_option maxRecDepth 400000 in
theorem tw_177 : (Jvm.Cond.fieldLink "VillageStories$Shape" (30 : Nat) "VillageStories$Shape" "relations" "I") ∈ tblG := inC_1 66 (by rfl) rfl
set_option maxRecDepth 400000 in
theorem tw_178 : (Jvm.Cond.fieldLink "VillageStories$Solver" (109 : Nat) "VillageStories$Shape" "relations" "I") ∈ tblG := inC_1 67 (by rfl) rfl
set_option maxRecDepth 400000 in
theorem tw_179 : (Jvm.Cond.fieldLink "VillageStories$OtherNumbers" (89 : Nat) "VillageStories$Shape" "relations" "I") ∈ tblG := inC_1 68 (by rfl) rfl
set_option maxRecDepth 400000 in
theorem tw_180 : (Jvm.Cond.fieldLink "VillageStories" (239 : Nat) "VillageStories$Shape" "relations" "I") ∈ tblG := inC_1 69 (by rfl) rfl
set_option maxRecDepth 400000 in
theorem tw_181 : (Jvm.Cond.fieldLink "VillageStories$Shape" (34 : Nat) "VillageStories$Shape" "facts" "I") ∈ tblG := inC_1 70 (by rfl) rfl
set_option maxRecDepth 400000 in
theorem tw_182 : (Jvm.Cond.fieldLink "VillageStories$Judge" (42 : Nat) "VillageStories$Shape" "facts" "I") ∈ tblG := inC_1 71 (by rfl) rfl
set_option maxRecDepth 400000 in
theorem tw_183 : (Jvm.Cond.fieldLink "VillageStories" (59 : Nat) "VillageStories$Shape" "facts" "I") ∈ tblG := inC_1 72 (by rfl) rfl
set_option maxRecDepth 400000 in
theorem tw_184 : (Jvm.Cond.fieldLink "VillageStories$Solver" (76 : Nat) "VillageStories$Shape" "facts" "I") ∈ tblG := inC_1 73 (by rfl) rfl
set_option maxRecDepth 400000 in
theorem tw_185 : (Jvm.Cond.fieldLink "VillageStories$OtherNumbers" (79 : Nat) "VillageStories$Shape" "facts" "I") ∈ tblG := inC_1 74 (by rfl) rfl
set_option maxRecDepth 400000 in
theorem tw_203 : (Jvm.Cond.arrayClass Jvm.ClassFile.FieldType.int) ∈ tblG := inC_1 92 (by rfl) rfl
set_option maxRecDepth 400000 in
theorem tw_204 : (Jvm.Cond.classLink "VillageStories$Told" (44 : Nat) "VillageStories$Text") ∈ tblG := inC_1 93 (by rfl) rfl
set_option maxRecDepth 400000 in
theorem tw_206 : (Jvm.Cond.fieldLink "VillageStories$Told" (12 : Nat) "VillageStories$Told" "shape" "LVillageStories$Shape;") ∈ tblG := inC_1 95 (by rfl) rfl
set_option maxRecDepth 400000 in
theorem tw_207 : (Jvm.Cond.fieldLink "VillageStories" (39 : Nat) "VillageStories$Told" "shape" "LVillageStories$Shape;") ∈ tblG := inC_1 96 (by rfl) rfl
set_option maxRecDepth 400000 in
theorem tw_208 : (Jvm.Cond.fieldLink "VillageStories$Reader" (66 : Nat) "VillageStories$Told" "shape" "LVillageStories$Shape;") ∈ tblG := inC_1 97 (by rfl) rfl
set_option maxRecDepth 400000 in
theorem tw_209 : (Jvm.Cond.fieldLink "VillageStories$Solver" (73 : Nat) "VillageStories$Told" "shape" "LVillageStories$Shape;") ∈ tblG := inC_1 98 (by rfl) rfl
set_option maxRecDepth 400000 in
theorem tw_210 : (Jvm.Cond.fieldLink "VillageStories$Told" (18 : Nat) "VillageStories$Told" "world" "J") ∈ tblG := inC_1 99 (by rfl) rfl
set_option maxRecDepth 400000 in
theorem tw_211 : (Jvm.Cond.fieldLink "VillageStories" (71 : Nat) "VillageStories$Told" "world" "J") ∈ tblG := inC_1 100 (by rfl) rfl
set_option maxRecDepth 400000 in
theorem tw_212 : (Jvm.Cond.fieldLink "VillageStories$Solver" (163 : Nat) "VillageStories$Told" "world" "J") ∈ tblG := inC_1 101 (by rfl) rfl
set_option maxRecDepth 400000 in
theorem tw_213 : (Jvm.Cond.fieldLink "VillageStories$Told" (22 : Nat) "VillageStories$Told" "kept" "[J") ∈ tblG := inC_1 102 (by rfl) rfl
set_option maxRecDepth 400000 in
theorem tw_214 : (Jvm.Cond.fieldLink "VillageStories" (83 : Nat) "VillageStories$Told" "kept" "[J") ∈ tblG := inC_1 103 (by rfl) rfl
set_option maxRecDepth 400000 in
theorem tw_215 : (Jvm.Cond.fieldLink "VillageStories$Told" (26 : Nat) "VillageStories$Told" "isKept" "[Z") ∈ tblG := inC_1 104 (by rfl) rfl
set_option maxRecDepth 400000 in
theorem tw_216 : (Jvm.Cond.fieldLink "VillageStories" (87 : Nat) "VillageStories$Told" "isKept" "[Z") ∈ tblG := inC_1 105 (by rfl) rfl
set_option maxRecDepth 400000 in
theorem tw_217 : (Jvm.Cond.fieldLink "VillageStories$Told" (30 : Nat) "VillageStories$Told" "tape" "[I") ∈ tblG := inC_1 106 (by rfl) rfl
set_option maxRecDepth 400000 in
theorem tw_218 : (Jvm.Cond.fieldLink "VillageStories$Reader" (58 : Nat) "VillageStories$Told" "tape" "[I") ∈ tblG := inC_1 107 (by rfl) rfl
set_option maxRecDepth 400000 in
theorem tw_219 : (Jvm.Cond.fieldLink "VillageStories$Told" (34 : Nat) "VillageStories$Told" "taped" "I") ∈ tblG := inC_1 108 (by rfl) rfl
set_option maxRecDepth 400000 in
theorem tw_220 : (Jvm.Cond.fieldLink "VillageStories$Reader" (63 : Nat) "VillageStories$Told" "taped" "I") ∈ tblG := inC_1 109 (by rfl) rfl
set_option maxRecDepth 400000 in
theorem tw_221 : (Jvm.Cond.fieldLink "VillageStories" (94 : Nat) "VillageStories$Told" "taped" "I") ∈ tblG := inC_1 110 (by rfl) rfl
set_option maxRecDepth 400000 in
theorem tw_222 : (Jvm.Cond.fieldLink "VillageStories$Told" (38 : Nat) "VillageStories$Told" "fault" "I") ∈ tblG := inC_1 111 (by rfl) rfl
set_option maxRecDepth 400000 in
theorem tw_223 : (Jvm.Cond.fieldLink "VillageStories$Reader" (85 : Nat) "VillageStories$Told" "fault" "I") ∈ tblG := inC_1 112 (by rfl) rfl
set_option maxRecDepth 400000 in
theorem tw_224 : (Jvm.Cond.fieldLink "VillageStories" (127 : Nat) "VillageStories$Told" "fault" "I") ∈ tblG := inC_1 113 (by rfl) rfl
set_option maxRecDepth 400000 in
theorem tw_225 : (Jvm.Cond.fieldLink "VillageStories$Told" (41 : Nat) "VillageStories$Told" "faultPlace" "I") ∈ tblG := inC_1 114 (by rfl) rfl
set_option maxRecDepth 400000 in
theorem tw_226 : (Jvm.Cond.fieldLink "VillageStories" (130 : Nat) "VillageStories$Told" "faultPlace" "I") ∈ tblG := inC_1 115 (by rfl) rfl
set_option maxRecDepth 400000 in
theorem tw_227 : (Jvm.Cond.fieldLink "VillageStories$Reader" (214 : Nat) "VillageStories$Told" "faultPlace" "I") ∈ tblG := inC_1 116 (by rfl) rfl
set_option maxRecDepth 400000 in
theorem tw_228 : (Jvm.Cond.fieldLink "VillageStories$Told" (46 : Nat) "VillageStories$Told" "texts" "[LVillageStories$Text;") ∈ tblG := inC_1 117 (by rfl) rfl
set_option maxRecDepth 400000 in
theorem tw_229 : (Jvm.Cond.fieldLink "VillageStories$Solver" (94 : Nat) "VillageStories$Told" "texts" "[LVillageStories$Text;") ∈ tblG := inC_1 118 (by rfl) rfl
set_option maxRecDepth 400000 in
theorem tw_230 : (Jvm.Cond.fieldLink "VillageStories$Told" (50 : Nat) "VillageStories$Told" "toldOn" "[I") ∈ tblG := inC_1 119 (by rfl) rfl
set_option maxRecDepth 400000 in
theorem tw_231 : (Jvm.Cond.fieldLink "VillageStories$Told" (53 : Nat) "VillageStories$Told" "struckOn" "[I") ∈ tblG := inC_1 120 (by rfl) rfl
set_option maxRecDepth 400000 in
theorem tw_232 : (Jvm.Cond.fieldLink "VillageStories" (136 : Nat) "VillageStories$Told" "struckOn" "[I") ∈ tblG := inC_1 121 (by rfl) rfl
set_option maxRecDepth 400000 in
theorem tw_233 : (Jvm.Cond.fieldLink "VillageStories$Told" (56 : Nat) "VillageStories$Told" "stories" "I") ∈ tblG := inC_1 122 (by rfl) rfl
set_option maxRecDepth 400000 in
theorem tw_234 : (Jvm.Cond.fieldLink "VillageStories" (101 : Nat) "VillageStories$Told" "stories" "I") ∈ tblG := inC_1 123 (by rfl) rfl
set_option maxRecDepth 400000 in
theorem tw_235 : (Jvm.Cond.fieldLink "VillageStories$Told" (59 : Nat) "VillageStories$Told" "guess" "LVillageStories$Text;") ∈ tblG := inC_1 124 (by rfl) rfl
set_option maxRecDepth 400000 in
theorem tw_236 : (Jvm.Cond.fieldLink "VillageStories" (115 : Nat) "VillageStories$Told" "guess" "LVillageStories$Text;") ∈ tblG := inC_1 125 (by rfl) rfl
set_option maxRecDepth 400000 in
theorem tw_237 : (Jvm.Cond.fieldLink "VillageStories$Solver" (251 : Nat) "VillageStories$Told" "guess" "LVillageStories$Text;") ∈ tblG := inC_1 126 (by rfl) rfl
set_option maxRecDepth 400000 in
theorem tw_238 : (Jvm.Cond.fieldLink "VillageStories$Told" (63 : Nat) "VillageStories$Told" "day" "I") ∈ tblG := inC_1 127 (by rfl) rfl
set_option maxRecDepth 400000 in
theorem tw_239 : (Jvm.Cond.fieldLink "VillageStories" (140 : Nat) "VillageStories$Told" "day" "I") ∈ tblG := inC_1 128 (by rfl) rfl
set_option maxRecDepth 400000 in
theorem tw_240 : (Jvm.Cond.fieldLink "VillageStories$Told" (66 : Nat) "VillageStories$Told" "view" "I") ∈ tblG := inC_1 129 (by rfl) rfl
set_option maxRecDepth 400000 in
theorem tw_241 : (Jvm.Cond.fieldLink "VillageStories" (143 : Nat) "VillageStories$Told" "view" "I") ∈ tblG := inC_1 130 (by rfl) rfl
set_option maxRecDepth 400000 in
theorem tw_242 : (Jvm.Cond.fieldLink "VillageStories$Told" (69 : Nat) "VillageStories$Told" "knownFact" "[I") ∈ tblG := inC_1 131 (by rfl) rfl
set_option maxRecDepth 400000 in
theorem tw_243 : (Jvm.Cond.fieldLink "VillageStories$Told" (72 : Nat) "VillageStories$Told" "knownSo" "[Z") ∈ tblG := inC_1 132 (by rfl) rfl
set_option maxRecDepth 400000 in
theorem tw_244 : (Jvm.Cond.fieldLink "VillageStories$Told" (75 : Nat) "VillageStories$Told" "knownOn" "[I") ∈ tblG := inC_1 133 (by rfl) rfl
set_option maxRecDepth 400000 in
theorem tw_245 : (Jvm.Cond.fieldLink "VillageStories$Told" (78 : Nat) "VillageStories$Told" "knowns" "I") ∈ tblG := inC_1 134 (by rfl) rfl
set_option maxRecDepth 400000 in
theorem tw_246 : (Jvm.Cond.fieldLink "VillageStories" (245 : Nat) "VillageStories$Told" "knowns" "I") ∈ tblG := inC_1 135 (by rfl) rfl
set_option maxRecDepth 400000 in
theorem tw_286 : (Jvm.Cond.arrayClass Jvm.ClassFile.FieldType.long) ∈ tblG := inC_1 175 (by rfl) rfl
set_option maxRecDepth 400000 in
theorem tw_287 : (Jvm.Cond.arrayClass Jvm.ClassFile.FieldType.boolean) ∈ tblG := inC_1 176 (by rfl) rfl
set_option maxRecDepth 400000 in
theorem tw_288 : (Jvm.Cond.classLink "VillageStories$Solver" (18 : Nat) "VillageStories$Judge") ∈ tblG := inC_1 177 (by rfl) rfl
set_option maxRecDepth 400000 in
theorem tw_289 : (Jvm.Cond.instantiable "VillageStories$Judge" (6 : Nat)) ∈ tblG := inC_1 178 (by rfl) rfl
set_option maxRecDepth 400000 in
theorem tw_291 : (Jvm.Cond.instanceMethod ({ cls := "VillageStories$Judge", name := "<init>", desc := "()V" } : Jvm.MethodName)) ∈ tblG := inC_1 180 (by rfl) rfl
set_option maxRecDepth 400000 in
theorem tw_292 : (Jvm.Cond.code ({ cls := "VillageStories$Judge", name := "<init>", desc := "()V" } : Jvm.MethodName) prog_2_method_1_code (1 : Nat) (Option.none : Option Jvm.ClassFile.FieldType)) ∈ tblG := inC_1 181 (by rfl) rfl
set_option maxRecDepth 400000 in
theorem tw_293 : (Jvm.Cond.methodLink "VillageStories$Judge" (3 : Nat) ({ cls := "java/lang/Object", name := "<init>", desc := "()V" } : Jvm.MethodName)) ∈ tblG := inC_1 182 (by rfl) rfl
set_option maxRecDepth 400000 in
theorem tw_294 : (Jvm.Cond.fieldLink "VillageStories$Judge" (9 : Nat) "VillageStories$Judge" "shape" "LVillageStories$Shape;") ∈ tblG := inC_1 183 (by rfl) rfl
set_option maxRecDepth 400000 in
theorem tw_295 : (Jvm.Cond.fieldLink "VillageStories$Judge" (15 : Nat) "VillageStories$Judge" "text" "LVillageStories$Text;") ∈ tblG := inC_1 184 (by rfl) rfl
set_option maxRecDepth 400000 in
theorem tw_296 : (Jvm.Cond.fieldLink "VillageStories$Judge" (19 : Nat) "VillageStories$Judge" "facts" "[J") ∈ tblG := inC_1 185 (by rfl) rfl
set_option maxRecDepth 400000 in
theorem tw_297 : (Jvm.Cond.fieldLink "VillageStories$Judge" (23 : Nat) "VillageStories$Judge" "chosen" "[I") ∈ tblG := inC_1 186 (by rfl) rfl
set_option maxRecDepth 400000 in
theorem tw_298 : (Jvm.Cond.fieldLink "VillageStories$Judge" (27 : Nat) "VillageStories$Judge" "paths" "[J") ∈ tblG := inC_1 187 (by rfl) rfl
set_option maxRecDepth 400000 in
theorem tw_299 : (Jvm.Cond.fieldLink "VillageStories$Judge" (30 : Nat) "VillageStories$Judge" "pathed" "I") ∈ tblG := inC_1 188 (by rfl) rfl
set_option maxRecDepth 400000 in
theorem tw_313 : (Jvm.Cond.classLink "VillageStories$Solver" (25 : Nat) "VillageStories$OtherNumbers") ∈ tblG := inC_1 202 (by rfl) rfl
set_option maxRecDepth 400000 in
theorem tw_314 : (Jvm.Cond.instantiable "VillageStories$OtherNumbers" (8 : Nat)) ∈ tblG := inC_1 203 (by rfl) rfl
set_option maxRecDepth 400000 in
theorem tw_316 : (Jvm.Cond.instanceMethod ({ cls := "VillageStories$OtherNumbers", name := "<init>", desc := "()V" } : Jvm.MethodName)) ∈ tblG := inC_1 205 (by rfl) rfl
set_option maxRecDepth 400000 in
theorem tw_317 : (Jvm.Cond.code ({ cls := "VillageStories$OtherNumbers", name := "<init>", desc := "()V" } : Jvm.MethodName) prog_3_method_1_code (1 : Nat) (Option.none : Option Jvm.ClassFile.FieldType)) ∈ tblG := inC_1 206 (by rfl) rfl
set_option maxRecDepth 400000 in
theorem tw_318 : (Jvm.Cond.methodLink "VillageStories$OtherNumbers" (3 : Nat) ({ cls := "java/lang/Object", name := "<init>", desc := "()V" } : Jvm.MethodName)) ∈ tblG := inC_1 207 (by rfl) rfl
set_option maxRecDepth 400000 in
theorem tw_319 : (Jvm.Cond.classLink "VillageStories$OtherNumbers" (18 : Nat) "VillageStories$WorldSet") ∈ tblG := inC_1 208 (by rfl) rfl
set_option maxRecDepth 400000 in
theorem tw_320 : (Jvm.Cond.instantiable "VillageStories$WorldSet" (3 : Nat)) ∈ tblG := inC_1 209 (by rfl) rfl
set_option maxRecDepth 400000 in
theorem tw_322 : (Jvm.Cond.instanceMethod ({ cls := "VillageStories$WorldSet", name := "<init>", desc := "()V" } : Jvm.MethodName)) ∈ tblG := inC_1 211 (by rfl) rfl
set_option maxRecDepth 400000 in
theorem tw_323 : (Jvm.Cond.code ({ cls := "VillageStories$WorldSet", name := "<init>", desc := "()V" } : Jvm.MethodName) prog_9_method_1_code (1 : Nat) (Option.none : Option Jvm.ClassFile.FieldType)) ∈ tblG := inC_1 212 (by rfl) rfl
set_option maxRecDepth 400000 in
theorem tw_324 : (Jvm.Cond.methodLink "VillageStories$WorldSet" (3 : Nat) ({ cls := "java/lang/Object", name := "<init>", desc := "()V" } : Jvm.MethodName)) ∈ tblG := inC_1 213 (by rfl) rfl
set_option maxRecDepth 400000 in
theorem tw_325 : (Jvm.Cond.fieldLink "VillageStories$WorldSet" (9 : Nat) "VillageStories$WorldSet" "words" "[J") ∈ tblG := inC_1 214 (by rfl) rfl
set_option maxRecDepth 400000 in
theorem tw_326 : (Jvm.Cond.fieldLink "VillageStories$Solver" (139 : Nat) "VillageStories$WorldSet" "words" "[J") ∈ tblG := inC_1 215 (by rfl) rfl
set_option maxRecDepth 400000 in
theorem tw_327 : (Jvm.Cond.fieldLink "VillageStories$WorldSet" (15 : Nat) "VillageStories$WorldSet" "used" "I") ∈ tblG := inC_1 216 (by rfl) rfl
set_option maxRecDepth 400000 in
theorem tw_328 : (Jvm.Cond.fieldLink "VillageStories$WorldSet" (19 : Nat) "VillageStories$WorldSet" "facts" "I") ∈ tblG := inC_1 217 (by rfl) rfl
set_option maxRecDepth 400000 in
theorem tw_336 : (Jvm.Cond.fieldLink "VillageStories$OtherNumbers" (9 : Nat) "VillageStories$OtherNumbers" "order" "[I") ∈ tblG := inC_1 225 (by rfl) rfl
set_option maxRecDepth 400000 in
theorem tw_337 : (Jvm.Cond.fieldLink "VillageStories$OtherNumbers" (15 : Nat) "VillageStories$OtherNumbers" "moved" "[I") ∈ tblG := inC_1 226 (by rfl) rfl
set_option maxRecDepth 400000 in
theorem tw_338 : (Jvm.Cond.fieldLink "VillageStories$OtherNumbers" (21 : Nat) "VillageStories$OtherNumbers" "leastRows" "LVillageStories$WorldSet;") ∈ tblG := inC_1 227 (by rfl) rfl
set_option maxRecDepth 400000 in
theorem tw_339 : (Jvm.Cond.fieldLink "VillageStories$OtherNumbers" (25 : Nat) "VillageStories$OtherNumbers" "seen" "LVillageStories$WorldSet;") ∈ tblG := inC_1 228 (by rfl) rfl
set_option maxRecDepth 400000 in
theorem tw_340 : (Jvm.Cond.fieldLink "VillageStories$OtherNumbers" (28 : Nat) "VillageStories$OtherNumbers" "ways" "I") ∈ tblG := inC_1 229 (by rfl) rfl
set_option maxRecDepth 400000 in
theorem tw_341 : (Jvm.Cond.fieldLink "VillageStories$OtherNumbers" (32 : Nat) "VillageStories$OtherNumbers" "facts" "I") ∈ tblG := inC_1 230 (by rfl) rfl
set_option maxRecDepth 400000 in
theorem tw_342 : (Jvm.Cond.fieldLink "VillageStories$OtherNumbers" (35 : Nat) "VillageStories$OtherNumbers" "isLaidOut" "Z") ∈ tblG := inC_1 231 (by rfl) rfl
set_option maxRecDepth 400000 in
theorem tw_343 : (Jvm.Cond.fieldLink "VillageStories$OtherNumbers" (39 : Nat) "VillageStories$OtherNumbers" "isMarked" "Z") ∈ tblG := inC_1 232 (by rfl) rfl
set_option maxRecDepth 400000 in
theorem tw_361 : (Jvm.Cond.classLink "VillageStories$Solver" (32 : Nat) "VillageStories$WorldSet") ∈ tblG := inC_2 10 (by rfl) rfl
set_option maxRecDepth 400000 in
theorem tw_364 : (Jvm.Cond.classLink "VillageStories$Solver" (53 : Nat) "VillageStories$Shape") ∈ tblG := inC_2 13 (by rfl) rfl
set_option maxRecDepth 400000 in
theorem tw_366 : (Jvm.Cond.fieldLink "VillageStories$Solver" (12 : Nat) "VillageStories$Solver" "told" "LVillageStories$Told;") ∈ tblG := inC_2 15 (by rfl) rfl
set_option maxRecDepth 400000 in
theorem tw_367 : (Jvm.Cond.fieldLink "VillageStories" (16 : Nat) "VillageStories$Solver" "told" "LVillageStories$Told;") ∈ tblG := inC_2 16 (by rfl) rfl
set_option maxRecDepth 400000 in
theorem tw_368 : (Jvm.Cond.fieldLink "VillageStories$Solver" (21 : Nat) "VillageStories$Solver" "judge" "LVillageStories$Judge;") ∈ tblG := inC_2 17 (by rfl) rfl
set_option maxRecDepth 400000 in
theorem tw_369 : (Jvm.Cond.fieldLink "VillageStories" (150 : Nat) "VillageStories$Solver" "judge" "LVillageStories$Judge;") ∈ tblG := inC_2 18 (by rfl) rfl
set_option maxRecDepth 400000 in
theorem tw_370 : (Jvm.Cond.fieldLink "VillageStories$Solver" (28 : Nat) "VillageStories$Solver" "others" "LVillageStories$OtherNumbers;") ∈ tblG := inC_2 19 (by rfl) rfl
set_option maxRecDepth 400000 in
theorem tw_371 : (Jvm.Cond.fieldLink "VillageStories$Solver" (34 : Nat) "VillageStories$Solver" "truths" "[LVillageStories$WorldSet;") ∈ tblG := inC_2 20 (by rfl) rfl
set_option maxRecDepth 400000 in
theorem tw_372 : (Jvm.Cond.fieldLink "VillageStories$Solver" (38 : Nat) "VillageStories$Solver" "judged" "I") ∈ tblG := inC_2 21 (by rfl) rfl
set_option maxRecDepth 400000 in
theorem tw_373 : (Jvm.Cond.fieldLink "VillageStories$Solver" (43 : Nat) "VillageStories$Solver" "possible" "LVillageStories$WorldSet;") ∈ tblG := inC_2 22 (by rfl) rfl
set_option maxRecDepth 400000 in
theorem tw_374 : (Jvm.Cond.fieldLink "VillageStories$Solver" (47 : Nat) "VillageStories$Solver" "worlds" "LVillageStories$WorldSet;") ∈ tblG := inC_2 23 (by rfl) rfl
set_option maxRecDepth 400000 in
theorem tw_375 : (Jvm.Cond.fieldLink "VillageStories$Solver" (50 : Nat) "VillageStories$Solver" "picked" "LVillageStories$WorldSet;") ∈ tblG := inC_2 24 (by rfl) rfl
set_option maxRecDepth 400000 in
theorem tw_376 : (Jvm.Cond.fieldLink "VillageStories$Solver" (56 : Nat) "VillageStories$Solver" "trial" "LVillageStories$Shape;") ∈ tblG := inC_2 25 (by rfl) rfl
set_option maxRecDepth 400000 in
theorem tw_377 : (Jvm.Cond.fieldLink "VillageStories$Solver" (60 : Nat) "VillageStories$Solver" "leastSizes" "[I") ∈ tblG := inC_2 26 (by rfl) rfl
set_option maxRecDepth 400000 in
theorem tw_378 : (Jvm.Cond.fieldLink "VillageStories$Solver" (64 : Nat) "VillageStories$Solver" "leastFor" "I") ∈ tblG := inC_2 27 (by rfl) rfl
set_option maxRecDepth 400000 in
theorem tw_379 : (Jvm.Cond.fieldLink "VillageStories$Solver" (67 : Nat) "VillageStories$Solver" "asked" "[I") ∈ tblG := inC_2 28 (by rfl) rfl
set_option maxRecDepth 400000 in
theorem tw_405 : (Jvm.Cond.classLink "VillageStories" (21 : Nat) "VillageStories$Reader") ∈ tblG := inC_2 54 (by rfl) rfl
set_option maxRecDepth 400000 in
theorem tw_406 : (Jvm.Cond.instantiable "VillageStories$Reader" (12 : Nat)) ∈ tblG := inC_2 55 (by rfl) rfl
set_option maxRecDepth 400000 in
theorem tw_408 : (Jvm.Cond.instanceMethod ({ cls := "VillageStories$Reader", name := "<init>", desc := "()V" } : Jvm.MethodName)) ∈ tblG := inC_2 57 (by rfl) rfl
set_option maxRecDepth 400000 in
theorem tw_409 : (Jvm.Cond.code ({ cls := "VillageStories$Reader", name := "<init>", desc := "()V" } : Jvm.MethodName) prog_4_method_1_code (1 : Nat) (Option.none : Option Jvm.ClassFile.FieldType)) ∈ tblG := inC_2 58 (by rfl) rfl
set_option maxRecDepth 400000 in
theorem tw_410 : (Jvm.Cond.methodLink "VillageStories$Reader" (3 : Nat) ({ cls := "java/lang/Object", name := "<init>", desc := "()V" } : Jvm.MethodName)) ∈ tblG := inC_2 59 (by rfl) rfl
set_option maxRecDepth 400000 in
theorem tw_411 : (Jvm.Cond.classLink "VillageStories$Reader" (31 : Nat) "VillageStories$Text") ∈ tblG := inC_2 60 (by rfl) rfl
set_option maxRecDepth 400000 in
theorem tw_412 : (Jvm.Cond.instantiable "VillageStories$Text" (6 : Nat)) ∈ tblG := inC_2 61 (by rfl) rfl
set_option maxRecDepth 400000 in
theorem tw_413 : (Jvm.Cond.methodLink "VillageStories$Reader" (33 : Nat) ({ cls := "VillageStories$Text", name := "<init>", desc := "(I)V" } : Jvm.MethodName)) ∈ tblG := inC_2 62 (by rfl) rfl
set_option maxRecDepth 400000 in
theorem tw_414 : (Jvm.Cond.instanceMethod ({ cls := "VillageStories$Text", name := "<init>", desc := "(I)V" } : Jvm.MethodName)) ∈ tblG := inC_2 63 (by rfl) rfl
set_option maxRecDepth 400000 in
theorem tw_415 : (Jvm.Cond.code ({ cls := "VillageStories$Text", name := "<init>", desc := "(I)V" } : Jvm.MethodName) prog_7_method_1_code (3 : Nat) (Option.none : Option Jvm.ClassFile.FieldType)) ∈ tblG := inC_2 64 (by rfl) rfl
set_option maxRecDepth 400000 in
theorem tw_416 : (Jvm.Cond.methodLink "VillageStories$Text" (3 : Nat) ({ cls := "java/lang/Object", name := "<init>", desc := "()V" } : Jvm.MethodName)) ∈ tblG := inC_2 65 (by rfl) rfl
set_option maxRecDepth 400000 in
theorem tw_417 : (Jvm.Cond.methodLink "VillageStories$Text" (15 : Nat) ({ cls := "java/lang/Math", name := "max", desc := "(II)I" } : Jvm.MethodName)) ∈ tblG := inC_2 66 (by rfl) rfl
set_option maxRecDepth 400000 in
theorem tw_418 : (Jvm.Cond.static ({ cls := "java/lang/Math", name := "max", desc := "(II)I" } : Jvm.MethodName)) ∈ tblG := inC_2 67 (by rfl) rfl
set_option maxRecDepth 400000 in
theorem tw_419 : (Jvm.Cond.code ({ cls := "java/lang/Math", name := "max", desc := "(II)I" } : Jvm.MethodName) prog_14_method_65_code (2 : Nat) (Option.some Jvm.ClassFile.FieldType.int)) ∈ tblG := inC_2 68 (by rfl) rfl
set_option maxRecDepth 400000 in
theorem tw_420 : (Jvm.Cond.fieldLink "VillageStories$Text" (21 : Nat) "VillageStories$Text" "word" "[I") ∈ tblG := inC_2 69 (by rfl) rfl
set_option maxRecDepth 400000 in
theorem tw_421 : (Jvm.Cond.fieldLink "VillageStories$Judge" (79 : Nat) "VillageStories$Text" "word" "[I") ∈ tblG := inC_2 70 (by rfl) rfl
set_option maxRecDepth 400000 in
theorem tw_422 : (Jvm.Cond.fieldLink "VillageStories$Text" (25 : Nat) "VillageStories$Text" "of" "[I") ∈ tblG := inC_2 71 (by rfl) rfl
set_option maxRecDepth 400000 in
theorem tw_423 : (Jvm.Cond.fieldLink "VillageStories$Judge" (94 : Nat) "VillageStories$Text" "of" "[I") ∈ tblG := inC_2 72 (by rfl) rfl
set_option maxRecDepth 400000 in
theorem tw_424 : (Jvm.Cond.fieldLink "VillageStories$Text" (28 : Nat) "VillageStories$Text" "first" "[I") ∈ tblG := inC_2 73 (by rfl) rfl
set_option maxRecDepth 400000 in
theorem tw_425 : (Jvm.Cond.fieldLink "VillageStories$Judge" (88 : Nat) "VillageStories$Text" "first" "[I") ∈ tblG := inC_2 74 (by rfl) rfl
set_option maxRecDepth 400000 in
theorem tw_426 : (Jvm.Cond.fieldLink "VillageStories$Text" (31 : Nat) "VillageStories$Text" "second" "[I") ∈ tblG := inC_2 75 (by rfl) rfl
set_option maxRecDepth 400000 in
theorem tw_427 : (Jvm.Cond.fieldLink "VillageStories$Judge" (70 : Nat) "VillageStories$Text" "second" "[I") ∈ tblG := inC_2 76 (by rfl) rfl
set_option maxRecDepth 400000 in
theorem tw_428 : (Jvm.Cond.fieldLink "VillageStories$Text" (34 : Nat) "VillageStories$Text" "behind" "[I") ∈ tblG := inC_2 77 (by rfl) rfl
set_option maxRecDepth 400000 in
theorem tw_429 : (Jvm.Cond.fieldLink "VillageStories$Judge" (108 : Nat) "VillageStories$Text" "behind" "[I") ∈ tblG := inC_2 78 (by rfl) rfl
set_option maxRecDepth 400000 in
theorem tw_430 : (Jvm.Cond.fieldLink "VillageStories$Text" (9 : Nat) "VillageStories$Text" "parts" "I") ∈ tblG := inC_2 79 (by rfl) rfl
set_option maxRecDepth 400000 in
theorem tw_431 : (Jvm.Cond.fieldLink "VillageStories$Reader" (70 : Nat) "VillageStories$Text" "parts" "I") ∈ tblG := inC_2 80 (by rfl) rfl
set_option maxRecDepth 400000 in
theorem tw_432 : (Jvm.Cond.fieldLink "VillageStories$Judge" (76 : Nat) "VillageStories$Text" "parts" "I") ∈ tblG := inC_2 81 (by rfl) rfl
set_option maxRecDepth 400000 in
theorem tw_433 : (Jvm.Cond.fieldLink "VillageStories" (122 : Nat) "VillageStories$Text" "parts" "I") ∈ tblG := inC_2 82 (by rfl) rfl
set_option maxRecDepth 400000 in
theorem tw_447 : (Jvm.Cond.fieldLink "VillageStories$Reader" (9 : Nat) "VillageStories$Reader" "told" "LVillageStories$Told;") ∈ tblG := inC_2 96 (by rfl) rfl
set_option maxRecDepth 400000 in
theorem tw_448 : (Jvm.Cond.fieldLink "VillageStories$Reader" (15 : Nat) "VillageStories$Reader" "bytes" "[I") ∈ tblG := inC_2 97 (by rfl) rfl
set_option maxRecDepth 400000 in
theorem tw_449 : (Jvm.Cond.fieldLink "VillageStories$Reader" (19 : Nat) "VillageStories$Reader" "length" "I") ∈ tblG := inC_2 98 (by rfl) rfl
set_option maxRecDepth 400000 in
theorem tw_450 : (Jvm.Cond.fieldLink "VillageStories$Reader" (23 : Nat) "VillageStories$Reader" "shape" "LVillageStories$Shape;") ∈ tblG := inC_2 99 (by rfl) rfl
set_option maxRecDepth 400000 in
theorem tw_451 : (Jvm.Cond.fieldLink "VillageStories$Reader" (27 : Nat) "VillageStories$Reader" "broken" "Z") ∈ tblG := inC_2 100 (by rfl) rfl
set_option maxRecDepth 400000 in
theorem tw_452 : (Jvm.Cond.fieldLink "VillageStories$Reader" (36 : Nat) "VillageStories$Reader" "draft" "LVillageStories$Text;") ∈ tblG := inC_2 101 (by rfl) rfl
set_option maxRecDepth 400000 in
theorem tw_453 : (Jvm.Cond.fieldLink "VillageStories$Reader" (40 : Nat) "VillageStories$Reader" "scopes" "[I") ∈ tblG := inC_2 102 (by rfl) rfl
set_option maxRecDepth 400000 in
theorem tw_454 : (Jvm.Cond.fieldLink "VillageStories$Reader" (43 : Nat) "VillageStories$Reader" "waiting" "I") ∈ tblG := inC_2 103 (by rfl) rfl
set_option maxRecDepth 400000 in
theorem tw_455 : (Jvm.Cond.fieldLink "VillageStories$Reader" (46 : Nat) "VillageStories$Reader" "token" "I") ∈ tblG := inC_2 104 (by rfl) rfl
set_option maxRecDepth 400000 in
theorem tw_456 : (Jvm.Cond.fieldLink "VillageStories$Reader" (49 : Nat) "VillageStories$Reader" "place" "I") ∈ tblG := inC_2 105 (by rfl) rfl
set_option maxRecDepth 400000 in
theorem tw_457 : (Jvm.Cond.fieldLink "VillageStories$Reader" (52 : Nat) "VillageStories$Reader" "next" "I") ∈ tblG := inC_2 106 (by rfl) rfl
set_option maxRecDepth 400000 in
theorem tw_458 : (Jvm.Cond.fieldLink "VillageStories$Reader" (55 : Nat) "VillageStories$Reader" "number" "I") ∈ tblG := inC_2 107 (by rfl) rfl
set_option maxRecDepth 400000 in
theorem tw_484 : (Jvm.Cond.classLink "VillageStories" (28 : Nat) "VillageStories$Told") ∈ tblG := inC_2 133 (by rfl) rfl
set_option maxRecDepth 400000 in
theorem tw_487 : (Jvm.Cond.fieldLink "VillageStories" (10 : Nat) "VillageStories" "solver" "LVillageStories$Solver;") ∈ tblG := inC_2 136 (by rfl) rfl
set_option maxRecDepth 400000 in
theorem tw_488 : (Jvm.Cond.fieldLink "VillageStories" (20 : Nat) "VillageStories" "told" "LVillageStories$Told;") ∈ tblG := inC_2 137 (by rfl) rfl
set_option maxRecDepth 400000 in
theorem tw_489 : (Jvm.Cond.fieldLink "VillageStories" (24 : Nat) "VillageStories" "reader" "LVillageStories$Reader;") ∈ tblG := inC_2 138 (by rfl) rfl
set_option maxRecDepth 400000 in
theorem tw_490 : (Jvm.Cond.fieldLink "VillageStories" (30 : Nat) "VillageStories" "images" "[LVillageStories$Told;") ∈ tblG := inC_2 139 (by rfl) rfl
set_option maxRecDepth 400000 in
theorem tw_491 : (Jvm.Cond.fieldLink "VillageStories" (34 : Nat) "VillageStories" "imaged" "[Z") ∈ tblG := inC_2 140 (by rfl) rfl
set_option maxRecDepth 400000 in
theorem tw_503 : (Jvm.Cond.methodLink "VillageStoriesLaw" (13 : Nat) ({ cls := "VillageStories", name := "size", desc := "(II)Z" } : Jvm.MethodName)) ∈ tblG := inC_2 152 (by rfl) rfl
set_option maxRecDepth 400000 in
theorem tw_504 : (Jvm.Cond.instanceMethod ({ cls := "VillageStories", name := "size", desc := "(II)Z" } : Jvm.MethodName)) ∈ tblG := inC_2 153 (by rfl) rfl
set_option maxRecDepth 400000 in
theorem tw_505 : (Jvm.Cond.selects "VillageStories" ({ cls := "VillageStories", name := "size", desc := "(II)Z" } : Jvm.MethodName) ({ cls := "VillageStories", name := "size", desc := "(II)Z" } : Jvm.MethodName)) ∈ tblG := inC_2 154 (by rfl) rfl
set_option maxRecDepth 400000 in
theorem tw_506 : (Jvm.Cond.code ({ cls := "VillageStories", name := "size", desc := "(II)Z" } : Jvm.MethodName) prog_1_method_2_code (3 : Nat) (Option.some Jvm.ClassFile.FieldType.boolean)) ∈ tblG := inC_2 155 (by rfl) rfl
set_option maxRecDepth 400000 in
theorem tw_507 : (Jvm.Cond.methodLink "VillageStories" (43 : Nat) ({ cls := "VillageStories$Shape", name := "resize", desc := "(II)Z" } : Jvm.MethodName)) ∈ tblG := inC_2 156 (by rfl) rfl
set_option maxRecDepth 400000 in
theorem tw_508 : (Jvm.Cond.instanceMethod ({ cls := "VillageStories$Shape", name := "resize", desc := "(II)Z" } : Jvm.MethodName)) ∈ tblG := inC_2 157 (by rfl) rfl
set_option maxRecDepth 400000 in
theorem tw_509 : (Jvm.Cond.selects "VillageStories$Shape" ({ cls := "VillageStories$Shape", name := "resize", desc := "(II)Z" } : Jvm.MethodName) ({ cls := "VillageStories$Shape", name := "resize", desc := "(II)Z" } : Jvm.MethodName)) ∈ tblG := inC_2 158 (by rfl) rfl
set_option maxRecDepth 400000 in
theorem tw_510 : (Jvm.Cond.code ({ cls := "VillageStories$Shape", name := "resize", desc := "(II)Z" } : Jvm.MethodName) prog_5_method_4_code (3 : Nat) (Option.some Jvm.ClassFile.FieldType.boolean)) ∈ tblG := inC_2 159 (by rfl) rfl
set_option maxRecDepth 400000 in
theorem tw_511 : (Jvm.Cond.methodLink "VillageStories$Shape" (46 : Nat) ({ cls := "VillageStories$Shape", name := "isKind", desc := "(I)Z" } : Jvm.MethodName)) ∈ tblG := inC_2 160 (by rfl) rfl
set_option maxRecDepth 400000 in
theorem tw_512 : (Jvm.Cond.static ({ cls := "VillageStories$Shape", name := "isKind", desc := "(I)Z" } : Jvm.MethodName)) ∈ tblG := inC_2 161 (by rfl) rfl
set_option maxRecDepth 400000 in
theorem tw_513 : (Jvm.Cond.code ({ cls := "VillageStories$Shape", name := "isKind", desc := "(I)Z" } : Jvm.MethodName) prog_5_method_2_code (1 : Nat) (Option.some Jvm.ClassFile.FieldType.boolean)) ∈ tblG := inC_2 162 (by rfl) rfl
set_option maxRecDepth 400000 in
theorem tw_514 : (Jvm.Cond.methodLink "VillageStories$Shape" (43 : Nat) ({ cls := "VillageStories$Shape", name := "layOut", desc := "()V" } : Jvm.MethodName)) ∈ tblG := inC_2 163 (by rfl) rfl
set_option maxRecDepth 400000 in
theorem tw_516 : (Jvm.Cond.instanceMethod ({ cls := "VillageStories$Shape", name := "layOut", desc := "()V" } : Jvm.MethodName)) ∈ tblG := inC_2 165 (by rfl) rfl
set_option maxRecDepth 400000 in
theorem tw_517 : (Jvm.Cond.code ({ cls := "VillageStories$Shape", name := "layOut", desc := "()V" } : Jvm.MethodName) prog_5_method_6_code (3 : Nat) (Option.none : Option Jvm.ClassFile.FieldType)) ∈ tblG := inC_2 166 (by rfl) rfl
set_option maxRecDepth 400000 in
theorem tw_518 : (Jvm.Cond.methodLink "VillageStories" (49 : Nat) ({ cls := "VillageStories$Told", name := "clearWorlds", desc := "()V" } : Jvm.MethodName)) ∈ tblG := inC_2 167 (by rfl) rfl
set_option maxRecDepth 400000 in
theorem tw_519 : (Jvm.Cond.instanceMethod ({ cls := "VillageStories$Told", name := "clearWorlds", desc := "()V" } : Jvm.MethodName)) ∈ tblG := inC_2 168 (by rfl) rfl
set_option maxRecDepth 400000 in
theorem tw_520 : (Jvm.Cond.selects "VillageStories$Told" ({ cls := "VillageStories$Told", name := "clearWorlds", desc := "()V" } : Jvm.MethodName) ({ cls := "VillageStories$Told", name := "clearWorlds", desc := "()V" } : Jvm.MethodName)) ∈ tblG := inC_2 169 (by rfl) rfl
set_option maxRecDepth 400000 in
theorem tw_521 : (Jvm.Cond.code ({ cls := "VillageStories$Told", name := "clearWorlds", desc := "()V" } : Jvm.MethodName) prog_8_method_5_code (2 : Nat) (Option.none : Option Jvm.ClassFile.FieldType)) ∈ tblG := inC_2 170 (by rfl) rfl
set_option maxRecDepth 400000 in
theorem tw_522 : (Jvm.Cond.methodLink "VillageStories" (52 : Nat) ({ cls := "VillageStories$Solver", name := "forget", desc := "()V" } : Jvm.MethodName)) ∈ tblG := inC_2 171 (by rfl) rfl
set_option maxRecDepth 400000 in
theorem tw_523 : (Jvm.Cond.instanceMethod ({ cls := "VillageStories$Solver", name := "forget", desc := "()V" } : Jvm.MethodName)) ∈ tblG := inC_2 172 (by rfl) rfl
set_option maxRecDepth 400000 in
theorem tw_524 : (Jvm.Cond.selects "VillageStories$Solver" ({ cls := "VillageStories$Solver", name := "forget", desc := "()V" } : Jvm.MethodName) ({ cls := "VillageStories$Solver", name := "forget", desc := "()V" } : Jvm.MethodName)) ∈ tblG := inC_2 173 (by rfl) rfl
set_option maxRecDepth 400000 in
theorem tw_525 : (Jvm.Cond.code ({ cls := "VillageStories$Solver", name := "forget", desc := "()V" } : Jvm.MethodName) prog_6_method_2_code (1 : Nat) (Option.none : Option Jvm.ClassFile.FieldType)) ∈ tblG := inC_2 174 (by rfl) rfl
set_option maxRecDepth 400000 in
theorem tw_526 : (Jvm.Cond.methodLink "VillageStories$Solver" (70 : Nat) ({ cls := "VillageStories$OtherNumbers", name := "forget", desc := "()V" } : Jvm.MethodName)) ∈ tblG := inC_2 175 (by rfl) rfl
set_option maxRecDepth 400000 in
theorem tw_527 : (Jvm.Cond.instanceMethod ({ cls := "VillageStories$OtherNumbers", name := "forget", desc := "()V" } : Jvm.MethodName)) ∈ tblG := inC_2 176 (by rfl) rfl
set_option maxRecDepth 400000 in
theorem tw_528 : (Jvm.Cond.selects "VillageStories$OtherNumbers" ({ cls := "VillageStories$OtherNumbers", name := "forget", desc := "()V" } : Jvm.MethodName) ({ cls := "VillageStories$OtherNumbers", name := "forget", desc := "()V" } : Jvm.MethodName)) ∈ tblG := inC_2 177 (by rfl) rfl
set_option maxRecDepth 400000 in
theorem tw_529 : (Jvm.Cond.code ({ cls := "VillageStories$OtherNumbers", name := "forget", desc := "()V" } : Jvm.MethodName) prog_3_method_2_code (1 : Nat) (Option.none : Option Jvm.ClassFile.FieldType)) ∈ tblG := inC_2 178 (by rfl) rfl
set_option maxRecDepth 400000 in
theorem tw_530 : (Jvm.Cond.methodLink "VillageStoriesLaw" (18 : Nat) ({ cls := "VillageStories", name := "relation", desc := "(II)I" } : Jvm.MethodName)) ∈ tblG := inC_2 179 (by rfl) rfl
set_option maxRecDepth 400000 in
theorem tw_531 : (Jvm.Cond.instanceMethod ({ cls := "VillageStories", name := "relation", desc := "(II)I" } : Jvm.MethodName)) ∈ tblG := inC_2 180 (by rfl) rfl
set_option maxRecDepth 400000 in
theorem tw_532 : (Jvm.Cond.selects "VillageStories" ({ cls := "VillageStories", name := "relation", desc := "(II)I" } : Jvm.MethodName) ({ cls := "VillageStories", name := "relation", desc := "(II)I" } : Jvm.MethodName)) ∈ tblG := inC_2 181 (by rfl) rfl
set_option maxRecDepth 400000 in
theorem tw_533 : (Jvm.Cond.code ({ cls := "VillageStories", name := "relation", desc := "(II)I" } : Jvm.MethodName) prog_1_method_3_code (4 : Nat) (Option.some Jvm.ClassFile.FieldType.int)) ∈ tblG := inC_2 182 (by rfl) rfl
set_option maxRecDepth 400000 in
theorem tw_534 : (Jvm.Cond.methodLink "VillageStories" (55 : Nat) ({ cls := "VillageStories$Shape", name := "addRelation", desc := "(II)I" } : Jvm.MethodName)) ∈ tblG := inC_2 183 (by rfl) rfl
set_option maxRecDepth 400000 in
theorem tw_535 : (Jvm.Cond.instanceMethod ({ cls := "VillageStories$Shape", name := "addRelation", desc := "(II)I" } : Jvm.MethodName)) ∈ tblG := inC_2 184 (by rfl) rfl
set_option maxRecDepth 400000 in
theorem tw_536 : (Jvm.Cond.selects "VillageStories$Shape" ({ cls := "VillageStories$Shape", name := "addRelation", desc := "(II)I" } : Jvm.MethodName) ({ cls := "VillageStories$Shape", name := "addRelation", desc := "(II)I" } : Jvm.MethodName)) ∈ tblG := inC_2 185 (by rfl) rfl
set_option maxRecDepth 400000 in
theorem tw_537 : (Jvm.Cond.code ({ cls := "VillageStories$Shape", name := "addRelation", desc := "(II)I" } : Jvm.MethodName) prog_5_method_5_code (3 : Nat) (Option.some Jvm.ClassFile.FieldType.int)) ∈ tblG := inC_2 186 (by rfl) rfl
set_option maxRecDepth 400000 in
theorem tw_538 : (Jvm.Cond.methodLink "VillageStoriesLaw" (23 : Nat) ({ cls := "VillageStories", name := "facts", desc := "()I" } : Jvm.MethodName)) ∈ tblG := inC_2 187 (by rfl) rfl
set_option maxRecDepth 400000 in
theorem tw_539 : (Jvm.Cond.instanceMethod ({ cls := "VillageStories", name := "facts", desc := "()I" } : Jvm.MethodName)) ∈ tblG := inC_2 188 (by rfl) rfl
set_option maxRecDepth 400000 in
theorem tw_540 : (Jvm.Cond.selects "VillageStories" ({ cls := "VillageStories", name := "facts", desc := "()I" } : Jvm.MethodName) ({ cls := "VillageStories", name := "facts", desc := "()I" } : Jvm.MethodName)) ∈ tblG := inC_2 189 (by rfl) rfl
set_option maxRecDepth 400000 in
theorem tw_541 : (Jvm.Cond.code ({ cls := "VillageStories", name := "facts", desc := "()I" } : Jvm.MethodName) prog_1_method_4_code (1 : Nat) (Option.some Jvm.ClassFile.FieldType.int)) ∈ tblG := inC_2 190 (by rfl) rfl
set_option maxRecDepth 400000 in
theorem tw_542 : (Jvm.Cond.methodLink "VillageStoriesLaw" (28 : Nat) ({ cls := "VillageStories", name := "tell", desc := "(IIIZ)Z" } : Jvm.MethodName)) ∈ tblG := inC_2 191 (by rfl) rfl
set_option maxRecDepth 400000 in
theorem tw_543 : (Jvm.Cond.instanceMethod ({ cls := "VillageStories", name := "tell", desc := "(IIIZ)Z" } : Jvm.MethodName)) ∈ tblG := inC_2 192 (by rfl) rfl
set_option maxRecDepth 400000 in
theorem tw_544 : (Jvm.Cond.selects "VillageStories" ({ cls := "VillageStories", name := "tell", desc := "(IIIZ)Z" } : Jvm.MethodName) ({ cls := "VillageStories", name := "tell", desc := "(IIIZ)Z" } : Jvm.MethodName)) ∈ tblG := inC_2 193 (by rfl) rfl
set_option maxRecDepth 400000 in
theorem tw_545 : (Jvm.Cond.code ({ cls := "VillageStories", name := "tell", desc := "(IIIZ)Z" } : Jvm.MethodName) prog_1_method_5_code (6 : Nat) (Option.some Jvm.ClassFile.FieldType.boolean)) ∈ tblG := inC_2 194 (by rfl) rfl
set_option maxRecDepth 400000 in
theorem tw_546 : (Jvm.Cond.methodLink "VillageStories" (63 : Nat) ({ cls := "VillageStories$Shape", name := "place", desc := "(III)I" } : Jvm.MethodName)) ∈ tblG := inC_2 195 (by rfl) rfl
set_option maxRecDepth 400000 in
theorem tw_547 : (Jvm.Cond.instanceMethod ({ cls := "VillageStories$Shape", name := "place", desc := "(III)I" } : Jvm.MethodName)) ∈ tblG := inC_2 196 (by rfl) rfl
set_option maxRecDepth 400000 in
theorem tw_548 : (Jvm.Cond.selects "VillageStories$Shape" ({ cls := "VillageStories$Shape", name := "place", desc := "(III)I" } : Jvm.MethodName) ({ cls := "VillageStories$Shape", name := "place", desc := "(III)I" } : Jvm.MethodName)) ∈ tblG := inC_2 197 (by rfl) rfl
set_option maxRecDepth 400000 in
theorem tw_549 : (Jvm.Cond.code ({ cls := "VillageStories$Shape", name := "place", desc := "(III)I" } : Jvm.MethodName) prog_5_method_10_code (5 : Nat) (Option.some Jvm.ClassFile.FieldType.int)) ∈ tblG := inC_2 198 (by rfl) rfl
set_option maxRecDepth 400000 in
theorem tw_550 : (Jvm.Cond.methodLink "VillageStories" (67 : Nat) ({ cls := "VillageStories$Told", name := "isSo", desc := "(I)Z" } : Jvm.MethodName)) ∈ tblG := inC_2 199 (by rfl) rfl
set_option maxRecDepth 400000 in
theorem tw_551 : (Jvm.Cond.instanceMethod ({ cls := "VillageStories$Told", name := "isSo", desc := "(I)Z" } : Jvm.MethodName)) ∈ tblG := inC_2 200 (by rfl) rfl
set_option maxRecDepth 400000 in
theorem tw_552 : (Jvm.Cond.selects "VillageStories$Told" ({ cls := "VillageStories$Told", name := "isSo", desc := "(I)Z" } : Jvm.MethodName) ({ cls := "VillageStories$Told", name := "isSo", desc := "(I)Z" } : Jvm.MethodName)) ∈ tblG := inC_2 201 (by rfl) rfl
set_option maxRecDepth 400000 in
theorem tw_553 : (Jvm.Cond.code ({ cls := "VillageStories$Told", name := "isSo", desc := "(I)Z" } : Jvm.MethodName) prog_8_method_6_code (2 : Nat) (Option.some Jvm.ClassFile.FieldType.boolean)) ∈ tblG := inC_2 202 (by rfl) rfl
set_option maxRecDepth 400000 in
theorem tw_554 : (Jvm.Cond.methodLink "VillageStories$Told" (98 : Nat) ({ cls := "VillageStories$Shape", name := "bit", desc := "(I)I" } : Jvm.MethodName)) ∈ tblG := inC_2 203 (by rfl) rfl
set_option maxRecDepth 400000 in
theorem tw_555 : (Jvm.Cond.instanceMethod ({ cls := "VillageStories$Shape", name := "bit", desc := "(I)I" } : Jvm.MethodName)) ∈ tblG := inC_2 204 (by rfl) rfl
set_option maxRecDepth 400000 in
theorem tw_556 : (Jvm.Cond.selects "VillageStories$Shape" ({ cls := "VillageStories$Shape", name := "bit", desc := "(I)I" } : Jvm.MethodName) ({ cls := "VillageStories$Shape", name := "bit", desc := "(I)I" } : Jvm.MethodName)) ∈ tblG := inC_2 205 (by rfl) rfl
set_option maxRecDepth 400000 in
theorem tw_557 : (Jvm.Cond.code ({ cls := "VillageStories$Shape", name := "bit", desc := "(I)I" } : Jvm.MethodName) prog_5_method_11_code (2 : Nat) (Option.some Jvm.ClassFile.FieldType.int)) ∈ tblG := inC_2 206 (by rfl) rfl
set_option maxRecDepth 400000 in
theorem tw_558 : (Jvm.Cond.methodLink "VillageStories" (75 : Nat) ({ cls := "VillageStories$Shape", name := "bit", desc := "(I)I" } : Jvm.MethodName)) ∈ tblG := inC_2 207 (by rfl) rfl
set_option maxRecDepth 400000 in
theorem tw_559 : (Jvm.Cond.methodLink "VillageStoriesLaw" (33 : Nat) ({ cls := "VillageStories", name := "fact", desc := "(III)I" } : Jvm.MethodName)) ∈ tblG := inC_2 208 (by rfl) rfl
set_option maxRecDepth 400000 in
theorem tw_560 : (Jvm.Cond.instanceMethod ({ cls := "VillageStories", name := "fact", desc := "(III)I" } : Jvm.MethodName)) ∈ tblG := inC_2 209 (by rfl) rfl
set_option maxRecDepth 400000 in
theorem tw_561 : (Jvm.Cond.selects "VillageStories" ({ cls := "VillageStories", name := "fact", desc := "(III)I" } : Jvm.MethodName) ({ cls := "VillageStories", name := "fact", desc := "(III)I" } : Jvm.MethodName)) ∈ tblG := inC_2 210 (by rfl) rfl
set_option maxRecDepth 400000 in
theorem tw_562 : (Jvm.Cond.code ({ cls := "VillageStories", name := "fact", desc := "(III)I" } : Jvm.MethodName) prog_1_method_6_code (5 : Nat) (Option.some Jvm.ClassFile.FieldType.int)) ∈ tblG := inC_2 211 (by rfl) rfl
set_option maxRecDepth 400000 in
theorem tw_563 : (Jvm.Cond.methodLink "VillageStoriesLaw" (38 : Nat) ({ cls := "VillageStories", name := "known", desc := "(IIIZ)Z" } : Jvm.MethodName)) ∈ tblG := inC_2 212 (by rfl) rfl
set_option maxRecDepth 400000 in
theorem tw_564 : (Jvm.Cond.instanceMethod ({ cls := "VillageStories", name := "known", desc := "(IIIZ)Z" } : Jvm.MethodName)) ∈ tblG := inC_2 213 (by rfl) rfl
set_option maxRecDepth 400000 in
theorem tw_565 : (Jvm.Cond.selects "VillageStories" ({ cls := "VillageStories", name := "known", desc := "(IIIZ)Z" } : Jvm.MethodName) ({ cls := "VillageStories", name := "known", desc := "(IIIZ)Z" } : Jvm.MethodName)) ∈ tblG := inC_2 214 (by rfl) rfl
set_option maxRecDepth 400000 in
theorem tw_566 : (Jvm.Cond.code ({ cls := "VillageStories", name := "known", desc := "(IIIZ)Z" } : Jvm.MethodName) prog_1_method_7_code (5 : Nat) (Option.some Jvm.ClassFile.FieldType.boolean)) ∈ tblG := inC_2 215 (by rfl) rfl
set_option maxRecDepth 400000 in
theorem tw_567 : (Jvm.Cond.methodLink "VillageStories" (79 : Nat) ({ cls := "VillageStories$Told", name := "addKnown", desc := "(IIIZ)Z" } : Jvm.MethodName)) ∈ tblG := inC_2 216 (by rfl) rfl
set_option maxRecDepth 400000 in
theorem tw_568 : (Jvm.Cond.instanceMethod ({ cls := "VillageStories$Told", name := "addKnown", desc := "(IIIZ)Z" } : Jvm.MethodName)) ∈ tblG := inC_2 217 (by rfl) rfl
set_option maxRecDepth 400000 in
theorem tw_569 : (Jvm.Cond.selects "VillageStories$Told" ({ cls := "VillageStories$Told", name := "addKnown", desc := "(IIIZ)Z" } : Jvm.MethodName) ({ cls := "VillageStories$Told", name := "addKnown", desc := "(IIIZ)Z" } : Jvm.MethodName)) ∈ tblG := inC_2 218 (by rfl) rfl
set_option maxRecDepth 400000 in
theorem tw_570 : (Jvm.Cond.code ({ cls := "VillageStories$Told", name := "addKnown", desc := "(IIIZ)Z" } : Jvm.MethodName) prog_8_method_14_code (6 : Nat) (Option.some Jvm.ClassFile.FieldType.boolean)) ∈ tblG := inC_2 219 (by rfl) rfl
set_option maxRecDepth 400000 in
theorem tw_571 : (Jvm.Cond.methodLink "VillageStories$Told" (110 : Nat) ({ cls := "VillageStories$Shape", name := "isOfTwo", desc := "(I)Z" } : Jvm.MethodName)) ∈ tblG := inC_2 220 (by rfl) rfl
set_option maxRecDepth 400000 in
theorem tw_572 : (Jvm.Cond.instanceMethod ({ cls := "VillageStories$Shape", name := "isOfTwo", desc := "(I)Z" } : Jvm.MethodName)) ∈ tblG := inC_2 221 (by rfl) rfl
set_option maxRecDepth 400000 in
theorem tw_573 : (Jvm.Cond.selects "VillageStories$Shape" ({ cls := "VillageStories$Shape", name := "isOfTwo", desc := "(I)Z" } : Jvm.MethodName) ({ cls := "VillageStories$Shape", name := "isOfTwo", desc := "(I)Z" } : Jvm.MethodName)) ∈ tblG := inC_2 222 (by rfl) rfl
set_option maxRecDepth 400000 in
theorem tw_574 : (Jvm.Cond.code ({ cls := "VillageStories$Shape", name := "isOfTwo", desc := "(I)Z" } : Jvm.MethodName) prog_5_method_8_code (2 : Nat) (Option.some Jvm.ClassFile.FieldType.boolean)) ∈ tblG := inC_2 223 (by rfl) rfl
set_option maxRecDepth 400000 in
theorem tw_575 : (Jvm.Cond.methodLink "VillageStories$Told" (113 : Nat) ({ cls := "VillageStories$Shape", name := "hasRelation", desc := "(I)Z" } : Jvm.MethodName)) ∈ tblG := inC_2 224 (by rfl) rfl
set_option maxRecDepth 400000 in
theorem tw_576 : (Jvm.Cond.instanceMethod ({ cls := "VillageStories$Shape", name := "hasRelation", desc := "(I)Z" } : Jvm.MethodName)) ∈ tblG := inC_2 225 (by rfl) rfl
set_option maxRecDepth 400000 in
theorem tw_577 : (Jvm.Cond.selects "VillageStories$Shape" ({ cls := "VillageStories$Shape", name := "hasRelation", desc := "(I)Z" } : Jvm.MethodName) ({ cls := "VillageStories$Shape", name := "hasRelation", desc := "(I)Z" } : Jvm.MethodName)) ∈ tblG := inC_2 226 (by rfl) rfl
set_option maxRecDepth 400000 in
theorem tw_578 : (Jvm.Cond.code ({ cls := "VillageStories$Shape", name := "hasRelation", desc := "(I)Z" } : Jvm.MethodName) prog_5_method_7_code (2 : Nat) (Option.some Jvm.ClassFile.FieldType.boolean)) ∈ tblG := inC_2 227 (by rfl) rfl
set_option maxRecDepth 400000 in
theorem tw_579 : (Jvm.Cond.methodLink "VillageStoriesLaw" (42 : Nat) ({ cls := "VillageStories", name := "keep", desc := "(I)Z" } : Jvm.MethodName)) ∈ tblG := inC_2 228 (by rfl) rfl
set_option maxRecDepth 400000 in
theorem tw_580 : (Jvm.Cond.instanceMethod ({ cls := "VillageStories", name := "keep", desc := "(I)Z" } : Jvm.MethodName)) ∈ tblG := inC_2 229 (by rfl) rfl
set_option maxRecDepth 400000 in
theorem tw_581 : (Jvm.Cond.selects "VillageStories" ({ cls := "VillageStories", name := "keep", desc := "(I)Z" } : Jvm.MethodName) ({ cls := "VillageStories", name := "keep", desc := "(I)Z" } : Jvm.MethodName)) ∈ tblG := inC_2 230 (by rfl) rfl
set_option maxRecDepth 400000 in
theorem tw_582 : (Jvm.Cond.code ({ cls := "VillageStories", name := "keep", desc := "(I)Z" } : Jvm.MethodName) prog_1_method_8_code (2 : Nat) (Option.some Jvm.ClassFile.FieldType.boolean)) ∈ tblG := inC_2 231 (by rfl) rfl
set_option maxRecDepth 400000 in
theorem tw_583 : (Jvm.Cond.methodLink "VillageStoriesLaw" (47 : Nat) ({ cls := "VillageStories", name := "apart", desc := "(I)I" } : Jvm.MethodName)) ∈ tblG := inC_2 232 (by rfl) rfl
set_option maxRecDepth 400000 in
theorem tw_584 : (Jvm.Cond.instanceMethod ({ cls := "VillageStories", name := "apart", desc := "(I)I" } : Jvm.MethodName)) ∈ tblG := inC_2 233 (by rfl) rfl
set_option maxRecDepth 400000 in
theorem tw_585 : (Jvm.Cond.selects "VillageStories" ({ cls := "VillageStories", name := "apart", desc := "(I)I" } : Jvm.MethodName) ({ cls := "VillageStories", name := "apart", desc := "(I)I" } : Jvm.MethodName)) ∈ tblG := inC_2 234 (by rfl) rfl
set_option maxRecDepth 400000 in
theorem tw_586 : (Jvm.Cond.code ({ cls := "VillageStories", name := "apart", desc := "(I)I" } : Jvm.MethodName) prog_1_method_9_code (2 : Nat) (Option.some Jvm.ClassFile.FieldType.int)) ∈ tblG := inC_2 235 (by rfl) rfl
set_option maxRecDepth 400000 in
theorem tw_587 : (Jvm.Cond.methodLink "VillageStories" (90 : Nat) ({ cls := "VillageStories$Solver", name := "fewestApart", desc := "(J)I" } : Jvm.MethodName)) ∈ tblG := inC_2 236 (by rfl) rfl
set_option maxRecDepth 400000 in
theorem tw_588 : (Jvm.Cond.instanceMethod ({ cls := "VillageStories$Solver", name := "fewestApart", desc := "(J)I" } : Jvm.MethodName)) ∈ tblG := inC_2 237 (by rfl) rfl
set_option maxRecDepth 400000 in
theorem tw_589 : (Jvm.Cond.selects "VillageStories$Solver" ({ cls := "VillageStories$Solver", name := "fewestApart", desc := "(J)I" } : Jvm.MethodName) ({ cls := "VillageStories$Solver", name := "fewestApart", desc := "(J)I" } : Jvm.MethodName)) ∈ tblG := inC_2 238 (by rfl) rfl
set_option maxRecDepth 400000 in
theorem tw_590 : (Jvm.Cond.code ({ cls := "VillageStories$Solver", name := "fewestApart", desc := "(J)I" } : Jvm.MethodName) prog_6_method_13_code (3 : Nat) (Option.some Jvm.ClassFile.FieldType.int)) ∈ tblG := inC_2 239 (by rfl) rfl
set_option maxRecDepth 400000 in
theorem tw_591 : (Jvm.Cond.methodLink "VillageStories$Solver" (79 : Nat) ({ cls := "VillageStories$Solver", name := "canTell", desc := "()Z" } : Jvm.MethodName)) ∈ tblG := inC_3 0 (by rfl) rfl
set_option maxRecDepth 400000 in
theorem tw_593 : (Jvm.Cond.instanceMethod ({ cls := "VillageStories$Solver", name := "canTell", desc := "()Z" } : Jvm.MethodName)) ∈ tblG := inC_3 2 (by rfl) rfl
set_option maxRecDepth 400000 in
theorem tw_594 : (Jvm.Cond.code ({ cls := "VillageStories$Solver", name := "canTell", desc := "()Z" } : Jvm.MethodName) prog_6_method_4_code (1 : Nat) (Option.some Jvm.ClassFile.FieldType.boolean)) ∈ tblG := inC_3 3 (by rfl) rfl
set_option maxRecDepth 400000 in
theorem tw_595 : (Jvm.Cond.methodLink "VillageStories$Solver" (171 : Nat) ({ cls := "VillageStories$OtherNumbers", name := "fewestApart", desc := "(LVillageStories$Shape;II)I" } : Jvm.MethodName)) ∈ tblG := inC_3 4 (by rfl) rfl
set_option maxRecDepth 400000 in
theorem tw_596 : (Jvm.Cond.instanceMethod ({ cls := "VillageStories$OtherNumbers", name := "fewestApart", desc := "(LVillageStories$Shape;II)I" } : Jvm.MethodName)) ∈ tblG := inC_3 5 (by rfl) rfl
set_option maxRecDepth 400000 in
theorem tw_597 : (Jvm.Cond.selects "VillageStories$OtherNumbers" ({ cls := "VillageStories$OtherNumbers", name := "fewestApart", desc := "(LVillageStories$Shape;II)I" } : Jvm.MethodName) ({ cls := "VillageStories$OtherNumbers", name := "fewestApart", desc := "(LVillageStories$Shape;II)I" } : Jvm.MethodName)) ∈ tblG := inC_3 6 (by rfl) rfl
set_option maxRecDepth 400000 in
theorem tw_598 : (Jvm.Cond.code ({ cls := "VillageStories$OtherNumbers", name := "fewestApart", desc := "(LVillageStories$Shape;II)I" } : Jvm.MethodName) prog_3_method_5_code (6 : Nat) (Option.some Jvm.ClassFile.FieldType.int)) ∈ tblG := inC_3 7 (by rfl) rfl
set_option maxRecDepth 400000 in
theorem tw_599 : (Jvm.Cond.methodLink "VillageStories$OtherNumbers" (42 : Nat) ({ cls := "VillageStories$OtherNumbers", name := "layOut", desc := "(LVillageStories$Shape;)V" } : Jvm.MethodName)) ∈ tblG := inC_3 8 (by rfl) rfl
set_option maxRecDepth 400000 in
theorem tw_601 : (Jvm.Cond.instanceMethod ({ cls := "VillageStories$OtherNumbers", name := "layOut", desc := "(LVillageStories$Shape;)V" } : Jvm.MethodName)) ∈ tblG := inC_3 10 (by rfl) rfl
set_option maxRecDepth 400000 in
theorem tw_602 : (Jvm.Cond.code ({ cls := "VillageStories$OtherNumbers", name := "layOut", desc := "(LVillageStories$Shape;)V" } : Jvm.MethodName) prog_3_method_8_code (5 : Nat) (Option.none : Option Jvm.ClassFile.FieldType)) ∈ tblG := inC_3 11 (by rfl) rfl
set_option maxRecDepth 400000 in
theorem tw_603 : (Jvm.Cond.methodLink "VillageStories$OtherNumbers" (82 : Nat) ({ cls := "VillageStories$OtherNumbers", name := "ordersOf", desc := "(LVillageStories$Shape;I)I" } : Jvm.MethodName)) ∈ tblG := inC_3 12 (by rfl) rfl
set_option maxRecDepth 400000 in
theorem tw_604 : (Jvm.Cond.static ({ cls := "VillageStories$OtherNumbers", name := "ordersOf", desc := "(LVillageStories$Shape;I)I" } : Jvm.MethodName)) ∈ tblG := inC_3 13 (by rfl) rfl
set_option maxRecDepth 400000 in
theorem tw_605 : (Jvm.Cond.code ({ cls := "VillageStories$OtherNumbers", name := "ordersOf", desc := "(LVillageStories$Shape;I)I" } : Jvm.MethodName) prog_3_method_9_code (3 : Nat) (Option.some Jvm.ClassFile.FieldType.int)) ∈ tblG := inC_3 14 (by rfl) rfl
set_option maxRecDepth 400000 in
theorem tw_606 : (Jvm.Cond.fieldLink "VillageStories$OtherNumbers" (98 : Nat) "VillageStories$OtherNumbers" "ORDERS_OF" "[I") ∈ tblG := inC_3 15 (by rfl) rfl
set_option maxRecDepth 400000 in
theorem tw_608 : (Jvm.Cond.methodLink "VillageStories$OtherNumbers" (86 : Nat) ({ cls := "VillageStories$OtherNumbers", name := "addWay", desc := "(LVillageStories$Shape;)V" } : Jvm.MethodName)) ∈ tblG := inC_3 17 (by rfl) rfl
set_option maxRecDepth 400000 in
theorem tw_610 : (Jvm.Cond.instanceMethod ({ cls := "VillageStories$OtherNumbers", name := "addWay", desc := "(LVillageStories$Shape;)V" } : Jvm.MethodName)) ∈ tblG := inC_3 19 (by rfl) rfl
set_option maxRecDepth 400000 in
theorem tw_611 : (Jvm.Cond.code ({ cls := "VillageStories$OtherNumbers", name := "addWay", desc := "(LVillageStories$Shape;)V" } : Jvm.MethodName) prog_3_method_10_code (9 : Nat) (Option.none : Option Jvm.ClassFile.FieldType)) ∈ tblG := inC_3 20 (by rfl) rfl
set_option maxRecDepth 400000 in
theorem tw_612 : (Jvm.Cond.methodLink "VillageStories$OtherNumbers" (107 : Nat) ({ cls := "VillageStories$OtherNumbers", name := "ordered", desc := "(II)I" } : Jvm.MethodName)) ∈ tblG := inC_3 21 (by rfl) rfl
set_option maxRecDepth 400000 in
theorem tw_614 : (Jvm.Cond.instanceMethod ({ cls := "VillageStories$OtherNumbers", name := "ordered", desc := "(II)I" } : Jvm.MethodName)) ∈ tblG := inC_3 23 (by rfl) rfl
set_option maxRecDepth 400000 in
theorem tw_615 : (Jvm.Cond.code ({ cls := "VillageStories$OtherNumbers", name := "ordered", desc := "(II)I" } : Jvm.MethodName) prog_3_method_11_code (4 : Nat) (Option.some Jvm.ClassFile.FieldType.int)) ∈ tblG := inC_3 24 (by rfl) rfl
set_option maxRecDepth 400000 in
theorem tw_616 : (Jvm.Cond.fieldLink "VillageStories$OtherNumbers" (119 : Nat) "VillageStories$OtherNumbers" "ORDERS" "[I") ∈ tblG := inC_3 25 (by rfl) rfl
set_option maxRecDepth 400000 in
theorem tw_618 : (Jvm.Cond.methodLink "VillageStories$OtherNumbers" (116 : Nat) ({ cls := "VillageStories$Shape", name := "bit", desc := "(I)I" } : Jvm.MethodName)) ∈ tblG := inC_3 27 (by rfl) rfl
set_option maxRecDepth 400000 in
theorem tw_619 : (Jvm.Cond.methodLink "VillageStories$OtherNumbers" (53 : Nat) ({ cls := "java/lang/Math", name := "min", desc := "(II)I" } : Jvm.MethodName)) ∈ tblG := inC_3 28 (by rfl) rfl
set_option maxRecDepth 400000 in
theorem tw_620 : (Jvm.Cond.static ({ cls := "java/lang/Math", name := "min", desc := "(II)I" } : Jvm.MethodName)) ∈ tblG := inC_3 29 (by rfl) rfl
set_option maxRecDepth 400000 in
theorem tw_621 : (Jvm.Cond.code ({ cls := "java/lang/Math", name := "min", desc := "(II)I" } : Jvm.MethodName) prog_14_method_69_code (2 : Nat) (Option.some Jvm.ClassFile.FieldType.int)) ∈ tblG := inC_3 30 (by rfl) rfl
set_option maxRecDepth 400000 in
theorem tw_622 : (Jvm.Cond.methodLink "VillageStories$OtherNumbers" (49 : Nat) ({ cls := "VillageStories$OtherNumbers", name := "renumbered", desc := "(II)I" } : Jvm.MethodName)) ∈ tblG := inC_3 31 (by rfl) rfl
set_option maxRecDepth 400000 in
theorem tw_624 : (Jvm.Cond.instanceMethod ({ cls := "VillageStories$OtherNumbers", name := "renumbered", desc := "(II)I" } : Jvm.MethodName)) ∈ tblG := inC_3 33 (by rfl) rfl
set_option maxRecDepth 400000 in
theorem tw_625 : (Jvm.Cond.code ({ cls := "VillageStories$OtherNumbers", name := "renumbered", desc := "(II)I" } : Jvm.MethodName) prog_3_method_7_code (5 : Nat) (Option.some Jvm.ClassFile.FieldType.int)) ∈ tblG := inC_3 34 (by rfl) rfl
set_option maxRecDepth 400000 in
theorem tw_626 : (Jvm.Cond.methodLink "VillageStories$OtherNumbers" (58 : Nat) ({ cls := "java/lang/Integer", name := "bitCount", desc := "(I)I" } : Jvm.MethodName)) ∈ tblG := inC_3 35 (by rfl) rfl
set_option maxRecDepth 400000 in
theorem tw_627 : (Jvm.Cond.static ({ cls := "java/lang/Integer", name := "bitCount", desc := "(I)I" } : Jvm.MethodName)) ∈ tblG := inC_3 36 (by rfl) rfl
set_option maxRecDepth 400000 in
theorem tw_628 : (Jvm.Cond.code ({ cls := "java/lang/Integer", name := "bitCount", desc := "(I)I" } : Jvm.MethodName) prog_12_method_49_code (1 : Nat) (Option.some Jvm.ClassFile.FieldType.int)) ∈ tblG := inC_3 37 (by rfl) rfl
set_option maxRecDepth 400000 in
theorem tw_629 : (Jvm.Cond.constant "java/lang/Integer" (265 : Nat) (1431655765 : Int32)) ∈ tblG := inC_3 38 (by rfl) rfl
set_option maxRecDepth 400000 in
theorem tw_630 : (Jvm.Cond.constant "java/lang/Integer" (266 : Nat) (858993459 : Int32)) ∈ tblG := inC_3 39 (by rfl) rfl
set_option maxRecDepth 400000 in
theorem tw_631 : (Jvm.Cond.constant "java/lang/Integer" (267 : Nat) (252645135 : Int32)) ∈ tblG := inC_3 40 (by rfl) rfl
set_option maxRecDepth 400000 in
theorem tw_632 : (Jvm.Cond.methodLink "VillageStoriesLaw" (52 : Nat) ({ cls := "VillageStories", name := "feed", desc := "(IIIII)I" } : Jvm.MethodName)) ∈ tblG := inC_3 41 (by rfl) rfl
set_option maxRecDepth 400000 in
theorem tw_633 : (Jvm.Cond.instanceMethod ({ cls := "VillageStories", name := "feed", desc := "(IIIII)I" } : Jvm.MethodName)) ∈ tblG := inC_3 42 (by rfl) rfl
set_option maxRecDepth 400000 in
theorem tw_634 : (Jvm.Cond.selects "VillageStories" ({ cls := "VillageStories", name := "feed", desc := "(IIIII)I" } : Jvm.MethodName) ({ cls := "VillageStories", name := "feed", desc := "(IIIII)I" } : Jvm.MethodName)) ∈ tblG := inC_3 43 (by rfl) rfl
set_option maxRecDepth 400000 in
theorem tw_635 : (Jvm.Cond.code ({ cls := "VillageStories", name := "feed", desc := "(IIIII)I" } : Jvm.MethodName) prog_1_method_10_code (6 : Nat) (Option.some Jvm.ClassFile.FieldType.int)) ∈ tblG := inC_3 44 (by rfl) rfl
set_option maxRecDepth 400000 in
theorem tw_636 : (Jvm.Cond.methodLink "VillageStories" (97 : Nat) ({ cls := "VillageStories$Told", name := "addBytes", desc := "(I)V" } : Jvm.MethodName)) ∈ tblG := inC_3 45 (by rfl) rfl
set_option maxRecDepth 400000 in
theorem tw_637 : (Jvm.Cond.instanceMethod ({ cls := "VillageStories$Told", name := "addBytes", desc := "(I)V" } : Jvm.MethodName)) ∈ tblG := inC_3 46 (by rfl) rfl
set_option maxRecDepth 400000 in
theorem tw_638 : (Jvm.Cond.selects "VillageStories$Told" ({ cls := "VillageStories$Told", name := "addBytes", desc := "(I)V" } : Jvm.MethodName) ({ cls := "VillageStories$Told", name := "addBytes", desc := "(I)V" } : Jvm.MethodName)) ∈ tblG := inC_3 47 (by rfl) rfl
set_option maxRecDepth 400000 in
theorem tw_639 : (Jvm.Cond.code ({ cls := "VillageStories$Told", name := "addBytes", desc := "(I)V" } : Jvm.MethodName) prog_8_method_8_code (3 : Nat) (Option.none : Option Jvm.ClassFile.FieldType)) ∈ tblG := inC_3 48 (by rfl) rfl
set_option maxRecDepth 400000 in
theorem tw_640 : (Jvm.Cond.methodLink "VillageStoriesLaw" (57 : Nat) ({ cls := "VillageStories", name := "end", desc := "(I)I" } : Jvm.MethodName)) ∈ tblG := inC_3 49 (by rfl) rfl
set_option maxRecDepth 400000 in
theorem tw_641 : (Jvm.Cond.instanceMethod ({ cls := "VillageStories", name := "end", desc := "(I)I" } : Jvm.MethodName)) ∈ tblG := inC_3 50 (by rfl) rfl
set_option maxRecDepth 400000 in
theorem tw_642 : (Jvm.Cond.selects "VillageStories" ({ cls := "VillageStories", name := "end", desc := "(I)I" } : Jvm.MethodName) ({ cls := "VillageStories", name := "end", desc := "(I)I" } : Jvm.MethodName)) ∈ tblG := inC_3 51 (by rfl) rfl
set_option maxRecDepth 400000 in
theorem tw_643 : (Jvm.Cond.code ({ cls := "VillageStories", name := "end", desc := "(I)I" } : Jvm.MethodName) prog_1_method_11_code (2 : Nat) (Option.some Jvm.ClassFile.FieldType.int)) ∈ tblG := inC_3 52 (by rfl) rfl
set_option maxRecDepth 400000 in
theorem tw_644 : (Jvm.Cond.methodLink "VillageStoriesLaw" (61 : Nat) ({ cls := "VillageStories", name := "story", desc := "()I" } : Jvm.MethodName)) ∈ tblG := inC_3 53 (by rfl) rfl
set_option maxRecDepth 400000 in
theorem tw_645 : (Jvm.Cond.instanceMethod ({ cls := "VillageStories", name := "story", desc := "()I" } : Jvm.MethodName)) ∈ tblG := inC_3 54 (by rfl) rfl
set_option maxRecDepth 400000 in
theorem tw_646 : (Jvm.Cond.selects "VillageStories" ({ cls := "VillageStories", name := "story", desc := "()I" } : Jvm.MethodName) ({ cls := "VillageStories", name := "story", desc := "()I" } : Jvm.MethodName)) ∈ tblG := inC_3 55 (by rfl) rfl
set_option maxRecDepth 400000 in
theorem tw_647 : (Jvm.Cond.code ({ cls := "VillageStories", name := "story", desc := "()I" } : Jvm.MethodName) prog_1_method_12_code (2 : Nat) (Option.some Jvm.ClassFile.FieldType.int)) ∈ tblG := inC_3 56 (by rfl) rfl
set_option maxRecDepth 400000 in
theorem tw_648 : (Jvm.Cond.methodLink "VillageStories" (104 : Nat) ({ cls := "VillageStories$Told", name := "clearTape", desc := "()V" } : Jvm.MethodName)) ∈ tblG := inC_3 57 (by rfl) rfl
set_option maxRecDepth 400000 in
theorem tw_649 : (Jvm.Cond.instanceMethod ({ cls := "VillageStories$Told", name := "clearTape", desc := "()V" } : Jvm.MethodName)) ∈ tblG := inC_3 58 (by rfl) rfl
set_option maxRecDepth 400000 in
theorem tw_650 : (Jvm.Cond.selects "VillageStories$Told" ({ cls := "VillageStories$Told", name := "clearTape", desc := "()V" } : Jvm.MethodName) ({ cls := "VillageStories$Told", name := "clearTape", desc := "()V" } : Jvm.MethodName)) ∈ tblG := inC_3 59 (by rfl) rfl
set_option maxRecDepth 400000 in
theorem tw_651 : (Jvm.Cond.code ({ cls := "VillageStories$Told", name := "clearTape", desc := "()V" } : Jvm.MethodName) prog_8_method_7_code (1 : Nat) (Option.none : Option Jvm.ClassFile.FieldType)) ∈ tblG := inC_3 60 (by rfl) rfl
set_option maxRecDepth 400000 in
theorem tw_652 : (Jvm.Cond.methodLink "VillageStories" (107 : Nat) ({ cls := "VillageStories$Reader", name := "read", desc := "(LVillageStories$Told;)LVillageStories$Text;" } : Jvm.MethodName)) ∈ tblG := inC_3 61 (by rfl) rfl
set_option maxRecDepth 400000 in
theorem tw_653 : (Jvm.Cond.instanceMethod ({ cls := "VillageStories$Reader", name := "read", desc := "(LVillageStories$Told;)LVillageStories$Text;" } : Jvm.MethodName)) ∈ tblG := inC_3 62 (by rfl) rfl
set_option maxRecDepth 400000 in
theorem tw_654 : (Jvm.Cond.selects "VillageStories$Reader" ({ cls := "VillageStories$Reader", name := "read", desc := "(LVillageStories$Told;)LVillageStories$Text;" } : Jvm.MethodName) ({ cls := "VillageStories$Reader", name := "read", desc := "(LVillageStories$Told;)LVillageStories$Text;" } : Jvm.MethodName)) ∈ tblG := inC_3 63 (by rfl) rfl
set_option maxRecDepth 400000 in
theorem tw_655 : (Jvm.Cond.code ({ cls := "VillageStories$Reader", name := "read", desc := "(LVillageStories$Told;)LVillageStories$Text;" } : Jvm.MethodName) prog_4_method_2_code (3 : Nat) (Option.some (Jvm.ClassFile.FieldType.object "VillageStories$Text"))) ∈ tblG := inC_3 64 (by rfl) rfl
set_option maxRecDepth 400000 in
theorem tw_656 : (Jvm.Cond.methodLink "VillageStories$Reader" (67 : Nat) ({ cls := "VillageStories$Told", name := "clearTape", desc := "()V" } : Jvm.MethodName)) ∈ tblG := inC_3 65 (by rfl) rfl
set_option maxRecDepth 400000 in
theorem tw_657 : (Jvm.Cond.methodLink "VillageStories$Reader" (73 : Nat) ({ cls := "VillageStories$Reader", name := "expectPart", desc := "(I)V" } : Jvm.MethodName)) ∈ tblG := inC_3 66 (by rfl) rfl
set_option maxRecDepth 400000 in
theorem tw_659 : (Jvm.Cond.instanceMethod ({ cls := "VillageStories$Reader", name := "expectPart", desc := "(I)V" } : Jvm.MethodName)) ∈ tblG := inC_3 68 (by rfl) rfl
set_option maxRecDepth 400000 in
theorem tw_660 : (Jvm.Cond.code ({ cls := "VillageStories$Reader", name := "expectPart", desc := "(I)V" } : Jvm.MethodName) prog_4_method_21_code (2 : Nat) (Option.none : Option Jvm.ClassFile.FieldType)) ∈ tblG := inC_3 69 (by rfl) rfl
set_option maxRecDepth 400000 in
theorem tw_661 : (Jvm.Cond.methodLink "VillageStories$Reader" (76 : Nat) ({ cls := "VillageStories$Reader", name := "advance", desc := "()V" } : Jvm.MethodName)) ∈ tblG := inC_3 70 (by rfl) rfl
set_option maxRecDepth 400000 in
theorem tw_663 : (Jvm.Cond.instanceMethod ({ cls := "VillageStories$Reader", name := "advance", desc := "()V" } : Jvm.MethodName)) ∈ tblG := inC_3 72 (by rfl) rfl
set_option maxRecDepth 400000 in
theorem tw_664 : (Jvm.Cond.code ({ cls := "VillageStories$Reader", name := "advance", desc := "()V" } : Jvm.MethodName) prog_4_method_24_code (1 : Nat) (Option.none : Option Jvm.ClassFile.FieldType)) ∈ tblG := inC_3 73 (by rfl) rfl
set_option maxRecDepth 400000 in
theorem tw_665 : (Jvm.Cond.methodLink "VillageStories$Reader" (217 : Nat) ({ cls := "VillageStories$Reader", name := "isLetter", desc := "(I)Z" } : Jvm.MethodName)) ∈ tblG := inC_3 74 (by rfl) rfl
set_option maxRecDepth 400000 in
theorem tw_667 : (Jvm.Cond.instanceMethod ({ cls := "VillageStories$Reader", name := "isLetter", desc := "(I)Z" } : Jvm.MethodName)) ∈ tblG := inC_3 76 (by rfl) rfl
set_option maxRecDepth 400000 in
theorem tw_668 : (Jvm.Cond.code ({ cls := "VillageStories$Reader", name := "isLetter", desc := "(I)Z" } : Jvm.MethodName) prog_4_method_25_code (2 : Nat) (Option.some Jvm.ClassFile.FieldType.boolean)) ∈ tblG := inC_3 77 (by rfl) rfl
set_option maxRecDepth 400000 in
theorem tw_669 : (Jvm.Cond.methodLink "VillageStories$Reader" (220 : Nat) ({ cls := "VillageStories$Reader", name := "isDigit", desc := "(I)Z" } : Jvm.MethodName)) ∈ tblG := inC_3 78 (by rfl) rfl
set_option maxRecDepth 400000 in
theorem tw_671 : (Jvm.Cond.instanceMethod ({ cls := "VillageStories$Reader", name := "isDigit", desc := "(I)Z" } : Jvm.MethodName)) ∈ tblG := inC_3 80 (by rfl) rfl
set_option maxRecDepth 400000 in
theorem tw_672 : (Jvm.Cond.code ({ cls := "VillageStories$Reader", name := "isDigit", desc := "(I)Z" } : Jvm.MethodName) prog_4_method_26_code (2 : Nat) (Option.some Jvm.ClassFile.FieldType.boolean)) ∈ tblG := inC_3 81 (by rfl) rfl
set_option maxRecDepth 400000 in
theorem tw_673 : (Jvm.Cond.methodLink "VillageStories$Reader" (79 : Nat) ({ cls := "VillageStories$Reader", name := "readPart", desc := "()V" } : Jvm.MethodName)) ∈ tblG := inC_3 82 (by rfl) rfl
set_option maxRecDepth 400000 in
theorem tw_675 : (Jvm.Cond.instanceMethod ({ cls := "VillageStories$Reader", name := "readPart", desc := "()V" } : Jvm.MethodName)) ∈ tblG := inC_3 84 (by rfl) rfl
set_option maxRecDepth 400000 in
theorem tw_676 : (Jvm.Cond.code ({ cls := "VillageStories$Reader", name := "readPart", desc := "()V" } : Jvm.MethodName) prog_4_method_3_code (3 : Nat) (Option.none : Option Jvm.ClassFile.FieldType)) ∈ tblG := inC_3 85 (by rfl) rfl
set_option maxRecDepth 400000 in
theorem tw_677 : (Jvm.Cond.methodLink "VillageStories$Reader" (92 : Nat) ({ cls := "VillageStories$Reader", name := "firstWord", desc := "()I" } : Jvm.MethodName)) ∈ tblG := inC_3 86 (by rfl) rfl
set_option maxRecDepth 400000 in
theorem tw_679 : (Jvm.Cond.instanceMethod ({ cls := "VillageStories$Reader", name := "firstWord", desc := "()I" } : Jvm.MethodName)) ∈ tblG := inC_3 88 (by rfl) rfl
set_option maxRecDepth 400000 in
theorem tw_680 : (Jvm.Cond.code ({ cls := "VillageStories$Reader", name := "firstWord", desc := "()I" } : Jvm.MethodName) prog_4_method_4_code (1 : Nat) (Option.some Jvm.ClassFile.FieldType.int)) ∈ tblG := inC_3 89 (by rfl) rfl
set_option maxRecDepth 400000 in
theorem tw_682 : (Jvm.Cond.methodLink "VillageStories$Reader" (120 : Nat) ({ cls := "VillageStories$Reader", name := "isWord", desc := "(Ljava/lang/String;)Z" } : Jvm.MethodName)) ∈ tblG := inC_3 91 (by rfl) rfl
set_option maxRecDepth 400000 in
theorem tw_684 : (Jvm.Cond.instanceMethod ({ cls := "VillageStories$Reader", name := "isWord", desc := "(Ljava/lang/String;)Z" } : Jvm.MethodName)) ∈ tblG := inC_3 93 (by rfl) rfl
set_option maxRecDepth 400000 in
theorem tw_685 : (Jvm.Cond.code ({ cls := "VillageStories$Reader", name := "isWord", desc := "(Ljava/lang/String;)Z" } : Jvm.MethodName) prog_4_method_27_code (3 : Nat) (Option.some Jvm.ClassFile.FieldType.boolean)) ∈ tblG := inC_3 94 (by rfl) rfl
set_option maxRecDepth 400000 in
theorem tw_686 : (Jvm.Cond.methodLink "VillageStories$Reader" (223 : Nat) ({ cls := "java/lang/String", name := "length", desc := "()I" } : Jvm.MethodName)) ∈ tblG := inC_3 95 (by rfl) rfl
set_option maxRecDepth 400000 in
theorem tw_687 : (Jvm.Cond.instanceMethod ({ cls := "java/lang/String", name := "length", desc := "()I" } : Jvm.MethodName)) ∈ tblG := inC_3 96 (by rfl) rfl
set_option maxRecDepth 400000 in
theorem tw_688 : (Jvm.Cond.selects "java/lang/String" ({ cls := "java/lang/String", name := "length", desc := "()I" } : Jvm.MethodName) ({ cls := "java/lang/String", name := "length", desc := "()I" } : Jvm.MethodName)) ∈ tblG := inC_3 97 (by rfl) rfl
set_option maxRecDepth 400000 in
theorem tw_689 : (Jvm.Cond.code ({ cls := "java/lang/String", name := "length", desc := "()I" } : Jvm.MethodName) prog_15_method_54_code (1 : Nat) (Option.some Jvm.ClassFile.FieldType.int)) ∈ tblG := inC_3 98 (by rfl) rfl
set_option maxRecDepth 400000 in
theorem tw_690 : (Jvm.Cond.methodLink "java/lang/String" (335 : Nat) ({ cls := "java/lang/String", name := "coder", desc := "()B" } : Jvm.MethodName)) ∈ tblG := inC_3 99 (by rfl) rfl
set_option maxRecDepth 400000 in
theorem tw_691 : (Jvm.Cond.instanceMethod ({ cls := "java/lang/String", name := "coder", desc := "()B" } : Jvm.MethodName)) ∈ tblG := inC_3 100 (by rfl) rfl
set_option maxRecDepth 400000 in
theorem tw_692 : (Jvm.Cond.selects "java/lang/String" ({ cls := "java/lang/String", name := "coder", desc := "()B" } : Jvm.MethodName) ({ cls := "java/lang/String", name := "coder", desc := "()B" } : Jvm.MethodName)) ∈ tblG := inC_3 101 (by rfl) rfl
set_option maxRecDepth 400000 in
theorem tw_693 : (Jvm.Cond.code ({ cls := "java/lang/String", name := "coder", desc := "()B" } : Jvm.MethodName) prog_15_method_152_code (1 : Nat) (Option.some Jvm.ClassFile.FieldType.byte)) ∈ tblG := inC_3 102 (by rfl) rfl
set_option maxRecDepth 400000 in
theorem tw_694 : (Jvm.Cond.fieldLink "java/lang/String" (38 : Nat) "java/lang/String" "COMPACT_STRINGS" "Z") ∈ tblG := inC_3 103 (by rfl) rfl
set_option maxRecDepth 400000 in
theorem tw_696 : (Jvm.Cond.methodLink "VillageStories$Reader" (227 : Nat) ({ cls := "java/lang/String", name := "charAt", desc := "(I)C" } : Jvm.MethodName)) ∈ tblG := inC_3 105 (by rfl) rfl
set_option maxRecDepth 400000 in
theorem tw_697 : (Jvm.Cond.instanceMethod ({ cls := "java/lang/String", name := "charAt", desc := "(I)C" } : Jvm.MethodName)) ∈ tblG := inC_3 106 (by rfl) rfl
set_option maxRecDepth 400000 in
theorem tw_698 : (Jvm.Cond.selects "java/lang/String" ({ cls := "java/lang/String", name := "charAt", desc := "(I)C" } : Jvm.MethodName) ({ cls := "java/lang/String", name := "charAt", desc := "(I)C" } : Jvm.MethodName)) ∈ tblG := inC_3 107 (by rfl) rfl
set_option maxRecDepth 400000 in
theorem tw_699 : (Jvm.Cond.code ({ cls := "java/lang/String", name := "charAt", desc := "(I)C" } : Jvm.MethodName) prog_15_method_56_code (2 : Nat) (Option.some Jvm.ClassFile.FieldType.char)) ∈ tblG := inC_3 108 (by rfl) rfl
set_option maxRecDepth 400000 in
theorem tw_700 : (Jvm.Cond.methodLink "java/lang/String" (492 : Nat) ({ cls := "java/lang/String", name := "isLatin1", desc := "()Z" } : Jvm.MethodName)) ∈ tblG := inC_3 109 (by rfl) rfl
set_option maxRecDepth 400000 in
theorem tw_701 : (Jvm.Cond.instanceMethod ({ cls := "java/lang/String", name := "isLatin1", desc := "()Z" } : Jvm.MethodName)) ∈ tblG := inC_3 110 (by rfl) rfl
set_option maxRecDepth 400000 in
theorem tw_702 : (Jvm.Cond.selects "java/lang/String" ({ cls := "java/lang/String", name := "isLatin1", desc := "()Z" } : Jvm.MethodName) ({ cls := "java/lang/String", name := "isLatin1", desc := "()Z" } : Jvm.MethodName)) ∈ tblG := inC_3 111 (by rfl) rfl
set_option maxRecDepth 400000 in
theorem tw_703 : (Jvm.Cond.code ({ cls := "java/lang/String", name := "isLatin1", desc := "()Z" } : Jvm.MethodName) prog_15_method_154_code (1 : Nat) (Option.some Jvm.ClassFile.FieldType.boolean)) ∈ tblG := inC_3 112 (by rfl) rfl
set_option maxRecDepth 400000 in
theorem tw_704 : (Jvm.Cond.methodLink "java/lang/String" (495 : Nat) ({ cls := "java/lang/StringLatin1", name := "charAt", desc := "([BI)C" } : Jvm.MethodName)) ∈ tblG := inC_3 113 (by rfl) rfl
set_option maxRecDepth 400000 in
theorem tw_705 : (Jvm.Cond.static ({ cls := "java/lang/StringLatin1", name := "charAt", desc := "([BI)C" } : Jvm.MethodName)) ∈ tblG := inC_3 114 (by rfl) rfl
set_option maxRecDepth 400000 in
theorem tw_706 : (Jvm.Cond.code ({ cls := "java/lang/StringLatin1", name := "charAt", desc := "([BI)C" } : Jvm.MethodName) prog_16_method_2_code (2 : Nat) (Option.some Jvm.ClassFile.FieldType.char)) ∈ tblG := inC_3 115 (by rfl) rfl
set_option maxRecDepth 400000 in
theorem tw_707 : (Jvm.Cond.methodLink "java/lang/StringLatin1" (9 : Nat) ({ cls := "java/lang/String", name := "checkIndex", desc := "(II)V" } : Jvm.MethodName)) ∈ tblG := inC_3 116 (by rfl) rfl
set_option maxRecDepth 400000 in
theorem tw_708 : (Jvm.Cond.static ({ cls := "java/lang/String", name := "checkIndex", desc := "(II)V" } : Jvm.MethodName)) ∈ tblG := inC_3 117 (by rfl) rfl
set_option maxRecDepth 400000 in
theorem tw_709 : (Jvm.Cond.code ({ cls := "java/lang/String", name := "checkIndex", desc := "(II)V" } : Jvm.MethodName) prog_15_method_155_code (2 : Nat) (Option.none : Option Jvm.ClassFile.FieldType)) ∈ tblG := inC_3 118 (by rfl) rfl
set_option maxRecDepth 400000 in
theorem tw_710 : (Jvm.Cond.fieldLink "java/lang/String" (1053 : Nat) "jdk/internal/util/Preconditions" "SIOOBE_FORMATTER" "Ljava/util/function/BiFunction;") ∈ tblG := inC_3 119 (by rfl) rfl
set_option maxRecDepth 400000 in
theorem tw_712 : (Jvm.Cond.methodLink "java/lang/String" (1059 : Nat) ({ cls := "jdk/internal/util/Preconditions", name := "checkIndex", desc := "(IILjava/util/function/BiFunction;)I" } : Jvm.MethodName)) ∈ tblG := inC_3 121 (by rfl) rfl
set_option maxRecDepth 400000 in
theorem tw_713 : (Jvm.Cond.static ({ cls := "jdk/internal/util/Preconditions", name := "checkIndex", desc := "(IILjava/util/function/BiFunction;)I" } : Jvm.MethodName)) ∈ tblG := inC_3 122 (by rfl) rfl
set_option maxRecDepth 400000 in
theorem tw_714 : (Jvm.Cond.code ({ cls := "jdk/internal/util/Preconditions", name := "checkIndex", desc := "(IILjava/util/function/BiFunction;)I" } : Jvm.MethodName) prog_19_method_11_code (3 : Nat) (Option.some Jvm.ClassFile.FieldType.int)) ∈ tblG := inC_3 123 (by rfl) rfl
set_option maxRecDepth 400000 in
theorem tw_715 : (Jvm.Cond.methodLink "java/lang/String" (498 : Nat) ({ cls := "java/lang/StringUTF16", name := "charAt", desc := "([BI)C" } : Jvm.MethodName)) ∈ tblG := inC_3 124 (by rfl) rfl
set_option maxRecDepth 400000 in
theorem tw_716 : (Jvm.Cond.static ({ cls := "java/lang/StringUTF16", name := "charAt", desc := "([BI)C" } : Jvm.MethodName)) ∈ tblG := inC_3 125 (by rfl) rfl
set_option maxRecDepth 400000 in
theorem tw_717 : (Jvm.Cond.code ({ cls := "java/lang/StringUTF16", name := "charAt", desc := "([BI)C" } : Jvm.MethodName) prog_17_method_83_code (2 : Nat) (Option.some Jvm.ClassFile.FieldType.char)) ∈ tblG := inC_3 126 (by rfl) rfl
set_option maxRecDepth 400000 in
theorem tw_718 : (Jvm.Cond.methodLink "java/lang/StringUTF16" (67 : Nat) ({ cls := "java/lang/StringUTF16", name := "checkIndex", desc := "(I[B)V" } : Jvm.MethodName)) ∈ tblG := inC_3 127 (by rfl) rfl
set_option maxRecDepth 400000 in
theorem tw_719 : (Jvm.Cond.static ({ cls := "java/lang/StringUTF16", name := "checkIndex", desc := "(I[B)V" } : Jvm.MethodName)) ∈ tblG := inC_3 128 (by rfl) rfl
set_option maxRecDepth 400000 in
theorem tw_720 : (Jvm.Cond.code ({ cls := "java/lang/StringUTF16", name := "checkIndex", desc := "(I[B)V" } : Jvm.MethodName) prog_17_method_91_code (2 : Nat) (Option.none : Option Jvm.ClassFile.FieldType)) ∈ tblG := inC_3 129 (by rfl) rfl
set_option maxRecDepth 400000 in
theorem tw_721 : (Jvm.Cond.methodLink "java/lang/StringUTF16" (48 : Nat) ({ cls := "java/lang/StringUTF16", name := "length", desc := "([B)I" } : Jvm.MethodName)) ∈ tblG := inC_3 130 (by rfl) rfl
set_option maxRecDepth 400000 in
theorem tw_722 : (Jvm.Cond.static ({ cls := "java/lang/StringUTF16", name := "length", desc := "([B)I" } : Jvm.MethodName)) ∈ tblG := inC_3 131 (by rfl) rfl
set_option maxRecDepth 400000 in
theorem tw_723 : (Jvm.Cond.code ({ cls := "java/lang/StringUTF16", name := "length", desc := "([B)I" } : Jvm.MethodName) prog_17_method_6_code (1 : Nat) (Option.some Jvm.ClassFile.FieldType.int)) ∈ tblG := inC_3 132 (by rfl) rfl
set_option maxRecDepth 400000 in
theorem tw_724 : (Jvm.Cond.methodLink "java/lang/StringUTF16" (414 : Nat) ({ cls := "java/lang/String", name := "checkIndex", desc := "(II)V" } : Jvm.MethodName)) ∈ tblG := inC_3 133 (by rfl) rfl
set_option maxRecDepth 400000 in
theorem tw_725 : (Jvm.Cond.methodLink "java/lang/StringUTF16" (71 : Nat) ({ cls := "java/lang/StringUTF16", name := "getChar", desc := "([BI)C" } : Jvm.MethodName)) ∈ tblG := inC_3 134 (by rfl) rfl
set_option maxRecDepth 400000 in
theorem tw_726 : (Jvm.Cond.static ({ cls := "java/lang/StringUTF16", name := "getChar", desc := "([BI)C" } : Jvm.MethodName)) ∈ tblG := inC_3 135 (by rfl) rfl
set_option maxRecDepth 400000 in
theorem tw_727 : (Jvm.Cond.code ({ cls := "java/lang/StringUTF16", name := "getChar", desc := "([BI)C" } : Jvm.MethodName) prog_17_method_5_code (2 : Nat) (Option.some Jvm.ClassFile.FieldType.char)) ∈ tblG := inC_3 136 (by rfl) rfl
set_option maxRecDepth 400000 in
theorem tw_728 : (Jvm.Cond.fieldLink "java/lang/StringUTF16" (44 : Nat) "java/lang/StringUTF16" "$assertionsDisabled" "Z") ∈ tblG := inC_3 137 (by rfl) rfl
set_option maxRecDepth 400000 in
theorem tw_730 : (Jvm.Cond.fieldLink "java/lang/StringUTF16" (59 : Nat) "java/lang/StringUTF16" "HI_BYTE_SHIFT" "I") ∈ tblG := inC_3 139 (by rfl) rfl
set_option maxRecDepth 400000 in
theorem tw_732 : (Jvm.Cond.fieldLink "java/lang/StringUTF16" (63 : Nat) "java/lang/StringUTF16" "LO_BYTE_SHIFT" "I") ∈ tblG := inC_3 141 (by rfl) rfl
set_option maxRecDepth 400000 in
theorem tw_744 : (Jvm.Cond.methodLink "VillageStories$Reader" (144 : Nat) ({ cls := "VillageStories$Reader", name := "oneLetter", desc := "()I" } : Jvm.MethodName)) ∈ tblG := inC_3 153 (by rfl) rfl
set_option maxRecDepth 400000 in
theorem tw_746 : (Jvm.Cond.instanceMethod ({ cls := "VillageStories$Reader", name := "oneLetter", desc := "()I" } : Jvm.MethodName)) ∈ tblG := inC_3 155 (by rfl) rfl
set_option maxRecDepth 400000 in
theorem tw_747 : (Jvm.Cond.code ({ cls := "VillageStories$Reader", name := "oneLetter", desc := "()I" } : Jvm.MethodName) prog_4_method_28_code (1 : Nat) (Option.some Jvm.ClassFile.FieldType.int)) ∈ tblG := inC_3 156 (by rfl) rfl
set_option maxRecDepth 400000 in
theorem tw_748 : (Jvm.Cond.methodLink "VillageStories$Reader" (147 : Nat) ({ cls := "VillageStories$Shape", name := "hasRelation", desc := "(I)Z" } : Jvm.MethodName)) ∈ tblG := inC_3 157 (by rfl) rfl
set_option maxRecDepth 400000 in
theorem tw_749 : (Jvm.Cond.methodLink "VillageStories$Reader" (82 : Nat) ({ cls := "VillageStories$Reader", name := "refuse", desc := "()V" } : Jvm.MethodName)) ∈ tblG := inC_3 158 (by rfl) rfl
set_option maxRecDepth 400000 in
theorem tw_751 : (Jvm.Cond.instanceMethod ({ cls := "VillageStories$Reader", name := "refuse", desc := "()V" } : Jvm.MethodName)) ∈ tblG := inC_3 160 (by rfl) rfl
set_option maxRecDepth 400000 in
theorem tw_752 : (Jvm.Cond.code ({ cls := "VillageStories$Reader", name := "refuse", desc := "()V" } : Jvm.MethodName) prog_4_method_22_code (1 : Nat) (Option.none : Option Jvm.ClassFile.FieldType)) ∈ tblG := inC_3 161 (by rfl) rfl
set_option maxRecDepth 400000 in
theorem tw_753 : (Jvm.Cond.methodLink "VillageStories$Reader" (96 : Nat) ({ cls := "VillageStories$Reader", name := "note", desc := "(II)V" } : Jvm.MethodName)) ∈ tblG := inC_3 162 (by rfl) rfl
set_option maxRecDepth 400000 in
theorem tw_755 : (Jvm.Cond.instanceMethod ({ cls := "VillageStories$Reader", name := "note", desc := "(II)V" } : Jvm.MethodName)) ∈ tblG := inC_3 164 (by rfl) rfl
set_option maxRecDepth 400000 in
theorem tw_756 : (Jvm.Cond.code ({ cls := "VillageStories$Reader", name := "note", desc := "(II)V" } : Jvm.MethodName) prog_4_method_23_code (3 : Nat) (Option.none : Option Jvm.ClassFile.FieldType)) ∈ tblG := inC_3 165 (by rfl) rfl
set_option maxRecDepth 400000 in
theorem tw_757 : (Jvm.Cond.methodLink "VillageStories$Reader" (100 : Nat) ({ cls := "VillageStories$Reader", name := "readBinder", desc := "(II)V" } : Jvm.MethodName)) ∈ tblG := inC_3 166 (by rfl) rfl
set_option maxRecDepth 400000 in
theorem tw_759 : (Jvm.Cond.instanceMethod ({ cls := "VillageStories$Reader", name := "readBinder", desc := "(II)V" } : Jvm.MethodName)) ∈ tblG := inC_3 168 (by rfl) rfl
set_option maxRecDepth 400000 in
theorem tw_760 : (Jvm.Cond.code ({ cls := "VillageStories$Reader", name := "readBinder", desc := "(II)V" } : Jvm.MethodName) prog_4_method_5_code (7 : Nat) (Option.none : Option Jvm.ClassFile.FieldType)) ∈ tblG := inC_3 169 (by rfl) rfl
set_option maxRecDepth 400000 in
theorem tw_761 : (Jvm.Cond.methodLink "VillageStories$Reader" (153 : Nat) ({ cls := "VillageStories$Reader", name := "depth", desc := "(I)I" } : Jvm.MethodName)) ∈ tblG := inC_3 170 (by rfl) rfl
set_option maxRecDepth 400000 in
theorem tw_762 : (Jvm.Cond.static ({ cls := "VillageStories$Reader", name := "depth", desc := "(I)I" } : Jvm.MethodName)) ∈ tblG := inC_3 171 (by rfl) rfl
set_option maxRecDepth 400000 in
theorem tw_763 : (Jvm.Cond.code ({ cls := "VillageStories$Reader", name := "depth", desc := "(I)I" } : Jvm.MethodName) prog_4_method_18_code (1 : Nat) (Option.some Jvm.ClassFile.FieldType.int)) ∈ tblG := inC_3 172 (by rfl) rfl
set_option maxRecDepth 400000 in
theorem tw_764 : (Jvm.Cond.methodLink "VillageStories$Reader" (157 : Nat) ({ cls := "VillageStories$Reader", name := "takeNumber", desc := "()I" } : Jvm.MethodName)) ∈ tblG := inC_3 173 (by rfl) rfl
set_option maxRecDepth 400000 in
theorem tw_766 : (Jvm.Cond.instanceMethod ({ cls := "VillageStories$Reader", name := "takeNumber", desc := "()I" } : Jvm.MethodName)) ∈ tblG := inC_3 175 (by rfl) rfl
set_option maxRecDepth 400000 in
theorem tw_767 : (Jvm.Cond.code ({ cls := "VillageStories$Reader", name := "takeNumber", desc := "()I" } : Jvm.MethodName) prog_4_method_11_code (2 : Nat) (Option.some Jvm.ClassFile.FieldType.int)) ∈ tblG := inC_3 176 (by rfl) rfl
set_option maxRecDepth 400000 in
theorem tw_768 : (Jvm.Cond.methodLink "VillageStories$Reader" (160 : Nat) ({ cls := "VillageStories$Reader", name := "takeVariable", desc := "()I" } : Jvm.MethodName)) ∈ tblG := inC_3 177 (by rfl) rfl
set_option maxRecDepth 400000 in
theorem tw_770 : (Jvm.Cond.instanceMethod ({ cls := "VillageStories$Reader", name := "takeVariable", desc := "()I" } : Jvm.MethodName)) ∈ tblG := inC_3 179 (by rfl) rfl
set_option maxRecDepth 400000 in
theorem tw_771 : (Jvm.Cond.code ({ cls := "VillageStories$Reader", name := "takeVariable", desc := "()I" } : Jvm.MethodName) prog_4_method_12_code (2 : Nat) (Option.some Jvm.ClassFile.FieldType.int)) ∈ tblG := inC_3 180 (by rfl) rfl
set_option maxRecDepth 400000 in
theorem tw_772 : (Jvm.Cond.methodLink "VillageStories$Reader" (163 : Nat) ({ cls := "VillageStories$Reader", name := "takeKind", desc := "()I" } : Jvm.MethodName)) ∈ tblG := inC_3 181 (by rfl) rfl
set_option maxRecDepth 400000 in
theorem tw_774 : (Jvm.Cond.instanceMethod ({ cls := "VillageStories$Reader", name := "takeKind", desc := "()I" } : Jvm.MethodName)) ∈ tblG := inC_3 183 (by rfl) rfl
set_option maxRecDepth 400000 in
theorem tw_775 : (Jvm.Cond.code ({ cls := "VillageStories$Reader", name := "takeKind", desc := "()I" } : Jvm.MethodName) prog_4_method_13_code (2 : Nat) (Option.some Jvm.ClassFile.FieldType.int)) ∈ tblG := inC_3 184 (by rfl) rfl
set_option maxRecDepth 400000 in
theorem tw_779 : (Jvm.Cond.methodLink "VillageStories$Reader" (166 : Nat) ({ cls := "java/lang/Math", name := "min", desc := "(II)I" } : Jvm.MethodName)) ∈ tblG := inC_3 188 (by rfl) rfl
set_option maxRecDepth 400000 in
theorem tw_780 : (Jvm.Cond.methodLink "VillageStories$Reader" (172 : Nat) ({ cls := "VillageStories$Text", name := "write", desc := "(IIII)V" } : Jvm.MethodName)) ∈ tblG := inC_3 189 (by rfl) rfl
set_option maxRecDepth 400000 in
theorem tw_781 : (Jvm.Cond.instanceMethod ({ cls := "VillageStories$Text", name := "write", desc := "(IIII)V" } : Jvm.MethodName)) ∈ tblG := inC_3 190 (by rfl) rfl
set_option maxRecDepth 400000 in
theorem tw_782 : (Jvm.Cond.selects "VillageStories$Text" ({ cls := "VillageStories$Text", name := "write", desc := "(IIII)V" } : Jvm.MethodName) ({ cls := "VillageStories$Text", name := "write", desc := "(IIII)V" } : Jvm.MethodName)) ∈ tblG := inC_3 191 (by rfl) rfl
set_option maxRecDepth 400000 in
theorem tw_783 : (Jvm.Cond.code ({ cls := "VillageStories$Text", name := "write", desc := "(IIII)V" } : Jvm.MethodName) prog_7_method_2_code (5 : Nat) (Option.none : Option Jvm.ClassFile.FieldType)) ∈ tblG := inC_3 192 (by rfl) rfl
set_option maxRecDepth 400000 in
theorem tw_784 : (Jvm.Cond.methodLink "VillageStories$Reader" (176 : Nat) ({ cls := "VillageStories$Reader", name := "bind", desc := "(IIII)I" } : Jvm.MethodName)) ∈ tblG := inC_3 193 (by rfl) rfl
set_option maxRecDepth 400000 in
theorem tw_785 : (Jvm.Cond.static ({ cls := "VillageStories$Reader", name := "bind", desc := "(IIII)I" } : Jvm.MethodName)) ∈ tblG := inC_3 194 (by rfl) rfl
set_option maxRecDepth 400000 in
theorem tw_786 : (Jvm.Cond.code ({ cls := "VillageStories$Reader", name := "bind", desc := "(IIII)I" } : Jvm.MethodName) prog_4_method_17_code (7 : Nat) (Option.some Jvm.ClassFile.FieldType.int)) ∈ tblG := inC_3 195 (by rfl) rfl
set_option maxRecDepth 400000 in
theorem tw_787 : (Jvm.Cond.constant "VillageStories$Reader" (213 : Nat) (65535 : Int32)) ∈ tblG := inC_3 196 (by rfl) rfl
set_option maxRecDepth 400000 in
theorem tw_788 : (Jvm.Cond.methodLink "VillageStories$Reader" (103 : Nat) ({ cls := "VillageStories$Reader", name := "readJoint", desc := "(II)V" } : Jvm.MethodName)) ∈ tblG := inC_3 197 (by rfl) rfl
set_option maxRecDepth 400000 in
theorem tw_790 : (Jvm.Cond.instanceMethod ({ cls := "VillageStories$Reader", name := "readJoint", desc := "(II)V" } : Jvm.MethodName)) ∈ tblG := inC_3 199 (by rfl) rfl
set_option maxRecDepth 400000 in
theorem tw_791 : (Jvm.Cond.code ({ cls := "VillageStories$Reader", name := "readJoint", desc := "(II)V" } : Jvm.MethodName) prog_4_method_6_code (3 : Nat) (Option.none : Option Jvm.ClassFile.FieldType)) ∈ tblG := inC_3 200 (by rfl) rfl
set_option maxRecDepth 400000 in
theorem tw_792 : (Jvm.Cond.methodLink "VillageStories$Reader" (106 : Nat) ({ cls := "VillageStories$Reader", name := "readSame", desc := "(I)V" } : Jvm.MethodName)) ∈ tblG := inC_3 201 (by rfl) rfl
set_option maxRecDepth 400000 in
theorem tw_794 : (Jvm.Cond.instanceMethod ({ cls := "VillageStories$Reader", name := "readSame", desc := "(I)V" } : Jvm.MethodName)) ∈ tblG := inC_3 203 (by rfl) rfl
set_option maxRecDepth 400000 in
theorem tw_795 : (Jvm.Cond.code ({ cls := "VillageStories$Reader", name := "readSame", desc := "(I)V" } : Jvm.MethodName) prog_4_method_7_code (4 : Nat) (Option.none : Option Jvm.ClassFile.FieldType)) ∈ tblG := inC_3 204 (by rfl) rfl
set_option maxRecDepth 400000 in
theorem tw_796 : (Jvm.Cond.methodLink "VillageStories$Reader" (180 : Nat) ({ cls := "VillageStories$Reader", name := "takeBound", desc := "(II)I" } : Jvm.MethodName)) ∈ tblG := inC_3 205 (by rfl) rfl
set_option maxRecDepth 400000 in
theorem tw_798 : (Jvm.Cond.instanceMethod ({ cls := "VillageStories$Reader", name := "takeBound", desc := "(II)I" } : Jvm.MethodName)) ∈ tblG := inC_3 207 (by rfl) rfl
set_option maxRecDepth 400000 in
theorem tw_799 : (Jvm.Cond.code ({ cls := "VillageStories$Reader", name := "takeBound", desc := "(II)I" } : Jvm.MethodName) prog_4_method_16_code (6 : Nat) (Option.some Jvm.ClassFile.FieldType.int)) ∈ tblG := inC_3 208 (by rfl) rfl
set_option maxRecDepth 400000 in
theorem tw_800 : (Jvm.Cond.methodLink "VillageStories$Reader" (183 : Nat) ({ cls := "VillageStories$Reader", name := "kindOf", desc := "(I)I" } : Jvm.MethodName)) ∈ tblG := inC_3 209 (by rfl) rfl
set_option maxRecDepth 400000 in
theorem tw_801 : (Jvm.Cond.static ({ cls := "VillageStories$Reader", name := "kindOf", desc := "(I)I" } : Jvm.MethodName)) ∈ tblG := inC_3 210 (by rfl) rfl
set_option maxRecDepth 400000 in
theorem tw_802 : (Jvm.Cond.code ({ cls := "VillageStories$Reader", name := "kindOf", desc := "(I)I" } : Jvm.MethodName) prog_4_method_19_code (1 : Nat) (Option.some Jvm.ClassFile.FieldType.int)) ∈ tblG := inC_3 211 (by rfl) rfl
set_option maxRecDepth 400000 in
theorem tw_803 : (Jvm.Cond.methodLink "VillageStories$Reader" (186 : Nat) ({ cls := "VillageStories$Reader", name := "slotOf", desc := "(I)I" } : Jvm.MethodName)) ∈ tblG := inC_3 212 (by rfl) rfl
set_option maxRecDepth 400000 in
theorem tw_804 : (Jvm.Cond.static ({ cls := "VillageStories$Reader", name := "slotOf", desc := "(I)I" } : Jvm.MethodName)) ∈ tblG := inC_3 213 (by rfl) rfl
set_option maxRecDepth 400000 in
theorem tw_805 : (Jvm.Cond.code ({ cls := "VillageStories$Reader", name := "slotOf", desc := "(I)I" } : Jvm.MethodName) prog_4_method_20_code (1 : Nat) (Option.some Jvm.ClassFile.FieldType.int)) ∈ tblG := inC_3 214 (by rfl) rfl
set_option maxRecDepth 400000 in
theorem tw_806 : (Jvm.Cond.methodLink "VillageStories$Reader" (109 : Nat) ({ cls := "VillageStories$Reader", name := "readReach", desc := "(I)V" } : Jvm.MethodName)) ∈ tblG := inC_3 215 (by rfl) rfl
set_option maxRecDepth 400000 in
theorem tw_808 : (Jvm.Cond.instanceMethod ({ cls := "VillageStories$Reader", name := "readReach", desc := "(I)V" } : Jvm.MethodName)) ∈ tblG := inC_3 217 (by rfl) rfl
set_option maxRecDepth 400000 in
theorem tw_809 : (Jvm.Cond.code ({ cls := "VillageStories$Reader", name := "readReach", desc := "(I)V" } : Jvm.MethodName) prog_4_method_8_code (6 : Nat) (Option.none : Option Jvm.ClassFile.FieldType)) ∈ tblG := inC_3 218 (by rfl) rfl
set_option maxRecDepth 400000 in
theorem tw_810 : (Jvm.Cond.methodLink "VillageStories$Reader" (189 : Nat) ({ cls := "VillageStories$Reader", name := "takeRoad", desc := "()I" } : Jvm.MethodName)) ∈ tblG := inC_3 219 (by rfl) rfl
set_option maxRecDepth 400000 in
theorem tw_812 : (Jvm.Cond.instanceMethod ({ cls := "VillageStories$Reader", name := "takeRoad", desc := "()I" } : Jvm.MethodName)) ∈ tblG := inC_3 221 (by rfl) rfl
set_option maxRecDepth 400000 in
theorem tw_813 : (Jvm.Cond.code ({ cls := "VillageStories$Reader", name := "takeRoad", desc := "()I" } : Jvm.MethodName) prog_4_method_15_code (3 : Nat) (Option.some Jvm.ClassFile.FieldType.int)) ∈ tblG := inC_3 222 (by rfl) rfl
set_option maxRecDepth 400000 in
theorem tw_814 : (Jvm.Cond.methodLink "VillageStories$Reader" (198 : Nat) ({ cls := "VillageStories$Reader", name := "takeRelation", desc := "()I" } : Jvm.MethodName)) ∈ tblG := inC_3 223 (by rfl) rfl
set_option maxRecDepth 400000 in
theorem tw_816 : (Jvm.Cond.instanceMethod ({ cls := "VillageStories$Reader", name := "takeRelation", desc := "()I" } : Jvm.MethodName)) ∈ tblG := inC_3 225 (by rfl) rfl
set_option maxRecDepth 400000 in
theorem tw_817 : (Jvm.Cond.code ({ cls := "VillageStories$Reader", name := "takeRelation", desc := "()I" } : Jvm.MethodName) prog_4_method_14_code (2 : Nat) (Option.some Jvm.ClassFile.FieldType.int)) ∈ tblG := inC_3 226 (by rfl) rfl
set_option maxRecDepth 400000 in
theorem tw_818 : (Jvm.Cond.methodLink "VillageStories$Reader" (192 : Nat) ({ cls := "VillageStories$Shape", name := "isOfOneKindTwice", desc := "(I)Z" } : Jvm.MethodName)) ∈ tblG := inC_3 227 (by rfl) rfl
set_option maxRecDepth 400000 in
theorem tw_819 : (Jvm.Cond.instanceMethod ({ cls := "VillageStories$Shape", name := "isOfOneKindTwice", desc := "(I)Z" } : Jvm.MethodName)) ∈ tblG := inC_3 228 (by rfl) rfl
set_option maxRecDepth 400000 in
theorem tw_820 : (Jvm.Cond.selects "VillageStories$Shape" ({ cls := "VillageStories$Shape", name := "isOfOneKindTwice", desc := "(I)Z" } : Jvm.MethodName) ({ cls := "VillageStories$Shape", name := "isOfOneKindTwice", desc := "(I)Z" } : Jvm.MethodName)) ∈ tblG := inC_3 229 (by rfl) rfl
set_option maxRecDepth 400000 in
theorem tw_821 : (Jvm.Cond.code ({ cls := "VillageStories$Shape", name := "isOfOneKindTwice", desc := "(I)Z" } : Jvm.MethodName) prog_5_method_9_code (2 : Nat) (Option.some Jvm.ClassFile.FieldType.boolean)) ∈ tblG := inC_3 230 (by rfl) rfl
set_option maxRecDepth 400000 in
theorem tw_822 : (Jvm.Cond.methodLink "VillageStories$Reader" (112 : Nat) ({ cls := "VillageStories$Reader", name := "readTree", desc := "()V" } : Jvm.MethodName)) ∈ tblG := inC_3 231 (by rfl) rfl
set_option maxRecDepth 400000 in
theorem tw_824 : (Jvm.Cond.instanceMethod ({ cls := "VillageStories$Reader", name := "readTree", desc := "()V" } : Jvm.MethodName)) ∈ tblG := inC_3 233 (by rfl) rfl
set_option maxRecDepth 400000 in
theorem tw_825 : (Jvm.Cond.code ({ cls := "VillageStories$Reader", name := "readTree", desc := "()V" } : Jvm.MethodName) prog_4_method_9_code (1 : Nat) (Option.none : Option Jvm.ClassFile.FieldType)) ∈ tblG := inC_3 234 (by rfl) rfl
set_option maxRecDepth 400000 in
theorem tw_826 : (Jvm.Cond.methodLink "VillageStories$Reader" (115 : Nat) ({ cls := "VillageStories$Reader", name := "readFact", desc := "(I)V" } : Jvm.MethodName)) ∈ tblG := inC_3 235 (by rfl) rfl
set_option maxRecDepth 400000 in
theorem tw_828 : (Jvm.Cond.instanceMethod ({ cls := "VillageStories$Reader", name := "readFact", desc := "(I)V" } : Jvm.MethodName)) ∈ tblG := inC_3 237 (by rfl) rfl
set_option maxRecDepth 400000 in
theorem tw_829 : (Jvm.Cond.code ({ cls := "VillageStories$Reader", name := "readFact", desc := "(I)V" } : Jvm.MethodName) prog_4_method_10_code (5 : Nat) (Option.none : Option Jvm.ClassFile.FieldType)) ∈ tblG := inC_3 238 (by rfl) rfl
set_option maxRecDepth 400000 in
theorem tw_830 : (Jvm.Cond.methodLink "VillageStories$Reader" (201 : Nat) ({ cls := "VillageStories$Shape", name := "isOfTwo", desc := "(I)Z" } : Jvm.MethodName)) ∈ tblG := inC_3 239 (by rfl) rfl
set_option maxRecDepth 400000 in
theorem tw_831 : (Jvm.Cond.methodLink "VillageStories$Reader" (88 : Nat) ({ cls := "VillageStories$Text", name := "finished", desc := "()LVillageStories$Text;" } : Jvm.MethodName)) ∈ tblG := inC_4 0 (by rfl) rfl
set_option maxRecDepth 400000 in
theorem tw_832 : (Jvm.Cond.instanceMethod ({ cls := "VillageStories$Text", name := "finished", desc := "()LVillageStories$Text;" } : Jvm.MethodName)) ∈ tblG := inC_4 1 (by rfl) rfl
set_option maxRecDepth 400000 in
theorem tw_833 : (Jvm.Cond.selects "VillageStories$Text" ({ cls := "VillageStories$Text", name := "finished", desc := "()LVillageStories$Text;" } : Jvm.MethodName) ({ cls := "VillageStories$Text", name := "finished", desc := "()LVillageStories$Text;" } : Jvm.MethodName)) ∈ tblG := inC_4 2 (by rfl) rfl
set_option maxRecDepth 400000 in
theorem tw_834 : (Jvm.Cond.code ({ cls := "VillageStories$Text", name := "finished", desc := "()LVillageStories$Text;" } : Jvm.MethodName) prog_7_method_3_code (3 : Nat) (Option.some (Jvm.ClassFile.FieldType.object "VillageStories$Text"))) ∈ tblG := inC_4 3 (by rfl) rfl
set_option maxRecDepth 400000 in
theorem tw_835 : (Jvm.Cond.classLink "VillageStories$Text" (10 : Nat) "VillageStories$Text") ∈ tblG := inC_4 4 (by rfl) rfl
set_option maxRecDepth 400000 in
theorem tw_836 : (Jvm.Cond.methodLink "VillageStories$Text" (37 : Nat) ({ cls := "VillageStories$Text", name := "<init>", desc := "(I)V" } : Jvm.MethodName)) ∈ tblG := inC_4 5 (by rfl) rfl
set_option maxRecDepth 400000 in
theorem tw_837 : (Jvm.Cond.methodLink "VillageStories$Text" (40 : Nat) ({ cls := "VillageStories$Text", name := "write", desc := "(IIII)V" } : Jvm.MethodName)) ∈ tblG := inC_4 6 (by rfl) rfl
set_option maxRecDepth 400000 in
theorem tw_838 : (Jvm.Cond.methodLink "VillageStories$Text" (44 : Nat) ({ cls := "VillageStories$Text", name := "findBehind", desc := "()V" } : Jvm.MethodName)) ∈ tblG := inC_4 7 (by rfl) rfl
set_option maxRecDepth 400000 in
theorem tw_840 : (Jvm.Cond.instanceMethod ({ cls := "VillageStories$Text", name := "findBehind", desc := "()V" } : Jvm.MethodName)) ∈ tblG := inC_4 9 (by rfl) rfl
set_option maxRecDepth 400000 in
theorem tw_841 : (Jvm.Cond.code ({ cls := "VillageStories$Text", name := "findBehind", desc := "()V" } : Jvm.MethodName) prog_7_method_4_code (4 : Nat) (Option.none : Option Jvm.ClassFile.FieldType)) ∈ tblG := inC_4 10 (by rfl) rfl
set_option maxRecDepth 400000 in
theorem tw_842 : (Jvm.Cond.methodLink "VillageStories$Text" (47 : Nat) ({ cls := "VillageStories$Text", name := "partsInside", desc := "(I)I" } : Jvm.MethodName)) ∈ tblG := inC_4 11 (by rfl) rfl
set_option maxRecDepth 400000 in
theorem tw_843 : (Jvm.Cond.static ({ cls := "VillageStories$Text", name := "partsInside", desc := "(I)I" } : Jvm.MethodName)) ∈ tblG := inC_4 12 (by rfl) rfl
set_option maxRecDepth 400000 in
theorem tw_844 : (Jvm.Cond.code ({ cls := "VillageStories$Text", name := "partsInside", desc := "(I)I" } : Jvm.MethodName) prog_7_method_5_code (1 : Nat) (Option.some Jvm.ClassFile.FieldType.int)) ∈ tblG := inC_4 13 (by rfl) rfl
set_option maxRecDepth 400000 in
theorem tw_845 : (Jvm.Cond.methodLink "VillageStories" (111 : Nat) ({ cls := "VillageStories$Told", name := "addStory", desc := "(LVillageStories$Text;)I" } : Jvm.MethodName)) ∈ tblG := inC_4 14 (by rfl) rfl
set_option maxRecDepth 400000 in
theorem tw_846 : (Jvm.Cond.instanceMethod ({ cls := "VillageStories$Told", name := "addStory", desc := "(LVillageStories$Text;)I" } : Jvm.MethodName)) ∈ tblG := inC_4 15 (by rfl) rfl
set_option maxRecDepth 400000 in
theorem tw_847 : (Jvm.Cond.selects "VillageStories$Told" ({ cls := "VillageStories$Told", name := "addStory", desc := "(LVillageStories$Text;)I" } : Jvm.MethodName) ({ cls := "VillageStories$Told", name := "addStory", desc := "(LVillageStories$Text;)I" } : Jvm.MethodName)) ∈ tblG := inC_4 16 (by rfl) rfl
set_option maxRecDepth 400000 in
theorem tw_848 : (Jvm.Cond.code ({ cls := "VillageStories$Told", name := "addStory", desc := "(LVillageStories$Text;)I" } : Jvm.MethodName) prog_8_method_11_code (2 : Nat) (Option.some Jvm.ClassFile.FieldType.int)) ∈ tblG := inC_4 17 (by rfl) rfl
set_option maxRecDepth 400000 in
theorem tw_849 : (Jvm.Cond.arrayClass Jvm.ClassFile.FieldType.byte) ∈ tblG := inC_4 18 (by rfl) rfl
set_option maxRecDepth 400000 in
theorem tw_850 : (Jvm.Cond.methodLink "VillageStoriesLaw" (65 : Nat) ({ cls := "VillageStories", name := "guess", desc := "()I" } : Jvm.MethodName)) ∈ tblG := inC_4 19 (by rfl) rfl
set_option maxRecDepth 400000 in
theorem tw_851 : (Jvm.Cond.instanceMethod ({ cls := "VillageStories", name := "guess", desc := "()I" } : Jvm.MethodName)) ∈ tblG := inC_4 20 (by rfl) rfl
set_option maxRecDepth 400000 in
theorem tw_852 : (Jvm.Cond.selects "VillageStories" ({ cls := "VillageStories", name := "guess", desc := "()I" } : Jvm.MethodName) ({ cls := "VillageStories", name := "guess", desc := "()I" } : Jvm.MethodName)) ∈ tblG := inC_4 21 (by rfl) rfl
set_option maxRecDepth 400000 in
theorem tw_853 : (Jvm.Cond.code ({ cls := "VillageStories", name := "guess", desc := "()I" } : Jvm.MethodName) prog_1_method_13_code (2 : Nat) (Option.some Jvm.ClassFile.FieldType.int)) ∈ tblG := inC_4 22 (by rfl) rfl
set_option maxRecDepth 400000 in
theorem tw_854 : (Jvm.Cond.methodLink "VillageStories" (119 : Nat) ({ cls := "VillageStories$Solver", name := "forgetGuess", desc := "()V" } : Jvm.MethodName)) ∈ tblG := inC_4 23 (by rfl) rfl
set_option maxRecDepth 400000 in
theorem tw_855 : (Jvm.Cond.instanceMethod ({ cls := "VillageStories$Solver", name := "forgetGuess", desc := "()V" } : Jvm.MethodName)) ∈ tblG := inC_4 24 (by rfl) rfl
set_option maxRecDepth 400000 in
theorem tw_856 : (Jvm.Cond.selects "VillageStories$Solver" ({ cls := "VillageStories$Solver", name := "forgetGuess", desc := "()V" } : Jvm.MethodName) ({ cls := "VillageStories$Solver", name := "forgetGuess", desc := "()V" } : Jvm.MethodName)) ∈ tblG := inC_4 25 (by rfl) rfl
set_option maxRecDepth 400000 in
theorem tw_857 : (Jvm.Cond.code ({ cls := "VillageStories$Solver", name := "forgetGuess", desc := "()V" } : Jvm.MethodName) prog_6_method_3_code (1 : Nat) (Option.none : Option Jvm.ClassFile.FieldType)) ∈ tblG := inC_4 26 (by rfl) rfl
set_option maxRecDepth 400000 in
theorem tw_858 : (Jvm.Cond.methodLink "VillageStoriesLaw" (69 : Nat) ({ cls := "VillageStories", name := "fault", desc := "(I)I" } : Jvm.MethodName)) ∈ tblG := inC_4 27 (by rfl) rfl
set_option maxRecDepth 400000 in
theorem tw_859 : (Jvm.Cond.instanceMethod ({ cls := "VillageStories", name := "fault", desc := "(I)I" } : Jvm.MethodName)) ∈ tblG := inC_4 28 (by rfl) rfl
set_option maxRecDepth 400000 in
theorem tw_860 : (Jvm.Cond.selects "VillageStories" ({ cls := "VillageStories", name := "fault", desc := "(I)I" } : Jvm.MethodName) ({ cls := "VillageStories", name := "fault", desc := "(I)I" } : Jvm.MethodName)) ∈ tblG := inC_4 29 (by rfl) rfl
set_option maxRecDepth 400000 in
theorem tw_861 : (Jvm.Cond.code ({ cls := "VillageStories", name := "fault", desc := "(I)I" } : Jvm.MethodName) prog_1_method_14_code (2 : Nat) (Option.some Jvm.ClassFile.FieldType.int)) ∈ tblG := inC_4 30 (by rfl) rfl
set_option maxRecDepth 400000 in
theorem tw_862 : (Jvm.Cond.methodLink "VillageStoriesLaw" (73 : Nat) ({ cls := "VillageStories", name := "strike", desc := "(I)Z" } : Jvm.MethodName)) ∈ tblG := inC_4 31 (by rfl) rfl
set_option maxRecDepth 400000 in
theorem tw_863 : (Jvm.Cond.instanceMethod ({ cls := "VillageStories", name := "strike", desc := "(I)Z" } : Jvm.MethodName)) ∈ tblG := inC_4 32 (by rfl) rfl
set_option maxRecDepth 400000 in
theorem tw_864 : (Jvm.Cond.selects "VillageStories" ({ cls := "VillageStories", name := "strike", desc := "(I)Z" } : Jvm.MethodName) ({ cls := "VillageStories", name := "strike", desc := "(I)Z" } : Jvm.MethodName)) ∈ tblG := inC_4 33 (by rfl) rfl
set_option maxRecDepth 400000 in
theorem tw_865 : (Jvm.Cond.code ({ cls := "VillageStories", name := "strike", desc := "(I)Z" } : Jvm.MethodName) prog_1_method_15_code (2 : Nat) (Option.some Jvm.ClassFile.FieldType.boolean)) ∈ tblG := inC_4 34 (by rfl) rfl
set_option maxRecDepth 400000 in
theorem tw_866 : (Jvm.Cond.methodLink "VillageStories" (133 : Nat) ({ cls := "VillageStories$Told", name := "hasStory", desc := "(I)Z" } : Jvm.MethodName)) ∈ tblG := inC_4 35 (by rfl) rfl
set_option maxRecDepth 400000 in
theorem tw_867 : (Jvm.Cond.instanceMethod ({ cls := "VillageStories$Told", name := "hasStory", desc := "(I)Z" } : Jvm.MethodName)) ∈ tblG := inC_4 36 (by rfl) rfl
set_option maxRecDepth 400000 in
theorem tw_868 : (Jvm.Cond.selects "VillageStories$Told" ({ cls := "VillageStories$Told", name := "hasStory", desc := "(I)Z" } : Jvm.MethodName) ({ cls := "VillageStories$Told", name := "hasStory", desc := "(I)Z" } : Jvm.MethodName)) ∈ tblG := inC_4 37 (by rfl) rfl
set_option maxRecDepth 400000 in
theorem tw_869 : (Jvm.Cond.code ({ cls := "VillageStories$Told", name := "hasStory", desc := "(I)Z" } : Jvm.MethodName) prog_8_method_9_code (2 : Nat) (Option.some Jvm.ClassFile.FieldType.boolean)) ∈ tblG := inC_4 38 (by rfl) rfl
set_option maxRecDepth 400000 in
theorem tw_870 : (Jvm.Cond.methodLink "VillageStoriesLaw" (77 : Nat) ({ cls := "VillageStories", name := "day", desc := "(I)Z" } : Jvm.MethodName)) ∈ tblG := inC_4 39 (by rfl) rfl
set_option maxRecDepth 400000 in
theorem tw_871 : (Jvm.Cond.instanceMethod ({ cls := "VillageStories", name := "day", desc := "(I)Z" } : Jvm.MethodName)) ∈ tblG := inC_4 40 (by rfl) rfl
set_option maxRecDepth 400000 in
theorem tw_872 : (Jvm.Cond.selects "VillageStories" ({ cls := "VillageStories", name := "day", desc := "(I)Z" } : Jvm.MethodName) ({ cls := "VillageStories", name := "day", desc := "(I)Z" } : Jvm.MethodName)) ∈ tblG := inC_4 41 (by rfl) rfl
set_option maxRecDepth 400000 in
theorem tw_873 : (Jvm.Cond.code ({ cls := "VillageStories", name := "day", desc := "(I)Z" } : Jvm.MethodName) prog_1_method_16_code (2 : Nat) (Option.some Jvm.ClassFile.FieldType.boolean)) ∈ tblG := inC_4 42 (by rfl) rfl
set_option maxRecDepth 400000 in
theorem tw_874 : (Jvm.Cond.methodLink "VillageStoriesLaw" (81 : Nat) ({ cls := "VillageStories", name := "view", desc := "(I)Z" } : Jvm.MethodName)) ∈ tblG := inC_4 43 (by rfl) rfl
set_option maxRecDepth 400000 in
theorem tw_875 : (Jvm.Cond.instanceMethod ({ cls := "VillageStories", name := "view", desc := "(I)Z" } : Jvm.MethodName)) ∈ tblG := inC_4 44 (by rfl) rfl
set_option maxRecDepth 400000 in
theorem tw_876 : (Jvm.Cond.selects "VillageStories" ({ cls := "VillageStories", name := "view", desc := "(I)Z" } : Jvm.MethodName) ({ cls := "VillageStories", name := "view", desc := "(I)Z" } : Jvm.MethodName)) ∈ tblG := inC_4 45 (by rfl) rfl
set_option maxRecDepth 400000 in
theorem tw_877 : (Jvm.Cond.code ({ cls := "VillageStories", name := "view", desc := "(I)Z" } : Jvm.MethodName) prog_1_method_17_code (2 : Nat) (Option.some Jvm.ClassFile.FieldType.boolean)) ∈ tblG := inC_4 46 (by rfl) rfl
set_option maxRecDepth 400000 in
theorem tw_878 : (Jvm.Cond.methodLink "VillageStoriesLaw" (85 : Nat) ({ cls := "VillageStories", name := "so", desc := "(I)I" } : Jvm.MethodName)) ∈ tblG := inC_4 47 (by rfl) rfl
set_option maxRecDepth 400000 in
theorem tw_879 : (Jvm.Cond.instanceMethod ({ cls := "VillageStories", name := "so", desc := "(I)I" } : Jvm.MethodName)) ∈ tblG := inC_4 48 (by rfl) rfl
set_option maxRecDepth 400000 in
theorem tw_880 : (Jvm.Cond.selects "VillageStories" ({ cls := "VillageStories", name := "so", desc := "(I)I" } : Jvm.MethodName) ({ cls := "VillageStories", name := "so", desc := "(I)I" } : Jvm.MethodName)) ∈ tblG := inC_4 49 (by rfl) rfl
set_option maxRecDepth 400000 in
theorem tw_881 : (Jvm.Cond.code ({ cls := "VillageStories", name := "so", desc := "(I)I" } : Jvm.MethodName) prog_1_method_18_code (3 : Nat) (Option.some Jvm.ClassFile.FieldType.int)) ∈ tblG := inC_4 50 (by rfl) rfl
set_option maxRecDepth 400000 in
theorem tw_882 : (Jvm.Cond.methodLink "VillageStories" (146 : Nat) ({ cls := "VillageStories$Told", name := "storyText", desc := "(I)LVillageStories$Text;" } : Jvm.MethodName)) ∈ tblG := inC_4 51 (by rfl) rfl
set_option maxRecDepth 400000 in
theorem tw_883 : (Jvm.Cond.instanceMethod ({ cls := "VillageStories$Told", name := "storyText", desc := "(I)LVillageStories$Text;" } : Jvm.MethodName)) ∈ tblG := inC_4 52 (by rfl) rfl
set_option maxRecDepth 400000 in
theorem tw_884 : (Jvm.Cond.selects "VillageStories$Told" ({ cls := "VillageStories$Told", name := "storyText", desc := "(I)LVillageStories$Text;" } : Jvm.MethodName) ({ cls := "VillageStories$Told", name := "storyText", desc := "(I)LVillageStories$Text;" } : Jvm.MethodName)) ∈ tblG := inC_4 53 (by rfl) rfl
set_option maxRecDepth 400000 in
theorem tw_885 : (Jvm.Cond.code ({ cls := "VillageStories$Told", name := "storyText", desc := "(I)LVillageStories$Text;" } : Jvm.MethodName) prog_8_method_10_code (2 : Nat) (Option.some (Jvm.ClassFile.FieldType.object "VillageStories$Text"))) ∈ tblG := inC_4 54 (by rfl) rfl
set_option maxRecDepth 400000 in
theorem tw_886 : (Jvm.Cond.methodLink "VillageStories$Told" (102 : Nat) ({ cls := "VillageStories$Told", name := "hasStory", desc := "(I)Z" } : Jvm.MethodName)) ∈ tblG := inC_4 55 (by rfl) rfl
set_option maxRecDepth 400000 in
theorem tw_887 : (Jvm.Cond.methodLink "VillageStories" (154 : Nat) ({ cls := "VillageStories$Judge", name := "isSoIn", desc := "(LVillageStories$Shape;LVillageStories$Text;J)Z" } : Jvm.MethodName)) ∈ tblG := inC_4 56 (by rfl) rfl
set_option maxRecDepth 400000 in
theorem tw_888 : (Jvm.Cond.instanceMethod ({ cls := "VillageStories$Judge", name := "isSoIn", desc := "(LVillageStories$Shape;LVillageStories$Text;J)Z" } : Jvm.MethodName)) ∈ tblG := inC_4 57 (by rfl) rfl
set_option maxRecDepth 400000 in
theorem tw_889 : (Jvm.Cond.selects "VillageStories$Judge" ({ cls := "VillageStories$Judge", name := "isSoIn", desc := "(LVillageStories$Shape;LVillageStories$Text;J)Z" } : Jvm.MethodName) ({ cls := "VillageStories$Judge", name := "isSoIn", desc := "(LVillageStories$Shape;LVillageStories$Text;J)Z" } : Jvm.MethodName)) ∈ tblG := inC_4 58 (by rfl) rfl
set_option maxRecDepth 400000 in
theorem tw_890 : (Jvm.Cond.code ({ cls := "VillageStories$Judge", name := "isSoIn", desc := "(LVillageStories$Shape;LVillageStories$Text;J)Z" } : Jvm.MethodName) prog_2_method_2_code (5 : Nat) (Option.some Jvm.ClassFile.FieldType.boolean)) ∈ tblG := inC_4 59 (by rfl) rfl
set_option maxRecDepth 400000 in
theorem tw_891 : (Jvm.Cond.methodLink "VillageStories$Judge" (34 : Nat) ({ cls := "VillageStories$Judge", name := "takeWorld", desc := "(LVillageStories$Shape;LVillageStories$Text;J)V" } : Jvm.MethodName)) ∈ tblG := inC_4 60 (by rfl) rfl
set_option maxRecDepth 400000 in
theorem tw_893 : (Jvm.Cond.instanceMethod ({ cls := "VillageStories$Judge", name := "takeWorld", desc := "(LVillageStories$Shape;LVillageStories$Text;J)V" } : Jvm.MethodName)) ∈ tblG := inC_4 62 (by rfl) rfl
set_option maxRecDepth 400000 in
theorem tw_894 : (Jvm.Cond.code ({ cls := "VillageStories$Judge", name := "takeWorld", desc := "(LVillageStories$Shape;LVillageStories$Text;J)V" } : Jvm.MethodName) prog_2_method_4_code (6 : Nat) (Option.none : Option Jvm.ClassFile.FieldType)) ∈ tblG := inC_4 63 (by rfl) rfl
set_option maxRecDepth 400000 in
theorem tw_895 : (Jvm.Cond.methodLink "VillageStories$Judge" (46 : Nat) ({ cls := "VillageStories$Shape", name := "bit", desc := "(I)I" } : Jvm.MethodName)) ∈ tblG := inC_4 64 (by rfl) rfl
set_option maxRecDepth 400000 in
theorem tw_896 : (Jvm.Cond.constantLong "VillageStories$Judge" (55 : Nat) (-1 : Int64)) ∈ tblG := inC_4 65 (by rfl) rfl
set_option maxRecDepth 400000 in
theorem tw_897 : (Jvm.Cond.methodLink "VillageStories$Judge" (38 : Nat) ({ cls := "VillageStories$Judge", name := "judged", desc := "(II)J" } : Jvm.MethodName)) ∈ tblG := inC_4 66 (by rfl) rfl
set_option maxRecDepth 400000 in
theorem tw_899 : (Jvm.Cond.instanceMethod ({ cls := "VillageStories$Judge", name := "judged", desc := "(II)J" } : Jvm.MethodName)) ∈ tblG := inC_4 68 (by rfl) rfl
set_option maxRecDepth 400000 in
theorem tw_900 : (Jvm.Cond.code ({ cls := "VillageStories$Judge", name := "judged", desc := "(II)J" } : Jvm.MethodName) prog_2_method_8_code (3 : Nat) (Option.some Jvm.ClassFile.FieldType.long)) ∈ tblG := inC_4 69 (by rfl) rfl
set_option maxRecDepth 400000 in
theorem tw_901 : (Jvm.Cond.methodLink "VillageStories$Judge" (82 : Nat) ({ cls := "VillageStories$Judge", name := "counted", desc := "(II)J" } : Jvm.MethodName)) ∈ tblG := inC_4 70 (by rfl) rfl
set_option maxRecDepth 400000 in
theorem tw_903 : (Jvm.Cond.instanceMethod ({ cls := "VillageStories$Judge", name := "counted", desc := "(II)J" } : Jvm.MethodName)) ∈ tblG := inC_4 72 (by rfl) rfl
set_option maxRecDepth 400000 in
theorem tw_904 : (Jvm.Cond.code ({ cls := "VillageStories$Judge", name := "counted", desc := "(II)J" } : Jvm.MethodName) prog_2_method_11_code (14 : Nat) (Option.some Jvm.ClassFile.FieldType.long)) ∈ tblG := inC_4 73 (by rfl) rfl
set_option maxRecDepth 400000 in
theorem tw_905 : (Jvm.Cond.methodLink "VillageStories$Judge" (63 : Nat) ({ cls := "VillageStories$Judge", name := "sizeAt", desc := "(I)I" } : Jvm.MethodName)) ∈ tblG := inC_4 74 (by rfl) rfl
set_option maxRecDepth 400000 in
theorem tw_907 : (Jvm.Cond.instanceMethod ({ cls := "VillageStories$Judge", name := "sizeAt", desc := "(I)I" } : Jvm.MethodName)) ∈ tblG := inC_4 76 (by rfl) rfl
set_option maxRecDepth 400000 in
theorem tw_908 : (Jvm.Cond.code ({ cls := "VillageStories$Judge", name := "sizeAt", desc := "(I)I" } : Jvm.MethodName) prog_2_method_7_code (3 : Nat) (Option.some Jvm.ClassFile.FieldType.int)) ∈ tblG := inC_4 77 (by rfl) rfl
set_option maxRecDepth 400000 in
theorem tw_909 : (Jvm.Cond.methodLink "VillageStories$Judge" (111 : Nat) ({ cls := "VillageStories$Judge", name := "atLeast", desc := "(IJJJ)J" } : Jvm.MethodName)) ∈ tblG := inC_4 78 (by rfl) rfl
set_option maxRecDepth 400000 in
theorem tw_910 : (Jvm.Cond.static ({ cls := "VillageStories$Judge", name := "atLeast", desc := "(IJJJ)J" } : Jvm.MethodName)) ∈ tblG := inC_4 79 (by rfl) rfl
set_option maxRecDepth 400000 in
theorem tw_911 : (Jvm.Cond.code ({ cls := "VillageStories$Judge", name := "atLeast", desc := "(IJJJ)J" } : Jvm.MethodName) prog_2_method_12_code (7 : Nat) (Option.some Jvm.ClassFile.FieldType.long)) ∈ tblG := inC_4 80 (by rfl) rfl
set_option maxRecDepth 400000 in
theorem tw_912 : (Jvm.Cond.methodLink "VillageStories$Judge" (85 : Nat) ({ cls := "VillageStories$Judge", name := "joined", desc := "(II)J" } : Jvm.MethodName)) ∈ tblG := inC_4 81 (by rfl) rfl
set_option maxRecDepth 400000 in
theorem tw_914 : (Jvm.Cond.instanceMethod ({ cls := "VillageStories$Judge", name := "joined", desc := "(II)J" } : Jvm.MethodName)) ∈ tblG := inC_4 83 (by rfl) rfl
set_option maxRecDepth 400000 in
theorem tw_915 : (Jvm.Cond.code ({ cls := "VillageStories$Judge", name := "joined", desc := "(II)J" } : Jvm.MethodName) prog_2_method_10_code (6 : Nat) (Option.some Jvm.ClassFile.FieldType.long)) ∈ tblG := inC_4 84 (by rfl) rfl
set_option maxRecDepth 400000 in
theorem tw_916 : (Jvm.Cond.methodLink "VillageStories$Judge" (91 : Nat) ({ cls := "VillageStories$Judge", name := "slot", desc := "(I)I" } : Jvm.MethodName)) ∈ tblG := inC_4 85 (by rfl) rfl
set_option maxRecDepth 400000 in
theorem tw_918 : (Jvm.Cond.instanceMethod ({ cls := "VillageStories$Judge", name := "slot", desc := "(I)I" } : Jvm.MethodName)) ∈ tblG := inC_4 87 (by rfl) rfl
set_option maxRecDepth 400000 in
theorem tw_919 : (Jvm.Cond.code ({ cls := "VillageStories$Judge", name := "slot", desc := "(I)I" } : Jvm.MethodName) prog_2_method_9_code (2 : Nat) (Option.some Jvm.ClassFile.FieldType.int)) ∈ tblG := inC_4 88 (by rfl) rfl
set_option maxRecDepth 400000 in
theorem tw_920 : (Jvm.Cond.methodLink "VillageStories$Judge" (97 : Nat) ({ cls := "VillageStories$Judge", name := "reached", desc := "(III)J" } : Jvm.MethodName)) ∈ tblG := inC_4 89 (by rfl) rfl
set_option maxRecDepth 400000 in
theorem tw_922 : (Jvm.Cond.instanceMethod ({ cls := "VillageStories$Judge", name := "reached", desc := "(III)J" } : Jvm.MethodName)) ∈ tblG := inC_4 91 (by rfl) rfl
set_option maxRecDepth 400000 in
theorem tw_923 : (Jvm.Cond.code ({ cls := "VillageStories$Judge", name := "reached", desc := "(III)J" } : Jvm.MethodName) prog_2_method_14_code (5 : Nat) (Option.some Jvm.ClassFile.FieldType.long)) ∈ tblG := inC_4 92 (by rfl) rfl
set_option maxRecDepth 400000 in
theorem tw_924 : (Jvm.Cond.methodLink "VillageStories$Judge" (119 : Nat) ({ cls := "VillageStories$Shape", name := "isOfOneKindTwice", desc := "(I)Z" } : Jvm.MethodName)) ∈ tblG := inC_4 93 (by rfl) rfl
set_option maxRecDepth 400000 in
theorem tw_925 : (Jvm.Cond.methodLink "VillageStories$Judge" (123 : Nat) ({ cls := "VillageStories$Judge", name := "findPaths", desc := "(I)V" } : Jvm.MethodName)) ∈ tblG := inC_4 94 (by rfl) rfl
set_option maxRecDepth 400000 in
theorem tw_927 : (Jvm.Cond.instanceMethod ({ cls := "VillageStories$Judge", name := "findPaths", desc := "(I)V" } : Jvm.MethodName)) ∈ tblG := inC_4 96 (by rfl) rfl
set_option maxRecDepth 400000 in
theorem tw_928 : (Jvm.Cond.code ({ cls := "VillageStories$Judge", name := "findPaths", desc := "(I)V" } : Jvm.MethodName) prog_2_method_16_code (9 : Nat) (Option.none : Option Jvm.ClassFile.FieldType)) ∈ tblG := inC_4 97 (by rfl) rfl
set_option maxRecDepth 400000 in
theorem tw_929 : (Jvm.Cond.methodLink "VillageStories$Judge" (132 : Nat) ({ cls := "java/lang/System", name := "arraycopy", desc := "(Ljava/lang/Object;ILjava/lang/Object;II)V" } : Jvm.MethodName)) ∈ tblG := inC_4 98 (by rfl) rfl
set_option maxRecDepth 400000 in
theorem tw_930 : (Jvm.Cond.static ({ cls := "java/lang/System", name := "arraycopy", desc := "(Ljava/lang/Object;ILjava/lang/Object;II)V" } : Jvm.MethodName)) ∈ tblG := inC_4 99 (by rfl) rfl
set_option maxRecDepth 400000 in
theorem tw_931 : (Jvm.Cond.native ({ cls := "java/lang/System", name := "arraycopy", desc := "(Ljava/lang/Object;ILjava/lang/Object;II)V" } : Jvm.MethodName)) ∈ tblG := inC_4 100 (by rfl) rfl
set_option maxRecDepth 400000 in
theorem tw_932 : (Jvm.Cond.methodLink "VillageStories$Judge" (115 : Nat) ({ cls := "VillageStories$Shape", name := "place", desc := "(III)I" } : Jvm.MethodName)) ∈ tblG := inC_4 101 (by rfl) rfl
set_option maxRecDepth 400000 in
theorem tw_933 : (Jvm.Cond.methodLink "VillageStories$Judge" (101 : Nat) ({ cls := "VillageStories$Judge", name := "treeLike", desc := "(I)J" } : Jvm.MethodName)) ∈ tblG := inC_4 102 (by rfl) rfl
set_option maxRecDepth 400000 in
theorem tw_935 : (Jvm.Cond.instanceMethod ({ cls := "VillageStories$Judge", name := "treeLike", desc := "(I)J" } : Jvm.MethodName)) ∈ tblG := inC_4 104 (by rfl) rfl
set_option maxRecDepth 400000 in
theorem tw_936 : (Jvm.Cond.code ({ cls := "VillageStories$Judge", name := "treeLike", desc := "(I)J" } : Jvm.MethodName) prog_2_method_15_code (12 : Nat) (Option.some Jvm.ClassFile.FieldType.long)) ∈ tblG := inC_4 105 (by rfl) rfl
set_option maxRecDepth 400000 in
theorem tw_937 : (Jvm.Cond.methodLink "VillageStories$Judge" (105 : Nat) ({ cls := "VillageStories$Judge", name := "factAt", desc := "(III)J" } : Jvm.MethodName)) ∈ tblG := inC_4 106 (by rfl) rfl
set_option maxRecDepth 400000 in
theorem tw_939 : (Jvm.Cond.instanceMethod ({ cls := "VillageStories$Judge", name := "factAt", desc := "(III)J" } : Jvm.MethodName)) ∈ tblG := inC_4 108 (by rfl) rfl
set_option maxRecDepth 400000 in
theorem tw_940 : (Jvm.Cond.code ({ cls := "VillageStories$Judge", name := "factAt", desc := "(III)J" } : Jvm.MethodName) prog_2_method_13_code (5 : Nat) (Option.some Jvm.ClassFile.FieldType.long)) ∈ tblG := inC_4 109 (by rfl) rfl
set_option maxRecDepth 400000 in
theorem tw_941 : (Jvm.Cond.methodLink "VillageStoriesLaw" (89 : Nat) ({ cls := "VillageStories", name := "breaks", desc := "(II)I" } : Jvm.MethodName)) ∈ tblG := inC_4 110 (by rfl) rfl
set_option maxRecDepth 400000 in
theorem tw_942 : (Jvm.Cond.instanceMethod ({ cls := "VillageStories", name := "breaks", desc := "(II)I" } : Jvm.MethodName)) ∈ tblG := inC_4 111 (by rfl) rfl
set_option maxRecDepth 400000 in
theorem tw_943 : (Jvm.Cond.selects "VillageStories" ({ cls := "VillageStories", name := "breaks", desc := "(II)I" } : Jvm.MethodName) ({ cls := "VillageStories", name := "breaks", desc := "(II)I" } : Jvm.MethodName)) ∈ tblG := inC_4 112 (by rfl) rfl
set_option maxRecDepth 400000 in
theorem tw_944 : (Jvm.Cond.code ({ cls := "VillageStories", name := "breaks", desc := "(II)I" } : Jvm.MethodName) prog_1_method_19_code (4 : Nat) (Option.some Jvm.ClassFile.FieldType.int)) ∈ tblG := inC_4 113 (by rfl) rfl
set_option maxRecDepth 400000 in
theorem tw_945 : (Jvm.Cond.methodLink "VillageStories" (160 : Nat) ({ cls := "VillageStories$Judge", name := "breakNumber", desc := "(LVillageStories$Shape;LVillageStories$Text;JI)I" } : Jvm.MethodName)) ∈ tblG := inC_4 114 (by rfl) rfl
set_option maxRecDepth 400000 in
theorem tw_946 : (Jvm.Cond.instanceMethod ({ cls := "VillageStories$Judge", name := "breakNumber", desc := "(LVillageStories$Shape;LVillageStories$Text;JI)I" } : Jvm.MethodName)) ∈ tblG := inC_4 115 (by rfl) rfl
set_option maxRecDepth 400000 in
theorem tw_947 : (Jvm.Cond.selects "VillageStories$Judge" ({ cls := "VillageStories$Judge", name := "breakNumber", desc := "(LVillageStories$Shape;LVillageStories$Text;JI)I" } : Jvm.MethodName) ({ cls := "VillageStories$Judge", name := "breakNumber", desc := "(LVillageStories$Shape;LVillageStories$Text;JI)I" } : Jvm.MethodName)) ∈ tblG := inC_4 116 (by rfl) rfl
set_option maxRecDepth 400000 in
theorem tw_948 : (Jvm.Cond.code ({ cls := "VillageStories$Judge", name := "breakNumber", desc := "(LVillageStories$Shape;LVillageStories$Text;JI)I" } : Jvm.MethodName) prog_2_method_5_code (9 : Nat) (Option.some Jvm.ClassFile.FieldType.int)) ∈ tblG := inC_4 117 (by rfl) rfl
set_option maxRecDepth 400000 in
theorem tw_949 : (Jvm.Cond.methodLink "VillageStories$Judge" (57 : Nat) ({ cls := "VillageStories$Text", name := "leadingAlls", desc := "()I" } : Jvm.MethodName)) ∈ tblG := inC_4 118 (by rfl) rfl
set_option maxRecDepth 400000 in
theorem tw_950 : (Jvm.Cond.instanceMethod ({ cls := "VillageStories$Text", name := "leadingAlls", desc := "()I" } : Jvm.MethodName)) ∈ tblG := inC_4 119 (by rfl) rfl
set_option maxRecDepth 400000 in
theorem tw_951 : (Jvm.Cond.selects "VillageStories$Text" ({ cls := "VillageStories$Text", name := "leadingAlls", desc := "()I" } : Jvm.MethodName) ({ cls := "VillageStories$Text", name := "leadingAlls", desc := "()I" } : Jvm.MethodName)) ∈ tblG := inC_4 120 (by rfl) rfl
set_option maxRecDepth 400000 in
theorem tw_952 : (Jvm.Cond.code ({ cls := "VillageStories$Text", name := "leadingAlls", desc := "()I" } : Jvm.MethodName) prog_7_method_6_code (2 : Nat) (Option.some Jvm.ClassFile.FieldType.int)) ∈ tblG := inC_4 121 (by rfl) rfl
set_option maxRecDepth 400000 in
theorem tw_953 : (Jvm.Cond.methodLink "VillageStories$Judge" (66 : Nat) ({ cls := "VillageStories$Judge", name := "chooseNext", desc := "(I)V" } : Jvm.MethodName)) ∈ tblG := inC_4 122 (by rfl) rfl
set_option maxRecDepth 400000 in
theorem tw_955 : (Jvm.Cond.instanceMethod ({ cls := "VillageStories$Judge", name := "chooseNext", desc := "(I)V" } : Jvm.MethodName)) ∈ tblG := inC_4 124 (by rfl) rfl
set_option maxRecDepth 400000 in
theorem tw_956 : (Jvm.Cond.code ({ cls := "VillageStories$Judge", name := "chooseNext", desc := "(I)V" } : Jvm.MethodName) prog_2_method_6_code (3 : Nat) (Option.none : Option Jvm.ClassFile.FieldType)) ∈ tblG := inC_4 125 (by rfl) rfl
set_option maxRecDepth 400000 in
theorem tw_957 : (Jvm.Cond.methodLink "VillageStoriesLaw" (93 : Nat) ({ cls := "VillageStories", name := "worlds", desc := "()I" } : Jvm.MethodName)) ∈ tblG := inC_4 126 (by rfl) rfl
set_option maxRecDepth 400000 in
theorem tw_958 : (Jvm.Cond.instanceMethod ({ cls := "VillageStories", name := "worlds", desc := "()I" } : Jvm.MethodName)) ∈ tblG := inC_4 127 (by rfl) rfl
set_option maxRecDepth 400000 in
theorem tw_959 : (Jvm.Cond.selects "VillageStories" ({ cls := "VillageStories", name := "worlds", desc := "()I" } : Jvm.MethodName) ({ cls := "VillageStories", name := "worlds", desc := "()I" } : Jvm.MethodName)) ∈ tblG := inC_4 128 (by rfl) rfl
set_option maxRecDepth 400000 in
theorem tw_960 : (Jvm.Cond.code ({ cls := "VillageStories", name := "worlds", desc := "()I" } : Jvm.MethodName) prog_1_method_20_code (1 : Nat) (Option.some Jvm.ClassFile.FieldType.int)) ∈ tblG := inC_4 129 (by rfl) rfl
set_option maxRecDepth 400000 in
theorem tw_961 : (Jvm.Cond.methodLink "VillageStories" (164 : Nat) ({ cls := "VillageStories$Solver", name := "countWorlds", desc := "()I" } : Jvm.MethodName)) ∈ tblG := inC_4 130 (by rfl) rfl
set_option maxRecDepth 400000 in
theorem tw_962 : (Jvm.Cond.instanceMethod ({ cls := "VillageStories$Solver", name := "countWorlds", desc := "()I" } : Jvm.MethodName)) ∈ tblG := inC_4 131 (by rfl) rfl
set_option maxRecDepth 400000 in
theorem tw_963 : (Jvm.Cond.selects "VillageStories$Solver" ({ cls := "VillageStories$Solver", name := "countWorlds", desc := "()I" } : Jvm.MethodName) ({ cls := "VillageStories$Solver", name := "countWorlds", desc := "()I" } : Jvm.MethodName)) ∈ tblG := inC_4 132 (by rfl) rfl
set_option maxRecDepth 400000 in
theorem tw_964 : (Jvm.Cond.code ({ cls := "VillageStories$Solver", name := "countWorlds", desc := "()I" } : Jvm.MethodName) prog_6_method_8_code (1 : Nat) (Option.some Jvm.ClassFile.FieldType.int)) ∈ tblG := inC_4 133 (by rfl) rfl
set_option maxRecDepth 400000 in
theorem tw_965 : (Jvm.Cond.methodLink "VillageStories$Solver" (147 : Nat) ({ cls := "VillageStories$Solver", name := "lookUp", desc := "()Z" } : Jvm.MethodName)) ∈ tblG := inC_4 134 (by rfl) rfl
set_option maxRecDepth 400000 in
theorem tw_967 : (Jvm.Cond.instanceMethod ({ cls := "VillageStories$Solver", name := "lookUp", desc := "()Z" } : Jvm.MethodName)) ∈ tblG := inC_4 136 (by rfl) rfl
set_option maxRecDepth 400000 in
theorem tw_968 : (Jvm.Cond.code ({ cls := "VillageStories$Solver", name := "lookUp", desc := "()Z" } : Jvm.MethodName) prog_6_method_5_code (3 : Nat) (Option.some Jvm.ClassFile.FieldType.boolean)) ∈ tblG := inC_4 137 (by rfl) rfl
set_option maxRecDepth 400000 in
theorem tw_969 : (Jvm.Cond.methodLink "VillageStories$Solver" (83 : Nat) ({ cls := "VillageStories$Solver", name := "findPossible", desc := "()V" } : Jvm.MethodName)) ∈ tblG := inC_4 138 (by rfl) rfl
set_option maxRecDepth 400000 in
theorem tw_971 : (Jvm.Cond.instanceMethod ({ cls := "VillageStories$Solver", name := "findPossible", desc := "()V" } : Jvm.MethodName)) ∈ tblG := inC_4 140 (by rfl) rfl
set_option maxRecDepth 400000 in
theorem tw_972 : (Jvm.Cond.code ({ cls := "VillageStories$Solver", name := "findPossible", desc := "()V" } : Jvm.MethodName) prog_6_method_6_code (6 : Nat) (Option.none : Option Jvm.ClassFile.FieldType)) ∈ tblG := inC_4 141 (by rfl) rfl
set_option maxRecDepth 400000 in
theorem tw_973 : (Jvm.Cond.methodLink "VillageStories$Solver" (105 : Nat) ({ cls := "VillageStories$WorldSet", name := "takeAll", desc := "(I)V" } : Jvm.MethodName)) ∈ tblG := inC_4 142 (by rfl) rfl
set_option maxRecDepth 400000 in
theorem tw_974 : (Jvm.Cond.instanceMethod ({ cls := "VillageStories$WorldSet", name := "takeAll", desc := "(I)V" } : Jvm.MethodName)) ∈ tblG := inC_4 143 (by rfl) rfl
set_option maxRecDepth 400000 in
theorem tw_975 : (Jvm.Cond.selects "VillageStories$WorldSet" ({ cls := "VillageStories$WorldSet", name := "takeAll", desc := "(I)V" } : Jvm.MethodName) ({ cls := "VillageStories$WorldSet", name := "takeAll", desc := "(I)V" } : Jvm.MethodName)) ∈ tblG := inC_4 144 (by rfl) rfl
set_option maxRecDepth 400000 in
theorem tw_976 : (Jvm.Cond.code ({ cls := "VillageStories$WorldSet", name := "takeAll", desc := "(I)V" } : Jvm.MethodName) prog_9_method_3_code (3 : Nat) (Option.none : Option Jvm.ClassFile.FieldType)) ∈ tblG := inC_4 145 (by rfl) rfl
set_option maxRecDepth 400000 in
theorem tw_977 : (Jvm.Cond.methodLink "VillageStories$WorldSet" (31 : Nat) ({ cls := "VillageStories$WorldSet", name := "takeNone", desc := "(I)V" } : Jvm.MethodName)) ∈ tblG := inC_4 146 (by rfl) rfl
set_option maxRecDepth 400000 in
theorem tw_978 : (Jvm.Cond.instanceMethod ({ cls := "VillageStories$WorldSet", name := "takeNone", desc := "(I)V" } : Jvm.MethodName)) ∈ tblG := inC_4 147 (by rfl) rfl
set_option maxRecDepth 400000 in
theorem tw_979 : (Jvm.Cond.selects "VillageStories$WorldSet" ({ cls := "VillageStories$WorldSet", name := "takeNone", desc := "(I)V" } : Jvm.MethodName) ({ cls := "VillageStories$WorldSet", name := "takeNone", desc := "(I)V" } : Jvm.MethodName)) ∈ tblG := inC_4 148 (by rfl) rfl
set_option maxRecDepth 400000 in
theorem tw_980 : (Jvm.Cond.code ({ cls := "VillageStories$WorldSet", name := "takeNone", desc := "(I)V" } : Jvm.MethodName) prog_9_method_2_code (3 : Nat) (Option.none : Option Jvm.ClassFile.FieldType)) ∈ tblG := inC_4 149 (by rfl) rfl
set_option maxRecDepth 400000 in
theorem tw_981 : (Jvm.Cond.methodLink "VillageStories$WorldSet" (22 : Nat) ({ cls := "java/lang/Math", name := "min", desc := "(II)I" } : Jvm.MethodName)) ∈ tblG := inC_4 150 (by rfl) rfl
set_option maxRecDepth 400000 in
theorem tw_982 : (Jvm.Cond.methodLink "VillageStories$WorldSet" (28 : Nat) ({ cls := "java/lang/Math", name := "max", desc := "(II)I" } : Jvm.MethodName)) ∈ tblG := inC_4 151 (by rfl) rfl
set_option maxRecDepth 400000 in
theorem tw_983 : (Jvm.Cond.constantLong "VillageStories$WorldSet" (35 : Nat) (-1 : Int64)) ∈ tblG := inC_4 152 (by rfl) rfl
set_option maxRecDepth 400000 in
theorem tw_984 : (Jvm.Cond.methodLink "VillageStories$Solver" (118 : Nat) ({ cls := "VillageStories$Told", name := "knownOf", desc := "(III)I" } : Jvm.MethodName)) ∈ tblG := inC_4 153 (by rfl) rfl
set_option maxRecDepth 400000 in
theorem tw_985 : (Jvm.Cond.instanceMethod ({ cls := "VillageStories$Told", name := "knownOf", desc := "(III)I" } : Jvm.MethodName)) ∈ tblG := inC_4 154 (by rfl) rfl
set_option maxRecDepth 400000 in
theorem tw_986 : (Jvm.Cond.selects "VillageStories$Told" ({ cls := "VillageStories$Told", name := "knownOf", desc := "(III)I" } : Jvm.MethodName) ({ cls := "VillageStories$Told", name := "knownOf", desc := "(III)I" } : Jvm.MethodName)) ∈ tblG := inC_4 155 (by rfl) rfl
set_option maxRecDepth 400000 in
theorem tw_987 : (Jvm.Cond.code ({ cls := "VillageStories$Told", name := "knownOf", desc := "(III)I" } : Jvm.MethodName) prog_8_method_15_code (7 : Nat) (Option.some Jvm.ClassFile.FieldType.int)) ∈ tblG := inC_4 156 (by rfl) rfl
set_option maxRecDepth 400000 in
theorem tw_988 : (Jvm.Cond.methodLink "VillageStories$Told" (106 : Nat) ({ cls := "VillageStories$Told", name := "viewedDay", desc := "()I" } : Jvm.MethodName)) ∈ tblG := inC_4 157 (by rfl) rfl
set_option maxRecDepth 400000 in
theorem tw_990 : (Jvm.Cond.instanceMethod ({ cls := "VillageStories$Told", name := "viewedDay", desc := "()I" } : Jvm.MethodName)) ∈ tblG := inC_4 159 (by rfl) rfl
set_option maxRecDepth 400000 in
theorem tw_991 : (Jvm.Cond.code ({ cls := "VillageStories$Told", name := "viewedDay", desc := "()I" } : Jvm.MethodName) prog_8_method_12_code (1 : Nat) (Option.some Jvm.ClassFile.FieldType.int)) ∈ tblG := inC_4 160 (by rfl) rfl
set_option maxRecDepth 400000 in
theorem tw_992 : (Jvm.Cond.methodLink "VillageStories$Solver" (122 : Nat) ({ cls := "VillageStories$Shape", name := "place", desc := "(III)I" } : Jvm.MethodName)) ∈ tblG := inC_4 161 (by rfl) rfl
set_option maxRecDepth 400000 in
theorem tw_993 : (Jvm.Cond.methodLink "VillageStories$Solver" (125 : Nat) ({ cls := "VillageStories$Shape", name := "bit", desc := "(I)I" } : Jvm.MethodName)) ∈ tblG := inC_4 162 (by rfl) rfl
set_option maxRecDepth 400000 in
theorem tw_994 : (Jvm.Cond.methodLink "VillageStories$Solver" (129 : Nat) ({ cls := "VillageStories$WorldSet", name := "keepWhere", desc := "(IZ)V" } : Jvm.MethodName)) ∈ tblG := inC_4 163 (by rfl) rfl
set_option maxRecDepth 400000 in
theorem tw_995 : (Jvm.Cond.instanceMethod ({ cls := "VillageStories$WorldSet", name := "keepWhere", desc := "(IZ)V" } : Jvm.MethodName)) ∈ tblG := inC_4 164 (by rfl) rfl
set_option maxRecDepth 400000 in
theorem tw_996 : (Jvm.Cond.selects "VillageStories$WorldSet" ({ cls := "VillageStories$WorldSet", name := "keepWhere", desc := "(IZ)V" } : Jvm.MethodName) ({ cls := "VillageStories$WorldSet", name := "keepWhere", desc := "(IZ)V" } : Jvm.MethodName)) ∈ tblG := inC_4 165 (by rfl) rfl
set_option maxRecDepth 400000 in
theorem tw_997 : (Jvm.Cond.code ({ cls := "VillageStories$WorldSet", name := "keepWhere", desc := "(IZ)V" } : Jvm.MethodName) prog_9_method_11_code (4 : Nat) (Option.none : Option Jvm.ClassFile.FieldType)) ∈ tblG := inC_4 166 (by rfl) rfl
set_option maxRecDepth 400000 in
theorem tw_998 : (Jvm.Cond.methodLink "VillageStories$WorldSet" (47 : Nat) ({ cls := "VillageStories$WorldSet", name := "soAt", desc := "(II)J" } : Jvm.MethodName)) ∈ tblG := inC_4 167 (by rfl) rfl
set_option maxRecDepth 400000 in
theorem tw_999 : (Jvm.Cond.static ({ cls := "VillageStories$WorldSet", name := "soAt", desc := "(II)J" } : Jvm.MethodName)) ∈ tblG := inC_4 168 (by rfl) rfl
set_option maxRecDepth 400000 in
theorem tw_1000 : (Jvm.Cond.code ({ cls := "VillageStories$WorldSet", name := "soAt", desc := "(II)J" } : Jvm.MethodName) prog_9_method_13_code (2 : Nat) (Option.some Jvm.ClassFile.FieldType.long)) ∈ tblG := inC_4 169 (by rfl) rfl
set_option maxRecDepth 400000 in
theorem tw_1003 : (Jvm.Cond.methodLink "VillageStories$Solver" (86 : Nat) ({ cls := "VillageStories$WorldSet", name := "copy", desc := "(LVillageStories$WorldSet;)V" } : Jvm.MethodName)) ∈ tblG := inC_4 172 (by rfl) rfl
set_option maxRecDepth 400000 in
theorem tw_1004 : (Jvm.Cond.instanceMethod ({ cls := "VillageStories$WorldSet", name := "copy", desc := "(LVillageStories$WorldSet;)V" } : Jvm.MethodName)) ∈ tblG := inC_4 173 (by rfl) rfl
set_option maxRecDepth 400000 in
theorem tw_1005 : (Jvm.Cond.selects "VillageStories$WorldSet" ({ cls := "VillageStories$WorldSet", name := "copy", desc := "(LVillageStories$WorldSet;)V" } : Jvm.MethodName) ({ cls := "VillageStories$WorldSet", name := "copy", desc := "(LVillageStories$WorldSet;)V" } : Jvm.MethodName)) ∈ tblG := inC_4 174 (by rfl) rfl
set_option maxRecDepth 400000 in
theorem tw_1006 : (Jvm.Cond.code ({ cls := "VillageStories$WorldSet", name := "copy", desc := "(LVillageStories$WorldSet;)V" } : Jvm.MethodName) prog_9_method_4_code (2 : Nat) (Option.none : Option Jvm.ClassFile.FieldType)) ∈ tblG := inC_4 175 (by rfl) rfl
set_option maxRecDepth 400000 in
theorem tw_1007 : (Jvm.Cond.methodLink "VillageStories$WorldSet" (37 : Nat) ({ cls := "java/lang/System", name := "arraycopy", desc := "(Ljava/lang/Object;ILjava/lang/Object;II)V" } : Jvm.MethodName)) ∈ tblG := inC_4 176 (by rfl) rfl
set_option maxRecDepth 400000 in
theorem tw_1008 : (Jvm.Cond.methodLink "VillageStories$Solver" (90 : Nat) ({ cls := "VillageStories$Told", name := "viewedStories", desc := "()I" } : Jvm.MethodName)) ∈ tblG := inC_4 177 (by rfl) rfl
set_option maxRecDepth 400000 in
theorem tw_1009 : (Jvm.Cond.instanceMethod ({ cls := "VillageStories$Told", name := "viewedStories", desc := "()I" } : Jvm.MethodName)) ∈ tblG := inC_4 178 (by rfl) rfl
set_option maxRecDepth 400000 in
theorem tw_1010 : (Jvm.Cond.selects "VillageStories$Told" ({ cls := "VillageStories$Told", name := "viewedStories", desc := "()I" } : Jvm.MethodName) ({ cls := "VillageStories$Told", name := "viewedStories", desc := "()I" } : Jvm.MethodName)) ∈ tblG := inC_4 179 (by rfl) rfl
set_option maxRecDepth 400000 in
theorem tw_1011 : (Jvm.Cond.code ({ cls := "VillageStories$Told", name := "viewedStories", desc := "()I" } : Jvm.MethodName) prog_8_method_13_code (4 : Nat) (Option.some Jvm.ClassFile.FieldType.int)) ∈ tblG := inC_4 180 (by rfl) rfl
set_option maxRecDepth 400000 in
theorem tw_1012 : (Jvm.Cond.methodLink "VillageStories$Solver" (98 : Nat) ({ cls := "VillageStories$Solver", name := "truth", desc := "(ILVillageStories$Text;)LVillageStories$WorldSet;" } : Jvm.MethodName)) ∈ tblG := inC_4 181 (by rfl) rfl
set_option maxRecDepth 400000 in
theorem tw_1014 : (Jvm.Cond.instanceMethod ({ cls := "VillageStories$Solver", name := "truth", desc := "(ILVillageStories$Text;)LVillageStories$WorldSet;" } : Jvm.MethodName)) ∈ tblG := inC_4 183 (by rfl) rfl
set_option maxRecDepth 400000 in
theorem tw_1015 : (Jvm.Cond.code ({ cls := "VillageStories$Solver", name := "truth", desc := "(ILVillageStories$Text;)LVillageStories$WorldSet;" } : Jvm.MethodName) prog_6_method_7_code (5 : Nat) (Option.some (Jvm.ClassFile.FieldType.object "VillageStories$WorldSet"))) ∈ tblG := inC_4 184 (by rfl) rfl
set_option maxRecDepth 400000 in
theorem tw_1016 : (Jvm.Cond.methodLink "VillageStories$Solver" (133 : Nat) ({ cls := "VillageStories$WorldSet", name := "takeNone", desc := "(I)V" } : Jvm.MethodName)) ∈ tblG := inC_4 185 (by rfl) rfl
set_option maxRecDepth 400000 in
theorem tw_1017 : (Jvm.Cond.methodLink "VillageStories$Solver" (136 : Nat) ({ cls := "VillageStories$WorldSet", name := "usedWords", desc := "()I" } : Jvm.MethodName)) ∈ tblG := inC_4 186 (by rfl) rfl
set_option maxRecDepth 400000 in
theorem tw_1018 : (Jvm.Cond.instanceMethod ({ cls := "VillageStories$WorldSet", name := "usedWords", desc := "()I" } : Jvm.MethodName)) ∈ tblG := inC_4 187 (by rfl) rfl
set_option maxRecDepth 400000 in
theorem tw_1019 : (Jvm.Cond.selects "VillageStories$WorldSet" ({ cls := "VillageStories$WorldSet", name := "usedWords", desc := "()I" } : Jvm.MethodName) ({ cls := "VillageStories$WorldSet", name := "usedWords", desc := "()I" } : Jvm.MethodName)) ∈ tblG := inC_4 188 (by rfl) rfl
set_option maxRecDepth 400000 in
theorem tw_1020 : (Jvm.Cond.code ({ cls := "VillageStories$WorldSet", name := "usedWords", desc := "()I" } : Jvm.MethodName) prog_9_method_5_code (1 : Nat) (Option.some Jvm.ClassFile.FieldType.int)) ∈ tblG := inC_4 189 (by rfl) rfl
set_option maxRecDepth 400000 in
theorem tw_1021 : (Jvm.Cond.methodLink "VillageStories$Solver" (143 : Nat) ({ cls := "VillageStories$Judge", name := "soInWord", desc := "(LVillageStories$Shape;LVillageStories$Text;I)J" } : Jvm.MethodName)) ∈ tblG := inC_4 190 (by rfl) rfl
set_option maxRecDepth 400000 in
theorem tw_1022 : (Jvm.Cond.instanceMethod ({ cls := "VillageStories$Judge", name := "soInWord", desc := "(LVillageStories$Shape;LVillageStories$Text;I)J" } : Jvm.MethodName)) ∈ tblG := inC_4 191 (by rfl) rfl
set_option maxRecDepth 400000 in
theorem tw_1023 : (Jvm.Cond.selects "VillageStories$Judge" ({ cls := "VillageStories$Judge", name := "soInWord", desc := "(LVillageStories$Shape;LVillageStories$Text;I)J" } : Jvm.MethodName) ({ cls := "VillageStories$Judge", name := "soInWord", desc := "(LVillageStories$Shape;LVillageStories$Text;I)J" } : Jvm.MethodName)) ∈ tblG := inC_4 192 (by rfl) rfl
set_option maxRecDepth 400000 in
theorem tw_1024 : (Jvm.Cond.code ({ cls := "VillageStories$Judge", name := "soInWord", desc := "(LVillageStories$Shape;LVillageStories$Text;I)J" } : Jvm.MethodName) prog_2_method_3_code (5 : Nat) (Option.some Jvm.ClassFile.FieldType.long)) ∈ tblG := inC_4 193 (by rfl) rfl
set_option maxRecDepth 400000 in
theorem tw_1025 : (Jvm.Cond.methodLink "VillageStories$Judge" (50 : Nat) ({ cls := "VillageStories$WorldSet", name := "soAt", desc := "(II)J" } : Jvm.MethodName)) ∈ tblG := inC_4 194 (by rfl) rfl
set_option maxRecDepth 400000 in
theorem tw_1026 : (Jvm.Cond.methodLink "VillageStories$Solver" (102 : Nat) ({ cls := "VillageStories$WorldSet", name := "keepOnly", desc := "(LVillageStories$WorldSet;)V" } : Jvm.MethodName)) ∈ tblG := inC_4 195 (by rfl) rfl
set_option maxRecDepth 400000 in
theorem tw_1027 : (Jvm.Cond.instanceMethod ({ cls := "VillageStories$WorldSet", name := "keepOnly", desc := "(LVillageStories$WorldSet;)V" } : Jvm.MethodName)) ∈ tblG := inC_4 196 (by rfl) rfl
set_option maxRecDepth 400000 in
theorem tw_1028 : (Jvm.Cond.selects "VillageStories$WorldSet" ({ cls := "VillageStories$WorldSet", name := "keepOnly", desc := "(LVillageStories$WorldSet;)V" } : Jvm.MethodName) ({ cls := "VillageStories$WorldSet", name := "keepOnly", desc := "(LVillageStories$WorldSet;)V" } : Jvm.MethodName)) ∈ tblG := inC_4 197 (by rfl) rfl
set_option maxRecDepth 400000 in
theorem tw_1029 : (Jvm.Cond.code ({ cls := "VillageStories$WorldSet", name := "keepOnly", desc := "(LVillageStories$WorldSet;)V" } : Jvm.MethodName) prog_9_method_9_code (3 : Nat) (Option.none : Option Jvm.ClassFile.FieldType)) ∈ tblG := inC_4 198 (by rfl) rfl
set_option maxRecDepth 400000 in
theorem tw_1030 : (Jvm.Cond.methodLink "VillageStories$Solver" (150 : Nat) ({ cls := "VillageStories$WorldSet", name := "count", desc := "()I" } : Jvm.MethodName)) ∈ tblG := inC_4 199 (by rfl) rfl
set_option maxRecDepth 400000 in
theorem tw_1031 : (Jvm.Cond.instanceMethod ({ cls := "VillageStories$WorldSet", name := "count", desc := "()I" } : Jvm.MethodName)) ∈ tblG := inC_4 200 (by rfl) rfl
set_option maxRecDepth 400000 in
theorem tw_1032 : (Jvm.Cond.selects "VillageStories$WorldSet" ({ cls := "VillageStories$WorldSet", name := "count", desc := "()I" } : Jvm.MethodName) ({ cls := "VillageStories$WorldSet", name := "count", desc := "()I" } : Jvm.MethodName)) ∈ tblG := inC_4 201 (by rfl) rfl
set_option maxRecDepth 400000 in
theorem tw_1033 : (Jvm.Cond.code ({ cls := "VillageStories$WorldSet", name := "count", desc := "()I" } : Jvm.MethodName) prog_9_method_14_code (3 : Nat) (Option.some Jvm.ClassFile.FieldType.int)) ∈ tblG := inC_4 202 (by rfl) rfl
set_option maxRecDepth 400000 in
theorem tw_1034 : (Jvm.Cond.methodLink "VillageStories$WorldSet" (51 : Nat) ({ cls := "java/lang/Long", name := "bitCount", desc := "(J)I" } : Jvm.MethodName)) ∈ tblG := inC_4 203 (by rfl) rfl
set_option maxRecDepth 400000 in
theorem tw_1035 : (Jvm.Cond.static ({ cls := "java/lang/Long", name := "bitCount", desc := "(J)I" } : Jvm.MethodName)) ∈ tblG := inC_4 204 (by rfl) rfl
set_option maxRecDepth 400000 in
theorem tw_1036 : (Jvm.Cond.code ({ cls := "java/lang/Long", name := "bitCount", desc := "(J)I" } : Jvm.MethodName) prog_13_method_50_code (2 : Nat) (Option.some Jvm.ClassFile.FieldType.int)) ∈ tblG := inC_4 205 (by rfl) rfl
set_option maxRecDepth 400000 in
theorem tw_1037 : (Jvm.Cond.constantLong "java/lang/Long" (314 : Nat) (6148914691236517205 : Int64)) ∈ tblG := inC_4 206 (by rfl) rfl
set_option maxRecDepth 400000 in
theorem tw_1038 : (Jvm.Cond.constantLong "java/lang/Long" (316 : Nat) (3689348814741910323 : Int64)) ∈ tblG := inC_4 207 (by rfl) rfl
set_option maxRecDepth 400000 in
theorem tw_1039 : (Jvm.Cond.constantLong "java/lang/Long" (318 : Nat) (1085102592571150095 : Int64)) ∈ tblG := inC_4 208 (by rfl) rfl
set_option maxRecDepth 400000 in
theorem tw_1040 : (Jvm.Cond.methodLink "VillageStoriesLaw" (97 : Nat) ({ cls := "VillageStories", name := "forms", desc := "()I" } : Jvm.MethodName)) ∈ tblG := inC_4 209 (by rfl) rfl
set_option maxRecDepth 400000 in
theorem tw_1041 : (Jvm.Cond.instanceMethod ({ cls := "VillageStories", name := "forms", desc := "()I" } : Jvm.MethodName)) ∈ tblG := inC_4 210 (by rfl) rfl
set_option maxRecDepth 400000 in
theorem tw_1042 : (Jvm.Cond.selects "VillageStories" ({ cls := "VillageStories", name := "forms", desc := "()I" } : Jvm.MethodName) ({ cls := "VillageStories", name := "forms", desc := "()I" } : Jvm.MethodName)) ∈ tblG := inC_4 211 (by rfl) rfl
set_option maxRecDepth 400000 in
theorem tw_1043 : (Jvm.Cond.code ({ cls := "VillageStories", name := "forms", desc := "()I" } : Jvm.MethodName) prog_1_method_21_code (1 : Nat) (Option.some Jvm.ClassFile.FieldType.int)) ∈ tblG := inC_4 212 (by rfl) rfl
set_option maxRecDepth 400000 in
theorem tw_1044 : (Jvm.Cond.methodLink "VillageStories" (168 : Nat) ({ cls := "VillageStories$Solver", name := "countForms", desc := "()I" } : Jvm.MethodName)) ∈ tblG := inC_4 213 (by rfl) rfl
set_option maxRecDepth 400000 in
theorem tw_1045 : (Jvm.Cond.instanceMethod ({ cls := "VillageStories$Solver", name := "countForms", desc := "()I" } : Jvm.MethodName)) ∈ tblG := inC_4 214 (by rfl) rfl
set_option maxRecDepth 400000 in
theorem tw_1046 : (Jvm.Cond.selects "VillageStories$Solver" ({ cls := "VillageStories$Solver", name := "countForms", desc := "()I" } : Jvm.MethodName) ({ cls := "VillageStories$Solver", name := "countForms", desc := "()I" } : Jvm.MethodName)) ∈ tblG := inC_4 215 (by rfl) rfl
set_option maxRecDepth 400000 in
theorem tw_1047 : (Jvm.Cond.code ({ cls := "VillageStories$Solver", name := "countForms", desc := "()I" } : Jvm.MethodName) prog_6_method_10_code (1 : Nat) (Option.some Jvm.ClassFile.FieldType.int)) ∈ tblG := inC_4 216 (by rfl) rfl
set_option maxRecDepth 400000 in
theorem tw_1048 : (Jvm.Cond.methodLink "VillageStories$Solver" (157 : Nat) ({ cls := "VillageStories$Solver", name := "pickForms", desc := "()V" } : Jvm.MethodName)) ∈ tblG := inC_4 217 (by rfl) rfl
set_option maxRecDepth 400000 in
theorem tw_1050 : (Jvm.Cond.instanceMethod ({ cls := "VillageStories$Solver", name := "pickForms", desc := "()V" } : Jvm.MethodName)) ∈ tblG := inC_4 219 (by rfl) rfl
set_option maxRecDepth 400000 in
theorem tw_1051 : (Jvm.Cond.code ({ cls := "VillageStories$Solver", name := "pickForms", desc := "()V" } : Jvm.MethodName) prog_6_method_9_code (1 : Nat) (Option.none : Option Jvm.ClassFile.FieldType)) ∈ tblG := inC_4 220 (by rfl) rfl
set_option maxRecDepth 400000 in
theorem tw_1052 : (Jvm.Cond.methodLink "VillageStories$Solver" (153 : Nat) ({ cls := "VillageStories$OtherNumbers", name := "leastOnes", desc := "(LVillageStories$Shape;)LVillageStories$WorldSet;" } : Jvm.MethodName)) ∈ tblG := inC_4 221 (by rfl) rfl
set_option maxRecDepth 400000 in
theorem tw_1053 : (Jvm.Cond.instanceMethod ({ cls := "VillageStories$OtherNumbers", name := "leastOnes", desc := "(LVillageStories$Shape;)LVillageStories$WorldSet;" } : Jvm.MethodName)) ∈ tblG := inC_4 222 (by rfl) rfl
set_option maxRecDepth 400000 in
theorem tw_1054 : (Jvm.Cond.selects "VillageStories$OtherNumbers" ({ cls := "VillageStories$OtherNumbers", name := "leastOnes", desc := "(LVillageStories$Shape;)LVillageStories$WorldSet;" } : Jvm.MethodName) ({ cls := "VillageStories$OtherNumbers", name := "leastOnes", desc := "(LVillageStories$Shape;)LVillageStories$WorldSet;" } : Jvm.MethodName)) ∈ tblG := inC_4 223 (by rfl) rfl
set_option maxRecDepth 400000 in
theorem tw_1055 : (Jvm.Cond.code ({ cls := "VillageStories$OtherNumbers", name := "leastOnes", desc := "(LVillageStories$Shape;)LVillageStories$WorldSet;" } : Jvm.MethodName) prog_3_method_3_code (2 : Nat) (Option.some (Jvm.ClassFile.FieldType.object "VillageStories$WorldSet"))) ∈ tblG := inC_4 224 (by rfl) rfl
set_option maxRecDepth 400000 in
theorem tw_1056 : (Jvm.Cond.methodLink "VillageStories$OtherNumbers" (46 : Nat) ({ cls := "VillageStories$OtherNumbers", name := "markLeastOnes", desc := "()V" } : Jvm.MethodName)) ∈ tblG := inC_4 225 (by rfl) rfl
set_option maxRecDepth 400000 in
theorem tw_1058 : (Jvm.Cond.instanceMethod ({ cls := "VillageStories$OtherNumbers", name := "markLeastOnes", desc := "()V" } : Jvm.MethodName)) ∈ tblG := inC_4 227 (by rfl) rfl
set_option maxRecDepth 400000 in
theorem tw_1059 : (Jvm.Cond.code ({ cls := "VillageStories$OtherNumbers", name := "markLeastOnes", desc := "()V" } : Jvm.MethodName) prog_3_method_6_code (3 : Nat) (Option.none : Option Jvm.ClassFile.FieldType)) ∈ tblG := inC_4 228 (by rfl) rfl
set_option maxRecDepth 400000 in
theorem tw_1060 : (Jvm.Cond.methodLink "VillageStories$OtherNumbers" (64 : Nat) ({ cls := "VillageStories$WorldSet", name := "takeNone", desc := "(I)V" } : Jvm.MethodName)) ∈ tblG := inC_4 229 (by rfl) rfl
set_option maxRecDepth 400000 in
theorem tw_1061 : (Jvm.Cond.methodLink "VillageStories$OtherNumbers" (68 : Nat) ({ cls := "VillageStories$WorldSet", name := "most", desc := "()I" } : Jvm.MethodName)) ∈ tblG := inC_4 230 (by rfl) rfl
set_option maxRecDepth 400000 in
theorem tw_1062 : (Jvm.Cond.instanceMethod ({ cls := "VillageStories$WorldSet", name := "most", desc := "()I" } : Jvm.MethodName)) ∈ tblG := inC_4 231 (by rfl) rfl
set_option maxRecDepth 400000 in
theorem tw_1063 : (Jvm.Cond.selects "VillageStories$WorldSet" ({ cls := "VillageStories$WorldSet", name := "most", desc := "()I" } : Jvm.MethodName) ({ cls := "VillageStories$WorldSet", name := "most", desc := "()I" } : Jvm.MethodName)) ∈ tblG := inC_4 232 (by rfl) rfl
set_option maxRecDepth 400000 in
theorem tw_1064 : (Jvm.Cond.code ({ cls := "VillageStories$WorldSet", name := "most", desc := "()I" } : Jvm.MethodName) prog_9_method_6_code (1 : Nat) (Option.some Jvm.ClassFile.FieldType.int)) ∈ tblG := inC_4 233 (by rfl) rfl
set_option maxRecDepth 400000 in
theorem tw_1065 : (Jvm.Cond.methodLink "VillageStories$OtherNumbers" (72 : Nat) ({ cls := "VillageStories$WorldSet", name := "has", desc := "(I)Z" } : Jvm.MethodName)) ∈ tblG := inC_4 234 (by rfl) rfl
set_option maxRecDepth 400000 in
theorem tw_1066 : (Jvm.Cond.instanceMethod ({ cls := "VillageStories$WorldSet", name := "has", desc := "(I)Z" } : Jvm.MethodName)) ∈ tblG := inC_4 235 (by rfl) rfl
set_option maxRecDepth 400000 in
theorem tw_1067 : (Jvm.Cond.selects "VillageStories$WorldSet" ({ cls := "VillageStories$WorldSet", name := "has", desc := "(I)Z" } : Jvm.MethodName) ({ cls := "VillageStories$WorldSet", name := "has", desc := "(I)Z" } : Jvm.MethodName)) ∈ tblG := inC_4 236 (by rfl) rfl
set_option maxRecDepth 400000 in
theorem tw_1068 : (Jvm.Cond.code ({ cls := "VillageStories$WorldSet", name := "has", desc := "(I)Z" } : Jvm.MethodName) prog_9_method_8_code (2 : Nat) (Option.some Jvm.ClassFile.FieldType.boolean)) ∈ tblG := inC_4 237 (by rfl) rfl
set_option maxRecDepth 400000 in
theorem tw_1069 : (Jvm.Cond.methodLink "VillageStories$WorldSet" (43 : Nat) ({ cls := "VillageStories$WorldSet", name := "most", desc := "()I" } : Jvm.MethodName)) ∈ tblG := inC_4 238 (by rfl) rfl
set_option maxRecDepth 400000 in
theorem tw_1070 : (Jvm.Cond.methodLink "VillageStories$OtherNumbers" (76 : Nat) ({ cls := "VillageStories$WorldSet", name := "add", desc := "(I)V" } : Jvm.MethodName)) ∈ tblG := inC_4 239 (by rfl) rfl
set_option maxRecDepth 400000 in
theorem tw_1071 : (Jvm.Cond.instanceMethod ({ cls := "VillageStories$WorldSet", name := "add", desc := "(I)V" } : Jvm.MethodName)) ∈ tblG := inC_5 0 (by rfl) rfl
set_option maxRecDepth 400000 in
theorem tw_1072 : (Jvm.Cond.selects "VillageStories$WorldSet" ({ cls := "VillageStories$WorldSet", name := "add", desc := "(I)V" } : Jvm.MethodName) ({ cls := "VillageStories$WorldSet", name := "add", desc := "(I)V" } : Jvm.MethodName)) ∈ tblG := inC_5 1 (by rfl) rfl
set_option maxRecDepth 400000 in
theorem tw_1073 : (Jvm.Cond.code ({ cls := "VillageStories$WorldSet", name := "add", desc := "(I)V" } : Jvm.MethodName) prog_9_method_7_code (2 : Nat) (Option.none : Option Jvm.ClassFile.FieldType)) ∈ tblG := inC_5 2 (by rfl) rfl
set_option maxRecDepth 400000 in
theorem tw_1074 : (Jvm.Cond.methodLink "VillageStoriesLaw" (101 : Nat) ({ cls := "VillageStories", name := "form", desc := "(I)Z" } : Jvm.MethodName)) ∈ tblG := inC_5 3 (by rfl) rfl
set_option maxRecDepth 400000 in
theorem tw_1075 : (Jvm.Cond.instanceMethod ({ cls := "VillageStories", name := "form", desc := "(I)Z" } : Jvm.MethodName)) ∈ tblG := inC_5 4 (by rfl) rfl
set_option maxRecDepth 400000 in
theorem tw_1076 : (Jvm.Cond.selects "VillageStories" ({ cls := "VillageStories", name := "form", desc := "(I)Z" } : Jvm.MethodName) ({ cls := "VillageStories", name := "form", desc := "(I)Z" } : Jvm.MethodName)) ∈ tblG := inC_5 5 (by rfl) rfl
set_option maxRecDepth 400000 in
theorem tw_1077 : (Jvm.Cond.code ({ cls := "VillageStories", name := "form", desc := "(I)Z" } : Jvm.MethodName) prog_1_method_22_code (2 : Nat) (Option.some Jvm.ClassFile.FieldType.boolean)) ∈ tblG := inC_5 6 (by rfl) rfl
set_option maxRecDepth 400000 in
theorem tw_1078 : (Jvm.Cond.methodLink "VillageStories" (171 : Nat) ({ cls := "VillageStories$Solver", name := "nthForm", desc := "(I)I" } : Jvm.MethodName)) ∈ tblG := inC_5 7 (by rfl) rfl
set_option maxRecDepth 400000 in
theorem tw_1079 : (Jvm.Cond.instanceMethod ({ cls := "VillageStories$Solver", name := "nthForm", desc := "(I)I" } : Jvm.MethodName)) ∈ tblG := inC_5 8 (by rfl) rfl
set_option maxRecDepth 400000 in
theorem tw_1080 : (Jvm.Cond.selects "VillageStories$Solver" ({ cls := "VillageStories$Solver", name := "nthForm", desc := "(I)I" } : Jvm.MethodName) ({ cls := "VillageStories$Solver", name := "nthForm", desc := "(I)I" } : Jvm.MethodName)) ∈ tblG := inC_5 9 (by rfl) rfl
set_option maxRecDepth 400000 in
theorem tw_1081 : (Jvm.Cond.code ({ cls := "VillageStories$Solver", name := "nthForm", desc := "(I)I" } : Jvm.MethodName) prog_6_method_11_code (2 : Nat) (Option.some Jvm.ClassFile.FieldType.int)) ∈ tblG := inC_5 10 (by rfl) rfl
set_option maxRecDepth 400000 in
theorem tw_1082 : (Jvm.Cond.methodLink "VillageStories$Solver" (160 : Nat) ({ cls := "VillageStories$WorldSet", name := "nth", desc := "(I)I" } : Jvm.MethodName)) ∈ tblG := inC_5 11 (by rfl) rfl
set_option maxRecDepth 400000 in
theorem tw_1083 : (Jvm.Cond.instanceMethod ({ cls := "VillageStories$WorldSet", name := "nth", desc := "(I)I" } : Jvm.MethodName)) ∈ tblG := inC_5 12 (by rfl) rfl
set_option maxRecDepth 400000 in
theorem tw_1084 : (Jvm.Cond.selects "VillageStories$WorldSet" ({ cls := "VillageStories$WorldSet", name := "nth", desc := "(I)I" } : Jvm.MethodName) ({ cls := "VillageStories$WorldSet", name := "nth", desc := "(I)I" } : Jvm.MethodName)) ∈ tblG := inC_5 13 (by rfl) rfl
set_option maxRecDepth 400000 in
theorem tw_1085 : (Jvm.Cond.code ({ cls := "VillageStories$WorldSet", name := "nth", desc := "(I)I" } : Jvm.MethodName) prog_9_method_16_code (4 : Nat) (Option.some Jvm.ClassFile.FieldType.int)) ∈ tblG := inC_5 14 (by rfl) rfl
set_option maxRecDepth 400000 in
theorem tw_1086 : (Jvm.Cond.methodLink "VillageStories$WorldSet" (60 : Nat) ({ cls := "VillageStories$WorldSet", name := "has", desc := "(I)Z" } : Jvm.MethodName)) ∈ tblG := inC_5 15 (by rfl) rfl
set_option maxRecDepth 400000 in
theorem tw_1087 : (Jvm.Cond.methodLink "VillageStories" (174 : Nat) ({ cls := "VillageStories", name := "becomes", desc := "(I)Z" } : Jvm.MethodName)) ∈ tblG := inC_5 16 (by rfl) rfl
set_option maxRecDepth 400000 in
theorem tw_1089 : (Jvm.Cond.instanceMethod ({ cls := "VillageStories", name := "becomes", desc := "(I)Z" } : Jvm.MethodName)) ∈ tblG := inC_5 18 (by rfl) rfl
set_option maxRecDepth 400000 in
theorem tw_1090 : (Jvm.Cond.code ({ cls := "VillageStories", name := "becomes", desc := "(I)Z" } : Jvm.MethodName) prog_1_method_37_code (2 : Nat) (Option.some Jvm.ClassFile.FieldType.boolean)) ∈ tblG := inC_5 19 (by rfl) rfl
set_option maxRecDepth 400000 in
theorem tw_1091 : (Jvm.Cond.methodLink "VillageStoriesLaw" (105 : Nat) ({ cls := "VillageStories", name := "name", desc := "()Z" } : Jvm.MethodName)) ∈ tblG := inC_5 20 (by rfl) rfl
set_option maxRecDepth 400000 in
theorem tw_1092 : (Jvm.Cond.instanceMethod ({ cls := "VillageStories", name := "name", desc := "()Z" } : Jvm.MethodName)) ∈ tblG := inC_5 21 (by rfl) rfl
set_option maxRecDepth 400000 in
theorem tw_1093 : (Jvm.Cond.selects "VillageStories" ({ cls := "VillageStories", name := "name", desc := "()Z" } : Jvm.MethodName) ({ cls := "VillageStories", name := "name", desc := "()Z" } : Jvm.MethodName)) ∈ tblG := inC_5 22 (by rfl) rfl
set_option maxRecDepth 400000 in
theorem tw_1094 : (Jvm.Cond.code ({ cls := "VillageStories", name := "name", desc := "()Z" } : Jvm.MethodName) prog_1_method_23_code (2 : Nat) (Option.some Jvm.ClassFile.FieldType.boolean)) ∈ tblG := inC_5 23 (by rfl) rfl
set_option maxRecDepth 400000 in
theorem tw_1095 : (Jvm.Cond.methodLink "VillageStories" (177 : Nat) ({ cls := "VillageStories$Solver", name := "leastRow", desc := "()I" } : Jvm.MethodName)) ∈ tblG := inC_5 24 (by rfl) rfl
set_option maxRecDepth 400000 in
theorem tw_1096 : (Jvm.Cond.instanceMethod ({ cls := "VillageStories$Solver", name := "leastRow", desc := "()I" } : Jvm.MethodName)) ∈ tblG := inC_5 25 (by rfl) rfl
set_option maxRecDepth 400000 in
theorem tw_1097 : (Jvm.Cond.selects "VillageStories$Solver" ({ cls := "VillageStories$Solver", name := "leastRow", desc := "()I" } : Jvm.MethodName) ({ cls := "VillageStories$Solver", name := "leastRow", desc := "()I" } : Jvm.MethodName)) ∈ tblG := inC_5 26 (by rfl) rfl
set_option maxRecDepth 400000 in
theorem tw_1098 : (Jvm.Cond.code ({ cls := "VillageStories$Solver", name := "leastRow", desc := "()I" } : Jvm.MethodName) prog_6_method_12_code (1 : Nat) (Option.some Jvm.ClassFile.FieldType.int)) ∈ tblG := inC_5 27 (by rfl) rfl
set_option maxRecDepth 400000 in
theorem tw_1099 : (Jvm.Cond.methodLink "VillageStories$Solver" (167 : Nat) ({ cls := "VillageStories$OtherNumbers", name := "leastOf", desc := "(LVillageStories$Shape;I)I" } : Jvm.MethodName)) ∈ tblG := inC_5 28 (by rfl) rfl
set_option maxRecDepth 400000 in
theorem tw_1100 : (Jvm.Cond.instanceMethod ({ cls := "VillageStories$OtherNumbers", name := "leastOf", desc := "(LVillageStories$Shape;I)I" } : Jvm.MethodName)) ∈ tblG := inC_5 29 (by rfl) rfl
set_option maxRecDepth 400000 in
theorem tw_1101 : (Jvm.Cond.selects "VillageStories$OtherNumbers" ({ cls := "VillageStories$OtherNumbers", name := "leastOf", desc := "(LVillageStories$Shape;I)I" } : Jvm.MethodName) ({ cls := "VillageStories$OtherNumbers", name := "leastOf", desc := "(LVillageStories$Shape;I)I" } : Jvm.MethodName)) ∈ tblG := inC_5 30 (by rfl) rfl
set_option maxRecDepth 400000 in
theorem tw_1102 : (Jvm.Cond.code ({ cls := "VillageStories$OtherNumbers", name := "leastOf", desc := "(LVillageStories$Shape;I)I" } : Jvm.MethodName) prog_3_method_4_code (5 : Nat) (Option.some Jvm.ClassFile.FieldType.int)) ∈ tblG := inC_5 31 (by rfl) rfl
set_option maxRecDepth 400000 in
theorem tw_1103 : (Jvm.Cond.methodLink "VillageStoriesLaw" (110 : Nat) ({ cls := "VillageStories", name := "least", desc := "(I)I" } : Jvm.MethodName)) ∈ tblG := inC_5 32 (by rfl) rfl
set_option maxRecDepth 400000 in
theorem tw_1104 : (Jvm.Cond.instanceMethod ({ cls := "VillageStories", name := "least", desc := "(I)I" } : Jvm.MethodName)) ∈ tblG := inC_5 33 (by rfl) rfl
set_option maxRecDepth 400000 in
theorem tw_1105 : (Jvm.Cond.selects "VillageStories" ({ cls := "VillageStories", name := "least", desc := "(I)I" } : Jvm.MethodName) ({ cls := "VillageStories", name := "least", desc := "(I)I" } : Jvm.MethodName)) ∈ tblG := inC_5 34 (by rfl) rfl
set_option maxRecDepth 400000 in
theorem tw_1106 : (Jvm.Cond.code ({ cls := "VillageStories", name := "least", desc := "(I)I" } : Jvm.MethodName) prog_1_method_24_code (2 : Nat) (Option.some Jvm.ClassFile.FieldType.int)) ∈ tblG := inC_5 35 (by rfl) rfl
set_option maxRecDepth 400000 in
theorem tw_1107 : (Jvm.Cond.methodLink "VillageStories" (180 : Nat) ({ cls := "VillageStories$Shape", name := "isKind", desc := "(I)Z" } : Jvm.MethodName)) ∈ tblG := inC_5 36 (by rfl) rfl
set_option maxRecDepth 400000 in
theorem tw_1108 : (Jvm.Cond.methodLink "VillageStories" (183 : Nat) ({ cls := "VillageStories$Solver", name := "leastSize", desc := "(I)I" } : Jvm.MethodName)) ∈ tblG := inC_5 37 (by rfl) rfl
set_option maxRecDepth 400000 in
theorem tw_1109 : (Jvm.Cond.instanceMethod ({ cls := "VillageStories$Solver", name := "leastSize", desc := "(I)I" } : Jvm.MethodName)) ∈ tblG := inC_5 38 (by rfl) rfl
set_option maxRecDepth 400000 in
theorem tw_1110 : (Jvm.Cond.selects "VillageStories$Solver" ({ cls := "VillageStories$Solver", name := "leastSize", desc := "(I)I" } : Jvm.MethodName) ({ cls := "VillageStories$Solver", name := "leastSize", desc := "(I)I" } : Jvm.MethodName)) ∈ tblG := inC_5 39 (by rfl) rfl
set_option maxRecDepth 400000 in
theorem tw_1111 : (Jvm.Cond.code ({ cls := "VillageStories$Solver", name := "leastSize", desc := "(I)I" } : Jvm.MethodName) prog_6_method_14_code (3 : Nat) (Option.some Jvm.ClassFile.FieldType.int)) ∈ tblG := inC_5 40 (by rfl) rfl
set_option maxRecDepth 400000 in
theorem tw_1112 : (Jvm.Cond.methodLink "VillageStories$Solver" (175 : Nat) ({ cls := "VillageStories$Solver", name := "findLeastSizes", desc := "(I)V" } : Jvm.MethodName)) ∈ tblG := inC_5 41 (by rfl) rfl
set_option maxRecDepth 400000 in
theorem tw_1114 : (Jvm.Cond.instanceMethod ({ cls := "VillageStories$Solver", name := "findLeastSizes", desc := "(I)V" } : Jvm.MethodName)) ∈ tblG := inC_5 43 (by rfl) rfl
set_option maxRecDepth 400000 in
theorem tw_1115 : (Jvm.Cond.code ({ cls := "VillageStories$Solver", name := "findLeastSizes", desc := "(I)V" } : Jvm.MethodName) prog_6_method_15_code (5 : Nat) (Option.none : Option Jvm.ClassFile.FieldType)) ∈ tblG := inC_5 44 (by rfl) rfl
set_option maxRecDepth 400000 in
theorem tw_1116 : (Jvm.Cond.methodLink "VillageStories$Solver" (178 : Nat) ({ cls := "VillageStories$Shape", name := "copy", desc := "(LVillageStories$Shape;)V" } : Jvm.MethodName)) ∈ tblG := inC_5 45 (by rfl) rfl
set_option maxRecDepth 400000 in
theorem tw_1117 : (Jvm.Cond.instanceMethod ({ cls := "VillageStories$Shape", name := "copy", desc := "(LVillageStories$Shape;)V" } : Jvm.MethodName)) ∈ tblG := inC_5 46 (by rfl) rfl
set_option maxRecDepth 400000 in
theorem tw_1118 : (Jvm.Cond.selects "VillageStories$Shape" ({ cls := "VillageStories$Shape", name := "copy", desc := "(LVillageStories$Shape;)V" } : Jvm.MethodName) ({ cls := "VillageStories$Shape", name := "copy", desc := "(LVillageStories$Shape;)V" } : Jvm.MethodName)) ∈ tblG := inC_5 47 (by rfl) rfl
set_option maxRecDepth 400000 in
theorem tw_1119 : (Jvm.Cond.code ({ cls := "VillageStories$Shape", name := "copy", desc := "(LVillageStories$Shape;)V" } : Jvm.MethodName) prog_5_method_3_code (2 : Nat) (Option.none : Option Jvm.ClassFile.FieldType)) ∈ tblG := inC_5 48 (by rfl) rfl
set_option maxRecDepth 400000 in
theorem tw_1120 : (Jvm.Cond.methodLink "VillageStories$Shape" (37 : Nat) ({ cls := "java/lang/System", name := "arraycopy", desc := "(Ljava/lang/Object;ILjava/lang/Object;II)V" } : Jvm.MethodName)) ∈ tblG := inC_5 49 (by rfl) rfl
set_option maxRecDepth 400000 in
theorem tw_1121 : (Jvm.Cond.methodLink "VillageStories$Solver" (181 : Nat) ({ cls := "VillageStories$Solver", name := "fits", desc := "(IIII)Z" } : Jvm.MethodName)) ∈ tblG := inC_5 50 (by rfl) rfl
set_option maxRecDepth 400000 in
theorem tw_1123 : (Jvm.Cond.instanceMethod ({ cls := "VillageStories$Solver", name := "fits", desc := "(IIII)Z" } : Jvm.MethodName)) ∈ tblG := inC_5 52 (by rfl) rfl
set_option maxRecDepth 400000 in
theorem tw_1124 : (Jvm.Cond.code ({ cls := "VillageStories$Solver", name := "fits", desc := "(IIII)Z" } : Jvm.MethodName) prog_6_method_16_code (10 : Nat) (Option.some Jvm.ClassFile.FieldType.boolean)) ∈ tblG := inC_5 53 (by rfl) rfl
set_option maxRecDepth 400000 in
theorem tw_1125 : (Jvm.Cond.methodLink "VillageStories$Solver" (194 : Nat) ({ cls := "VillageStories$Shape", name := "resize", desc := "(II)Z" } : Jvm.MethodName)) ∈ tblG := inC_5 54 (by rfl) rfl
set_option maxRecDepth 400000 in
theorem tw_1126 : (Jvm.Cond.methodLink "VillageStories$Solver" (188 : Nat) ({ cls := "java/lang/System", name := "arraycopy", desc := "(Ljava/lang/Object;ILjava/lang/Object;II)V" } : Jvm.MethodName)) ∈ tblG := inC_5 55 (by rfl) rfl
set_option maxRecDepth 400000 in
theorem tw_1127 : (Jvm.Cond.methodLink "VillageStoriesLaw" (114 : Nat) ({ cls := "VillageStories", name := "core", desc := "(I)I" } : Jvm.MethodName)) ∈ tblG := inC_5 56 (by rfl) rfl
set_option maxRecDepth 400000 in
theorem tw_1128 : (Jvm.Cond.instanceMethod ({ cls := "VillageStories", name := "core", desc := "(I)I" } : Jvm.MethodName)) ∈ tblG := inC_5 57 (by rfl) rfl
set_option maxRecDepth 400000 in
theorem tw_1129 : (Jvm.Cond.selects "VillageStories" ({ cls := "VillageStories", name := "core", desc := "(I)I" } : Jvm.MethodName) ({ cls := "VillageStories", name := "core", desc := "(I)I" } : Jvm.MethodName)) ∈ tblG := inC_5 58 (by rfl) rfl
set_option maxRecDepth 400000 in
theorem tw_1130 : (Jvm.Cond.code ({ cls := "VillageStories", name := "core", desc := "(I)I" } : Jvm.MethodName) prog_1_method_25_code (2 : Nat) (Option.some Jvm.ClassFile.FieldType.int)) ∈ tblG := inC_5 59 (by rfl) rfl
set_option maxRecDepth 400000 in
theorem tw_1131 : (Jvm.Cond.methodLink "VillageStories" (186 : Nat) ({ cls := "VillageStories$Solver", name := "coreStories", desc := "()I" } : Jvm.MethodName)) ∈ tblG := inC_5 60 (by rfl) rfl
set_option maxRecDepth 400000 in
theorem tw_1132 : (Jvm.Cond.instanceMethod ({ cls := "VillageStories$Solver", name := "coreStories", desc := "()I" } : Jvm.MethodName)) ∈ tblG := inC_5 61 (by rfl) rfl
set_option maxRecDepth 400000 in
theorem tw_1133 : (Jvm.Cond.selects "VillageStories$Solver" ({ cls := "VillageStories$Solver", name := "coreStories", desc := "()I" } : Jvm.MethodName) ({ cls := "VillageStories$Solver", name := "coreStories", desc := "()I" } : Jvm.MethodName)) ∈ tblG := inC_5 62 (by rfl) rfl
set_option maxRecDepth 400000 in
theorem tw_1134 : (Jvm.Cond.code ({ cls := "VillageStories$Solver", name := "coreStories", desc := "()I" } : Jvm.MethodName) prog_6_method_17_code (1 : Nat) (Option.some Jvm.ClassFile.FieldType.int)) ∈ tblG := inC_5 63 (by rfl) rfl
set_option maxRecDepth 400000 in
theorem tw_1135 : (Jvm.Cond.methodLink "VillageStories$Solver" (198 : Nat) ({ cls := "VillageStories$WorldSet", name := "isNothing", desc := "()Z" } : Jvm.MethodName)) ∈ tblG := inC_5 64 (by rfl) rfl
set_option maxRecDepth 400000 in
theorem tw_1136 : (Jvm.Cond.instanceMethod ({ cls := "VillageStories$WorldSet", name := "isNothing", desc := "()Z" } : Jvm.MethodName)) ∈ tblG := inC_5 65 (by rfl) rfl
set_option maxRecDepth 400000 in
theorem tw_1137 : (Jvm.Cond.selects "VillageStories$WorldSet" ({ cls := "VillageStories$WorldSet", name := "isNothing", desc := "()Z" } : Jvm.MethodName) ({ cls := "VillageStories$WorldSet", name := "isNothing", desc := "()Z" } : Jvm.MethodName)) ∈ tblG := inC_5 66 (by rfl) rfl
set_option maxRecDepth 400000 in
theorem tw_1138 : (Jvm.Cond.code ({ cls := "VillageStories$WorldSet", name := "isNothing", desc := "()Z" } : Jvm.MethodName) prog_9_method_15_code (2 : Nat) (Option.some Jvm.ClassFile.FieldType.boolean)) ∈ tblG := inC_5 67 (by rfl) rfl
set_option maxRecDepth 400000 in
theorem tw_1139 : (Jvm.Cond.methodLink "VillageStories$Solver" (201 : Nat) ({ cls := "VillageStories$Solver", name := "fewestAgainst", desc := "(LVillageStories$WorldSet;)I" } : Jvm.MethodName)) ∈ tblG := inC_5 68 (by rfl) rfl
set_option maxRecDepth 400000 in
theorem tw_1141 : (Jvm.Cond.instanceMethod ({ cls := "VillageStories$Solver", name := "fewestAgainst", desc := "(LVillageStories$WorldSet;)I" } : Jvm.MethodName)) ∈ tblG := inC_5 70 (by rfl) rfl
set_option maxRecDepth 400000 in
theorem tw_1142 : (Jvm.Cond.code ({ cls := "VillageStories$Solver", name := "fewestAgainst", desc := "(LVillageStories$WorldSet;)I" } : Jvm.MethodName) prog_6_method_20_code (6 : Nat) (Option.some Jvm.ClassFile.FieldType.int)) ∈ tblG := inC_5 71 (by rfl) rfl
set_option maxRecDepth 400000 in
theorem tw_1143 : (Jvm.Cond.methodLink "VillageStories$Solver" (208 : Nat) ({ cls := "VillageStories$Solver", name := "isBefore", desc := "(II)Z" } : Jvm.MethodName)) ∈ tblG := inC_5 72 (by rfl) rfl
set_option maxRecDepth 400000 in
theorem tw_1144 : (Jvm.Cond.static ({ cls := "VillageStories$Solver", name := "isBefore", desc := "(II)Z" } : Jvm.MethodName)) ∈ tblG := inC_5 73 (by rfl) rfl
set_option maxRecDepth 400000 in
theorem tw_1145 : (Jvm.Cond.code ({ cls := "VillageStories$Solver", name := "isBefore", desc := "(II)Z" } : Jvm.MethodName) prog_6_method_21_code (5 : Nat) (Option.some Jvm.ClassFile.FieldType.boolean)) ∈ tblG := inC_5 74 (by rfl) rfl
set_option maxRecDepth 400000 in
theorem tw_1146 : (Jvm.Cond.methodLink "VillageStories$Solver" (215 : Nat) ({ cls := "java/lang/Integer", name := "bitCount", desc := "(I)I" } : Jvm.MethodName)) ∈ tblG := inC_5 75 (by rfl) rfl
set_option maxRecDepth 400000 in
theorem tw_1147 : (Jvm.Cond.methodLink "VillageStories$Solver" (211 : Nat) ({ cls := "VillageStories$Solver", name := "leavesNothing", desc := "(LVillageStories$WorldSet;I)Z" } : Jvm.MethodName)) ∈ tblG := inC_5 76 (by rfl) rfl
set_option maxRecDepth 400000 in
theorem tw_1149 : (Jvm.Cond.instanceMethod ({ cls := "VillageStories$Solver", name := "leavesNothing", desc := "(LVillageStories$WorldSet;I)Z" } : Jvm.MethodName)) ∈ tblG := inC_5 78 (by rfl) rfl
set_option maxRecDepth 400000 in
theorem tw_1150 : (Jvm.Cond.code ({ cls := "VillageStories$Solver", name := "leavesNothing", desc := "(LVillageStories$WorldSet;I)Z" } : Jvm.MethodName) prog_6_method_22_code (7 : Nat) (Option.some Jvm.ClassFile.FieldType.boolean)) ∈ tblG := inC_5 79 (by rfl) rfl
set_option maxRecDepth 400000 in
theorem tw_1151 : (Jvm.Cond.methodLink "VillageStories" (189 : Nat) ({ cls := "VillageStories", name := "nthBit", desc := "(II)I" } : Jvm.MethodName)) ∈ tblG := inC_5 80 (by rfl) rfl
set_option maxRecDepth 400000 in
theorem tw_1152 : (Jvm.Cond.static ({ cls := "VillageStories", name := "nthBit", desc := "(II)I" } : Jvm.MethodName)) ∈ tblG := inC_5 81 (by rfl) rfl
set_option maxRecDepth 400000 in
theorem tw_1153 : (Jvm.Cond.code ({ cls := "VillageStories", name := "nthBit", desc := "(II)I" } : Jvm.MethodName) prog_1_method_38_code (4 : Nat) (Option.some Jvm.ClassFile.FieldType.int)) ∈ tblG := inC_5 82 (by rfl) rfl
set_option maxRecDepth 400000 in
theorem tw_1154 : (Jvm.Cond.methodLink "VillageStoriesLaw" (118 : Nat) ({ cls := "VillageStories", name := "sure", desc := "(III)I" } : Jvm.MethodName)) ∈ tblG := inC_5 83 (by rfl) rfl
set_option maxRecDepth 400000 in
theorem tw_1155 : (Jvm.Cond.instanceMethod ({ cls := "VillageStories", name := "sure", desc := "(III)I" } : Jvm.MethodName)) ∈ tblG := inC_5 84 (by rfl) rfl
set_option maxRecDepth 400000 in
theorem tw_1156 : (Jvm.Cond.selects "VillageStories" ({ cls := "VillageStories", name := "sure", desc := "(III)I" } : Jvm.MethodName) ({ cls := "VillageStories", name := "sure", desc := "(III)I" } : Jvm.MethodName)) ∈ tblG := inC_5 85 (by rfl) rfl
set_option maxRecDepth 400000 in
theorem tw_1157 : (Jvm.Cond.code ({ cls := "VillageStories", name := "sure", desc := "(III)I" } : Jvm.MethodName) prog_1_method_26_code (4 : Nat) (Option.some Jvm.ClassFile.FieldType.int)) ∈ tblG := inC_5 86 (by rfl) rfl
set_option maxRecDepth 400000 in
theorem tw_1158 : (Jvm.Cond.methodLink "VillageStories" (192 : Nat) ({ cls := "VillageStories$Solver", name := "sureness", desc := "(I)I" } : Jvm.MethodName)) ∈ tblG := inC_5 87 (by rfl) rfl
set_option maxRecDepth 400000 in
theorem tw_1159 : (Jvm.Cond.instanceMethod ({ cls := "VillageStories$Solver", name := "sureness", desc := "(I)I" } : Jvm.MethodName)) ∈ tblG := inC_5 88 (by rfl) rfl
set_option maxRecDepth 400000 in
theorem tw_1160 : (Jvm.Cond.selects "VillageStories$Solver" ({ cls := "VillageStories$Solver", name := "sureness", desc := "(I)I" } : Jvm.MethodName) ({ cls := "VillageStories$Solver", name := "sureness", desc := "(I)I" } : Jvm.MethodName)) ∈ tblG := inC_5 89 (by rfl) rfl
set_option maxRecDepth 400000 in
theorem tw_1161 : (Jvm.Cond.code ({ cls := "VillageStories$Solver", name := "sureness", desc := "(I)I" } : Jvm.MethodName) prog_6_method_18_code (3 : Nat) (Option.some Jvm.ClassFile.FieldType.int)) ∈ tblG := inC_5 90 (by rfl) rfl
set_option maxRecDepth 400000 in
theorem tw_1162 : (Jvm.Cond.methodLink "VillageStories$Solver" (205 : Nat) ({ cls := "VillageStories$WorldSet", name := "countWhere", desc := "(I)I" } : Jvm.MethodName)) ∈ tblG := inC_5 91 (by rfl) rfl
set_option maxRecDepth 400000 in
theorem tw_1163 : (Jvm.Cond.instanceMethod ({ cls := "VillageStories$WorldSet", name := "countWhere", desc := "(I)I" } : Jvm.MethodName)) ∈ tblG := inC_5 92 (by rfl) rfl
set_option maxRecDepth 400000 in
theorem tw_1164 : (Jvm.Cond.selects "VillageStories$WorldSet" ({ cls := "VillageStories$WorldSet", name := "countWhere", desc := "(I)I" } : Jvm.MethodName) ({ cls := "VillageStories$WorldSet", name := "countWhere", desc := "(I)I" } : Jvm.MethodName)) ∈ tblG := inC_5 93 (by rfl) rfl
set_option maxRecDepth 400000 in
theorem tw_1165 : (Jvm.Cond.code ({ cls := "VillageStories$WorldSet", name := "countWhere", desc := "(I)I" } : Jvm.MethodName) prog_9_method_12_code (4 : Nat) (Option.some Jvm.ClassFile.FieldType.int)) ∈ tblG := inC_5 94 (by rfl) rfl
set_option maxRecDepth 400000 in
theorem tw_1166 : (Jvm.Cond.methodLink "VillageStoriesLaw" (122 : Nat) ({ cls := "VillageStories", name := "cause", desc := "(IIII)I" } : Jvm.MethodName)) ∈ tblG := inC_5 95 (by rfl) rfl
set_option maxRecDepth 400000 in
theorem tw_1167 : (Jvm.Cond.instanceMethod ({ cls := "VillageStories", name := "cause", desc := "(IIII)I" } : Jvm.MethodName)) ∈ tblG := inC_5 96 (by rfl) rfl
set_option maxRecDepth 400000 in
theorem tw_1168 : (Jvm.Cond.selects "VillageStories" ({ cls := "VillageStories", name := "cause", desc := "(IIII)I" } : Jvm.MethodName) ({ cls := "VillageStories", name := "cause", desc := "(IIII)I" } : Jvm.MethodName)) ∈ tblG := inC_5 97 (by rfl) rfl
set_option maxRecDepth 400000 in
theorem tw_1169 : (Jvm.Cond.code ({ cls := "VillageStories", name := "cause", desc := "(IIII)I" } : Jvm.MethodName) prog_1_method_27_code (7 : Nat) (Option.some Jvm.ClassFile.FieldType.int)) ∈ tblG := inC_5 98 (by rfl) rfl
set_option maxRecDepth 400000 in
theorem tw_1170 : (Jvm.Cond.methodLink "VillageStories" (195 : Nat) ({ cls := "VillageStories$Solver", name := "causeStories", desc := "(II)I" } : Jvm.MethodName)) ∈ tblG := inC_5 99 (by rfl) rfl
set_option maxRecDepth 400000 in
theorem tw_1171 : (Jvm.Cond.instanceMethod ({ cls := "VillageStories$Solver", name := "causeStories", desc := "(II)I" } : Jvm.MethodName)) ∈ tblG := inC_5 100 (by rfl) rfl
set_option maxRecDepth 400000 in
theorem tw_1172 : (Jvm.Cond.selects "VillageStories$Solver" ({ cls := "VillageStories$Solver", name := "causeStories", desc := "(II)I" } : Jvm.MethodName) ({ cls := "VillageStories$Solver", name := "causeStories", desc := "(II)I" } : Jvm.MethodName)) ∈ tblG := inC_5 101 (by rfl) rfl
set_option maxRecDepth 400000 in
theorem tw_1173 : (Jvm.Cond.code ({ cls := "VillageStories$Solver", name := "causeStories", desc := "(II)I" } : Jvm.MethodName) prog_6_method_19_code (3 : Nat) (Option.some Jvm.ClassFile.FieldType.int)) ∈ tblG := inC_5 102 (by rfl) rfl
set_option maxRecDepth 400000 in
theorem tw_1174 : (Jvm.Cond.methodLink "VillageStoriesLaw" (127 : Nat) ({ cls := "VillageStories", name := "without", desc := "(I)I" } : Jvm.MethodName)) ∈ tblG := inC_5 103 (by rfl) rfl
set_option maxRecDepth 400000 in
theorem tw_1175 : (Jvm.Cond.instanceMethod ({ cls := "VillageStories", name := "without", desc := "(I)I" } : Jvm.MethodName)) ∈ tblG := inC_5 104 (by rfl) rfl
set_option maxRecDepth 400000 in
theorem tw_1176 : (Jvm.Cond.selects "VillageStories" ({ cls := "VillageStories", name := "without", desc := "(I)I" } : Jvm.MethodName) ({ cls := "VillageStories", name := "without", desc := "(I)I" } : Jvm.MethodName)) ∈ tblG := inC_5 105 (by rfl) rfl
set_option maxRecDepth 400000 in
theorem tw_1177 : (Jvm.Cond.code ({ cls := "VillageStories", name := "without", desc := "(I)I" } : Jvm.MethodName) prog_1_method_28_code (2 : Nat) (Option.some Jvm.ClassFile.FieldType.int)) ∈ tblG := inC_5 106 (by rfl) rfl
set_option maxRecDepth 400000 in
theorem tw_1178 : (Jvm.Cond.methodLink "VillageStories" (198 : Nat) ({ cls := "VillageStories$Solver", name := "countWithout", desc := "(I)I" } : Jvm.MethodName)) ∈ tblG := inC_5 107 (by rfl) rfl
set_option maxRecDepth 400000 in
theorem tw_1179 : (Jvm.Cond.instanceMethod ({ cls := "VillageStories$Solver", name := "countWithout", desc := "(I)I" } : Jvm.MethodName)) ∈ tblG := inC_5 108 (by rfl) rfl
set_option maxRecDepth 400000 in
theorem tw_1180 : (Jvm.Cond.selects "VillageStories$Solver" ({ cls := "VillageStories$Solver", name := "countWithout", desc := "(I)I" } : Jvm.MethodName) ({ cls := "VillageStories$Solver", name := "countWithout", desc := "(I)I" } : Jvm.MethodName)) ∈ tblG := inC_5 109 (by rfl) rfl
set_option maxRecDepth 400000 in
theorem tw_1181 : (Jvm.Cond.code ({ cls := "VillageStories$Solver", name := "countWithout", desc := "(I)I" } : Jvm.MethodName) prog_6_method_23_code (5 : Nat) (Option.some Jvm.ClassFile.FieldType.int)) ∈ tblG := inC_5 110 (by rfl) rfl
set_option maxRecDepth 400000 in
theorem tw_1182 : (Jvm.Cond.methodLink "VillageStories$Solver" (220 : Nat) ({ cls := "VillageStories$Told", name := "hasStory", desc := "(I)Z" } : Jvm.MethodName)) ∈ tblG := inC_5 111 (by rfl) rfl
set_option maxRecDepth 400000 in
theorem tw_1183 : (Jvm.Cond.methodLink "VillageStoriesLaw" (131 : Nat) ({ cls := "VillageStories", name := "questions", desc := "()I" } : Jvm.MethodName)) ∈ tblG := inC_5 112 (by rfl) rfl
set_option maxRecDepth 400000 in
theorem tw_1184 : (Jvm.Cond.instanceMethod ({ cls := "VillageStories", name := "questions", desc := "()I" } : Jvm.MethodName)) ∈ tblG := inC_5 113 (by rfl) rfl
set_option maxRecDepth 400000 in
theorem tw_1185 : (Jvm.Cond.selects "VillageStories" ({ cls := "VillageStories", name := "questions", desc := "()I" } : Jvm.MethodName) ({ cls := "VillageStories", name := "questions", desc := "()I" } : Jvm.MethodName)) ∈ tblG := inC_5 114 (by rfl) rfl
set_option maxRecDepth 400000 in
theorem tw_1186 : (Jvm.Cond.code ({ cls := "VillageStories", name := "questions", desc := "()I" } : Jvm.MethodName) prog_1_method_29_code (1 : Nat) (Option.some Jvm.ClassFile.FieldType.int)) ∈ tblG := inC_5 115 (by rfl) rfl
set_option maxRecDepth 400000 in
theorem tw_1187 : (Jvm.Cond.methodLink "VillageStories" (201 : Nat) ({ cls := "VillageStories$Solver", name := "fewestQuestions", desc := "()I" } : Jvm.MethodName)) ∈ tblG := inC_5 116 (by rfl) rfl
set_option maxRecDepth 400000 in
theorem tw_1188 : (Jvm.Cond.instanceMethod ({ cls := "VillageStories$Solver", name := "fewestQuestions", desc := "()I" } : Jvm.MethodName)) ∈ tblG := inC_5 117 (by rfl) rfl
set_option maxRecDepth 400000 in
theorem tw_1189 : (Jvm.Cond.selects "VillageStories$Solver" ({ cls := "VillageStories$Solver", name := "fewestQuestions", desc := "()I" } : Jvm.MethodName) ({ cls := "VillageStories$Solver", name := "fewestQuestions", desc := "()I" } : Jvm.MethodName)) ∈ tblG := inC_5 118 (by rfl) rfl
set_option maxRecDepth 400000 in
theorem tw_1190 : (Jvm.Cond.code ({ cls := "VillageStories$Solver", name := "fewestQuestions", desc := "()I" } : Jvm.MethodName) prog_6_method_24_code (3 : Nat) (Option.some Jvm.ClassFile.FieldType.int)) ∈ tblG := inC_5 119 (by rfl) rfl
set_option maxRecDepth 400000 in
theorem tw_1191 : (Jvm.Cond.methodLink "VillageStories$Solver" (224 : Nat) ({ cls := "VillageStories$Solver", name := "takeAsked", desc := "()I" } : Jvm.MethodName)) ∈ tblG := inC_5 120 (by rfl) rfl
set_option maxRecDepth 400000 in
theorem tw_1193 : (Jvm.Cond.instanceMethod ({ cls := "VillageStories$Solver", name := "takeAsked", desc := "()I" } : Jvm.MethodName)) ∈ tblG := inC_5 122 (by rfl) rfl
set_option maxRecDepth 400000 in
theorem tw_1194 : (Jvm.Cond.code ({ cls := "VillageStories$Solver", name := "takeAsked", desc := "()I" } : Jvm.MethodName) prog_6_method_25_code (6 : Nat) (Option.some Jvm.ClassFile.FieldType.int)) ∈ tblG := inC_5 123 (by rfl) rfl
set_option maxRecDepth 400000 in
theorem tw_1195 : (Jvm.Cond.methodLink "VillageStories$Solver" (227 : Nat) ({ cls := "VillageStories$Solver", name := "suffice", desc := "([III)Z" } : Jvm.MethodName)) ∈ tblG := inC_5 124 (by rfl) rfl
set_option maxRecDepth 400000 in
theorem tw_1196 : (Jvm.Cond.static ({ cls := "VillageStories$Solver", name := "suffice", desc := "([III)Z" } : Jvm.MethodName)) ∈ tblG := inC_5 125 (by rfl) rfl
set_option maxRecDepth 400000 in
theorem tw_1197 : (Jvm.Cond.code ({ cls := "VillageStories$Solver", name := "suffice", desc := "([III)Z" } : Jvm.MethodName) prog_6_method_26_code (7 : Nat) (Option.some Jvm.ClassFile.FieldType.boolean)) ∈ tblG := inC_5 126 (by rfl) rfl
set_option maxRecDepth 400000 in
theorem tw_1198 : (Jvm.Cond.methodLink "VillageStoriesLaw" (135 : Nat) ({ cls := "VillageStories", name := "settle", desc := "(I)I" } : Jvm.MethodName)) ∈ tblG := inC_5 127 (by rfl) rfl
set_option maxRecDepth 400000 in
theorem tw_1199 : (Jvm.Cond.instanceMethod ({ cls := "VillageStories", name := "settle", desc := "(I)I" } : Jvm.MethodName)) ∈ tblG := inC_5 128 (by rfl) rfl
set_option maxRecDepth 400000 in
theorem tw_1200 : (Jvm.Cond.selects "VillageStories" ({ cls := "VillageStories", name := "settle", desc := "(I)I" } : Jvm.MethodName) ({ cls := "VillageStories", name := "settle", desc := "(I)I" } : Jvm.MethodName)) ∈ tblG := inC_5 129 (by rfl) rfl
set_option maxRecDepth 400000 in
theorem tw_1201 : (Jvm.Cond.code ({ cls := "VillageStories", name := "settle", desc := "(I)I" } : Jvm.MethodName) prog_1_method_30_code (4 : Nat) (Option.some Jvm.ClassFile.FieldType.int)) ∈ tblG := inC_5 130 (by rfl) rfl
set_option maxRecDepth 400000 in
theorem tw_1202 : (Jvm.Cond.methodLink "VillageStories" (204 : Nat) ({ cls := "VillageStories$Solver", name := "settlingPlace", desc := "()I" } : Jvm.MethodName)) ∈ tblG := inC_5 131 (by rfl) rfl
set_option maxRecDepth 400000 in
theorem tw_1203 : (Jvm.Cond.instanceMethod ({ cls := "VillageStories$Solver", name := "settlingPlace", desc := "()I" } : Jvm.MethodName)) ∈ tblG := inC_5 132 (by rfl) rfl
set_option maxRecDepth 400000 in
theorem tw_1204 : (Jvm.Cond.selects "VillageStories$Solver" ({ cls := "VillageStories$Solver", name := "settlingPlace", desc := "()I" } : Jvm.MethodName) ({ cls := "VillageStories$Solver", name := "settlingPlace", desc := "()I" } : Jvm.MethodName)) ∈ tblG := inC_5 133 (by rfl) rfl
set_option maxRecDepth 400000 in
theorem tw_1205 : (Jvm.Cond.code ({ cls := "VillageStories$Solver", name := "settlingPlace", desc := "()I" } : Jvm.MethodName) prog_6_method_27_code (3 : Nat) (Option.some Jvm.ClassFile.FieldType.int)) ∈ tblG := inC_5 134 (by rfl) rfl
set_option maxRecDepth 400000 in
theorem tw_1206 : (Jvm.Cond.methodLink "VillageStories$Solver" (231 : Nat) ({ cls := "VillageStories$Solver", name := "greaterAt", desc := "(I)I" } : Jvm.MethodName)) ∈ tblG := inC_5 135 (by rfl) rfl
set_option maxRecDepth 400000 in
theorem tw_1207 : (Jvm.Cond.instanceMethod ({ cls := "VillageStories$Solver", name := "greaterAt", desc := "(I)I" } : Jvm.MethodName)) ∈ tblG := inC_5 136 (by rfl) rfl
set_option maxRecDepth 400000 in
theorem tw_1208 : (Jvm.Cond.selects "VillageStories$Solver" ({ cls := "VillageStories$Solver", name := "greaterAt", desc := "(I)I" } : Jvm.MethodName) ({ cls := "VillageStories$Solver", name := "greaterAt", desc := "(I)I" } : Jvm.MethodName)) ∈ tblG := inC_5 137 (by rfl) rfl
set_option maxRecDepth 400000 in
theorem tw_1209 : (Jvm.Cond.code ({ cls := "VillageStories$Solver", name := "greaterAt", desc := "(I)I" } : Jvm.MethodName) prog_6_method_28_code (3 : Nat) (Option.some Jvm.ClassFile.FieldType.int)) ∈ tblG := inC_5 138 (by rfl) rfl
set_option maxRecDepth 400000 in
theorem tw_1210 : (Jvm.Cond.methodLink "VillageStories$Solver" (234 : Nat) ({ cls := "java/lang/Math", name := "max", desc := "(II)I" } : Jvm.MethodName)) ∈ tblG := inC_5 139 (by rfl) rfl
set_option maxRecDepth 400000 in
theorem tw_1211 : (Jvm.Cond.methodLink "VillageStories" (207 : Nat) ({ cls := "VillageStories$Shape", name := "relationAt", desc := "(I)I" } : Jvm.MethodName)) ∈ tblG := inC_5 140 (by rfl) rfl
set_option maxRecDepth 400000 in
theorem tw_1212 : (Jvm.Cond.instanceMethod ({ cls := "VillageStories$Shape", name := "relationAt", desc := "(I)I" } : Jvm.MethodName)) ∈ tblG := inC_5 141 (by rfl) rfl
set_option maxRecDepth 400000 in
theorem tw_1213 : (Jvm.Cond.selects "VillageStories$Shape" ({ cls := "VillageStories$Shape", name := "relationAt", desc := "(I)I" } : Jvm.MethodName) ({ cls := "VillageStories$Shape", name := "relationAt", desc := "(I)I" } : Jvm.MethodName)) ∈ tblG := inC_5 142 (by rfl) rfl
set_option maxRecDepth 400000 in
theorem tw_1214 : (Jvm.Cond.code ({ cls := "VillageStories$Shape", name := "relationAt", desc := "(I)I" } : Jvm.MethodName) prog_5_method_12_code (4 : Nat) (Option.some Jvm.ClassFile.FieldType.int)) ∈ tblG := inC_5 143 (by rfl) rfl
set_option maxRecDepth 400000 in
theorem tw_1215 : (Jvm.Cond.methodLink "VillageStories" (210 : Nat) ({ cls := "VillageStories$Shape", name := "firstAt", desc := "(II)I" } : Jvm.MethodName)) ∈ tblG := inC_5 144 (by rfl) rfl
set_option maxRecDepth 400000 in
theorem tw_1216 : (Jvm.Cond.instanceMethod ({ cls := "VillageStories$Shape", name := "firstAt", desc := "(II)I" } : Jvm.MethodName)) ∈ tblG := inC_5 145 (by rfl) rfl
set_option maxRecDepth 400000 in
theorem tw_1217 : (Jvm.Cond.selects "VillageStories$Shape" ({ cls := "VillageStories$Shape", name := "firstAt", desc := "(II)I" } : Jvm.MethodName) ({ cls := "VillageStories$Shape", name := "firstAt", desc := "(II)I" } : Jvm.MethodName)) ∈ tblG := inC_5 146 (by rfl) rfl
set_option maxRecDepth 400000 in
theorem tw_1218 : (Jvm.Cond.code ({ cls := "VillageStories$Shape", name := "firstAt", desc := "(II)I" } : Jvm.MethodName) prog_5_method_13_code (4 : Nat) (Option.some Jvm.ClassFile.FieldType.int)) ∈ tblG := inC_5 147 (by rfl) rfl
set_option maxRecDepth 400000 in
theorem tw_1219 : (Jvm.Cond.methodLink "VillageStories$Shape" (50 : Nat) ({ cls := "VillageStories$Shape", name := "hasRelation", desc := "(I)Z" } : Jvm.MethodName)) ∈ tblG := inC_5 148 (by rfl) rfl
set_option maxRecDepth 400000 in
theorem tw_1220 : (Jvm.Cond.methodLink "VillageStories" (213 : Nat) ({ cls := "VillageStories$Shape", name := "secondAt", desc := "(II)I" } : Jvm.MethodName)) ∈ tblG := inC_5 149 (by rfl) rfl
set_option maxRecDepth 400000 in
theorem tw_1221 : (Jvm.Cond.instanceMethod ({ cls := "VillageStories$Shape", name := "secondAt", desc := "(II)I" } : Jvm.MethodName)) ∈ tblG := inC_5 150 (by rfl) rfl
set_option maxRecDepth 400000 in
theorem tw_1222 : (Jvm.Cond.selects "VillageStories$Shape" ({ cls := "VillageStories$Shape", name := "secondAt", desc := "(II)I" } : Jvm.MethodName) ({ cls := "VillageStories$Shape", name := "secondAt", desc := "(II)I" } : Jvm.MethodName)) ∈ tblG := inC_5 151 (by rfl) rfl
set_option maxRecDepth 400000 in
theorem tw_1223 : (Jvm.Cond.code ({ cls := "VillageStories$Shape", name := "secondAt", desc := "(II)I" } : Jvm.MethodName) prog_5_method_14_code (3 : Nat) (Option.some Jvm.ClassFile.FieldType.int)) ∈ tblG := inC_5 152 (by rfl) rfl
set_option maxRecDepth 400000 in
theorem tw_1224 : (Jvm.Cond.methodLink "VillageStories$Shape" (53 : Nat) ({ cls := "VillageStories$Shape", name := "isOfTwo", desc := "(I)Z" } : Jvm.MethodName)) ∈ tblG := inC_5 153 (by rfl) rfl
set_option maxRecDepth 400000 in
theorem tw_1225 : (Jvm.Cond.methodLink "VillageStories$Shape" (56 : Nat) ({ cls := "VillageStories$Shape", name := "firstAt", desc := "(II)I" } : Jvm.MethodName)) ∈ tblG := inC_5 154 (by rfl) rfl
set_option maxRecDepth 400000 in
theorem tw_1226 : (Jvm.Cond.methodLink "VillageStories" (216 : Nat) ({ cls := "VillageStories$Solver", name := "greaterAt", desc := "(I)I" } : Jvm.MethodName)) ∈ tblG := inC_5 155 (by rfl) rfl
set_option maxRecDepth 400000 in
theorem tw_1227 : (Jvm.Cond.methodLink "VillageStoriesLaw" (139 : Nat) ({ cls := "VillageStories", name := "near", desc := "()I" } : Jvm.MethodName)) ∈ tblG := inC_5 156 (by rfl) rfl
set_option maxRecDepth 400000 in
theorem tw_1228 : (Jvm.Cond.instanceMethod ({ cls := "VillageStories", name := "near", desc := "()I" } : Jvm.MethodName)) ∈ tblG := inC_5 157 (by rfl) rfl
set_option maxRecDepth 400000 in
theorem tw_1229 : (Jvm.Cond.selects "VillageStories" ({ cls := "VillageStories", name := "near", desc := "()I" } : Jvm.MethodName) ({ cls := "VillageStories", name := "near", desc := "()I" } : Jvm.MethodName)) ∈ tblG := inC_5 158 (by rfl) rfl
set_option maxRecDepth 400000 in
theorem tw_1230 : (Jvm.Cond.code ({ cls := "VillageStories", name := "near", desc := "()I" } : Jvm.MethodName) prog_1_method_31_code (3 : Nat) (Option.some Jvm.ClassFile.FieldType.int)) ∈ tblG := inC_5 159 (by rfl) rfl
set_option maxRecDepth 400000 in
theorem tw_1231 : (Jvm.Cond.methodLink "VillageStories" (219 : Nat) ({ cls := "VillageStories$Solver", name := "nearestWorld", desc := "()I" } : Jvm.MethodName)) ∈ tblG := inC_5 160 (by rfl) rfl
set_option maxRecDepth 400000 in
theorem tw_1232 : (Jvm.Cond.instanceMethod ({ cls := "VillageStories$Solver", name := "nearestWorld", desc := "()I" } : Jvm.MethodName)) ∈ tblG := inC_5 161 (by rfl) rfl
set_option maxRecDepth 400000 in
theorem tw_1233 : (Jvm.Cond.selects "VillageStories$Solver" ({ cls := "VillageStories$Solver", name := "nearestWorld", desc := "()I" } : Jvm.MethodName) ({ cls := "VillageStories$Solver", name := "nearestWorld", desc := "()I" } : Jvm.MethodName)) ∈ tblG := inC_5 162 (by rfl) rfl
set_option maxRecDepth 400000 in
theorem tw_1234 : (Jvm.Cond.code ({ cls := "VillageStories$Solver", name := "nearestWorld", desc := "()I" } : Jvm.MethodName) prog_6_method_29_code (5 : Nat) (Option.some Jvm.ClassFile.FieldType.int)) ∈ tblG := inC_5 163 (by rfl) rfl
set_option maxRecDepth 400000 in
theorem tw_1235 : (Jvm.Cond.methodLink "VillageStories$Solver" (240 : Nat) ({ cls := "VillageStories$WorldSet", name := "most", desc := "()I" } : Jvm.MethodName)) ∈ tblG := inC_5 164 (by rfl) rfl
set_option maxRecDepth 400000 in
theorem tw_1236 : (Jvm.Cond.methodLink "VillageStories$Solver" (243 : Nat) ({ cls := "java/lang/Long", name := "bitCount", desc := "(J)I" } : Jvm.MethodName)) ∈ tblG := inC_5 165 (by rfl) rfl
set_option maxRecDepth 400000 in
theorem tw_1237 : (Jvm.Cond.methodLink "VillageStories$Solver" (248 : Nat) ({ cls := "VillageStories$WorldSet", name := "has", desc := "(I)Z" } : Jvm.MethodName)) ∈ tblG := inC_5 166 (by rfl) rfl
set_option maxRecDepth 400000 in
theorem tw_1238 : (Jvm.Cond.methodLink "VillageStories" (222 : Nat) ({ cls := "java/lang/Long", name := "bitCount", desc := "(J)I" } : Jvm.MethodName)) ∈ tblG := inC_5 167 (by rfl) rfl
set_option maxRecDepth 400000 in
theorem tw_1239 : (Jvm.Cond.methodLink "VillageStoriesLaw" (143 : Nat) ({ cls := "VillageStories", name := "holds", desc := "(I)I" } : Jvm.MethodName)) ∈ tblG := inC_5 168 (by rfl) rfl
set_option maxRecDepth 400000 in
theorem tw_1240 : (Jvm.Cond.instanceMethod ({ cls := "VillageStories", name := "holds", desc := "(I)I" } : Jvm.MethodName)) ∈ tblG := inC_5 169 (by rfl) rfl
set_option maxRecDepth 400000 in
theorem tw_1241 : (Jvm.Cond.selects "VillageStories" ({ cls := "VillageStories", name := "holds", desc := "(I)I" } : Jvm.MethodName) ({ cls := "VillageStories", name := "holds", desc := "(I)I" } : Jvm.MethodName)) ∈ tblG := inC_5 170 (by rfl) rfl
set_option maxRecDepth 400000 in
theorem tw_1242 : (Jvm.Cond.code ({ cls := "VillageStories", name := "holds", desc := "(I)I" } : Jvm.MethodName) prog_1_method_32_code (2 : Nat) (Option.some Jvm.ClassFile.FieldType.int)) ∈ tblG := inC_5 171 (by rfl) rfl
set_option maxRecDepth 400000 in
theorem tw_1243 : (Jvm.Cond.methodLink "VillageStories" (227 : Nat) ({ cls := "VillageStories$Solver", name := "countGuessWorlds", desc := "()I" } : Jvm.MethodName)) ∈ tblG := inC_5 172 (by rfl) rfl
set_option maxRecDepth 400000 in
theorem tw_1244 : (Jvm.Cond.instanceMethod ({ cls := "VillageStories$Solver", name := "countGuessWorlds", desc := "()I" } : Jvm.MethodName)) ∈ tblG := inC_5 173 (by rfl) rfl
set_option maxRecDepth 400000 in
theorem tw_1245 : (Jvm.Cond.selects "VillageStories$Solver" ({ cls := "VillageStories$Solver", name := "countGuessWorlds", desc := "()I" } : Jvm.MethodName) ({ cls := "VillageStories$Solver", name := "countGuessWorlds", desc := "()I" } : Jvm.MethodName)) ∈ tblG := inC_5 174 (by rfl) rfl
set_option maxRecDepth 400000 in
theorem tw_1246 : (Jvm.Cond.code ({ cls := "VillageStories$Solver", name := "countGuessWorlds", desc := "()I" } : Jvm.MethodName) prog_6_method_30_code (1 : Nat) (Option.some Jvm.ClassFile.FieldType.int)) ∈ tblG := inC_5 175 (by rfl) rfl
set_option maxRecDepth 400000 in
theorem tw_1247 : (Jvm.Cond.methodLink "VillageStories" (230 : Nat) ({ cls := "VillageStories$Solver", name := "countGuessForms", desc := "()I" } : Jvm.MethodName)) ∈ tblG := inC_5 176 (by rfl) rfl
set_option maxRecDepth 400000 in
theorem tw_1248 : (Jvm.Cond.instanceMethod ({ cls := "VillageStories$Solver", name := "countGuessForms", desc := "()I" } : Jvm.MethodName)) ∈ tblG := inC_5 177 (by rfl) rfl
set_option maxRecDepth 400000 in
theorem tw_1249 : (Jvm.Cond.selects "VillageStories$Solver" ({ cls := "VillageStories$Solver", name := "countGuessForms", desc := "()I" } : Jvm.MethodName) ({ cls := "VillageStories$Solver", name := "countGuessForms", desc := "()I" } : Jvm.MethodName)) ∈ tblG := inC_5 178 (by rfl) rfl
set_option maxRecDepth 400000 in
theorem tw_1250 : (Jvm.Cond.code ({ cls := "VillageStories$Solver", name := "countGuessForms", desc := "()I" } : Jvm.MethodName) prog_6_method_31_code (1 : Nat) (Option.some Jvm.ClassFile.FieldType.int)) ∈ tblG := inC_5 179 (by rfl) rfl
set_option maxRecDepth 400000 in
theorem tw_1251 : (Jvm.Cond.methodLink "VillageStoriesLaw" (147 : Nat) ({ cls := "VillageStories", name := "against", desc := "()Z" } : Jvm.MethodName)) ∈ tblG := inC_5 180 (by rfl) rfl
set_option maxRecDepth 400000 in
theorem tw_1252 : (Jvm.Cond.instanceMethod ({ cls := "VillageStories", name := "against", desc := "()Z" } : Jvm.MethodName)) ∈ tblG := inC_5 181 (by rfl) rfl
set_option maxRecDepth 400000 in
theorem tw_1253 : (Jvm.Cond.selects "VillageStories" ({ cls := "VillageStories", name := "against", desc := "()Z" } : Jvm.MethodName) ({ cls := "VillageStories", name := "against", desc := "()Z" } : Jvm.MethodName)) ∈ tblG := inC_5 182 (by rfl) rfl
set_option maxRecDepth 400000 in
theorem tw_1254 : (Jvm.Cond.code ({ cls := "VillageStories", name := "against", desc := "()Z" } : Jvm.MethodName) prog_1_method_33_code (1 : Nat) (Option.some Jvm.ClassFile.FieldType.boolean)) ∈ tblG := inC_5 183 (by rfl) rfl
set_option maxRecDepth 400000 in
theorem tw_1255 : (Jvm.Cond.methodLink "VillageStories" (233 : Nat) ({ cls := "VillageStories$Solver", name := "formAgainst", desc := "()I" } : Jvm.MethodName)) ∈ tblG := inC_5 184 (by rfl) rfl
set_option maxRecDepth 400000 in
theorem tw_1256 : (Jvm.Cond.instanceMethod ({ cls := "VillageStories$Solver", name := "formAgainst", desc := "()I" } : Jvm.MethodName)) ∈ tblG := inC_5 185 (by rfl) rfl
set_option maxRecDepth 400000 in
theorem tw_1257 : (Jvm.Cond.selects "VillageStories$Solver" ({ cls := "VillageStories$Solver", name := "formAgainst", desc := "()I" } : Jvm.MethodName) ({ cls := "VillageStories$Solver", name := "formAgainst", desc := "()I" } : Jvm.MethodName)) ∈ tblG := inC_5 186 (by rfl) rfl
set_option maxRecDepth 400000 in
theorem tw_1258 : (Jvm.Cond.code ({ cls := "VillageStories$Solver", name := "formAgainst", desc := "()I" } : Jvm.MethodName) prog_6_method_32_code (1 : Nat) (Option.some Jvm.ClassFile.FieldType.int)) ∈ tblG := inC_5 187 (by rfl) rfl
set_option maxRecDepth 400000 in
theorem tw_1259 : (Jvm.Cond.methodLink "VillageStories$Solver" (255 : Nat) ({ cls := "VillageStories$WorldSet", name := "drop", desc := "(LVillageStories$WorldSet;)V" } : Jvm.MethodName)) ∈ tblG := inC_5 188 (by rfl) rfl
set_option maxRecDepth 400000 in
theorem tw_1260 : (Jvm.Cond.instanceMethod ({ cls := "VillageStories$WorldSet", name := "drop", desc := "(LVillageStories$WorldSet;)V" } : Jvm.MethodName)) ∈ tblG := inC_5 189 (by rfl) rfl
set_option maxRecDepth 400000 in
theorem tw_1261 : (Jvm.Cond.selects "VillageStories$WorldSet" ({ cls := "VillageStories$WorldSet", name := "drop", desc := "(LVillageStories$WorldSet;)V" } : Jvm.MethodName) ({ cls := "VillageStories$WorldSet", name := "drop", desc := "(LVillageStories$WorldSet;)V" } : Jvm.MethodName)) ∈ tblG := inC_5 190 (by rfl) rfl
set_option maxRecDepth 400000 in
theorem tw_1262 : (Jvm.Cond.code ({ cls := "VillageStories$WorldSet", name := "drop", desc := "(LVillageStories$WorldSet;)V" } : Jvm.MethodName) prog_9_method_10_code (3 : Nat) (Option.none : Option Jvm.ClassFile.FieldType)) ∈ tblG := inC_5 191 (by rfl) rfl
set_option maxRecDepth 400000 in
theorem tw_1263 : (Jvm.Cond.methodLink "VillageStoriesLaw" (151 : Nat) ({ cls := "VillageStories", name := "many", desc := "(I)I" } : Jvm.MethodName)) ∈ tblG := inC_5 192 (by rfl) rfl
set_option maxRecDepth 400000 in
theorem tw_1264 : (Jvm.Cond.instanceMethod ({ cls := "VillageStories", name := "many", desc := "(I)I" } : Jvm.MethodName)) ∈ tblG := inC_5 193 (by rfl) rfl
set_option maxRecDepth 400000 in
theorem tw_1265 : (Jvm.Cond.selects "VillageStories" ({ cls := "VillageStories", name := "many", desc := "(I)I" } : Jvm.MethodName) ({ cls := "VillageStories", name := "many", desc := "(I)I" } : Jvm.MethodName)) ∈ tblG := inC_5 194 (by rfl) rfl
set_option maxRecDepth 400000 in
theorem tw_1266 : (Jvm.Cond.code ({ cls := "VillageStories", name := "many", desc := "(I)I" } : Jvm.MethodName) prog_1_method_34_code (2 : Nat) (Option.some Jvm.ClassFile.FieldType.int)) ∈ tblG := inC_5 195 (by rfl) rfl
set_option maxRecDepth 400000 in
theorem tw_1267 : (Jvm.Cond.methodLink "VillageStories" (242 : Nat) ({ cls := "VillageStories$Told", name := "viewedStories", desc := "()I" } : Jvm.MethodName)) ∈ tblG := inC_5 196 (by rfl) rfl
set_option maxRecDepth 400000 in
theorem tw_1268 : (Jvm.Cond.methodLink "VillageStoriesLaw" (155 : Nat) ({ cls := "VillageStories", name := "image", desc := "(I)Z" } : Jvm.MethodName)) ∈ tblG := inC_5 197 (by rfl) rfl
set_option maxRecDepth 400000 in
theorem tw_1269 : (Jvm.Cond.instanceMethod ({ cls := "VillageStories", name := "image", desc := "(I)Z" } : Jvm.MethodName)) ∈ tblG := inC_5 198 (by rfl) rfl
set_option maxRecDepth 400000 in
theorem tw_1270 : (Jvm.Cond.selects "VillageStories" ({ cls := "VillageStories", name := "image", desc := "(I)Z" } : Jvm.MethodName) ({ cls := "VillageStories", name := "image", desc := "(I)Z" } : Jvm.MethodName)) ∈ tblG := inC_5 199 (by rfl) rfl
set_option maxRecDepth 400000 in
theorem tw_1271 : (Jvm.Cond.code ({ cls := "VillageStories", name := "image", desc := "(I)Z" } : Jvm.MethodName) prog_1_method_35_code (2 : Nat) (Option.some Jvm.ClassFile.FieldType.boolean)) ∈ tblG := inC_5 200 (by rfl) rfl
set_option maxRecDepth 400000 in
theorem tw_1272 : (Jvm.Cond.methodLink "VillageStories" (248 : Nat) ({ cls := "VillageStories$Told", name := "copy", desc := "(LVillageStories$Told;)V" } : Jvm.MethodName)) ∈ tblG := inC_5 201 (by rfl) rfl
set_option maxRecDepth 400000 in
theorem tw_1273 : (Jvm.Cond.instanceMethod ({ cls := "VillageStories$Told", name := "copy", desc := "(LVillageStories$Told;)V" } : Jvm.MethodName)) ∈ tblG := inC_5 202 (by rfl) rfl
set_option maxRecDepth 400000 in
theorem tw_1274 : (Jvm.Cond.selects "VillageStories$Told" ({ cls := "VillageStories$Told", name := "copy", desc := "(LVillageStories$Told;)V" } : Jvm.MethodName) ({ cls := "VillageStories$Told", name := "copy", desc := "(LVillageStories$Told;)V" } : Jvm.MethodName)) ∈ tblG := inC_5 203 (by rfl) rfl
set_option maxRecDepth 400000 in
theorem tw_1275 : (Jvm.Cond.code ({ cls := "VillageStories$Told", name := "copy", desc := "(LVillageStories$Told;)V" } : Jvm.MethodName) prog_8_method_2_code (2 : Nat) (Option.none : Option Jvm.ClassFile.FieldType)) ∈ tblG := inC_5 204 (by rfl) rfl
set_option maxRecDepth 400000 in
theorem tw_1276 : (Jvm.Cond.methodLink "VillageStories$Told" (81 : Nat) ({ cls := "VillageStories$Shape", name := "copy", desc := "(LVillageStories$Shape;)V" } : Jvm.MethodName)) ∈ tblG := inC_5 205 (by rfl) rfl
set_option maxRecDepth 400000 in
theorem tw_1277 : (Jvm.Cond.methodLink "VillageStories$Told" (85 : Nat) ({ cls := "VillageStories$Told", name := "copyWorlds", desc := "(LVillageStories$Told;)V" } : Jvm.MethodName)) ∈ tblG := inC_5 206 (by rfl) rfl
set_option maxRecDepth 400000 in
theorem tw_1279 : (Jvm.Cond.instanceMethod ({ cls := "VillageStories$Told", name := "copyWorlds", desc := "(LVillageStories$Told;)V" } : Jvm.MethodName)) ∈ tblG := inC_5 208 (by rfl) rfl
set_option maxRecDepth 400000 in
theorem tw_1280 : (Jvm.Cond.code ({ cls := "VillageStories$Told", name := "copyWorlds", desc := "(LVillageStories$Told;)V" } : Jvm.MethodName) prog_8_method_3_code (2 : Nat) (Option.none : Option Jvm.ClassFile.FieldType)) ∈ tblG := inC_5 209 (by rfl) rfl
set_option maxRecDepth 400000 in
theorem tw_1281 : (Jvm.Cond.methodLink "VillageStories$Told" (89 : Nat) ({ cls := "java/lang/System", name := "arraycopy", desc := "(Ljava/lang/Object;ILjava/lang/Object;II)V" } : Jvm.MethodName)) ∈ tblG := inC_5 210 (by rfl) rfl
set_option maxRecDepth 400000 in
theorem tw_1282 : (Jvm.Cond.methodLink "VillageStories$Told" (95 : Nat) ({ cls := "VillageStories$Told", name := "copyStories", desc := "(LVillageStories$Told;)V" } : Jvm.MethodName)) ∈ tblG := inC_5 211 (by rfl) rfl
set_option maxRecDepth 400000 in
theorem tw_1284 : (Jvm.Cond.instanceMethod ({ cls := "VillageStories$Told", name := "copyStories", desc := "(LVillageStories$Told;)V" } : Jvm.MethodName)) ∈ tblG := inC_5 213 (by rfl) rfl
set_option maxRecDepth 400000 in
theorem tw_1285 : (Jvm.Cond.code ({ cls := "VillageStories$Told", name := "copyStories", desc := "(LVillageStories$Told;)V" } : Jvm.MethodName) prog_8_method_4_code (3 : Nat) (Option.none : Option Jvm.ClassFile.FieldType)) ∈ tblG := inC_5 214 (by rfl) rfl
set_option maxRecDepth 400000 in
theorem tw_1286 : (Jvm.Cond.methodLink "VillageStoriesLaw" (159 : Nat) ({ cls := "VillageStories", name := "again", desc := "(I)Z" } : Jvm.MethodName)) ∈ tblG := inC_5 215 (by rfl) rfl
set_option maxRecDepth 400000 in
theorem tw_1287 : (Jvm.Cond.instanceMethod ({ cls := "VillageStories", name := "again", desc := "(I)Z" } : Jvm.MethodName)) ∈ tblG := inC_5 216 (by rfl) rfl
set_option maxRecDepth 400000 in
theorem tw_1288 : (Jvm.Cond.selects "VillageStories" ({ cls := "VillageStories", name := "again", desc := "(I)Z" } : Jvm.MethodName) ({ cls := "VillageStories", name := "again", desc := "(I)Z" } : Jvm.MethodName)) ∈ tblG := inC_5 217 (by rfl) rfl
set_option maxRecDepth 400000 in
theorem tw_1289 : (Jvm.Cond.code ({ cls := "VillageStories", name := "again", desc := "(I)Z" } : Jvm.MethodName) prog_1_method_36_code (2 : Nat) (Option.some Jvm.ClassFile.FieldType.boolean)) ∈ tblG := inC_5 218 (by rfl) rfl
set_option maxRecDepth 400000 in
theorem tw_1290 : (Jvm.Cond.classLink "VillageStoriesLaw" (10 : Nat) "VillageStoriesModel") ∈ tblG := inC_5 219 (by rfl) rfl
set_option maxRecDepth 400000 in
theorem tw_1291 : (Jvm.Cond.instantiable "VillageStoriesModel" (63 : Nat)) ∈ tblG := inC_5 220 (by rfl) rfl
set_option maxRecDepth 400000 in
theorem tw_1292 : (Jvm.Cond.methodLink "VillageStoriesLaw" (12 : Nat) ({ cls := "VillageStoriesModel", name := "<init>", desc := "()V" } : Jvm.MethodName)) ∈ tblG := inC_5 221 (by rfl) rfl
set_option maxRecDepth 400000 in
theorem tw_1293 : (Jvm.Cond.instanceMethod ({ cls := "VillageStoriesModel", name := "<init>", desc := "()V" } : Jvm.MethodName)) ∈ tblG := inC_5 222 (by rfl) rfl
set_option maxRecDepth 400000 in
theorem tw_1294 : (Jvm.Cond.code ({ cls := "VillageStoriesModel", name := "<init>", desc := "()V" } : Jvm.MethodName) prog_11_method_1_code (2 : Nat) (Option.none : Option Jvm.ClassFile.FieldType)) ∈ tblG := inC_5 223 (by rfl) rfl
set_option maxRecDepth 400000 in
theorem tw_1295 : (Jvm.Cond.methodLink "VillageStoriesModel" (1 : Nat) ({ cls := "java/lang/Object", name := "<init>", desc := "()V" } : Jvm.MethodName)) ∈ tblG := inC_5 224 (by rfl) rfl
set_option maxRecDepth 400000 in
theorem tw_1296 : (Jvm.Cond.constant "VillageStoriesModel" (129 : Nat) (65536 : Int32)) ∈ tblG := inC_5 225 (by rfl) rfl
set_option maxRecDepth 400000 in
theorem tw_1297 : (Jvm.Cond.fieldLink "VillageStoriesModel" (142 : Nat) "VillageStoriesModel" "code" "I") ∈ tblG := inC_5 226 (by rfl) rfl
set_option maxRecDepth 400000 in
theorem tw_1298 : (Jvm.Cond.fieldLink "VillageStoriesModel" (7 : Nat) "VillageStoriesModel" "tape" "[B") ∈ tblG := inC_5 227 (by rfl) rfl
set_option maxRecDepth 400000 in
theorem tw_1299 : (Jvm.Cond.fieldLink "VillageStoriesModel" (13 : Nat) "VillageStoriesModel" "size" "[I") ∈ tblG := inC_5 228 (by rfl) rfl
set_option maxRecDepth 400000 in
theorem tw_1300 : (Jvm.Cond.fieldLink "VillageStoriesModel" (17 : Nat) "VillageStoriesModel" "fault" "[I") ∈ tblG := inC_5 229 (by rfl) rfl
set_option maxRecDepth 400000 in
theorem tw_1301 : (Jvm.Cond.fieldLink "VillageStoriesModel" (20 : Nat) "VillageStoriesModel" "faultPlace" "[I") ∈ tblG := inC_5 230 (by rfl) rfl
set_option maxRecDepth 400000 in
theorem tw_1302 : (Jvm.Cond.fieldLink "VillageStoriesModel" (23 : Nat) "VillageStoriesModel" "days" "[I") ∈ tblG := inC_5 231 (by rfl) rfl
set_option maxRecDepth 400000 in
theorem tw_1303 : (Jvm.Cond.fieldLink "VillageStoriesModel" (26 : Nat) "VillageStoriesModel" "viewed" "[I") ∈ tblG := inC_5 232 (by rfl) rfl
set_option maxRecDepth 400000 in
theorem tw_1304 : (Jvm.Cond.fieldLink "VillageStoriesModel" (29 : Nat) "VillageStoriesModel" "sizes" "[I") ∈ tblG := inC_5 233 (by rfl) rfl
set_option maxRecDepth 400000 in
theorem tw_1305 : (Jvm.Cond.fieldLink "VillageStoriesModel" (32 : Nat) "VillageStoriesModel" "relations" "[I") ∈ tblG := inC_5 234 (by rfl) rfl
set_option maxRecDepth 400000 in
theorem tw_1306 : (Jvm.Cond.fieldLink "VillageStoriesModel" (35 : Nat) "VillageStoriesModel" "firstKind" "[I") ∈ tblG := inC_5 235 (by rfl) rfl
set_option maxRecDepth 400000 in
theorem tw_1307 : (Jvm.Cond.fieldLink "VillageStoriesModel" (38 : Nat) "VillageStoriesModel" "secondKind" "[I") ∈ tblG := inC_5 236 (by rfl) rfl
set_option maxRecDepth 400000 in
theorem tw_1308 : (Jvm.Cond.fieldLink "VillageStoriesModel" (41 : Nat) "VillageStoriesModel" "world" "[Z") ∈ tblG := inC_5 237 (by rfl) rfl
set_option maxRecDepth 400000 in
theorem tw_1309 : (Jvm.Cond.fieldLink "VillageStoriesModel" (45 : Nat) "VillageStoriesModel" "stories" "[I") ∈ tblG := inC_5 238 (by rfl) rfl
set_option maxRecDepth 400000 in
theorem tw_1310 : (Jvm.Cond.fieldLink "VillageStoriesModel" (48 : Nat) "VillageStoriesModel" "storyDay" "[I") ∈ tblG := inC_5 239 (by rfl) rfl
set_option maxRecDepth 400000 in
theorem tw_1311 : (Jvm.Cond.fieldLink "VillageStoriesModel" (51 : Nat) "VillageStoriesModel" "struckDay" "[I") ∈ tblG := inC_6 0 (by rfl) rfl
set_option maxRecDepth 400000 in
theorem tw_1312 : (Jvm.Cond.fieldLink "VillageStoriesModel" (54 : Nat) "VillageStoriesModel" "parts" "[I") ∈ tblG := inC_6 1 (by rfl) rfl
set_option maxRecDepth 400000 in
theorem tw_1313 : (Jvm.Cond.fieldLink "VillageStoriesModel" (57 : Nat) "VillageStoriesModel" "act" "[I") ∈ tblG := inC_6 2 (by rfl) rfl
set_option maxRecDepth 400000 in
theorem tw_1314 : (Jvm.Cond.fieldLink "VillageStoriesModel" (60 : Nat) "VillageStoriesModel" "one" "[I") ∈ tblG := inC_6 3 (by rfl) rfl
set_option maxRecDepth 400000 in
theorem tw_1315 : (Jvm.Cond.fieldLink "VillageStoriesModel" (63 : Nat) "VillageStoriesModel" "two" "[I") ∈ tblG := inC_6 4 (by rfl) rfl
set_option maxRecDepth 400000 in
theorem tw_1316 : (Jvm.Cond.fieldLink "VillageStoriesModel" (66 : Nat) "VillageStoriesModel" "three" "[I") ∈ tblG := inC_6 5 (by rfl) rfl
set_option maxRecDepth 400000 in
theorem tw_1317 : (Jvm.Cond.fieldLink "VillageStoriesModel" (69 : Nat) "VillageStoriesModel" "knowns" "[I") ∈ tblG := inC_6 6 (by rfl) rfl
set_option maxRecDepth 400000 in
theorem tw_1318 : (Jvm.Cond.fieldLink "VillageStoriesModel" (72 : Nat) "VillageStoriesModel" "knownOf" "[I") ∈ tblG := inC_6 7 (by rfl) rfl
set_option maxRecDepth 400000 in
theorem tw_1319 : (Jvm.Cond.fieldLink "VillageStoriesModel" (75 : Nat) "VillageStoriesModel" "knownIs" "[I") ∈ tblG := inC_6 8 (by rfl) rfl
set_option maxRecDepth 400000 in
theorem tw_1320 : (Jvm.Cond.fieldLink "VillageStoriesModel" (78 : Nat) "VillageStoriesModel" "knownDay" "[I") ∈ tblG := inC_6 9 (by rfl) rfl
set_option maxRecDepth 400000 in
theorem tw_1321 : (Jvm.Cond.fieldLink "VillageStoriesModel" (81 : Nat) "VillageStoriesModel" "held" "[Z") ∈ tblG := inC_6 10 (by rfl) rfl
set_option maxRecDepth 400000 in
theorem tw_1322 : (Jvm.Cond.fieldLink "VillageStoriesModel" (84 : Nat) "VillageStoriesModel" "holdsPlace" "[Z") ∈ tblG := inC_6 11 (by rfl) rfl
set_option maxRecDepth 400000 in
theorem tw_1323 : (Jvm.Cond.fieldLink "VillageStoriesModel" (87 : Nat) "VillageStoriesModel" "now" "[I") ∈ tblG := inC_6 12 (by rfl) rfl
set_option maxRecDepth 400000 in
theorem tw_1324 : (Jvm.Cond.fieldLink "VillageStoriesModel" (90 : Nat) "VillageStoriesModel" "start" "[I") ∈ tblG := inC_6 13 (by rfl) rfl
set_option maxRecDepth 400000 in
theorem tw_1325 : (Jvm.Cond.fieldLink "VillageStoriesModel" (93 : Nat) "VillageStoriesModel" "is" "[Z") ∈ tblG := inC_6 14 (by rfl) rfl
set_option maxRecDepth 400000 in
theorem tw_1326 : (Jvm.Cond.fieldLink "VillageStoriesModel" (202 : Nat) "VillageStoriesModel" "ahead" "I") ∈ tblG := inC_6 15 (by rfl) rfl
set_option maxRecDepth 400000 in
theorem tw_1327 : (Jvm.Cond.fieldLink "VillageStoriesModel" (205 : Nat) "VillageStoriesModel" "length" "I") ∈ tblG := inC_6 16 (by rfl) rfl
set_option maxRecDepth 400000 in
theorem tw_1328 : (Jvm.Cond.fieldLink "VillageStoriesModel" (211 : Nat) "VillageStoriesModel" "begins" "I") ∈ tblG := inC_6 17 (by rfl) rfl
set_option maxRecDepth 400000 in
theorem tw_1329 : (Jvm.Cond.fieldLink "VillageStoriesModel" (221 : Nat) "VillageStoriesModel" "sort" "I") ∈ tblG := inC_6 18 (by rfl) rfl
set_option maxRecDepth 400000 in
theorem tw_1330 : (Jvm.Cond.fieldLink "VillageStoriesModel" (214 : Nat) "VillageStoriesModel" "value" "I") ∈ tblG := inC_6 19 (by rfl) rfl
set_option maxRecDepth 400000 in
theorem tw_1331 : (Jvm.Cond.fieldLink "VillageStoriesModel" (217 : Nat) "VillageStoriesModel" "word" "J") ∈ tblG := inC_6 20 (by rfl) rfl
set_option maxRecDepth 400000 in
theorem tw_1332 : (Jvm.Cond.fieldLink "VillageStoriesModel" (272 : Nat) "VillageStoriesModel" "wrongAt" "I") ∈ tblG := inC_6 21 (by rfl) rfl
set_option maxRecDepth 400000 in
theorem tw_1333 : (Jvm.Cond.fieldLink "VillageStoriesModel" (275 : Nat) "VillageStoriesModel" "laterFault" "I") ∈ tblG := inC_6 22 (by rfl) rfl
set_option maxRecDepth 400000 in
theorem tw_1334 : (Jvm.Cond.fieldLink "VillageStoriesModel" (278 : Nat) "VillageStoriesModel" "laterPlace" "I") ∈ tblG := inC_6 23 (by rfl) rfl
set_option maxRecDepth 400000 in
theorem tw_1335 : (Jvm.Cond.fieldLink "VillageStoriesModel" (298 : Nat) "VillageStoriesModel" "waiting" "I") ∈ tblG := inC_6 24 (by rfl) rfl
set_option maxRecDepth 400000 in
theorem tw_1336 : (Jvm.Cond.fieldLink "VillageStoriesModel" (96 : Nat) "VillageStoriesModel" "around" "[I") ∈ tblG := inC_6 25 (by rfl) rfl
set_option maxRecDepth 400000 in
theorem tw_1337 : (Jvm.Cond.fieldLink "VillageStoriesModel" (313 : Nat) "VillageStoriesModel" "newParts" "I") ∈ tblG := inC_6 26 (by rfl) rfl
set_option maxRecDepth 400000 in
theorem tw_1338 : (Jvm.Cond.fieldLink "VillageStoriesModel" (99 : Nat) "VillageStoriesModel" "newAct" "[I") ∈ tblG := inC_6 27 (by rfl) rfl
set_option maxRecDepth 400000 in
theorem tw_1339 : (Jvm.Cond.fieldLink "VillageStoriesModel" (102 : Nat) "VillageStoriesModel" "newOne" "[I") ∈ tblG := inC_6 28 (by rfl) rfl
set_option maxRecDepth 400000 in
theorem tw_1340 : (Jvm.Cond.fieldLink "VillageStoriesModel" (105 : Nat) "VillageStoriesModel" "newTwo" "[I") ∈ tblG := inC_6 29 (by rfl) rfl
set_option maxRecDepth 400000 in
theorem tw_1341 : (Jvm.Cond.fieldLink "VillageStoriesModel" (108 : Nat) "VillageStoriesModel" "newThree" "[I") ∈ tblG := inC_6 30 (by rfl) rfl
set_option maxRecDepth 400000 in
theorem tw_1342 : (Jvm.Cond.fieldLink "VillageStoriesModel" (111 : Nat) "VillageStoriesModel" "ready" "[Z") ∈ tblG := inC_6 31 (by rfl) rfl
set_option maxRecDepth 400000 in
theorem tw_1343 : (Jvm.Cond.fieldLink "VillageStoriesModel" (353 : Nat) "VillageStoriesModel" "top" "I") ∈ tblG := inC_6 32 (by rfl) rfl
set_option maxRecDepth 400000 in
theorem tw_1344 : (Jvm.Cond.fieldLink "VillageStoriesModel" (114 : Nat) "VillageStoriesModel" "joined" "[Z") ∈ tblG := inC_6 33 (by rfl) rfl
set_option maxRecDepth 400000 in
theorem tw_1345 : (Jvm.Cond.fieldLink "VillageStoriesModel" (383 : Nat) "VillageStoriesModel" "storiesToldNow" "I") ∈ tblG := inC_6 34 (by rfl) rfl
set_option maxRecDepth 400000 in
theorem tw_1346 : (Jvm.Cond.fieldLink "VillageStoriesModel" (374 : Nat) "VillageStoriesModel" "knownBits" "I") ∈ tblG := inC_6 35 (by rfl) rfl
set_option maxRecDepth 400000 in
theorem tw_1347 : (Jvm.Cond.fieldLink "VillageStoriesModel" (377 : Nat) "VillageStoriesModel" "knownSo" "I") ∈ tblG := inC_6 36 (by rfl) rfl
set_option maxRecDepth 400000 in
theorem tw_1348 : (Jvm.Cond.fieldLink "VillageStoriesModel" (117 : Nat) "VillageStoriesModel" "orderOf" "[I") ∈ tblG := inC_6 37 (by rfl) rfl
set_option maxRecDepth 400000 in
theorem tw_1349 : (Jvm.Cond.fieldLink "VillageStoriesModel" (419 : Nat) "VillageStoriesModel" "leastMen" "I") ∈ tblG := inC_6 38 (by rfl) rfl
set_option maxRecDepth 400000 in
theorem tw_1350 : (Jvm.Cond.fieldLink "VillageStoriesModel" (422 : Nat) "VillageStoriesModel" "leastHouses" "I") ∈ tblG := inC_6 39 (by rfl) rfl
set_option maxRecDepth 400000 in
theorem tw_1351 : (Jvm.Cond.fieldLink "VillageStoriesModel" (425 : Nat) "VillageStoriesModel" "leastDays" "I") ∈ tblG := inC_6 40 (by rfl) rfl
set_option maxRecDepth 400000 in
theorem tw_1352 : (Jvm.Cond.fieldLink "VillageStoriesModel" (120 : Nat) "VillageStoriesModel" "together" "[Z") ∈ tblG := inC_6 41 (by rfl) rfl
set_option maxRecDepth 400000 in
theorem tw_1353 : (Jvm.Cond.fieldLink "VillageStoriesModel" (123 : Nat) "VillageStoriesModel" "often" "[I") ∈ tblG := inC_6 42 (by rfl) rfl
set_option maxRecDepth 400000 in
theorem tw_1354 : (Jvm.Cond.fieldLink "VillageStoriesModel" (447 : Nat) "VillageStoriesModel" "allWorlds" "I") ∈ tblG := inC_6 43 (by rfl) rfl
set_option maxRecDepth 400000 in
theorem tw_1355 : (Jvm.Cond.fieldLink "VillageStoriesModel" (126 : Nat) "VillageStoriesModel" "fewWorlds" "[I") ∈ tblG := inC_6 44 (by rfl) rfl
set_option maxRecDepth 400000 in
theorem tw_1356 : (Jvm.Cond.fieldLink "VillageStoriesModel" (130 : Nat) "VillageStoriesModel" "does" "[Z") ∈ tblG := inC_6 45 (by rfl) rfl
set_option maxRecDepth 400000 in
theorem tw_1357 : (Jvm.Cond.fieldLink "VillageStoriesModel" (133 : Nat) "VillageStoriesModel" "doesNow" "[Z") ∈ tblG := inC_6 46 (by rfl) rfl
set_option maxRecDepth 400000 in
theorem tw_1358 : (Jvm.Cond.fieldLink "VillageStoriesModel" (136 : Nat) "VillageStoriesModel" "yes" "[I") ∈ tblG := inC_6 47 (by rfl) rfl
set_option maxRecDepth 400000 in
theorem tw_1359 : (Jvm.Cond.fieldLink "VillageStoriesModel" (139 : Nat) "VillageStoriesModel" "kept" "[Z") ∈ tblG := inC_6 48 (by rfl) rfl
set_option maxRecDepth 400000 in
theorem tw_1487 : (Jvm.Cond.methodLink "VillageStoriesLaw" (17 : Nat) ({ cls := "VillageStoriesModel", name := "size", desc := "(II)Z" } : Jvm.MethodName)) ∈ tblG := inC_6 176 (by rfl) rfl
set_option maxRecDepth 400000 in
theorem tw_1488 : (Jvm.Cond.instanceMethod ({ cls := "VillageStoriesModel", name := "size", desc := "(II)Z" } : Jvm.MethodName)) ∈ tblG := inC_6 177 (by rfl) rfl
set_option maxRecDepth 400000 in
theorem tw_1489 : (Jvm.Cond.selects "VillageStoriesModel" ({ cls := "VillageStoriesModel", name := "size", desc := "(II)Z" } : Jvm.MethodName) ({ cls := "VillageStoriesModel", name := "size", desc := "(II)Z" } : Jvm.MethodName)) ∈ tblG := inC_6 178 (by rfl) rfl
set_option maxRecDepth 400000 in
theorem tw_1490 : (Jvm.Cond.code ({ cls := "VillageStoriesModel", name := "size", desc := "(II)Z" } : Jvm.MethodName) prog_11_method_14_code (3 : Nat) (Option.some Jvm.ClassFile.FieldType.boolean)) ∈ tblG := inC_6 179 (by rfl) rfl
set_option maxRecDepth 400000 in
theorem tw_1491 : (Jvm.Cond.methodLink "VillageStoriesModel" (160 : Nat) ({ cls := "VillageStoriesModel", name := "in", desc := "(III)Z" } : Jvm.MethodName)) ∈ tblG := inC_6 180 (by rfl) rfl
set_option maxRecDepth 400000 in
theorem tw_1492 : (Jvm.Cond.static ({ cls := "VillageStoriesModel", name := "in", desc := "(III)Z" } : Jvm.MethodName)) ∈ tblG := inC_6 181 (by rfl) rfl
set_option maxRecDepth 400000 in
theorem tw_1493 : (Jvm.Cond.code ({ cls := "VillageStoriesModel", name := "in", desc := "(III)Z" } : Jvm.MethodName) prog_11_method_3_code (3 : Nat) (Option.some Jvm.ClassFile.FieldType.boolean)) ∈ tblG := inC_6 182 (by rfl) rfl
set_option maxRecDepth 400000 in
theorem tw_1494 : (Jvm.Cond.methodLink "VillageStoriesModel" (168 : Nat) ({ cls := "VillageStoriesModel", name := "clearWorld", desc := "()V" } : Jvm.MethodName)) ∈ tblG := inC_6 183 (by rfl) rfl
set_option maxRecDepth 400000 in
theorem tw_1496 : (Jvm.Cond.instanceMethod ({ cls := "VillageStoriesModel", name := "clearWorld", desc := "()V" } : Jvm.MethodName)) ∈ tblG := inC_6 185 (by rfl) rfl
set_option maxRecDepth 400000 in
theorem tw_1497 : (Jvm.Cond.code ({ cls := "VillageStoriesModel", name := "clearWorld", desc := "()V" } : Jvm.MethodName) prog_11_method_13_code (2 : Nat) (Option.none : Option Jvm.ClassFile.FieldType)) ∈ tblG := inC_6 186 (by rfl) rfl
set_option maxRecDepth 400000 in
theorem tw_1498 : (Jvm.Cond.methodLink "VillageStoriesLaw" (22 : Nat) ({ cls := "VillageStoriesModel", name := "relation", desc := "(II)I" } : Jvm.MethodName)) ∈ tblG := inC_6 187 (by rfl) rfl
set_option maxRecDepth 400000 in
theorem tw_1499 : (Jvm.Cond.instanceMethod ({ cls := "VillageStoriesModel", name := "relation", desc := "(II)I" } : Jvm.MethodName)) ∈ tblG := inC_6 188 (by rfl) rfl
set_option maxRecDepth 400000 in
theorem tw_1500 : (Jvm.Cond.selects "VillageStoriesModel" ({ cls := "VillageStoriesModel", name := "relation", desc := "(II)I" } : Jvm.MethodName) ({ cls := "VillageStoriesModel", name := "relation", desc := "(II)I" } : Jvm.MethodName)) ∈ tblG := inC_6 189 (by rfl) rfl
set_option maxRecDepth 400000 in
theorem tw_1501 : (Jvm.Cond.code ({ cls := "VillageStoriesModel", name := "relation", desc := "(II)I" } : Jvm.MethodName) prog_11_method_15_code (4 : Nat) (Option.some Jvm.ClassFile.FieldType.int)) ∈ tblG := inC_6 190 (by rfl) rfl
set_option maxRecDepth 400000 in
theorem tw_1502 : (Jvm.Cond.methodLink "VillageStoriesLaw" (27 : Nat) ({ cls := "VillageStoriesModel", name := "facts", desc := "()I" } : Jvm.MethodName)) ∈ tblG := inC_6 191 (by rfl) rfl
set_option maxRecDepth 400000 in
theorem tw_1503 : (Jvm.Cond.instanceMethod ({ cls := "VillageStoriesModel", name := "facts", desc := "()I" } : Jvm.MethodName)) ∈ tblG := inC_6 192 (by rfl) rfl
set_option maxRecDepth 400000 in
theorem tw_1504 : (Jvm.Cond.selects "VillageStoriesModel" ({ cls := "VillageStoriesModel", name := "facts", desc := "()I" } : Jvm.MethodName) ({ cls := "VillageStoriesModel", name := "facts", desc := "()I" } : Jvm.MethodName)) ∈ tblG := inC_6 193 (by rfl) rfl
set_option maxRecDepth 400000 in
theorem tw_1505 : (Jvm.Cond.code ({ cls := "VillageStoriesModel", name := "facts", desc := "()I" } : Jvm.MethodName) prog_11_method_16_code (1 : Nat) (Option.some Jvm.ClassFile.FieldType.int)) ∈ tblG := inC_6 194 (by rfl) rfl
set_option maxRecDepth 400000 in
theorem tw_1506 : (Jvm.Cond.methodLink "VillageStoriesModel" (157 : Nat) ({ cls := "VillageStoriesModel", name := "bringSizes", desc := "()V" } : Jvm.MethodName)) ∈ tblG := inC_6 195 (by rfl) rfl
set_option maxRecDepth 400000 in
theorem tw_1508 : (Jvm.Cond.instanceMethod ({ cls := "VillageStoriesModel", name := "bringSizes", desc := "()V" } : Jvm.MethodName)) ∈ tblG := inC_6 197 (by rfl) rfl
set_option maxRecDepth 400000 in
theorem tw_1509 : (Jvm.Cond.code ({ cls := "VillageStoriesModel", name := "bringSizes", desc := "()V" } : Jvm.MethodName) prog_11_method_8_code (2 : Nat) (Option.none : Option Jvm.ClassFile.FieldType)) ∈ tblG := inC_6 198 (by rfl) rfl
set_option maxRecDepth 400000 in
theorem tw_1510 : (Jvm.Cond.methodLink "VillageStoriesModel" (154 : Nat) ({ cls := "VillageStoriesModel", name := "findStarts", desc := "()V" } : Jvm.MethodName)) ∈ tblG := inC_6 199 (by rfl) rfl
set_option maxRecDepth 400000 in
theorem tw_1512 : (Jvm.Cond.instanceMethod ({ cls := "VillageStoriesModel", name := "findStarts", desc := "()V" } : Jvm.MethodName)) ∈ tblG := inC_6 201 (by rfl) rfl
set_option maxRecDepth 400000 in
theorem tw_1513 : (Jvm.Cond.code ({ cls := "VillageStoriesModel", name := "findStarts", desc := "()V" } : Jvm.MethodName) prog_11_method_7_code (2 : Nat) (Option.none : Option Jvm.ClassFile.FieldType)) ∈ tblG := inC_6 202 (by rfl) rfl
set_option maxRecDepth 400000 in
theorem tw_1514 : (Jvm.Cond.methodLink "VillageStoriesModel" (150 : Nat) ({ cls := "VillageStoriesModel", name := "sizeOf", desc := "(I)I" } : Jvm.MethodName)) ∈ tblG := inC_6 203 (by rfl) rfl
set_option maxRecDepth 400000 in
theorem tw_1516 : (Jvm.Cond.instanceMethod ({ cls := "VillageStoriesModel", name := "sizeOf", desc := "(I)I" } : Jvm.MethodName)) ∈ tblG := inC_6 205 (by rfl) rfl
set_option maxRecDepth 400000 in
theorem tw_1517 : (Jvm.Cond.code ({ cls := "VillageStoriesModel", name := "sizeOf", desc := "(I)I" } : Jvm.MethodName) prog_11_method_6_code (2 : Nat) (Option.some Jvm.ClassFile.FieldType.int)) ∈ tblG := inC_6 206 (by rfl) rfl
set_option maxRecDepth 400000 in
theorem tw_1518 : (Jvm.Cond.methodLink "VillageStoriesModel" (171 : Nat) ({ cls := "VillageStoriesModel", name := "manyFacts", desc := "()I" } : Jvm.MethodName)) ∈ tblG := inC_6 207 (by rfl) rfl
set_option maxRecDepth 400000 in
theorem tw_1520 : (Jvm.Cond.instanceMethod ({ cls := "VillageStoriesModel", name := "manyFacts", desc := "()I" } : Jvm.MethodName)) ∈ tblG := inC_6 209 (by rfl) rfl
set_option maxRecDepth 400000 in
theorem tw_1521 : (Jvm.Cond.code ({ cls := "VillageStoriesModel", name := "manyFacts", desc := "()I" } : Jvm.MethodName) prog_11_method_10_code (1 : Nat) (Option.some Jvm.ClassFile.FieldType.int)) ∈ tblG := inC_6 210 (by rfl) rfl
set_option maxRecDepth 400000 in
theorem tw_1522 : (Jvm.Cond.methodLink "VillageStoriesLaw" (32 : Nat) ({ cls := "VillageStoriesModel", name := "tell", desc := "(IIIZ)Z" } : Jvm.MethodName)) ∈ tblG := inC_6 211 (by rfl) rfl
set_option maxRecDepth 400000 in
theorem tw_1523 : (Jvm.Cond.instanceMethod ({ cls := "VillageStoriesModel", name := "tell", desc := "(IIIZ)Z" } : Jvm.MethodName)) ∈ tblG := inC_6 212 (by rfl) rfl
set_option maxRecDepth 400000 in
theorem tw_1524 : (Jvm.Cond.selects "VillageStoriesModel" ({ cls := "VillageStoriesModel", name := "tell", desc := "(IIIZ)Z" } : Jvm.MethodName) ({ cls := "VillageStoriesModel", name := "tell", desc := "(IIIZ)Z" } : Jvm.MethodName)) ∈ tblG := inC_6 213 (by rfl) rfl
set_option maxRecDepth 400000 in
theorem tw_1525 : (Jvm.Cond.code ({ cls := "VillageStoriesModel", name := "tell", desc := "(IIIZ)Z" } : Jvm.MethodName) prog_11_method_19_code (6 : Nat) (Option.some Jvm.ClassFile.FieldType.boolean)) ∈ tblG := inC_6 214 (by rfl) rfl
set_option maxRecDepth 400000 in
theorem tw_1526 : (Jvm.Cond.methodLink "VillageStoriesModel" (179 : Nat) ({ cls := "VillageStoriesModel", name := "toldFact", desc := "(III)I" } : Jvm.MethodName)) ∈ tblG := inC_6 215 (by rfl) rfl
set_option maxRecDepth 400000 in
theorem tw_1528 : (Jvm.Cond.instanceMethod ({ cls := "VillageStoriesModel", name := "toldFact", desc := "(III)I" } : Jvm.MethodName)) ∈ tblG := inC_6 217 (by rfl) rfl
set_option maxRecDepth 400000 in
theorem tw_1529 : (Jvm.Cond.code ({ cls := "VillageStoriesModel", name := "toldFact", desc := "(III)I" } : Jvm.MethodName) prog_11_method_18_code (4 : Nat) (Option.some Jvm.ClassFile.FieldType.int)) ∈ tblG := inC_6 218 (by rfl) rfl
set_option maxRecDepth 400000 in
theorem tw_1530 : (Jvm.Cond.methodLink "VillageStoriesModel" (175 : Nat) ({ cls := "VillageStoriesModel", name := "isRelation", desc := "(I)Z" } : Jvm.MethodName)) ∈ tblG := inC_6 219 (by rfl) rfl
set_option maxRecDepth 400000 in
theorem tw_1532 : (Jvm.Cond.instanceMethod ({ cls := "VillageStoriesModel", name := "isRelation", desc := "(I)Z" } : Jvm.MethodName)) ∈ tblG := inC_6 221 (by rfl) rfl
set_option maxRecDepth 400000 in
theorem tw_1533 : (Jvm.Cond.code ({ cls := "VillageStoriesModel", name := "isRelation", desc := "(I)Z" } : Jvm.MethodName) prog_11_method_17_code (2 : Nat) (Option.some Jvm.ClassFile.FieldType.boolean)) ∈ tblG := inC_6 222 (by rfl) rfl
set_option maxRecDepth 400000 in
theorem tw_1534 : (Jvm.Cond.methodLink "VillageStoriesModel" (164 : Nat) ({ cls := "VillageStoriesModel", name := "factAt", desc := "(III)I" } : Jvm.MethodName)) ∈ tblG := inC_6 223 (by rfl) rfl
set_option maxRecDepth 400000 in
theorem tw_1536 : (Jvm.Cond.instanceMethod ({ cls := "VillageStoriesModel", name := "factAt", desc := "(III)I" } : Jvm.MethodName)) ∈ tblG := inC_6 225 (by rfl) rfl
set_option maxRecDepth 400000 in
theorem tw_1537 : (Jvm.Cond.code ({ cls := "VillageStoriesModel", name := "factAt", desc := "(III)I" } : Jvm.MethodName) prog_11_method_11_code (5 : Nat) (Option.some Jvm.ClassFile.FieldType.int)) ∈ tblG := inC_6 226 (by rfl) rfl
set_option maxRecDepth 400000 in
theorem tw_1538 : (Jvm.Cond.methodLink "VillageStoriesLaw" (37 : Nat) ({ cls := "VillageStoriesModel", name := "fact", desc := "(III)I" } : Jvm.MethodName)) ∈ tblG := inC_6 227 (by rfl) rfl
set_option maxRecDepth 400000 in
theorem tw_1539 : (Jvm.Cond.instanceMethod ({ cls := "VillageStoriesModel", name := "fact", desc := "(III)I" } : Jvm.MethodName)) ∈ tblG := inC_6 228 (by rfl) rfl
set_option maxRecDepth 400000 in
theorem tw_1540 : (Jvm.Cond.selects "VillageStoriesModel" ({ cls := "VillageStoriesModel", name := "fact", desc := "(III)I" } : Jvm.MethodName) ({ cls := "VillageStoriesModel", name := "fact", desc := "(III)I" } : Jvm.MethodName)) ∈ tblG := inC_6 229 (by rfl) rfl
set_option maxRecDepth 400000 in
theorem tw_1541 : (Jvm.Cond.code ({ cls := "VillageStoriesModel", name := "fact", desc := "(III)I" } : Jvm.MethodName) prog_11_method_20_code (5 : Nat) (Option.some Jvm.ClassFile.FieldType.int)) ∈ tblG := inC_6 230 (by rfl) rfl
set_option maxRecDepth 400000 in
theorem tw_1542 : (Jvm.Cond.methodLink "VillageStoriesLaw" (41 : Nat) ({ cls := "VillageStoriesModel", name := "known", desc := "(IIIZ)Z" } : Jvm.MethodName)) ∈ tblG := inC_6 231 (by rfl) rfl
set_option maxRecDepth 400000 in
theorem tw_1543 : (Jvm.Cond.instanceMethod ({ cls := "VillageStoriesModel", name := "known", desc := "(IIIZ)Z" } : Jvm.MethodName)) ∈ tblG := inC_6 232 (by rfl) rfl
set_option maxRecDepth 400000 in
theorem tw_1544 : (Jvm.Cond.selects "VillageStoriesModel" ({ cls := "VillageStoriesModel", name := "known", desc := "(IIIZ)Z" } : Jvm.MethodName) ({ cls := "VillageStoriesModel", name := "known", desc := "(IIIZ)Z" } : Jvm.MethodName)) ∈ tblG := inC_6 233 (by rfl) rfl
set_option maxRecDepth 400000 in
theorem tw_1545 : (Jvm.Cond.code ({ cls := "VillageStoriesModel", name := "known", desc := "(IIIZ)Z" } : Jvm.MethodName) prog_11_method_21_code (6 : Nat) (Option.some Jvm.ClassFile.FieldType.boolean)) ∈ tblG := inC_6 234 (by rfl) rfl
set_option maxRecDepth 400000 in
theorem tw_1546 : (Jvm.Cond.methodLink "VillageStoriesLaw" (46 : Nat) ({ cls := "VillageStoriesModel", name := "keep", desc := "(I)Z" } : Jvm.MethodName)) ∈ tblG := inC_6 235 (by rfl) rfl
set_option maxRecDepth 400000 in
theorem tw_1547 : (Jvm.Cond.instanceMethod ({ cls := "VillageStoriesModel", name := "keep", desc := "(I)Z" } : Jvm.MethodName)) ∈ tblG := inC_6 236 (by rfl) rfl
set_option maxRecDepth 400000 in
theorem tw_1548 : (Jvm.Cond.selects "VillageStoriesModel" ({ cls := "VillageStoriesModel", name := "keep", desc := "(I)Z" } : Jvm.MethodName) ({ cls := "VillageStoriesModel", name := "keep", desc := "(I)Z" } : Jvm.MethodName)) ∈ tblG := inC_6 237 (by rfl) rfl
set_option maxRecDepth 400000 in
theorem tw_1549 : (Jvm.Cond.code ({ cls := "VillageStoriesModel", name := "keep", desc := "(I)Z" } : Jvm.MethodName) prog_11_method_22_code (3 : Nat) (Option.some Jvm.ClassFile.FieldType.boolean)) ∈ tblG := inC_6 238 (by rfl) rfl
set_option maxRecDepth 400000 in
theorem tw_1550 : (Jvm.Cond.methodLink "VillageStoriesLaw" (51 : Nat) ({ cls := "VillageStoriesModel", name := "apart", desc := "(I)I" } : Jvm.MethodName)) ∈ tblG := inC_6 239 (by rfl) rfl
set_option maxRecDepth 400000 in
theorem tw_1551 : (Jvm.Cond.instanceMethod ({ cls := "VillageStoriesModel", name := "apart", desc := "(I)I" } : Jvm.MethodName)) ∈ tblG := inC_7 0 (by rfl) rfl
set_option maxRecDepth 400000 in
theorem tw_1552 : (Jvm.Cond.selects "VillageStoriesModel" ({ cls := "VillageStoriesModel", name := "apart", desc := "(I)I" } : Jvm.MethodName) ({ cls := "VillageStoriesModel", name := "apart", desc := "(I)I" } : Jvm.MethodName)) ∈ tblG := inC_7 1 (by rfl) rfl
set_option maxRecDepth 400000 in
theorem tw_1553 : (Jvm.Cond.code ({ cls := "VillageStoriesModel", name := "apart", desc := "(I)I" } : Jvm.MethodName) prog_11_method_23_code (7 : Nat) (Option.some Jvm.ClassFile.FieldType.int)) ∈ tblG := inC_7 2 (by rfl) rfl
set_option maxRecDepth 400000 in
theorem tw_1554 : (Jvm.Cond.methodLink "VillageStoriesModel" (182 : Nat) ({ cls := "VillageStoriesModel", name := "canTell", desc := "()Z" } : Jvm.MethodName)) ∈ tblG := inC_7 3 (by rfl) rfl
set_option maxRecDepth 400000 in
theorem tw_1556 : (Jvm.Cond.instanceMethod ({ cls := "VillageStoriesModel", name := "canTell", desc := "()Z" } : Jvm.MethodName)) ∈ tblG := inC_7 5 (by rfl) rfl
set_option maxRecDepth 400000 in
theorem tw_1557 : (Jvm.Cond.code ({ cls := "VillageStoriesModel", name := "canTell", desc := "()Z" } : Jvm.MethodName) prog_11_method_67_code (1 : Nat) (Option.some Jvm.ClassFile.FieldType.boolean)) ∈ tblG := inC_7 6 (by rfl) rfl
set_option maxRecDepth 400000 in
theorem tw_1558 : (Jvm.Cond.methodLink "VillageStoriesModel" (186 : Nat) ({ cls := "VillageStoriesModel", name := "numberOfWorld", desc := "()I" } : Jvm.MethodName)) ∈ tblG := inC_7 7 (by rfl) rfl
set_option maxRecDepth 400000 in
theorem tw_1560 : (Jvm.Cond.instanceMethod ({ cls := "VillageStoriesModel", name := "numberOfWorld", desc := "()I" } : Jvm.MethodName)) ∈ tblG := inC_7 9 (by rfl) rfl
set_option maxRecDepth 400000 in
theorem tw_1561 : (Jvm.Cond.code ({ cls := "VillageStoriesModel", name := "numberOfWorld", desc := "()I" } : Jvm.MethodName) prog_11_method_65_code (4 : Nat) (Option.some Jvm.ClassFile.FieldType.int)) ∈ tblG := inC_7 10 (by rfl) rfl
set_option maxRecDepth 400000 in
theorem tw_1562 : (Jvm.Cond.methodLink "VillageStoriesModel" (189 : Nat) ({ cls := "VillageStoriesModel", name := "takeOrders", desc := "(I)Z" } : Jvm.MethodName)) ∈ tblG := inC_7 11 (by rfl) rfl
set_option maxRecDepth 400000 in
theorem tw_1564 : (Jvm.Cond.instanceMethod ({ cls := "VillageStoriesModel", name := "takeOrders", desc := "(I)Z" } : Jvm.MethodName)) ∈ tblG := inC_7 13 (by rfl) rfl
set_option maxRecDepth 400000 in
theorem tw_1565 : (Jvm.Cond.code ({ cls := "VillageStoriesModel", name := "takeOrders", desc := "(I)Z" } : Jvm.MethodName) prog_11_method_76_code (2 : Nat) (Option.some Jvm.ClassFile.FieldType.boolean)) ∈ tblG := inC_7 14 (by rfl) rfl
set_option maxRecDepth 400000 in
theorem tw_1566 : (Jvm.Cond.methodLink "VillageStoriesModel" (401 : Nat) ({ cls := "VillageStoriesModel", name := "isOrder", desc := "(II)Z" } : Jvm.MethodName)) ∈ tblG := inC_7 15 (by rfl) rfl
set_option maxRecDepth 400000 in
theorem tw_1567 : (Jvm.Cond.static ({ cls := "VillageStoriesModel", name := "isOrder", desc := "(II)Z" } : Jvm.MethodName)) ∈ tblG := inC_7 16 (by rfl) rfl
set_option maxRecDepth 400000 in
theorem tw_1568 : (Jvm.Cond.code ({ cls := "VillageStoriesModel", name := "isOrder", desc := "(II)Z" } : Jvm.MethodName) prog_11_method_73_code (3 : Nat) (Option.some Jvm.ClassFile.FieldType.boolean)) ∈ tblG := inC_7 17 (by rfl) rfl
set_option maxRecDepth 400000 in
theorem tw_1569 : (Jvm.Cond.methodLink "VillageStoriesModel" (395 : Nat) ({ cls := "VillageStoriesModel", name := "inOrder", desc := "(II)I" } : Jvm.MethodName)) ∈ tblG := inC_7 18 (by rfl) rfl
set_option maxRecDepth 400000 in
theorem tw_1570 : (Jvm.Cond.static ({ cls := "VillageStoriesModel", name := "inOrder", desc := "(II)I" } : Jvm.MethodName)) ∈ tblG := inC_7 19 (by rfl) rfl
set_option maxRecDepth 400000 in
theorem tw_1571 : (Jvm.Cond.code ({ cls := "VillageStoriesModel", name := "inOrder", desc := "(II)I" } : Jvm.MethodName) prog_11_method_72_code (4 : Nat) (Option.some Jvm.ClassFile.FieldType.int)) ∈ tblG := inC_7 20 (by rfl) rfl
set_option maxRecDepth 400000 in
theorem tw_1572 : (Jvm.Cond.methodLink "VillageStoriesModel" (192 : Nat) ({ cls := "VillageStoriesModel", name := "imageOf", desc := "()I" } : Jvm.MethodName)) ∈ tblG := inC_7 21 (by rfl) rfl
set_option maxRecDepth 400000 in
theorem tw_1574 : (Jvm.Cond.instanceMethod ({ cls := "VillageStoriesModel", name := "imageOf", desc := "()I" } : Jvm.MethodName)) ∈ tblG := inC_7 23 (by rfl) rfl
set_option maxRecDepth 400000 in
theorem tw_1575 : (Jvm.Cond.code ({ cls := "VillageStoriesModel", name := "imageOf", desc := "()I" } : Jvm.MethodName) prog_11_method_75_code (7 : Nat) (Option.some Jvm.ClassFile.FieldType.int)) ∈ tblG := inC_7 24 (by rfl) rfl
set_option maxRecDepth 400000 in
theorem tw_1576 : (Jvm.Cond.methodLink "VillageStoriesModel" (398 : Nat) ({ cls := "VillageStoriesModel", name := "renamed", desc := "(II)I" } : Jvm.MethodName)) ∈ tblG := inC_7 25 (by rfl) rfl
set_option maxRecDepth 400000 in
theorem tw_1578 : (Jvm.Cond.instanceMethod ({ cls := "VillageStoriesModel", name := "renamed", desc := "(II)I" } : Jvm.MethodName)) ∈ tblG := inC_7 27 (by rfl) rfl
set_option maxRecDepth 400000 in
theorem tw_1579 : (Jvm.Cond.code ({ cls := "VillageStoriesModel", name := "renamed", desc := "(II)I" } : Jvm.MethodName) prog_11_method_74_code (3 : Nat) (Option.some Jvm.ClassFile.FieldType.int)) ∈ tblG := inC_7 28 (by rfl) rfl
set_option maxRecDepth 400000 in
theorem tw_1580 : (Jvm.Cond.methodLink "VillageStoriesModel" (195 : Nat) ({ cls := "VillageStoriesModel", name := "ones", desc := "(I)I" } : Jvm.MethodName)) ∈ tblG := inC_7 29 (by rfl) rfl
set_option maxRecDepth 400000 in
theorem tw_1581 : (Jvm.Cond.static ({ cls := "VillageStoriesModel", name := "ones", desc := "(I)I" } : Jvm.MethodName)) ∈ tblG := inC_7 30 (by rfl) rfl
set_option maxRecDepth 400000 in
theorem tw_1582 : (Jvm.Cond.code ({ cls := "VillageStoriesModel", name := "ones", desc := "(I)I" } : Jvm.MethodName) prog_11_method_24_code (3 : Nat) (Option.some Jvm.ClassFile.FieldType.int)) ∈ tblG := inC_7 31 (by rfl) rfl
set_option maxRecDepth 400000 in
theorem tw_1583 : (Jvm.Cond.methodLink "VillageStoriesLaw" (56 : Nat) ({ cls := "VillageStoriesModel", name := "feed", desc := "(IIIII)I" } : Jvm.MethodName)) ∈ tblG := inC_7 32 (by rfl) rfl
set_option maxRecDepth 400000 in
theorem tw_1584 : (Jvm.Cond.instanceMethod ({ cls := "VillageStoriesModel", name := "feed", desc := "(IIIII)I" } : Jvm.MethodName)) ∈ tblG := inC_7 33 (by rfl) rfl
set_option maxRecDepth 400000 in
theorem tw_1585 : (Jvm.Cond.selects "VillageStoriesModel" ({ cls := "VillageStoriesModel", name := "feed", desc := "(IIIII)I" } : Jvm.MethodName) ({ cls := "VillageStoriesModel", name := "feed", desc := "(IIIII)I" } : Jvm.MethodName)) ∈ tblG := inC_7 34 (by rfl) rfl
set_option maxRecDepth 400000 in
theorem tw_1586 : (Jvm.Cond.code ({ cls := "VillageStoriesModel", name := "feed", desc := "(IIIII)I" } : Jvm.MethodName) prog_11_method_25_code (6 : Nat) (Option.some Jvm.ClassFile.FieldType.int)) ∈ tblG := inC_7 35 (by rfl) rfl
set_option maxRecDepth 400000 in
theorem tw_1587 : (Jvm.Cond.methodLink "VillageStoriesModel" (198 : Nat) ({ cls := "VillageStoriesModel", name := "four", desc := "(I)V" } : Jvm.MethodName)) ∈ tblG := inC_7 36 (by rfl) rfl
set_option maxRecDepth 400000 in
theorem tw_1589 : (Jvm.Cond.instanceMethod ({ cls := "VillageStoriesModel", name := "four", desc := "(I)V" } : Jvm.MethodName)) ∈ tblG := inC_7 38 (by rfl) rfl
set_option maxRecDepth 400000 in
theorem tw_1590 : (Jvm.Cond.code ({ cls := "VillageStoriesModel", name := "four", desc := "(I)V" } : Jvm.MethodName) prog_11_method_26_code (3 : Nat) (Option.none : Option Jvm.ClassFile.FieldType)) ∈ tblG := inC_7 39 (by rfl) rfl
set_option maxRecDepth 400000 in
theorem tw_1591 : (Jvm.Cond.methodLink "VillageStoriesLaw" (60 : Nat) ({ cls := "VillageStoriesModel", name := "end", desc := "(I)I" } : Jvm.MethodName)) ∈ tblG := inC_7 40 (by rfl) rfl
set_option maxRecDepth 400000 in
theorem tw_1592 : (Jvm.Cond.instanceMethod ({ cls := "VillageStoriesModel", name := "end", desc := "(I)I" } : Jvm.MethodName)) ∈ tblG := inC_7 41 (by rfl) rfl
set_option maxRecDepth 400000 in
theorem tw_1593 : (Jvm.Cond.selects "VillageStoriesModel" ({ cls := "VillageStoriesModel", name := "end", desc := "(I)I" } : Jvm.MethodName) ({ cls := "VillageStoriesModel", name := "end", desc := "(I)I" } : Jvm.MethodName)) ∈ tblG := inC_7 42 (by rfl) rfl
set_option maxRecDepth 400000 in
theorem tw_1594 : (Jvm.Cond.code ({ cls := "VillageStoriesModel", name := "end", desc := "(I)I" } : Jvm.MethodName) prog_11_method_27_code (2 : Nat) (Option.some Jvm.ClassFile.FieldType.int)) ∈ tblG := inC_7 43 (by rfl) rfl
set_option maxRecDepth 400000 in
theorem tw_1595 : (Jvm.Cond.methodLink "VillageStoriesLaw" (64 : Nat) ({ cls := "VillageStoriesModel", name := "story", desc := "()I" } : Jvm.MethodName)) ∈ tblG := inC_7 44 (by rfl) rfl
set_option maxRecDepth 400000 in
theorem tw_1596 : (Jvm.Cond.instanceMethod ({ cls := "VillageStoriesModel", name := "story", desc := "()I" } : Jvm.MethodName)) ∈ tblG := inC_7 45 (by rfl) rfl
set_option maxRecDepth 400000 in
theorem tw_1597 : (Jvm.Cond.selects "VillageStoriesModel" ({ cls := "VillageStoriesModel", name := "story", desc := "()I" } : Jvm.MethodName) ({ cls := "VillageStoriesModel", name := "story", desc := "()I" } : Jvm.MethodName)) ∈ tblG := inC_7 46 (by rfl) rfl
set_option maxRecDepth 400000 in
theorem tw_1598 : (Jvm.Cond.code ({ cls := "VillageStoriesModel", name := "story", desc := "()I" } : Jvm.MethodName) prog_11_method_46_code (2 : Nat) (Option.some Jvm.ClassFile.FieldType.int)) ∈ tblG := inC_7 47 (by rfl) rfl
set_option maxRecDepth 400000 in
theorem tw_1599 : (Jvm.Cond.methodLink "VillageStoriesModel" (332 : Nat) ({ cls := "VillageStoriesModel", name := "readText", desc := "()Z" } : Jvm.MethodName)) ∈ tblG := inC_7 48 (by rfl) rfl
set_option maxRecDepth 400000 in
theorem tw_1601 : (Jvm.Cond.instanceMethod ({ cls := "VillageStoriesModel", name := "readText", desc := "()Z" } : Jvm.MethodName)) ∈ tblG := inC_7 50 (by rfl) rfl
set_option maxRecDepth 400000 in
theorem tw_1602 : (Jvm.Cond.code ({ cls := "VillageStoriesModel", name := "readText", desc := "()Z" } : Jvm.MethodName) prog_11_method_44_code (2 : Nat) (Option.some Jvm.ClassFile.FieldType.boolean)) ∈ tblG := inC_7 51 (by rfl) rfl
set_option maxRecDepth 400000 in
theorem tw_1603 : (Jvm.Cond.methodLink "VillageStoriesModel" (304 : Nat) ({ cls := "VillageStoriesModel", name := "wait", desc := "(I)V" } : Jvm.MethodName)) ∈ tblG := inC_7 52 (by rfl) rfl
set_option maxRecDepth 400000 in
theorem tw_1605 : (Jvm.Cond.instanceMethod ({ cls := "VillageStoriesModel", name := "wait", desc := "(I)V" } : Jvm.MethodName)) ∈ tblG := inC_7 54 (by rfl) rfl
set_option maxRecDepth 400000 in
theorem tw_1606 : (Jvm.Cond.code ({ cls := "VillageStoriesModel", name := "wait", desc := "(I)V" } : Jvm.MethodName) prog_11_method_39_code (2 : Nat) (Option.none : Option Jvm.ClassFile.FieldType)) ∈ tblG := inC_7 55 (by rfl) rfl
set_option maxRecDepth 400000 in
theorem tw_1607 : (Jvm.Cond.methodLink "VillageStoriesModel" (295 : Nat) ({ cls := "VillageStoriesModel", name := "token", desc := "()V" } : Jvm.MethodName)) ∈ tblG := inC_7 56 (by rfl) rfl
set_option maxRecDepth 400000 in
theorem tw_1609 : (Jvm.Cond.instanceMethod ({ cls := "VillageStoriesModel", name := "token", desc := "()V" } : Jvm.MethodName)) ∈ tblG := inC_7 58 (by rfl) rfl
set_option maxRecDepth 400000 in
theorem tw_1610 : (Jvm.Cond.code ({ cls := "VillageStoriesModel", name := "token", desc := "()V" } : Jvm.MethodName) prog_11_method_29_code (3 : Nat) (Option.none : Option Jvm.ClassFile.FieldType)) ∈ tblG := inC_7 59 (by rfl) rfl
set_option maxRecDepth 400000 in
theorem tw_1611 : (Jvm.Cond.methodLink "VillageStoriesModel" (208 : Nat) ({ cls := "VillageStoriesModel", name := "see", desc := "()I" } : Jvm.MethodName)) ∈ tblG := inC_7 60 (by rfl) rfl
set_option maxRecDepth 400000 in
theorem tw_1613 : (Jvm.Cond.instanceMethod ({ cls := "VillageStoriesModel", name := "see", desc := "()I" } : Jvm.MethodName)) ∈ tblG := inC_7 62 (by rfl) rfl
set_option maxRecDepth 400000 in
theorem tw_1614 : (Jvm.Cond.code ({ cls := "VillageStoriesModel", name := "see", desc := "()I" } : Jvm.MethodName) prog_11_method_28_code (1 : Nat) (Option.some Jvm.ClassFile.FieldType.int)) ∈ tblG := inC_7 63 (by rfl) rfl
set_option maxRecDepth 400000 in
theorem tw_1615 : (Jvm.Cond.methodLink "VillageStoriesModel" (329 : Nat) ({ cls := "VillageStoriesModel", name := "readPart", desc := "(I)Z" } : Jvm.MethodName)) ∈ tblG := inC_7 64 (by rfl) rfl
set_option maxRecDepth 400000 in
theorem tw_1617 : (Jvm.Cond.instanceMethod ({ cls := "VillageStoriesModel", name := "readPart", desc := "(I)Z" } : Jvm.MethodName)) ∈ tblG := inC_7 66 (by rfl) rfl
set_option maxRecDepth 400000 in
theorem tw_1618 : (Jvm.Cond.code ({ cls := "VillageStoriesModel", name := "readPart", desc := "(I)Z" } : Jvm.MethodName) prog_11_method_43_code (3 : Nat) (Option.some Jvm.ClassFile.FieldType.boolean)) ∈ tblG := inC_7 67 (by rfl) rfl
set_option maxRecDepth 400000 in
theorem tw_1619 : (Jvm.Cond.methodLink "VillageStoriesModel" (291 : Nat) ({ cls := "VillageStoriesModel", name := "later", desc := "(II)V" } : Jvm.MethodName)) ∈ tblG := inC_7 68 (by rfl) rfl
set_option maxRecDepth 400000 in
theorem tw_1621 : (Jvm.Cond.instanceMethod ({ cls := "VillageStoriesModel", name := "later", desc := "(II)V" } : Jvm.MethodName)) ∈ tblG := inC_7 70 (by rfl) rfl
set_option maxRecDepth 400000 in
theorem tw_1622 : (Jvm.Cond.code ({ cls := "VillageStoriesModel", name := "later", desc := "(II)V" } : Jvm.MethodName) prog_11_method_36_code (3 : Nat) (Option.none : Option Jvm.ClassFile.FieldType)) ∈ tblG := inC_7 71 (by rfl) rfl
set_option maxRecDepth 400000 in
theorem tw_1623 : (Jvm.Cond.methodLink "VillageStoriesModel" (316 : Nat) ({ cls := "VillageStoriesModel", name := "actOf", desc := "()I" } : Jvm.MethodName)) ∈ tblG := inC_7 72 (by rfl) rfl
set_option maxRecDepth 400000 in
theorem tw_1625 : (Jvm.Cond.instanceMethod ({ cls := "VillageStoriesModel", name := "actOf", desc := "()I" } : Jvm.MethodName)) ∈ tblG := inC_7 74 (by rfl) rfl
set_option maxRecDepth 400000 in
theorem tw_1626 : (Jvm.Cond.code ({ cls := "VillageStoriesModel", name := "actOf", desc := "()I" } : Jvm.MethodName) prog_11_method_31_code (1 : Nat) (Option.some Jvm.ClassFile.FieldType.int)) ∈ tblG := inC_7 75 (by rfl) rfl
set_option maxRecDepth 400000 in
theorem tw_1627 : (Jvm.Cond.constantLong "VillageStoriesModel" (224 : Nat) (6384748 : Int64)) ∈ tblG := inC_7 76 (by rfl) rfl
set_option maxRecDepth 400000 in
theorem tw_1628 : (Jvm.Cond.methodLink "VillageStoriesModel" (226 : Nat) ({ cls := "VillageStoriesModel", name := "isWord", desc := "(J)Z" } : Jvm.MethodName)) ∈ tblG := inC_7 77 (by rfl) rfl
set_option maxRecDepth 400000 in
theorem tw_1630 : (Jvm.Cond.instanceMethod ({ cls := "VillageStoriesModel", name := "isWord", desc := "(J)Z" } : Jvm.MethodName)) ∈ tblG := inC_7 79 (by rfl) rfl
set_option maxRecDepth 400000 in
theorem tw_1631 : (Jvm.Cond.code ({ cls := "VillageStoriesModel", name := "isWord", desc := "(J)Z" } : Jvm.MethodName) prog_11_method_30_code (3 : Nat) (Option.some Jvm.ClassFile.FieldType.boolean)) ∈ tblG := inC_7 80 (by rfl) rfl
set_option maxRecDepth 400000 in
theorem tw_1632 : (Jvm.Cond.constantLong "VillageStoriesModel" (230 : Nat) (1936682341 : Int64)) ∈ tblG := inC_7 81 (by rfl) rfl
set_option maxRecDepth 400000 in
theorem tw_1633 : (Jvm.Cond.constantLong "VillageStoriesModel" (232 : Nat) (465557353332 : Int64)) ∈ tblG := inC_7 82 (by rfl) rfl
set_option maxRecDepth 400000 in
theorem tw_1634 : (Jvm.Cond.constantLong "VillageStoriesModel" (234 : Nat) (1836020596 : Int64)) ∈ tblG := inC_7 83 (by rfl) rfl
set_option maxRecDepth 400000 in
theorem tw_1635 : (Jvm.Cond.constantLong "VillageStoriesModel" (236 : Nat) (7237492 : Int64)) ∈ tblG := inC_7 84 (by rfl) rfl
set_option maxRecDepth 400000 in
theorem tw_1636 : (Jvm.Cond.constantLong "VillageStoriesModel" (238 : Nat) (6385252 : Int64)) ∈ tblG := inC_7 85 (by rfl) rfl
set_option maxRecDepth 400000 in
theorem tw_1637 : (Jvm.Cond.constantLong "VillageStoriesModel" (240 : Nat) (28530 : Int64)) ∈ tblG := inC_7 86 (by rfl) rfl
set_option maxRecDepth 400000 in
theorem tw_1638 : (Jvm.Cond.constantLong "VillageStoriesModel" (242 : Nat) (26982 : Int64)) ∈ tblG := inC_7 87 (by rfl) rfl
set_option maxRecDepth 400000 in
theorem tw_1639 : (Jvm.Cond.constantLong "VillageStoriesModel" (244 : Nat) (1935764837 : Int64)) ∈ tblG := inC_7 88 (by rfl) rfl
set_option maxRecDepth 400000 in
theorem tw_1640 : (Jvm.Cond.constantLong "VillageStoriesModel" (246 : Nat) (491327153000 : Int64)) ∈ tblG := inC_7 89 (by rfl) rfl
set_option maxRecDepth 400000 in
theorem tw_1641 : (Jvm.Cond.constantLong "VillageStoriesModel" (248 : Nat) (1953654117 : Int64)) ∈ tblG := inC_7 90 (by rfl) rfl
set_option maxRecDepth 400000 in
theorem tw_1642 : (Jvm.Cond.methodLink "VillageStoriesModel" (319 : Nat) ({ cls := "VillageStoriesModel", name := "readRelation", desc := "(II)Z" } : Jvm.MethodName)) ∈ tblG := inC_7 91 (by rfl) rfl
set_option maxRecDepth 400000 in
theorem tw_1644 : (Jvm.Cond.instanceMethod ({ cls := "VillageStoriesModel", name := "readRelation", desc := "(II)Z" } : Jvm.MethodName)) ∈ tblG := inC_7 93 (by rfl) rfl
set_option maxRecDepth 400000 in
theorem tw_1645 : (Jvm.Cond.code ({ cls := "VillageStoriesModel", name := "readRelation", desc := "(II)Z" } : Jvm.MethodName) prog_11_method_42_code (6 : Nat) (Option.some Jvm.ClassFile.FieldType.boolean)) ∈ tblG := inC_7 94 (by rfl) rfl
set_option maxRecDepth 400000 in
theorem tw_1646 : (Jvm.Cond.methodLink "VillageStoriesModel" (310 : Nat) ({ cls := "VillageStoriesModel", name := "relOf", desc := "()I" } : Jvm.MethodName)) ∈ tblG := inC_7 95 (by rfl) rfl
set_option maxRecDepth 400000 in
theorem tw_1648 : (Jvm.Cond.instanceMethod ({ cls := "VillageStoriesModel", name := "relOf", desc := "()I" } : Jvm.MethodName)) ∈ tblG := inC_7 97 (by rfl) rfl
set_option maxRecDepth 400000 in
theorem tw_1649 : (Jvm.Cond.code ({ cls := "VillageStoriesModel", name := "relOf", desc := "()I" } : Jvm.MethodName) prog_11_method_34_code (2 : Nat) (Option.some Jvm.ClassFile.FieldType.int)) ∈ tblG := inC_7 98 (by rfl) rfl
set_option maxRecDepth 400000 in
theorem tw_1650 : (Jvm.Cond.constantLong "VillageStoriesModel" (264 : Nat) (114 : Int64)) ∈ tblG := inC_7 99 (by rfl) rfl
set_option maxRecDepth 400000 in
theorem tw_1651 : (Jvm.Cond.constantLong "VillageStoriesModel" (266 : Nat) (115 : Int64)) ∈ tblG := inC_7 100 (by rfl) rfl
set_option maxRecDepth 400000 in
theorem tw_1652 : (Jvm.Cond.constantLong "VillageStoriesModel" (268 : Nat) (116 : Int64)) ∈ tblG := inC_7 101 (by rfl) rfl
set_option maxRecDepth 400000 in
theorem tw_1653 : (Jvm.Cond.constantLong "VillageStoriesModel" (270 : Nat) (117 : Int64)) ∈ tblG := inC_7 102 (by rfl) rfl
set_option maxRecDepth 400000 in
theorem tw_1654 : (Jvm.Cond.methodLink "VillageStoriesModel" (307 : Nat) ({ cls := "VillageStoriesModel", name := "readVar", desc := "(II)I" } : Jvm.MethodName)) ∈ tblG := inC_7 103 (by rfl) rfl
set_option maxRecDepth 400000 in
theorem tw_1656 : (Jvm.Cond.instanceMethod ({ cls := "VillageStoriesModel", name := "readVar", desc := "(II)I" } : Jvm.MethodName)) ∈ tblG := inC_7 105 (by rfl) rfl
set_option maxRecDepth 400000 in
theorem tw_1657 : (Jvm.Cond.code ({ cls := "VillageStoriesModel", name := "readVar", desc := "(II)I" } : Jvm.MethodName) prog_11_method_38_code (4 : Nat) (Option.some Jvm.ClassFile.FieldType.int)) ∈ tblG := inC_7 106 (by rfl) rfl
set_option maxRecDepth 400000 in
theorem tw_1658 : (Jvm.Cond.methodLink "VillageStoriesModel" (281 : Nat) ({ cls := "VillageStoriesModel", name := "varOf", desc := "()I" } : Jvm.MethodName)) ∈ tblG := inC_7 107 (by rfl) rfl
set_option maxRecDepth 400000 in
theorem tw_1660 : (Jvm.Cond.instanceMethod ({ cls := "VillageStoriesModel", name := "varOf", desc := "()I" } : Jvm.MethodName)) ∈ tblG := inC_7 109 (by rfl) rfl
set_option maxRecDepth 400000 in
theorem tw_1661 : (Jvm.Cond.code ({ cls := "VillageStoriesModel", name := "varOf", desc := "()I" } : Jvm.MethodName) prog_11_method_32_code (1 : Nat) (Option.some Jvm.ClassFile.FieldType.int)) ∈ tblG := inC_7 110 (by rfl) rfl
set_option maxRecDepth 400000 in
theorem tw_1662 : (Jvm.Cond.constantLong "VillageStoriesModel" (250 : Nat) (120 : Int64)) ∈ tblG := inC_7 111 (by rfl) rfl
set_option maxRecDepth 400000 in
theorem tw_1663 : (Jvm.Cond.constantLong "VillageStoriesModel" (252 : Nat) (121 : Int64)) ∈ tblG := inC_7 112 (by rfl) rfl
set_option maxRecDepth 400000 in
theorem tw_1664 : (Jvm.Cond.constantLong "VillageStoriesModel" (254 : Nat) (122 : Int64)) ∈ tblG := inC_7 113 (by rfl) rfl
set_option maxRecDepth 400000 in
theorem tw_1665 : (Jvm.Cond.constantLong "VillageStoriesModel" (256 : Nat) (119 : Int64)) ∈ tblG := inC_7 114 (by rfl) rfl
set_option maxRecDepth 400000 in
theorem tw_1666 : (Jvm.Cond.methodLink "VillageStoriesModel" (284 : Nat) ({ cls := "VillageStoriesModel", name := "wrong", desc := "()I" } : Jvm.MethodName)) ∈ tblG := inC_7 115 (by rfl) rfl
set_option maxRecDepth 400000 in
theorem tw_1668 : (Jvm.Cond.instanceMethod ({ cls := "VillageStoriesModel", name := "wrong", desc := "()I" } : Jvm.MethodName)) ∈ tblG := inC_7 117 (by rfl) rfl
set_option maxRecDepth 400000 in
theorem tw_1669 : (Jvm.Cond.code ({ cls := "VillageStoriesModel", name := "wrong", desc := "()I" } : Jvm.MethodName) prog_11_method_35_code (1 : Nat) (Option.some Jvm.ClassFile.FieldType.int)) ∈ tblG := inC_7 118 (by rfl) rfl
set_option maxRecDepth 400000 in
theorem tw_1670 : (Jvm.Cond.methodLink "VillageStoriesModel" (287 : Nat) ({ cls := "VillageStoriesModel", name := "bound", desc := "(II)I" } : Jvm.MethodName)) ∈ tblG := inC_7 119 (by rfl) rfl
set_option maxRecDepth 400000 in
theorem tw_1671 : (Jvm.Cond.static ({ cls := "VillageStoriesModel", name := "bound", desc := "(II)I" } : Jvm.MethodName)) ∈ tblG := inC_7 120 (by rfl) rfl
set_option maxRecDepth 400000 in
theorem tw_1672 : (Jvm.Cond.code ({ cls := "VillageStoriesModel", name := "bound", desc := "(II)I" } : Jvm.MethodName) prog_11_method_37_code (3 : Nat) (Option.some Jvm.ClassFile.FieldType.int)) ∈ tblG := inC_7 121 (by rfl) rfl
set_option maxRecDepth 400000 in
theorem tw_1673 : (Jvm.Cond.methodLink "VillageStoriesModel" (323 : Nat) ({ cls := "VillageStoriesModel", name := "readBinder", desc := "(II)Z" } : Jvm.MethodName)) ∈ tblG := inC_7 122 (by rfl) rfl
set_option maxRecDepth 400000 in
theorem tw_1675 : (Jvm.Cond.instanceMethod ({ cls := "VillageStoriesModel", name := "readBinder", desc := "(II)Z" } : Jvm.MethodName)) ∈ tblG := inC_7 124 (by rfl) rfl
set_option maxRecDepth 400000 in
theorem tw_1676 : (Jvm.Cond.code ({ cls := "VillageStoriesModel", name := "readBinder", desc := "(II)Z" } : Jvm.MethodName) prog_11_method_40_code (5 : Nat) (Option.some Jvm.ClassFile.FieldType.boolean)) ∈ tblG := inC_7 125 (by rfl) rfl
set_option maxRecDepth 400000 in
theorem tw_1677 : (Jvm.Cond.methodLink "VillageStoriesModel" (301 : Nat) ({ cls := "VillageStoriesModel", name := "kindOf", desc := "()I" } : Jvm.MethodName)) ∈ tblG := inC_7 126 (by rfl) rfl
set_option maxRecDepth 400000 in
theorem tw_1679 : (Jvm.Cond.instanceMethod ({ cls := "VillageStoriesModel", name := "kindOf", desc := "()I" } : Jvm.MethodName)) ∈ tblG := inC_7 128 (by rfl) rfl
set_option maxRecDepth 400000 in
theorem tw_1680 : (Jvm.Cond.code ({ cls := "VillageStoriesModel", name := "kindOf", desc := "()I" } : Jvm.MethodName) prog_11_method_33_code (1 : Nat) (Option.some Jvm.ClassFile.FieldType.int)) ∈ tblG := inC_7 129 (by rfl) rfl
set_option maxRecDepth 400000 in
theorem tw_1681 : (Jvm.Cond.constantLong "VillageStoriesModel" (258 : Nat) (7168366 : Int64)) ∈ tblG := inC_7 130 (by rfl) rfl
set_option maxRecDepth 400000 in
theorem tw_1682 : (Jvm.Cond.constantLong "VillageStoriesModel" (260 : Nat) (448546567013 : Int64)) ∈ tblG := inC_7 131 (by rfl) rfl
set_option maxRecDepth 400000 in
theorem tw_1683 : (Jvm.Cond.constantLong "VillageStoriesModel" (262 : Nat) (6578553 : Int64)) ∈ tblG := inC_7 132 (by rfl) rfl
set_option maxRecDepth 400000 in
theorem tw_1684 : (Jvm.Cond.methodLink "VillageStoriesModel" (326 : Nat) ({ cls := "VillageStoriesModel", name := "readSame", desc := "(II)Z" } : Jvm.MethodName)) ∈ tblG := inC_7 133 (by rfl) rfl
set_option maxRecDepth 400000 in
theorem tw_1686 : (Jvm.Cond.instanceMethod ({ cls := "VillageStoriesModel", name := "readSame", desc := "(II)Z" } : Jvm.MethodName)) ∈ tblG := inC_7 135 (by rfl) rfl
set_option maxRecDepth 400000 in
theorem tw_1687 : (Jvm.Cond.code ({ cls := "VillageStoriesModel", name := "readSame", desc := "(II)Z" } : Jvm.MethodName) prog_11_method_41_code (3 : Nat) (Option.some Jvm.ClassFile.FieldType.boolean)) ∈ tblG := inC_7 136 (by rfl) rfl
set_option maxRecDepth 400000 in
theorem tw_1688 : (Jvm.Cond.methodLink "VillageStoriesModel" (335 : Nat) ({ cls := "VillageStoriesModel", name := "keepText", desc := "(I)V" } : Jvm.MethodName)) ∈ tblG := inC_7 137 (by rfl) rfl
set_option maxRecDepth 400000 in
theorem tw_1690 : (Jvm.Cond.instanceMethod ({ cls := "VillageStoriesModel", name := "keepText", desc := "(I)V" } : Jvm.MethodName)) ∈ tblG := inC_7 139 (by rfl) rfl
set_option maxRecDepth 400000 in
theorem tw_1691 : (Jvm.Cond.code ({ cls := "VillageStoriesModel", name := "keepText", desc := "(I)V" } : Jvm.MethodName) prog_11_method_45_code (3 : Nat) (Option.none : Option Jvm.ClassFile.FieldType)) ∈ tblG := inC_7 140 (by rfl) rfl
set_option maxRecDepth 400000 in
theorem tw_1692 : (Jvm.Cond.methodLink "VillageStoriesLaw" (68 : Nat) ({ cls := "VillageStoriesModel", name := "guess", desc := "()I" } : Jvm.MethodName)) ∈ tblG := inC_7 141 (by rfl) rfl
set_option maxRecDepth 400000 in
theorem tw_1693 : (Jvm.Cond.instanceMethod ({ cls := "VillageStoriesModel", name := "guess", desc := "()I" } : Jvm.MethodName)) ∈ tblG := inC_7 142 (by rfl) rfl
set_option maxRecDepth 400000 in
theorem tw_1694 : (Jvm.Cond.selects "VillageStoriesModel" ({ cls := "VillageStoriesModel", name := "guess", desc := "()I" } : Jvm.MethodName) ({ cls := "VillageStoriesModel", name := "guess", desc := "()I" } : Jvm.MethodName)) ∈ tblG := inC_7 143 (by rfl) rfl
set_option maxRecDepth 400000 in
theorem tw_1695 : (Jvm.Cond.code ({ cls := "VillageStoriesModel", name := "guess", desc := "()I" } : Jvm.MethodName) prog_11_method_47_code (1 : Nat) (Option.some Jvm.ClassFile.FieldType.int)) ∈ tblG := inC_7 144 (by rfl) rfl
set_option maxRecDepth 400000 in
theorem tw_1696 : (Jvm.Cond.methodLink "VillageStoriesLaw" (72 : Nat) ({ cls := "VillageStoriesModel", name := "fault", desc := "(I)I" } : Jvm.MethodName)) ∈ tblG := inC_7 145 (by rfl) rfl
set_option maxRecDepth 400000 in
theorem tw_1697 : (Jvm.Cond.instanceMethod ({ cls := "VillageStoriesModel", name := "fault", desc := "(I)I" } : Jvm.MethodName)) ∈ tblG := inC_7 146 (by rfl) rfl
set_option maxRecDepth 400000 in
theorem tw_1698 : (Jvm.Cond.selects "VillageStoriesModel" ({ cls := "VillageStoriesModel", name := "fault", desc := "(I)I" } : Jvm.MethodName) ({ cls := "VillageStoriesModel", name := "fault", desc := "(I)I" } : Jvm.MethodName)) ∈ tblG := inC_7 147 (by rfl) rfl
set_option maxRecDepth 400000 in
theorem tw_1699 : (Jvm.Cond.code ({ cls := "VillageStoriesModel", name := "fault", desc := "(I)I" } : Jvm.MethodName) prog_11_method_48_code (2 : Nat) (Option.some Jvm.ClassFile.FieldType.int)) ∈ tblG := inC_7 148 (by rfl) rfl
set_option maxRecDepth 400000 in
theorem tw_1700 : (Jvm.Cond.methodLink "VillageStoriesLaw" (76 : Nat) ({ cls := "VillageStoriesModel", name := "strike", desc := "(I)Z" } : Jvm.MethodName)) ∈ tblG := inC_7 149 (by rfl) rfl
set_option maxRecDepth 400000 in
theorem tw_1701 : (Jvm.Cond.instanceMethod ({ cls := "VillageStoriesModel", name := "strike", desc := "(I)Z" } : Jvm.MethodName)) ∈ tblG := inC_7 150 (by rfl) rfl
set_option maxRecDepth 400000 in
theorem tw_1702 : (Jvm.Cond.selects "VillageStoriesModel" ({ cls := "VillageStoriesModel", name := "strike", desc := "(I)Z" } : Jvm.MethodName) ({ cls := "VillageStoriesModel", name := "strike", desc := "(I)Z" } : Jvm.MethodName)) ∈ tblG := inC_7 151 (by rfl) rfl
set_option maxRecDepth 400000 in
theorem tw_1703 : (Jvm.Cond.code ({ cls := "VillageStoriesModel", name := "strike", desc := "(I)Z" } : Jvm.MethodName) prog_11_method_49_code (2 : Nat) (Option.some Jvm.ClassFile.FieldType.boolean)) ∈ tblG := inC_7 152 (by rfl) rfl
set_option maxRecDepth 400000 in
theorem tw_1704 : (Jvm.Cond.methodLink "VillageStoriesLaw" (80 : Nat) ({ cls := "VillageStoriesModel", name := "day", desc := "(I)Z" } : Jvm.MethodName)) ∈ tblG := inC_7 153 (by rfl) rfl
set_option maxRecDepth 400000 in
theorem tw_1705 : (Jvm.Cond.instanceMethod ({ cls := "VillageStoriesModel", name := "day", desc := "(I)Z" } : Jvm.MethodName)) ∈ tblG := inC_7 154 (by rfl) rfl
set_option maxRecDepth 400000 in
theorem tw_1706 : (Jvm.Cond.selects "VillageStoriesModel" ({ cls := "VillageStoriesModel", name := "day", desc := "(I)Z" } : Jvm.MethodName) ({ cls := "VillageStoriesModel", name := "day", desc := "(I)Z" } : Jvm.MethodName)) ∈ tblG := inC_7 155 (by rfl) rfl
set_option maxRecDepth 400000 in
theorem tw_1707 : (Jvm.Cond.code ({ cls := "VillageStoriesModel", name := "day", desc := "(I)Z" } : Jvm.MethodName) prog_11_method_50_code (2 : Nat) (Option.some Jvm.ClassFile.FieldType.boolean)) ∈ tblG := inC_7 156 (by rfl) rfl
set_option maxRecDepth 400000 in
theorem tw_1708 : (Jvm.Cond.methodLink "VillageStoriesLaw" (84 : Nat) ({ cls := "VillageStoriesModel", name := "view", desc := "(I)Z" } : Jvm.MethodName)) ∈ tblG := inC_7 157 (by rfl) rfl
set_option maxRecDepth 400000 in
theorem tw_1709 : (Jvm.Cond.instanceMethod ({ cls := "VillageStoriesModel", name := "view", desc := "(I)Z" } : Jvm.MethodName)) ∈ tblG := inC_7 158 (by rfl) rfl
set_option maxRecDepth 400000 in
theorem tw_1710 : (Jvm.Cond.selects "VillageStoriesModel" ({ cls := "VillageStoriesModel", name := "view", desc := "(I)Z" } : Jvm.MethodName) ({ cls := "VillageStoriesModel", name := "view", desc := "(I)Z" } : Jvm.MethodName)) ∈ tblG := inC_7 159 (by rfl) rfl
set_option maxRecDepth 400000 in
theorem tw_1711 : (Jvm.Cond.code ({ cls := "VillageStoriesModel", name := "view", desc := "(I)Z" } : Jvm.MethodName) prog_11_method_51_code (2 : Nat) (Option.some Jvm.ClassFile.FieldType.boolean)) ∈ tblG := inC_7 160 (by rfl) rfl
set_option maxRecDepth 400000 in
theorem tw_1712 : (Jvm.Cond.methodLink "VillageStoriesLaw" (88 : Nat) ({ cls := "VillageStoriesModel", name := "so", desc := "(I)I" } : Jvm.MethodName)) ∈ tblG := inC_7 161 (by rfl) rfl
set_option maxRecDepth 400000 in
theorem tw_1713 : (Jvm.Cond.instanceMethod ({ cls := "VillageStoriesModel", name := "so", desc := "(I)I" } : Jvm.MethodName)) ∈ tblG := inC_7 162 (by rfl) rfl
set_option maxRecDepth 400000 in
theorem tw_1714 : (Jvm.Cond.selects "VillageStoriesModel" ({ cls := "VillageStoriesModel", name := "so", desc := "(I)I" } : Jvm.MethodName) ({ cls := "VillageStoriesModel", name := "so", desc := "(I)I" } : Jvm.MethodName)) ∈ tblG := inC_7 163 (by rfl) rfl
set_option maxRecDepth 400000 in
theorem tw_1715 : (Jvm.Cond.code ({ cls := "VillageStoriesModel", name := "so", desc := "(I)I" } : Jvm.MethodName) prog_11_method_62_code (3 : Nat) (Option.some Jvm.ClassFile.FieldType.int)) ∈ tblG := inC_7 164 (by rfl) rfl
set_option maxRecDepth 400000 in
theorem tw_1716 : (Jvm.Cond.methodLink "VillageStoriesModel" (368 : Nat) ({ cls := "VillageStoriesModel", name := "bringWorld", desc := "()V" } : Jvm.MethodName)) ∈ tblG := inC_7 165 (by rfl) rfl
set_option maxRecDepth 400000 in
theorem tw_1718 : (Jvm.Cond.instanceMethod ({ cls := "VillageStoriesModel", name := "bringWorld", desc := "()V" } : Jvm.MethodName)) ∈ tblG := inC_7 167 (by rfl) rfl
set_option maxRecDepth 400000 in
theorem tw_1719 : (Jvm.Cond.code ({ cls := "VillageStoriesModel", name := "bringWorld", desc := "()V" } : Jvm.MethodName) prog_11_method_9_code (2 : Nat) (Option.none : Option Jvm.ClassFile.FieldType)) ∈ tblG := inC_7 168 (by rfl) rfl
set_option maxRecDepth 400000 in
theorem tw_1720 : (Jvm.Cond.methodLink "VillageStoriesModel" (371 : Nat) ({ cls := "VillageStoriesModel", name := "means", desc := "(I)Z" } : Jvm.MethodName)) ∈ tblG := inC_7 169 (by rfl) rfl
set_option maxRecDepth 400000 in
theorem tw_1722 : (Jvm.Cond.instanceMethod ({ cls := "VillageStoriesModel", name := "means", desc := "(I)Z" } : Jvm.MethodName)) ∈ tblG := inC_7 171 (by rfl) rfl
set_option maxRecDepth 400000 in
theorem tw_1723 : (Jvm.Cond.code ({ cls := "VillageStoriesModel", name := "means", desc := "(I)Z" } : Jvm.MethodName) prog_11_method_61_code (2 : Nat) (Option.some Jvm.ClassFile.FieldType.boolean)) ∈ tblG := inC_7 172 (by rfl) rfl
set_option maxRecDepth 400000 in
theorem tw_1724 : (Jvm.Cond.methodLink "VillageStoriesModel" (365 : Nat) ({ cls := "VillageStoriesModel", name := "work", desc := "(II)V" } : Jvm.MethodName)) ∈ tblG := inC_7 173 (by rfl) rfl
set_option maxRecDepth 400000 in
theorem tw_1726 : (Jvm.Cond.instanceMethod ({ cls := "VillageStoriesModel", name := "work", desc := "(II)V" } : Jvm.MethodName)) ∈ tblG := inC_7 175 (by rfl) rfl
set_option maxRecDepth 400000 in
theorem tw_1727 : (Jvm.Cond.code ({ cls := "VillageStoriesModel", name := "work", desc := "(II)V" } : Jvm.MethodName) prog_11_method_60_code (5 : Nat) (Option.none : Option Jvm.ClassFile.FieldType)) ∈ tblG := inC_7 176 (by rfl) rfl
set_option maxRecDepth 400000 in
theorem tw_1728 : (Jvm.Cond.methodLink "VillageStoriesModel" (356 : Nat) ({ cls := "VillageStoriesModel", name := "leaf", desc := "(I)V" } : Jvm.MethodName)) ∈ tblG := inC_7 177 (by rfl) rfl
set_option maxRecDepth 400000 in
theorem tw_1730 : (Jvm.Cond.instanceMethod ({ cls := "VillageStoriesModel", name := "leaf", desc := "(I)V" } : Jvm.MethodName)) ∈ tblG := inC_7 179 (by rfl) rfl
set_option maxRecDepth 400000 in
theorem tw_1731 : (Jvm.Cond.code ({ cls := "VillageStoriesModel", name := "leaf", desc := "(I)V" } : Jvm.MethodName) prog_11_method_57_code (6 : Nat) (Option.none : Option Jvm.ClassFile.FieldType)) ∈ tblG := inC_7 180 (by rfl) rfl
set_option maxRecDepth 400000 in
theorem tw_1732 : (Jvm.Cond.methodLink "VillageStoriesModel" (347 : Nat) ({ cls := "VillageStoriesModel", name := "isTree", desc := "(I)Z" } : Jvm.MethodName)) ∈ tblG := inC_7 181 (by rfl) rfl
set_option maxRecDepth 400000 in
theorem tw_1734 : (Jvm.Cond.instanceMethod ({ cls := "VillageStoriesModel", name := "isTree", desc := "(I)Z" } : Jvm.MethodName)) ∈ tblG := inC_7 183 (by rfl) rfl
set_option maxRecDepth 400000 in
theorem tw_1735 : (Jvm.Cond.code ({ cls := "VillageStoriesModel", name := "isTree", desc := "(I)Z" } : Jvm.MethodName) prog_11_method_56_code (6 : Nat) (Option.some Jvm.ClassFile.FieldType.boolean)) ∈ tblG := inC_7 184 (by rfl) rfl
set_option maxRecDepth 400000 in
theorem tw_1736 : (Jvm.Cond.methodLink "VillageStoriesModel" (344 : Nat) ({ cls := "VillageStoriesModel", name := "findJoined", desc := "(I)V" } : Jvm.MethodName)) ∈ tblG := inC_7 185 (by rfl) rfl
set_option maxRecDepth 400000 in
theorem tw_1738 : (Jvm.Cond.instanceMethod ({ cls := "VillageStoriesModel", name := "findJoined", desc := "(I)V" } : Jvm.MethodName)) ∈ tblG := inC_7 187 (by rfl) rfl
set_option maxRecDepth 400000 in
theorem tw_1739 : (Jvm.Cond.code ({ cls := "VillageStoriesModel", name := "findJoined", desc := "(I)V" } : Jvm.MethodName) prog_11_method_55_code (4 : Nat) (Option.none : Option Jvm.ClassFile.FieldType)) ∈ tblG := inC_7 188 (by rfl) rfl
set_option maxRecDepth 400000 in
theorem tw_1740 : (Jvm.Cond.methodLink "VillageStoriesModel" (341 : Nat) ({ cls := "VillageStoriesModel", name := "isSo", desc := "(III)Z" } : Jvm.MethodName)) ∈ tblG := inC_7 189 (by rfl) rfl
set_option maxRecDepth 400000 in
theorem tw_1742 : (Jvm.Cond.instanceMethod ({ cls := "VillageStoriesModel", name := "isSo", desc := "(III)Z" } : Jvm.MethodName)) ∈ tblG := inC_7 191 (by rfl) rfl
set_option maxRecDepth 400000 in
theorem tw_1743 : (Jvm.Cond.code ({ cls := "VillageStoriesModel", name := "isSo", desc := "(III)Z" } : Jvm.MethodName) prog_11_method_12_code (5 : Nat) (Option.some Jvm.ClassFile.FieldType.boolean)) ∈ tblG := inC_7 192 (by rfl) rfl
set_option maxRecDepth 400000 in
theorem tw_1744 : (Jvm.Cond.methodLink "VillageStoriesModel" (350 : Nat) ({ cls := "VillageStoriesModel", name := "valueIn", desc := "(II)I" } : Jvm.MethodName)) ∈ tblG := inC_7 193 (by rfl) rfl
set_option maxRecDepth 400000 in
theorem tw_1745 : (Jvm.Cond.static ({ cls := "VillageStoriesModel", name := "valueIn", desc := "(II)I" } : Jvm.MethodName)) ∈ tblG := inC_7 194 (by rfl) rfl
set_option maxRecDepth 400000 in
theorem tw_1746 : (Jvm.Cond.code ({ cls := "VillageStoriesModel", name := "valueIn", desc := "(II)I" } : Jvm.MethodName) prog_11_method_54_code (2 : Nat) (Option.some Jvm.ClassFile.FieldType.int)) ∈ tblG := inC_7 195 (by rfl) rfl
set_option maxRecDepth 400000 in
theorem tw_1747 : (Jvm.Cond.methodLink "VillageStoriesModel" (338 : Nat) ({ cls := "VillageStoriesModel", name := "unit", desc := "(I)I" } : Jvm.MethodName)) ∈ tblG := inC_7 196 (by rfl) rfl
set_option maxRecDepth 400000 in
theorem tw_1748 : (Jvm.Cond.static ({ cls := "VillageStoriesModel", name := "unit", desc := "(I)I" } : Jvm.MethodName)) ∈ tblG := inC_7 197 (by rfl) rfl
set_option maxRecDepth 400000 in
theorem tw_1749 : (Jvm.Cond.code ({ cls := "VillageStoriesModel", name := "unit", desc := "(I)I" } : Jvm.MethodName) prog_11_method_53_code (1 : Nat) (Option.some Jvm.ClassFile.FieldType.int)) ∈ tblG := inC_7 198 (by rfl) rfl
set_option maxRecDepth 400000 in
theorem tw_1750 : (Jvm.Cond.methodLink "VillageStoriesModel" (359 : Nat) ({ cls := "VillageStoriesModel", name := "bind", desc := "(I)V" } : Jvm.MethodName)) ∈ tblG := inC_7 199 (by rfl) rfl
set_option maxRecDepth 400000 in
theorem tw_1752 : (Jvm.Cond.instanceMethod ({ cls := "VillageStoriesModel", name := "bind", desc := "(I)V" } : Jvm.MethodName)) ∈ tblG := inC_7 201 (by rfl) rfl
set_option maxRecDepth 400000 in
theorem tw_1753 : (Jvm.Cond.code ({ cls := "VillageStoriesModel", name := "bind", desc := "(I)V" } : Jvm.MethodName) prog_11_method_58_code (9 : Nat) (Option.none : Option Jvm.ClassFile.FieldType)) ∈ tblG := inC_7 202 (by rfl) rfl
set_option maxRecDepth 400000 in
theorem tw_1754 : (Jvm.Cond.methodLink "VillageStoriesModel" (362 : Nat) ({ cls := "VillageStoriesModel", name := "join", desc := "(I)V" } : Jvm.MethodName)) ∈ tblG := inC_7 203 (by rfl) rfl
set_option maxRecDepth 400000 in
theorem tw_1756 : (Jvm.Cond.instanceMethod ({ cls := "VillageStoriesModel", name := "join", desc := "(I)V" } : Jvm.MethodName)) ∈ tblG := inC_7 205 (by rfl) rfl
set_option maxRecDepth 400000 in
theorem tw_1757 : (Jvm.Cond.code ({ cls := "VillageStoriesModel", name := "join", desc := "(I)V" } : Jvm.MethodName) prog_11_method_59_code (7 : Nat) (Option.none : Option Jvm.ClassFile.FieldType)) ∈ tblG := inC_7 206 (by rfl) rfl
set_option maxRecDepth 400000 in
theorem tw_1758 : (Jvm.Cond.methodLink "VillageStoriesLaw" (92 : Nat) ({ cls := "VillageStoriesModel", name := "breaks", desc := "(II)I" } : Jvm.MethodName)) ∈ tblG := inC_7 207 (by rfl) rfl
set_option maxRecDepth 400000 in
theorem tw_1759 : (Jvm.Cond.instanceMethod ({ cls := "VillageStoriesModel", name := "breaks", desc := "(II)I" } : Jvm.MethodName)) ∈ tblG := inC_7 208 (by rfl) rfl
set_option maxRecDepth 400000 in
theorem tw_1760 : (Jvm.Cond.selects "VillageStoriesModel" ({ cls := "VillageStoriesModel", name := "breaks", desc := "(II)I" } : Jvm.MethodName) ({ cls := "VillageStoriesModel", name := "breaks", desc := "(II)I" } : Jvm.MethodName)) ∈ tblG := inC_7 209 (by rfl) rfl
set_option maxRecDepth 400000 in
theorem tw_1761 : (Jvm.Cond.code ({ cls := "VillageStoriesModel", name := "breaks", desc := "(II)I" } : Jvm.MethodName) prog_11_method_63_code (14 : Nat) (Option.some Jvm.ClassFile.FieldType.int)) ∈ tblG := inC_7 210 (by rfl) rfl
set_option maxRecDepth 400000 in
theorem tw_1762 : (Jvm.Cond.methodLink "VillageStoriesLaw" (96 : Nat) ({ cls := "VillageStoriesModel", name := "worlds", desc := "()I" } : Jvm.MethodName)) ∈ tblG := inC_7 211 (by rfl) rfl
set_option maxRecDepth 400000 in
theorem tw_1763 : (Jvm.Cond.instanceMethod ({ cls := "VillageStoriesModel", name := "worlds", desc := "()I" } : Jvm.MethodName)) ∈ tblG := inC_7 212 (by rfl) rfl
set_option maxRecDepth 400000 in
theorem tw_1764 : (Jvm.Cond.selects "VillageStoriesModel" ({ cls := "VillageStoriesModel", name := "worlds", desc := "()I" } : Jvm.MethodName) ({ cls := "VillageStoriesModel", name := "worlds", desc := "()I" } : Jvm.MethodName)) ∈ tblG := inC_7 213 (by rfl) rfl
set_option maxRecDepth 400000 in
theorem tw_1765 : (Jvm.Cond.code ({ cls := "VillageStoriesModel", name := "worlds", desc := "()I" } : Jvm.MethodName) prog_11_method_79_code (3 : Nat) (Option.some Jvm.ClassFile.FieldType.int)) ∈ tblG := inC_7 214 (by rfl) rfl
set_option maxRecDepth 400000 in
theorem tw_1766 : (Jvm.Cond.methodLink "VillageStoriesModel" (410 : Nat) ({ cls := "VillageStoriesModel", name := "prepare", desc := "()V" } : Jvm.MethodName)) ∈ tblG := inC_7 215 (by rfl) rfl
set_option maxRecDepth 400000 in
theorem tw_1768 : (Jvm.Cond.instanceMethod ({ cls := "VillageStoriesModel", name := "prepare", desc := "()V" } : Jvm.MethodName)) ∈ tblG := inC_7 217 (by rfl) rfl
set_option maxRecDepth 400000 in
theorem tw_1769 : (Jvm.Cond.code ({ cls := "VillageStoriesModel", name := "prepare", desc := "()V" } : Jvm.MethodName) prog_11_method_69_code (1 : Nat) (Option.none : Option Jvm.ClassFile.FieldType)) ∈ tblG := inC_7 218 (by rfl) rfl
set_option maxRecDepth 400000 in
theorem tw_1770 : (Jvm.Cond.methodLink "VillageStoriesModel" (380 : Nat) ({ cls := "VillageStoriesModel", name := "told", desc := "()I" } : Jvm.MethodName)) ∈ tblG := inC_7 219 (by rfl) rfl
set_option maxRecDepth 400000 in
theorem tw_1772 : (Jvm.Cond.instanceMethod ({ cls := "VillageStoriesModel", name := "told", desc := "()I" } : Jvm.MethodName)) ∈ tblG := inC_7 221 (by rfl) rfl
set_option maxRecDepth 400000 in
theorem tw_1773 : (Jvm.Cond.code ({ cls := "VillageStoriesModel", name := "told", desc := "()I" } : Jvm.MethodName) prog_11_method_52_code (4 : Nat) (Option.some Jvm.ClassFile.FieldType.int)) ∈ tblG := inC_7 222 (by rfl) rfl
set_option maxRecDepth 400000 in
theorem tw_1774 : (Jvm.Cond.methodLink "VillageStoriesModel" (386 : Nat) ({ cls := "VillageStoriesModel", name := "findKnown", desc := "()V" } : Jvm.MethodName)) ∈ tblG := inC_7 223 (by rfl) rfl
set_option maxRecDepth 400000 in
theorem tw_1776 : (Jvm.Cond.instanceMethod ({ cls := "VillageStoriesModel", name := "findKnown", desc := "()V" } : Jvm.MethodName)) ∈ tblG := inC_7 225 (by rfl) rfl
set_option maxRecDepth 400000 in
theorem tw_1777 : (Jvm.Cond.code ({ cls := "VillageStoriesModel", name := "findKnown", desc := "()V" } : Jvm.MethodName) prog_11_method_68_code (7 : Nat) (Option.none : Option Jvm.ClassFile.FieldType)) ∈ tblG := inC_7 226 (by rfl) rfl
set_option maxRecDepth 400000 in
theorem tw_1778 : (Jvm.Cond.methodLink "VillageStoriesModel" (404 : Nat) ({ cls := "VillageStoriesModel", name := "isWorld", desc := "(I)Z" } : Jvm.MethodName)) ∈ tblG := inC_7 227 (by rfl) rfl
set_option maxRecDepth 400000 in
theorem tw_1780 : (Jvm.Cond.instanceMethod ({ cls := "VillageStoriesModel", name := "isWorld", desc := "(I)Z" } : Jvm.MethodName)) ∈ tblG := inC_7 229 (by rfl) rfl
set_option maxRecDepth 400000 in
theorem tw_1781 : (Jvm.Cond.code ({ cls := "VillageStoriesModel", name := "isWorld", desc := "(I)Z" } : Jvm.MethodName) prog_11_method_71_code (3 : Nat) (Option.some Jvm.ClassFile.FieldType.boolean)) ∈ tblG := inC_7 230 (by rfl) rfl
set_option maxRecDepth 400000 in
theorem tw_1782 : (Jvm.Cond.methodLink "VillageStoriesModel" (389 : Nat) ({ cls := "VillageStoriesModel", name := "isAsKnown", desc := "(I)Z" } : Jvm.MethodName)) ∈ tblG := inC_7 231 (by rfl) rfl
set_option maxRecDepth 400000 in
theorem tw_1784 : (Jvm.Cond.instanceMethod ({ cls := "VillageStoriesModel", name := "isAsKnown", desc := "(I)Z" } : Jvm.MethodName)) ∈ tblG := inC_7 233 (by rfl) rfl
set_option maxRecDepth 400000 in
theorem tw_1785 : (Jvm.Cond.code ({ cls := "VillageStoriesModel", name := "isAsKnown", desc := "(I)Z" } : Jvm.MethodName) prog_11_method_70_code (2 : Nat) (Option.some Jvm.ClassFile.FieldType.boolean)) ∈ tblG := inC_7 234 (by rfl) rfl
set_option maxRecDepth 400000 in
theorem tw_1786 : (Jvm.Cond.methodLink "VillageStoriesModel" (392 : Nat) ({ cls := "VillageStoriesModel", name := "layWorld", desc := "(I)V" } : Jvm.MethodName)) ∈ tblG := inC_7 235 (by rfl) rfl
set_option maxRecDepth 400000 in
theorem tw_1788 : (Jvm.Cond.instanceMethod ({ cls := "VillageStoriesModel", name := "layWorld", desc := "(I)V" } : Jvm.MethodName)) ∈ tblG := inC_7 237 (by rfl) rfl
set_option maxRecDepth 400000 in
theorem tw_1789 : (Jvm.Cond.code ({ cls := "VillageStoriesModel", name := "layWorld", desc := "(I)V" } : Jvm.MethodName) prog_11_method_64_code (4 : Nat) (Option.none : Option Jvm.ClassFile.FieldType)) ∈ tblG := inC_7 238 (by rfl) rfl
set_option maxRecDepth 400000 in
theorem tw_1790 : (Jvm.Cond.methodLink "VillageStoriesLaw" (100 : Nat) ({ cls := "VillageStoriesModel", name := "forms", desc := "()I" } : Jvm.MethodName)) ∈ tblG := inC_7 239 (by rfl) rfl
set_option maxRecDepth 400000 in
theorem tw_1791 : (Jvm.Cond.instanceMethod ({ cls := "VillageStoriesModel", name := "forms", desc := "()I" } : Jvm.MethodName)) ∈ tblG := inC_8 0 (by rfl) rfl
set_option maxRecDepth 400000 in
theorem tw_1792 : (Jvm.Cond.selects "VillageStoriesModel" ({ cls := "VillageStoriesModel", name := "forms", desc := "()I" } : Jvm.MethodName) ({ cls := "VillageStoriesModel", name := "forms", desc := "()I" } : Jvm.MethodName)) ∈ tblG := inC_8 1 (by rfl) rfl
set_option maxRecDepth 400000 in
theorem tw_1793 : (Jvm.Cond.code ({ cls := "VillageStoriesModel", name := "forms", desc := "()I" } : Jvm.MethodName) prog_11_method_80_code (3 : Nat) (Option.some Jvm.ClassFile.FieldType.int)) ∈ tblG := inC_8 2 (by rfl) rfl
set_option maxRecDepth 400000 in
theorem tw_1794 : (Jvm.Cond.methodLink "VillageStoriesModel" (413 : Nat) ({ cls := "VillageStoriesModel", name := "isForm", desc := "(I)Z" } : Jvm.MethodName)) ∈ tblG := inC_8 3 (by rfl) rfl
set_option maxRecDepth 400000 in
theorem tw_1796 : (Jvm.Cond.instanceMethod ({ cls := "VillageStoriesModel", name := "isForm", desc := "(I)Z" } : Jvm.MethodName)) ∈ tblG := inC_8 5 (by rfl) rfl
set_option maxRecDepth 400000 in
theorem tw_1797 : (Jvm.Cond.code ({ cls := "VillageStoriesModel", name := "isForm", desc := "(I)Z" } : Jvm.MethodName) prog_11_method_78_code (2 : Nat) (Option.some Jvm.ClassFile.FieldType.boolean)) ∈ tblG := inC_8 6 (by rfl) rfl
set_option maxRecDepth 400000 in
theorem tw_1798 : (Jvm.Cond.methodLink "VillageStoriesModel" (407 : Nat) ({ cls := "VillageStoriesModel", name := "leastImage", desc := "()I" } : Jvm.MethodName)) ∈ tblG := inC_8 7 (by rfl) rfl
set_option maxRecDepth 400000 in
theorem tw_1800 : (Jvm.Cond.instanceMethod ({ cls := "VillageStoriesModel", name := "leastImage", desc := "()I" } : Jvm.MethodName)) ∈ tblG := inC_8 9 (by rfl) rfl
set_option maxRecDepth 400000 in
theorem tw_1801 : (Jvm.Cond.code ({ cls := "VillageStoriesModel", name := "leastImage", desc := "()I" } : Jvm.MethodName) prog_11_method_77_code (4 : Nat) (Option.some Jvm.ClassFile.FieldType.int)) ∈ tblG := inC_8 10 (by rfl) rfl
set_option maxRecDepth 400000 in
theorem tw_1802 : (Jvm.Cond.methodLink "VillageStoriesLaw" (104 : Nat) ({ cls := "VillageStoriesModel", name := "form", desc := "(I)Z" } : Jvm.MethodName)) ∈ tblG := inC_8 11 (by rfl) rfl
set_option maxRecDepth 400000 in
theorem tw_1803 : (Jvm.Cond.instanceMethod ({ cls := "VillageStoriesModel", name := "form", desc := "(I)Z" } : Jvm.MethodName)) ∈ tblG := inC_8 12 (by rfl) rfl
set_option maxRecDepth 400000 in
theorem tw_1804 : (Jvm.Cond.selects "VillageStoriesModel" ({ cls := "VillageStoriesModel", name := "form", desc := "(I)Z" } : Jvm.MethodName) ({ cls := "VillageStoriesModel", name := "form", desc := "(I)Z" } : Jvm.MethodName)) ∈ tblG := inC_8 13 (by rfl) rfl
set_option maxRecDepth 400000 in
theorem tw_1805 : (Jvm.Cond.code ({ cls := "VillageStoriesModel", name := "form", desc := "(I)Z" } : Jvm.MethodName) prog_11_method_81_code (4 : Nat) (Option.some Jvm.ClassFile.FieldType.boolean)) ∈ tblG := inC_8 14 (by rfl) rfl
set_option maxRecDepth 400000 in
theorem tw_1806 : (Jvm.Cond.methodLink "VillageStoriesModel" (416 : Nat) ({ cls := "VillageStoriesModel", name := "takeWorld", desc := "(I)V" } : Jvm.MethodName)) ∈ tblG := inC_8 15 (by rfl) rfl
set_option maxRecDepth 400000 in
theorem tw_1808 : (Jvm.Cond.instanceMethod ({ cls := "VillageStoriesModel", name := "takeWorld", desc := "(I)V" } : Jvm.MethodName)) ∈ tblG := inC_8 17 (by rfl) rfl
set_option maxRecDepth 400000 in
theorem tw_1809 : (Jvm.Cond.code ({ cls := "VillageStoriesModel", name := "takeWorld", desc := "(I)V" } : Jvm.MethodName) prog_11_method_66_code (4 : Nat) (Option.none : Option Jvm.ClassFile.FieldType)) ∈ tblG := inC_8 18 (by rfl) rfl
set_option maxRecDepth 400000 in
theorem tw_1810 : (Jvm.Cond.methodLink "VillageStoriesLaw" (109 : Nat) ({ cls := "VillageStoriesModel", name := "name", desc := "()Z" } : Jvm.MethodName)) ∈ tblG := inC_8 19 (by rfl) rfl
set_option maxRecDepth 400000 in
theorem tw_1811 : (Jvm.Cond.instanceMethod ({ cls := "VillageStoriesModel", name := "name", desc := "()Z" } : Jvm.MethodName)) ∈ tblG := inC_8 20 (by rfl) rfl
set_option maxRecDepth 400000 in
theorem tw_1812 : (Jvm.Cond.selects "VillageStoriesModel" ({ cls := "VillageStoriesModel", name := "name", desc := "()Z" } : Jvm.MethodName) ({ cls := "VillageStoriesModel", name := "name", desc := "()Z" } : Jvm.MethodName)) ∈ tblG := inC_8 21 (by rfl) rfl
set_option maxRecDepth 400000 in
theorem tw_1813 : (Jvm.Cond.code ({ cls := "VillageStoriesModel", name := "name", desc := "()Z" } : Jvm.MethodName) prog_11_method_82_code (3 : Nat) (Option.some Jvm.ClassFile.FieldType.boolean)) ∈ tblG := inC_8 22 (by rfl) rfl
set_option maxRecDepth 400000 in
theorem tw_1814 : (Jvm.Cond.methodLink "VillageStoriesLaw" (113 : Nat) ({ cls := "VillageStoriesModel", name := "least", desc := "(I)I" } : Jvm.MethodName)) ∈ tblG := inC_8 23 (by rfl) rfl
set_option maxRecDepth 400000 in
theorem tw_1815 : (Jvm.Cond.instanceMethod ({ cls := "VillageStoriesModel", name := "least", desc := "(I)I" } : Jvm.MethodName)) ∈ tblG := inC_8 24 (by rfl) rfl
set_option maxRecDepth 400000 in
theorem tw_1816 : (Jvm.Cond.selects "VillageStoriesModel" ({ cls := "VillageStoriesModel", name := "least", desc := "(I)I" } : Jvm.MethodName) ({ cls := "VillageStoriesModel", name := "least", desc := "(I)I" } : Jvm.MethodName)) ∈ tblG := inC_8 25 (by rfl) rfl
set_option maxRecDepth 400000 in
theorem tw_1817 : (Jvm.Cond.code ({ cls := "VillageStoriesModel", name := "least", desc := "(I)I" } : Jvm.MethodName) prog_11_method_84_code (2 : Nat) (Option.some Jvm.ClassFile.FieldType.int)) ∈ tblG := inC_8 26 (by rfl) rfl
set_option maxRecDepth 400000 in
theorem tw_1818 : (Jvm.Cond.methodLink "VillageStoriesModel" (428 : Nat) ({ cls := "VillageStoriesModel", name := "findLeast", desc := "()Z" } : Jvm.MethodName)) ∈ tblG := inC_8 27 (by rfl) rfl
set_option maxRecDepth 400000 in
theorem tw_1820 : (Jvm.Cond.instanceMethod ({ cls := "VillageStoriesModel", name := "findLeast", desc := "()Z" } : Jvm.MethodName)) ∈ tblG := inC_8 29 (by rfl) rfl
set_option maxRecDepth 400000 in
theorem tw_1821 : (Jvm.Cond.code ({ cls := "VillageStoriesModel", name := "findLeast", desc := "()Z" } : Jvm.MethodName) prog_11_method_83_code (5 : Nat) (Option.some Jvm.ClassFile.FieldType.boolean)) ∈ tblG := inC_8 30 (by rfl) rfl
set_option maxRecDepth 400000 in
theorem tw_1822 : (Jvm.Cond.methodLink "VillageStoriesLaw" (117 : Nat) ({ cls := "VillageStoriesModel", name := "core", desc := "(I)I" } : Jvm.MethodName)) ∈ tblG := inC_8 31 (by rfl) rfl
set_option maxRecDepth 400000 in
theorem tw_1823 : (Jvm.Cond.instanceMethod ({ cls := "VillageStoriesModel", name := "core", desc := "(I)I" } : Jvm.MethodName)) ∈ tblG := inC_8 32 (by rfl) rfl
set_option maxRecDepth 400000 in
theorem tw_1824 : (Jvm.Cond.selects "VillageStoriesModel" ({ cls := "VillageStoriesModel", name := "core", desc := "(I)I" } : Jvm.MethodName) ({ cls := "VillageStoriesModel", name := "core", desc := "(I)I" } : Jvm.MethodName)) ∈ tblG := inC_8 33 (by rfl) rfl
set_option maxRecDepth 400000 in
theorem tw_1825 : (Jvm.Cond.code ({ cls := "VillageStoriesModel", name := "core", desc := "(I)I" } : Jvm.MethodName) prog_11_method_89_code (3 : Nat) (Option.some Jvm.ClassFile.FieldType.int)) ∈ tblG := inC_8 34 (by rfl) rfl
set_option maxRecDepth 400000 in
theorem tw_1826 : (Jvm.Cond.methodLink "VillageStoriesModel" (437 : Nat) ({ cls := "VillageStoriesModel", name := "findTogether", desc := "(IZ)V" } : Jvm.MethodName)) ∈ tblG := inC_8 35 (by rfl) rfl
set_option maxRecDepth 400000 in
theorem tw_1828 : (Jvm.Cond.instanceMethod ({ cls := "VillageStoriesModel", name := "findTogether", desc := "(IZ)V" } : Jvm.MethodName)) ∈ tblG := inC_8 37 (by rfl) rfl
set_option maxRecDepth 400000 in
theorem tw_1829 : (Jvm.Cond.code ({ cls := "VillageStoriesModel", name := "findTogether", desc := "(IZ)V" } : Jvm.MethodName) prog_11_method_85_code (7 : Nat) (Option.none : Option Jvm.ClassFile.FieldType)) ∈ tblG := inC_8 38 (by rfl) rfl
set_option maxRecDepth 400000 in
theorem tw_1830 : (Jvm.Cond.methodLink "VillageStoriesModel" (441 : Nat) ({ cls := "VillageStoriesModel", name := "fewestApart", desc := "()I" } : Jvm.MethodName)) ∈ tblG := inC_8 39 (by rfl) rfl
set_option maxRecDepth 400000 in
theorem tw_1832 : (Jvm.Cond.instanceMethod ({ cls := "VillageStoriesModel", name := "fewestApart", desc := "()I" } : Jvm.MethodName)) ∈ tblG := inC_8 41 (by rfl) rfl
set_option maxRecDepth 400000 in
theorem tw_1833 : (Jvm.Cond.code ({ cls := "VillageStoriesModel", name := "fewestApart", desc := "()I" } : Jvm.MethodName) prog_11_method_86_code (7 : Nat) (Option.some Jvm.ClassFile.FieldType.int)) ∈ tblG := inC_8 42 (by rfl) rfl
set_option maxRecDepth 400000 in
theorem tw_1834 : (Jvm.Cond.methodLink "VillageStoriesModel" (431 : Nat) ({ cls := "VillageStoriesModel", name := "isTogether", desc := "(I)Z" } : Jvm.MethodName)) ∈ tblG := inC_8 43 (by rfl) rfl
set_option maxRecDepth 400000 in
theorem tw_1836 : (Jvm.Cond.instanceMethod ({ cls := "VillageStoriesModel", name := "isTogether", desc := "(I)Z" } : Jvm.MethodName)) ∈ tblG := inC_8 45 (by rfl) rfl
set_option maxRecDepth 400000 in
theorem tw_1837 : (Jvm.Cond.code ({ cls := "VillageStoriesModel", name := "isTogether", desc := "(I)Z" } : Jvm.MethodName) prog_11_method_87_code (3 : Nat) (Option.some Jvm.ClassFile.FieldType.boolean)) ∈ tblG := inC_8 46 (by rfl) rfl
set_option maxRecDepth 400000 in
theorem tw_1838 : (Jvm.Cond.methodLink "VillageStoriesModel" (434 : Nat) ({ cls := "VillageStoriesModel", name := "isLessRow", desc := "(II)Z" } : Jvm.MethodName)) ∈ tblG := inC_8 47 (by rfl) rfl
set_option maxRecDepth 400000 in
theorem tw_1839 : (Jvm.Cond.static ({ cls := "VillageStoriesModel", name := "isLessRow", desc := "(II)Z" } : Jvm.MethodName)) ∈ tblG := inC_8 48 (by rfl) rfl
set_option maxRecDepth 400000 in
theorem tw_1840 : (Jvm.Cond.code ({ cls := "VillageStoriesModel", name := "isLessRow", desc := "(II)Z" } : Jvm.MethodName) prog_11_method_88_code (3 : Nat) (Option.some Jvm.ClassFile.FieldType.boolean)) ∈ tblG := inC_8 49 (by rfl) rfl
set_option maxRecDepth 400000 in
theorem tw_1841 : (Jvm.Cond.methodLink "VillageStoriesModel" (444 : Nat) ({ cls := "VillageStoriesModel", name := "numberIn", desc := "(II)I" } : Jvm.MethodName)) ∈ tblG := inC_8 50 (by rfl) rfl
set_option maxRecDepth 400000 in
theorem tw_1842 : (Jvm.Cond.static ({ cls := "VillageStoriesModel", name := "numberIn", desc := "(II)I" } : Jvm.MethodName)) ∈ tblG := inC_8 51 (by rfl) rfl
set_option maxRecDepth 400000 in
theorem tw_1843 : (Jvm.Cond.code ({ cls := "VillageStoriesModel", name := "numberIn", desc := "(II)I" } : Jvm.MethodName) prog_11_method_90_code (4 : Nat) (Option.some Jvm.ClassFile.FieldType.int)) ∈ tblG := inC_8 52 (by rfl) rfl
set_option maxRecDepth 400000 in
theorem tw_1844 : (Jvm.Cond.methodLink "VillageStoriesLaw" (121 : Nat) ({ cls := "VillageStoriesModel", name := "sure", desc := "(III)I" } : Jvm.MethodName)) ∈ tblG := inC_8 53 (by rfl) rfl
set_option maxRecDepth 400000 in
theorem tw_1845 : (Jvm.Cond.instanceMethod ({ cls := "VillageStoriesModel", name := "sure", desc := "(III)I" } : Jvm.MethodName)) ∈ tblG := inC_8 54 (by rfl) rfl
set_option maxRecDepth 400000 in
theorem tw_1846 : (Jvm.Cond.selects "VillageStoriesModel" ({ cls := "VillageStoriesModel", name := "sure", desc := "(III)I" } : Jvm.MethodName) ({ cls := "VillageStoriesModel", name := "sure", desc := "(III)I" } : Jvm.MethodName)) ∈ tblG := inC_8 55 (by rfl) rfl
set_option maxRecDepth 400000 in
theorem tw_1847 : (Jvm.Cond.code ({ cls := "VillageStoriesModel", name := "sure", desc := "(III)I" } : Jvm.MethodName) prog_11_method_92_code (5 : Nat) (Option.some Jvm.ClassFile.FieldType.int)) ∈ tblG := inC_8 56 (by rfl) rfl
set_option maxRecDepth 400000 in
theorem tw_1848 : (Jvm.Cond.methodLink "VillageStoriesModel" (450 : Nat) ({ cls := "VillageStoriesModel", name := "countFacts", desc := "()V" } : Jvm.MethodName)) ∈ tblG := inC_8 57 (by rfl) rfl
set_option maxRecDepth 400000 in
theorem tw_1850 : (Jvm.Cond.instanceMethod ({ cls := "VillageStoriesModel", name := "countFacts", desc := "()V" } : Jvm.MethodName)) ∈ tblG := inC_8 59 (by rfl) rfl
set_option maxRecDepth 400000 in
theorem tw_1851 : (Jvm.Cond.code ({ cls := "VillageStoriesModel", name := "countFacts", desc := "()V" } : Jvm.MethodName) prog_11_method_91_code (3 : Nat) (Option.none : Option Jvm.ClassFile.FieldType)) ∈ tblG := inC_8 60 (by rfl) rfl
set_option maxRecDepth 400000 in
theorem tw_1852 : (Jvm.Cond.methodLink "VillageStoriesLaw" (126 : Nat) ({ cls := "VillageStoriesModel", name := "cause", desc := "(IIII)I" } : Jvm.MethodName)) ∈ tblG := inC_8 61 (by rfl) rfl
set_option maxRecDepth 400000 in
theorem tw_1853 : (Jvm.Cond.instanceMethod ({ cls := "VillageStoriesModel", name := "cause", desc := "(IIII)I" } : Jvm.MethodName)) ∈ tblG := inC_8 62 (by rfl) rfl
set_option maxRecDepth 400000 in
theorem tw_1854 : (Jvm.Cond.selects "VillageStoriesModel" ({ cls := "VillageStoriesModel", name := "cause", desc := "(IIII)I" } : Jvm.MethodName) ({ cls := "VillageStoriesModel", name := "cause", desc := "(IIII)I" } : Jvm.MethodName)) ∈ tblG := inC_8 63 (by rfl) rfl
set_option maxRecDepth 400000 in
theorem tw_1855 : (Jvm.Cond.code ({ cls := "VillageStoriesModel", name := "cause", desc := "(IIII)I" } : Jvm.MethodName) prog_11_method_93_code (6 : Nat) (Option.some Jvm.ClassFile.FieldType.int)) ∈ tblG := inC_8 64 (by rfl) rfl
set_option maxRecDepth 400000 in
theorem tw_1856 : (Jvm.Cond.methodLink "VillageStoriesLaw" (130 : Nat) ({ cls := "VillageStoriesModel", name := "without", desc := "(I)I" } : Jvm.MethodName)) ∈ tblG := inC_8 65 (by rfl) rfl
set_option maxRecDepth 400000 in
theorem tw_1857 : (Jvm.Cond.instanceMethod ({ cls := "VillageStoriesModel", name := "without", desc := "(I)I" } : Jvm.MethodName)) ∈ tblG := inC_8 66 (by rfl) rfl
set_option maxRecDepth 400000 in
theorem tw_1858 : (Jvm.Cond.selects "VillageStoriesModel" ({ cls := "VillageStoriesModel", name := "without", desc := "(I)I" } : Jvm.MethodName) ({ cls := "VillageStoriesModel", name := "without", desc := "(I)I" } : Jvm.MethodName)) ∈ tblG := inC_8 67 (by rfl) rfl
set_option maxRecDepth 400000 in
theorem tw_1859 : (Jvm.Cond.code ({ cls := "VillageStoriesModel", name := "without", desc := "(I)I" } : Jvm.MethodName) prog_11_method_94_code (4 : Nat) (Option.some Jvm.ClassFile.FieldType.int)) ∈ tblG := inC_8 68 (by rfl) rfl
set_option maxRecDepth 400000 in
theorem tw_1860 : (Jvm.Cond.methodLink "VillageStoriesLaw" (134 : Nat) ({ cls := "VillageStoriesModel", name := "questions", desc := "()I" } : Jvm.MethodName)) ∈ tblG := inC_8 69 (by rfl) rfl
set_option maxRecDepth 400000 in
theorem tw_1861 : (Jvm.Cond.instanceMethod ({ cls := "VillageStoriesModel", name := "questions", desc := "()I" } : Jvm.MethodName)) ∈ tblG := inC_8 70 (by rfl) rfl
set_option maxRecDepth 400000 in
theorem tw_1862 : (Jvm.Cond.selects "VillageStoriesModel" ({ cls := "VillageStoriesModel", name := "questions", desc := "()I" } : Jvm.MethodName) ({ cls := "VillageStoriesModel", name := "questions", desc := "()I" } : Jvm.MethodName)) ∈ tblG := inC_8 71 (by rfl) rfl
set_option maxRecDepth 400000 in
theorem tw_1863 : (Jvm.Cond.code ({ cls := "VillageStoriesModel", name := "questions", desc := "()I" } : Jvm.MethodName) prog_11_method_97_code (4 : Nat) (Option.some Jvm.ClassFile.FieldType.int)) ∈ tblG := inC_8 72 (by rfl) rfl
set_option maxRecDepth 400000 in
theorem tw_1864 : (Jvm.Cond.methodLink "VillageStoriesModel" (453 : Nat) ({ cls := "VillageStoriesModel", name := "findYes", desc := "(I)V" } : Jvm.MethodName)) ∈ tblG := inC_8 73 (by rfl) rfl
set_option maxRecDepth 400000 in
theorem tw_1866 : (Jvm.Cond.instanceMethod ({ cls := "VillageStoriesModel", name := "findYes", desc := "(I)V" } : Jvm.MethodName)) ∈ tblG := inC_8 75 (by rfl) rfl
set_option maxRecDepth 400000 in
theorem tw_1867 : (Jvm.Cond.code ({ cls := "VillageStoriesModel", name := "findYes", desc := "(I)V" } : Jvm.MethodName) prog_11_method_95_code (4 : Nat) (Option.none : Option Jvm.ClassFile.FieldType)) ∈ tblG := inC_8 76 (by rfl) rfl
set_option maxRecDepth 400000 in
theorem tw_1868 : (Jvm.Cond.methodLink "VillageStoriesModel" (456 : Nat) ({ cls := "VillageStoriesModel", name := "asks", desc := "(I)Z" } : Jvm.MethodName)) ∈ tblG := inC_8 77 (by rfl) rfl
set_option maxRecDepth 400000 in
theorem tw_1870 : (Jvm.Cond.instanceMethod ({ cls := "VillageStoriesModel", name := "asks", desc := "(I)Z" } : Jvm.MethodName)) ∈ tblG := inC_8 79 (by rfl) rfl
set_option maxRecDepth 400000 in
theorem tw_1871 : (Jvm.Cond.code ({ cls := "VillageStoriesModel", name := "asks", desc := "(I)Z" } : Jvm.MethodName) prog_11_method_96_code (3 : Nat) (Option.some Jvm.ClassFile.FieldType.boolean)) ∈ tblG := inC_8 80 (by rfl) rfl
set_option maxRecDepth 400000 in
theorem tw_1872 : (Jvm.Cond.methodLink "VillageStoriesLaw" (138 : Nat) ({ cls := "VillageStoriesModel", name := "settle", desc := "(I)I" } : Jvm.MethodName)) ∈ tblG := inC_8 81 (by rfl) rfl
set_option maxRecDepth 400000 in
theorem tw_1873 : (Jvm.Cond.instanceMethod ({ cls := "VillageStoriesModel", name := "settle", desc := "(I)I" } : Jvm.MethodName)) ∈ tblG := inC_8 82 (by rfl) rfl
set_option maxRecDepth 400000 in
theorem tw_1874 : (Jvm.Cond.selects "VillageStoriesModel" ({ cls := "VillageStoriesModel", name := "settle", desc := "(I)I" } : Jvm.MethodName) ({ cls := "VillageStoriesModel", name := "settle", desc := "(I)I" } : Jvm.MethodName)) ∈ tblG := inC_8 83 (by rfl) rfl
set_option maxRecDepth 400000 in
theorem tw_1875 : (Jvm.Cond.code ({ cls := "VillageStoriesModel", name := "settle", desc := "(I)I" } : Jvm.MethodName) prog_11_method_98_code (6 : Nat) (Option.some Jvm.ClassFile.FieldType.int)) ∈ tblG := inC_8 84 (by rfl) rfl
set_option maxRecDepth 400000 in
theorem tw_1876 : (Jvm.Cond.methodLink "VillageStoriesLaw" (142 : Nat) ({ cls := "VillageStoriesModel", name := "near", desc := "()I" } : Jvm.MethodName)) ∈ tblG := inC_8 85 (by rfl) rfl
set_option maxRecDepth 400000 in
theorem tw_1877 : (Jvm.Cond.instanceMethod ({ cls := "VillageStoriesModel", name := "near", desc := "()I" } : Jvm.MethodName)) ∈ tblG := inC_8 86 (by rfl) rfl
set_option maxRecDepth 400000 in
theorem tw_1878 : (Jvm.Cond.selects "VillageStoriesModel" ({ cls := "VillageStoriesModel", name := "near", desc := "()I" } : Jvm.MethodName) ({ cls := "VillageStoriesModel", name := "near", desc := "()I" } : Jvm.MethodName)) ∈ tblG := inC_8 87 (by rfl) rfl
set_option maxRecDepth 400000 in
theorem tw_1879 : (Jvm.Cond.code ({ cls := "VillageStoriesModel", name := "near", desc := "()I" } : Jvm.MethodName) prog_11_method_99_code (6 : Nat) (Option.some Jvm.ClassFile.FieldType.int)) ∈ tblG := inC_8 88 (by rfl) rfl
set_option maxRecDepth 400000 in
theorem tw_1880 : (Jvm.Cond.methodLink "VillageStoriesLaw" (146 : Nat) ({ cls := "VillageStoriesModel", name := "holds", desc := "(I)I" } : Jvm.MethodName)) ∈ tblG := inC_8 89 (by rfl) rfl
set_option maxRecDepth 400000 in
theorem tw_1881 : (Jvm.Cond.instanceMethod ({ cls := "VillageStoriesModel", name := "holds", desc := "(I)I" } : Jvm.MethodName)) ∈ tblG := inC_8 90 (by rfl) rfl
set_option maxRecDepth 400000 in
theorem tw_1882 : (Jvm.Cond.selects "VillageStoriesModel" ({ cls := "VillageStoriesModel", name := "holds", desc := "(I)I" } : Jvm.MethodName) ({ cls := "VillageStoriesModel", name := "holds", desc := "(I)I" } : Jvm.MethodName)) ∈ tblG := inC_8 91 (by rfl) rfl
set_option maxRecDepth 400000 in
theorem tw_1883 : (Jvm.Cond.code ({ cls := "VillageStoriesModel", name := "holds", desc := "(I)I" } : Jvm.MethodName) prog_11_method_100_code (4 : Nat) (Option.some Jvm.ClassFile.FieldType.int)) ∈ tblG := inC_8 92 (by rfl) rfl
set_option maxRecDepth 400000 in
theorem tw_1884 : (Jvm.Cond.methodLink "VillageStoriesLaw" (150 : Nat) ({ cls := "VillageStoriesModel", name := "against", desc := "()Z" } : Jvm.MethodName)) ∈ tblG := inC_8 93 (by rfl) rfl
set_option maxRecDepth 400000 in
theorem tw_1885 : (Jvm.Cond.instanceMethod ({ cls := "VillageStoriesModel", name := "against", desc := "()Z" } : Jvm.MethodName)) ∈ tblG := inC_8 94 (by rfl) rfl
set_option maxRecDepth 400000 in
theorem tw_1886 : (Jvm.Cond.selects "VillageStoriesModel" ({ cls := "VillageStoriesModel", name := "against", desc := "()Z" } : Jvm.MethodName) ({ cls := "VillageStoriesModel", name := "against", desc := "()Z" } : Jvm.MethodName)) ∈ tblG := inC_8 95 (by rfl) rfl
set_option maxRecDepth 400000 in
theorem tw_1887 : (Jvm.Cond.code ({ cls := "VillageStoriesModel", name := "against", desc := "()Z" } : Jvm.MethodName) prog_11_method_101_code (2 : Nat) (Option.some Jvm.ClassFile.FieldType.boolean)) ∈ tblG := inC_8 96 (by rfl) rfl
set_option maxRecDepth 400000 in
theorem tw_1888 : (Jvm.Cond.methodLink "VillageStoriesLaw" (154 : Nat) ({ cls := "VillageStoriesModel", name := "many", desc := "(I)I" } : Jvm.MethodName)) ∈ tblG := inC_8 97 (by rfl) rfl
set_option maxRecDepth 400000 in
theorem tw_1889 : (Jvm.Cond.instanceMethod ({ cls := "VillageStoriesModel", name := "many", desc := "(I)I" } : Jvm.MethodName)) ∈ tblG := inC_8 98 (by rfl) rfl
set_option maxRecDepth 400000 in
theorem tw_1890 : (Jvm.Cond.selects "VillageStoriesModel" ({ cls := "VillageStoriesModel", name := "many", desc := "(I)I" } : Jvm.MethodName) ({ cls := "VillageStoriesModel", name := "many", desc := "(I)I" } : Jvm.MethodName)) ∈ tblG := inC_8 99 (by rfl) rfl
set_option maxRecDepth 400000 in
theorem tw_1891 : (Jvm.Cond.code ({ cls := "VillageStoriesModel", name := "many", desc := "(I)I" } : Jvm.MethodName) prog_11_method_102_code (4 : Nat) (Option.some Jvm.ClassFile.FieldType.int)) ∈ tblG := inC_8 100 (by rfl) rfl
set_option maxRecDepth 400000 in
theorem tw_1892 : (Jvm.Cond.methodLink "VillageStoriesLaw" (158 : Nat) ({ cls := "VillageStoriesModel", name := "image", desc := "(I)Z" } : Jvm.MethodName)) ∈ tblG := inC_8 101 (by rfl) rfl
set_option maxRecDepth 400000 in
theorem tw_1893 : (Jvm.Cond.instanceMethod ({ cls := "VillageStoriesModel", name := "image", desc := "(I)Z" } : Jvm.MethodName)) ∈ tblG := inC_8 102 (by rfl) rfl
set_option maxRecDepth 400000 in
theorem tw_1894 : (Jvm.Cond.selects "VillageStoriesModel" ({ cls := "VillageStoriesModel", name := "image", desc := "(I)Z" } : Jvm.MethodName) ({ cls := "VillageStoriesModel", name := "image", desc := "(I)Z" } : Jvm.MethodName)) ∈ tblG := inC_8 103 (by rfl) rfl
set_option maxRecDepth 400000 in
theorem tw_1895 : (Jvm.Cond.code ({ cls := "VillageStoriesModel", name := "image", desc := "(I)Z" } : Jvm.MethodName) prog_11_method_103_code (2 : Nat) (Option.some Jvm.ClassFile.FieldType.boolean)) ∈ tblG := inC_8 104 (by rfl) rfl
set_option maxRecDepth 400000 in
theorem tw_1896 : (Jvm.Cond.methodLink "VillageStoriesModel" (459 : Nat) ({ cls := "VillageStoriesModel", name := "copy", desc := "(II)V" } : Jvm.MethodName)) ∈ tblG := inC_8 105 (by rfl) rfl
set_option maxRecDepth 400000 in
theorem tw_1898 : (Jvm.Cond.instanceMethod ({ cls := "VillageStoriesModel", name := "copy", desc := "(II)V" } : Jvm.MethodName)) ∈ tblG := inC_8 107 (by rfl) rfl
set_option maxRecDepth 400000 in
theorem tw_1899 : (Jvm.Cond.code ({ cls := "VillageStoriesModel", name := "copy", desc := "(II)V" } : Jvm.MethodName) prog_11_method_5_code (4 : Nat) (Option.none : Option Jvm.ClassFile.FieldType)) ∈ tblG := inC_8 108 (by rfl) rfl
set_option maxRecDepth 400000 in
theorem tw_1900 : (Jvm.Cond.methodLink "VillageStoriesModel" (146 : Nat) ({ cls := "VillageStoriesModel", name := "move", desc := "([IIII)V" } : Jvm.MethodName)) ∈ tblG := inC_8 109 (by rfl) rfl
set_option maxRecDepth 400000 in
theorem tw_1901 : (Jvm.Cond.static ({ cls := "VillageStoriesModel", name := "move", desc := "([IIII)V" } : Jvm.MethodName)) ∈ tblG := inC_8 110 (by rfl) rfl
set_option maxRecDepth 400000 in
theorem tw_1902 : (Jvm.Cond.code ({ cls := "VillageStoriesModel", name := "move", desc := "([IIII)V" } : Jvm.MethodName) prog_11_method_4_code (5 : Nat) (Option.none : Option Jvm.ClassFile.FieldType)) ∈ tblG := inC_8 111 (by rfl) rfl
set_option maxRecDepth 400000 in
theorem tw_1903 : (Jvm.Cond.methodLink "VillageStoriesLaw" (162 : Nat) ({ cls := "VillageStoriesModel", name := "again", desc := "(I)Z" } : Jvm.MethodName)) ∈ tblG := inC_8 112 (by rfl) rfl
set_option maxRecDepth 400000 in
theorem tw_1904 : (Jvm.Cond.instanceMethod ({ cls := "VillageStoriesModel", name := "again", desc := "(I)Z" } : Jvm.MethodName)) ∈ tblG := inC_8 113 (by rfl) rfl
set_option maxRecDepth 400000 in
theorem tw_1905 : (Jvm.Cond.selects "VillageStoriesModel" ({ cls := "VillageStoriesModel", name := "again", desc := "(I)Z" } : Jvm.MethodName) ({ cls := "VillageStoriesModel", name := "again", desc := "(I)Z" } : Jvm.MethodName)) ∈ tblG := inC_8 114 (by rfl) rfl
set_option maxRecDepth 400000 in
theorem tw_1906 : (Jvm.Cond.code ({ cls := "VillageStoriesModel", name := "again", desc := "(I)Z" } : Jvm.MethodName) prog_11_method_104_code (2 : Nat) (Option.some Jvm.ClassFile.FieldType.boolean)) ∈ tblG := inC_8 115 (by rfl) rfl
set_option maxRecDepth 400000 in
theorem tw_1907 : (Jvm.Cond.fieldLink "java/lang/String" (9 : Nat) "java/lang/String" "value" "[B") ∈ tblG := inC_8 116 (by rfl) rfl
set_option maxRecDepth 400000 in
theorem tw_1908 : (Jvm.Cond.fieldLink "java/lang/String" (15 : Nat) "java/lang/String" "coder" "B") ∈ tblG := inC_8 117 (by rfl) rfl
