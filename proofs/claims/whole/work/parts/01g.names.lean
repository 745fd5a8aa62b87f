def wsL_law0_r3 : List Cond := [Cond.methodLink RX0 3 objectInit, Cond.classLink RX0 9 RJx4a65c, Cond.fieldLink RX0 12 "SolidGroups$Arranger" "byNumbers" "Ljava/util/ArrayList;", Cond.arrayClass .int, Cond.fieldLink RX0 18 "SolidGroups$Arranger" "steps" "[I", Cond.fieldLink RX0 22 "SolidGroups$Arranger" "sums" "[I", Cond.methodLink RX0 11 yJx4a65c_init_da8c8, Cond.instanceMethod yX3_init, Cond.code yX3_init cX3_init 1 none, Cond.methodLink RX3 3 objectInit, Cond.fieldLink RX3 9 "SolidGroups$RowMaker" "content" "[I", Cond.fieldLink RX3 15 "SolidGroups$RowMaker" "length" "I", Cond.fieldLink RX3 19 "SolidGroups$RowMaker" "foundBack" "I", Cond.fieldLink RX3 22 "SolidGroups$RowMaker" "foundMany" "I", Cond.methodLink RL 18 yX6_init, Cond.instanceMethod yX6_init, Cond.code yX6_init cX6_init 1 none, Cond.methodLink RX6 1 objectInit, Cond.fieldLink RX6 7 "SolidGroupsModel" "kinds" "[I", Cond.fieldLink RX6 13 "SolidGroupsModel" "sizes" "[I", Cond.fieldLink RX6 16 "SolidGroupsModel" "bytes" "[I", Cond.fieldLink RX6 19 "SolidGroupsModel" "twins" "[I", Cond.fieldLink RX6 22 "SolidGroupsModel" "order" "[I", Cond.fieldLink RX6 25 "SolidGroupsModel" "groupAt" "[I"]
def wsL_law0_r4 : List Cond := [Cond.fieldLink RX6 28 "SolidGroupsModel" "groupKind" "[I", Cond.fieldLink RX6 31 "SolidGroupsModel" "anew" "[I", Cond.fieldLink RX6 34 "SolidGroupsModel" "tokenMany" "[I", Cond.constant RX6 37 (162000), Cond.fieldLink RX6 38 "SolidGroupsModel" "tokens" "[I", Cond.fieldLink RX6 41 "SolidGroupsModel" "marksA" "[I", Cond.fieldLink RX6 44 "SolidGroupsModel" "marksB" "[I", Cond.fieldLink RX6 47 "SolidGroupsModel" "row" "[I", Cond.fieldLink RX6 50 "SolidGroupsModel" "best" "[I", Cond.fieldLink RX6 53 "SolidGroupsModel" "all" "[I", Cond.methodLink RL 19 yX5_entry, Cond.instanceMethod yX5_entry, Cond.selects RX5 yX5_entry yX5_entry, Cond.code yX5_entry cX5_entry 3 (some .int), Cond.classLink RX5 55 RX1, Cond.instantiable RX1 6, Cond.initialized RX1, Cond.methodLink RX5 47 yX5_isKind, Cond.static yX5_isKind, Cond.code yX5_isKind cX5_isKind 1 (some .boolean), Cond.methodLink RX5 51 yJx4a65c_size_8abf5, Cond.instanceMethod yJx4a65c_size_8abf5, Cond.selects RJx4a65c yJx4a65c_size_8abf5 yJx4a65c_size_8abf5, Cond.code yJx4a65c_size_8abf5 cJx4a65c_size_8abf5 1 (some .int)]
def wsL_law0_r5 : List Cond := [Cond.fieldLink RJx4a65c 48 "java/util/ArrayList" "size" "I", Cond.methodLink RX5 57 yX1_init, Cond.instanceMethod yX1_init, Cond.code yX1_init cX1_init 3 none, Cond.methodLink RX1 3 objectInit, Cond.fieldLink RX1 9 "SolidGroups$Entry" "bytes" "[I", Cond.fieldLink RX1 15 "SolidGroups$Entry" "marks" "[I", Cond.fieldLink RX1 18 "SolidGroups$Entry" "length" "I", Cond.fieldLink RX1 22 "SolidGroups$Entry" "number" "I", Cond.fieldLink RX1 25 "SolidGroups$Entry" "kind" "I", Cond.fieldLink RX1 28 "SolidGroups$Entry" "twinOf" "I", Cond.methodLink RX5 60 yJx4a65c_add_9ea2d, Cond.instanceMethod yJx4a65c_add_9ea2d, Cond.selects RJx4a65c yJx4a65c_add_9ea2d yJx4a65c_add_9ea2d, Cond.code yJx4a65c_add_9ea2d cJx4a65c_add_9ea2d 2 (some .boolean), Cond.fieldLink RJx4a65c 63 "java/util/ArrayList" "modCount" "I", Cond.sameField "java/util/ArrayList" "java/util/AbstractList" "modCount" "I", Cond.methodLink RJx4a65c 131 yJx4a65c_add_72be8, Cond.instanceMethod yJx4a65c_add_72be8, Cond.selects RJx4a65c yJx4a65c_add_72be8 yJx4a65c_add_72be8, Cond.code yJx4a65c_add_72be8 cJx4a65c_add_72be8 4 none, Cond.methodLink RJx4a65c 129 yJx4a65c_grow_d5877, Cond.instanceMethod yJx4a65c_grow_d5877, Cond.selects RJx4a65c yJx4a65c_grow_d5877 yJx4a65c_grow_d5877]
def wsL_law0_r6 : List Cond := [Cond.code yJx4a65c_grow_d5877 cJx4a65c_grow_d5877 1 (some (.array (.object "java/lang/Object"))), Cond.methodLink RJx4a65c 69 yJx4a65c_grow_92f84, Cond.instanceMethod yJx4a65c_grow_92f84, Cond.selects RJx4a65c yJx4a65c_grow_92f84 yJx4a65c_grow_92f84, Cond.code yJx4a65c_grow_92f84 cJx4a65c_grow_92f84 4 (some (.array (.object "java/lang/Object"))), Cond.methodLink RJx4a65c 79 Lib.Math.max.name, Cond.static Lib.Math.max.name, Cond.initialized "java/lang/Math", Cond.code Lib.Math.max.name Lib.Math.max.code 2 (some .int), Cond.classLink RJx4a65c 7 "java/lang/Object", Cond.methodLink RJx4a65c 73 yJ8_newLength_cabcc, Cond.static yJ8_newLength_cabcc, Cond.initialized RJ8, Cond.code yJ8_newLength_cabcc cJ8_newLength_cabcc 4 (some .int), Cond.methodLink RJ8 194 Lib.Math.max.name, Cond.constant RJ8 200 (2147483639), Cond.methodLink RJ8 201 yJ8_hugeLength_7cf53, Cond.static yJ8_hugeLength_7cf53, Cond.code yJ8_hugeLength_7cf53 cJ8_hugeLength_7cf53 3 (some .int), Cond.methodLink RJx4a65c 66 yJ7_copyOf_1904c, Cond.static yJ7_copyOf_1904c, Cond.initialized RJ7, Cond.code yJ7_copyOf_1904c cJ7_copyOf_1904c 2 (some (.array (.object "java/lang/Object"))), Cond.methodLink RJ7 86 ⟨"java/lang/Object", "getClass", "()Ljava/lang/Class;"⟩]
def wsL_law0_r7 : List Cond := [Cond.selects "[Ljava/lang/Object;" ⟨"java/lang/Object", "getClass", "()Ljava/lang/Class;"⟩ ⟨"java/lang/Object", "getClass", "()Ljava/lang/Class;"⟩, Cond.instanceMethod ⟨"java/lang/Object", "getClass", "()Ljava/lang/Class;"⟩, Cond.native ⟨"java/lang/Object", "getClass", "()Ljava/lang/Class;"⟩, Cond.methodLink RJ7 300 yJ7_copyOf_6403c, Cond.static yJ7_copyOf_6403c, Cond.code yJ7_copyOf_6403c cJ7_copyOf_6403c 4 (some (.array (.object "java/lang/Object"))), Cond.classLink RJ7 110 "[Ljava/lang/Object;", Cond.classLink RJ7 2 "java/lang/Object", Cond.methodLink RJ7 304 Lib.Math.min.name, Cond.static Lib.Math.min.name, Cond.code Lib.Math.min.name Lib.Math.min.code 2 (some .int), Cond.methodLink RJ7 150 arraycopyName, Cond.native arraycopyName, Cond.static arraycopyName, Cond.initialized "java/lang/System", Cond.methodLink RL 23 yX6_entry, Cond.instanceMethod yX6_entry, Cond.selects RX6 yX6_entry yX6_entry, Cond.code yX6_entry cX6_entry 2 (some .int), Cond.fieldLink RX6 56 "SolidGroupsModel" "entries" "I", Cond.fieldLink RX6 64 "SolidGroupsModel" "isPacked" "Z", Cond.methodLink RX6 60 yX6_isIn, Cond.static yX6_isIn, Cond.code yX6_isIn cX6_isIn 3 (some .boolean)]
def wsL_law0_r8 : List Cond := [Cond.methodLink RL 26 yX5_octets, Cond.instanceMethod yX5_octets, Cond.selects RX5 yX5_octets yX5_octets, Cond.code yX5_octets cX5_octets 6 (some .int), Cond.classLink RX5 55 "SolidGroups$Entry", Cond.fieldLink RX5 71 "SolidGroups$Entry" "length" "I", Cond.methodLink RX5 64 yX5_isEntry, Cond.instanceMethod yX5_isEntry, Cond.selects RX5 yX5_isEntry yX5_isEntry, Cond.code yX5_isEntry cX5_isEntry 2 (some .boolean), Cond.methodLink RX5 67 yJx4a65c_get_915e3, Cond.instanceMethod yJx4a65c_get_915e3, Cond.selects RJx4a65c yJx4a65c_get_915e3 yJx4a65c_get_915e3, Cond.code yJx4a65c_get_915e3 cJx4a65c_get_915e3 2 (some (.object "java/lang/Object")), Cond.methodLink RJx4a65c 118 yJ15_checkIndex_7cf53, Cond.static yJ15_checkIndex_7cf53, Cond.initialized RJ15, Cond.code yJ15_checkIndex_7cf53 cJ15_checkIndex_7cf53 2 (some .int), Cond.methodLink RJ15 105 yJ3_checkIndex_8e157, Cond.static yJ3_checkIndex_8e157, Cond.initialized RJ3, Cond.code yJ3_checkIndex_8e157 cJ3_checkIndex_8e157 3 (some .int), Cond.methodLink RJx4a65c 123 yJx4a65c_elementData_915e3, Cond.instanceMethod yJx4a65c_elementData_915e3]
def wsL_law0_r9 : List Cond := [Cond.selects RJx4a65c yJx4a65c_elementData_915e3 yJx4a65c_elementData_915e3, Cond.code yJx4a65c_elementData_915e3 cJx4a65c_elementData_915e3 2 (some (.object "java/lang/Object")), Cond.methodLink RX5 74 yX1_append, Cond.instanceMethod yX1_append, Cond.selects RX1 yX1_append yX1_append, Cond.code yX1_append cX1_append 5 none, Cond.methodLink RX1 37 yX1_countMarks, Cond.instanceMethod yX1_countMarks, Cond.selects RX1 yX1_countMarks yX1_countMarks, Cond.code yX1_countMarks cX1_countMarks 2 none, Cond.methodLink RL 30 yX6_octets, Cond.instanceMethod yX6_octets, Cond.selects RX6 yX6_octets yX6_octets, Cond.code yX6_octets cX6_octets 6 (some .int), Cond.methodLink RX6 68 yX6_isEntry, Cond.instanceMethod yX6_isEntry, Cond.selects RX6 yX6_isEntry yX6_isEntry, Cond.code yX6_isEntry cX6_isEntry 2 (some .boolean), Cond.methodLink RL 31 yX5_change, Cond.instanceMethod yX5_change, Cond.selects RX5 yX5_change yX5_change, Cond.code yX5_change cX5_change 6 (some .int), Cond.fieldLink RX5 82 "SolidGroups$Entry" "bytes" "[I", Cond.methodLink RX5 78 yX5_isByteOf]
def wsL_law0_r10 : List Cond := [Cond.instanceMethod yX5_isByteOf, Cond.selects RX5 yX5_isByteOf yX5_isByteOf, Cond.code yX5_isByteOf cX5_isByteOf 3 (some .boolean), Cond.methodLink RX5 86 yX1_replace, Cond.instanceMethod yX1_replace, Cond.selects RX1 yX1_replace yX1_replace, Cond.code yX1_replace cX1_replace 3 none, Cond.methodLink RX5 89 yX5_packChanged, Cond.instanceMethod yX5_packChanged, Cond.selects RX5 yX5_packChanged yX5_packChanged, Cond.code yX5_packChanged cX5_packChanged 3 none, Cond.fieldLink RX5 176 "SolidGroups$Group" "madeAnew" "I", Cond.methodLink RX5 248 yX5_homeOfChanged, Cond.instanceMethod yX5_homeOfChanged, Cond.selects RX5 yX5_homeOfChanged yX5_homeOfChanged, Cond.code yX5_homeOfChanged cX5_homeOfChanged 4 (some (.object "SolidGroups$Group")), Cond.fieldLink RX5 136 "SolidGroups$Entry" "number" "I", Cond.fieldLink RX5 139 "SolidGroups$Entry" "twinOf" "I", Cond.fieldLink RX5 214 "SolidGroups$Entry" "kind" "I", Cond.classLink RX5 110 "SolidGroups$Group", Cond.methodLink RX5 215 yX1_isKept, Cond.instanceMethod yX1_isKept, Cond.selects RX1 yX1_isKept yX1_isKept, Cond.code yX1_isKept cX1_isKept 1 (some .boolean)]
def wsL_law0_r11 : List Cond := [Cond.methodLink RX5 219 yX5_putAtEndOf, Cond.instanceMethod yX5_putAtEndOf, Cond.selects RX5 yX5_putAtEndOf yX5_putAtEndOf, Cond.code yX5_putAtEndOf cX5_putAtEndOf 5 (some (.object "SolidGroups$Group")), Cond.fieldLink RX5 133 "SolidGroups$Group" "members" "Ljava/util/ArrayList;", Cond.methodLink RX5 223 yX5_lastGroupOf, Cond.instanceMethod yX5_lastGroupOf, Cond.selects RX5 yX5_lastGroupOf yX5_lastGroupOf, Cond.code yX5_lastGroupOf cX5_lastGroupOf 3 (some .int), Cond.fieldLink RX5 165 "SolidGroups$Group" "kind" "I", Cond.methodLink RX5 150 yX5_isGroup, Cond.instanceMethod yX5_isGroup, Cond.selects RX5 yX5_isGroup yX5_isGroup, Cond.code yX5_isGroup cX5_isGroup 2 (some .boolean), Cond.methodLink RX5 168 yX2_byteCount, Cond.instanceMethod yX2_byteCount, Cond.selects RX2 yX2_byteCount yX2_byteCount, Cond.initialized RX2, Cond.code yX2_byteCount cX2_byteCount 1 (some .int), Cond.fieldLink RX2 12 "SolidGroups$Group" "members" "Ljava/util/ArrayList;", Cond.methodLink RX2 36 yJx4a65c_size_8abf5, Cond.methodLink RX2 40 yX2_bytesBefore, Cond.instanceMethod yX2_bytesBefore, Cond.selects RX2 yX2_bytesBefore yX2_bytesBefore]
def wsL_law0_r12 : List Cond := [Cond.code yX2_bytesBefore cX2_bytesBefore 4 (some .int), Cond.classLink RX2 48 "SolidGroups$Entry", Cond.fieldLink RX2 56 "SolidGroups$Entry" "length" "I", Cond.methodLink RX2 44 yJx4a65c_get_915e3, Cond.methodLink RX5 226 yX5_freshGroup, Cond.instanceMethod yX5_freshGroup, Cond.selects RX5 yX5_freshGroup yX5_freshGroup, Cond.code yX5_freshGroup cX5_freshGroup 3 (some (.object "SolidGroups$Group")), Cond.classLink RX5 110 RX2, Cond.instantiable RX2 4, Cond.methodLink RX5 233 yJx4a65c_isEmpty_aae02, Cond.instanceMethod yJx4a65c_isEmpty_aae02, Cond.selects RJx4a65c yJx4a65c_isEmpty_aae02 yJx4a65c_isEmpty_aae02, Cond.code yJx4a65c_isEmpty_aae02 cJx4a65c_isEmpty_aae02 1 (some .boolean), Cond.instanceMethod yX2_init, Cond.code yX2_init cX2_init 1 none, Cond.methodLink RX2 3 objectInit, Cond.classLink RX2 9 RJx4a65c, Cond.classLink RX2 18 RX4, Cond.instantiable RX4 5, Cond.initialized RX4, Cond.fieldLink RX2 21 "SolidGroups$Group" "row" "LSolidGroups$TokenRow;", Cond.fieldLink RX2 25 "SolidGroups$Group" "kind" "I", Cond.fieldLink RX2 29 "SolidGroups$Group" "madeAnew" "I"]
def wsL_law0_r13 : List Cond := [Cond.methodLink RX2 11 yJx4a65c_init_da8c8, Cond.instanceMethod yX4_init, Cond.code yX4_init cX4_init 1 none, Cond.methodLink RX4 3 objectInit, Cond.fieldLink RX4 9 "SolidGroups$TokenRow" "value" "[I", Cond.fieldLink RX4 15 "SolidGroups$TokenRow" "back" "[I", Cond.fieldLink RX4 18 "SolidGroups$TokenRow" "many" "[I", Cond.fieldLink RX4 21 "SolidGroups$TokenRow" "count" "I", Cond.fieldLink RX4 25 "SolidGroups$TokenRow" "size" "I", Cond.methodLink RX5 237 yJx4a65c_remove_915e3, Cond.instanceMethod yJx4a65c_remove_915e3, Cond.selects RJx4a65c yJx4a65c_remove_915e3 yJx4a65c_remove_915e3, Cond.code yJx4a65c_remove_915e3 cJx4a65c_remove_915e3 4 (some (.object "java/lang/Object")), Cond.methodLink RJx4a65c 144 yJx4a65c_fastRemove_b59b0, Cond.instanceMethod yJx4a65c_fastRemove_b59b0, Cond.selects RJx4a65c yJx4a65c_fastRemove_b59b0 yJx4a65c_fastRemove_b59b0, Cond.code yJx4a65c_fastRemove_b59b0 cJx4a65c_fastRemove_b59b0 4 none, Cond.methodLink RJx4a65c 112 arraycopyName, Cond.methodLink RX5 240 yX2_begin, Cond.instanceMethod yX2_begin, Cond.selects RX2 yX2_begin yX2_begin, Cond.code yX2_begin cX2_begin 2 none, Cond.methodLink RX2 32 yJx4a65c_clear_da8c8, Cond.instanceMethod yJx4a65c_clear_da8c8]
def wsL_law0_r14 : List Cond := [Cond.selects RJx4a65c yJx4a65c_clear_da8c8 yJx4a65c_clear_da8c8, Cond.code yJx4a65c_clear_da8c8 cJx4a65c_clear_da8c8 4 none, Cond.methodLink RX2 35 yX4_clear, Cond.instanceMethod yX4_clear, Cond.selects RX4 yX4_clear yX4_clear, Cond.code yX4_clear cX4_clear 1 none, Cond.methodLink RX5 230 yJx4a65c_add_7a177, Cond.instanceMethod yJx4a65c_add_7a177, Cond.selects RJx4a65c yJx4a65c_add_7a177 yJx4a65c_add_7a177, Cond.code yJx4a65c_add_7a177 cJx4a65c_add_7a177 5 none, Cond.methodLink RJx4a65c 135 yJx4a65c_rangeCheckForAdd_d00df, Cond.instanceMethod yJx4a65c_rangeCheckForAdd_d00df, Cond.selects RJx4a65c yJx4a65c_rangeCheckForAdd_d00df yJx4a65c_rangeCheckForAdd_d00df, Cond.code yJx4a65c_rangeCheckForAdd_d00df cJx4a65c_rangeCheckForAdd_d00df 2 none, Cond.methodLink RX5 252 yX5_leastTwinOf, Cond.instanceMethod yX5_leastTwinOf, Cond.selects RX5 yX5_leastTwinOf yX5_leastTwinOf, Cond.code yX5_leastTwinOf cX5_leastTwinOf 3 (some .int), Cond.methodLink RX5 255 yX5_handOver, Cond.instanceMethod yX5_handOver, Cond.selects RX5 yX5_handOver yX5_handOver, Cond.code yX5_handOver cX5_handOver 5 none, Cond.methodLink RX5 142 yX5_groupNumberOf, Cond.instanceMethod yX5_groupNumberOf]
def wsL_law0_r15 : List Cond := [Cond.selects RX5 yX5_groupNumberOf yX5_groupNumberOf, Cond.code yX5_groupNumberOf cX5_groupNumberOf 3 (some .int), Cond.methodLink RX5 243 yX2_indexOf, Cond.instanceMethod yX2_indexOf, Cond.selects RX2 yX2_indexOf yX2_indexOf, Cond.code yX2_indexOf cX2_indexOf 3 (some .int), Cond.fieldLink RX2 50 "SolidGroups$Entry" "number" "I", Cond.methodLink RX5 259 yX2_exchange, Cond.instanceMethod yX2_exchange, Cond.selects RX2 yX2_exchange yX2_exchange, Cond.code yX2_exchange cX2_exchange 4 none, Cond.methodLink RX2 53 yX2_indexOf, Cond.methodLink RX2 59 yJx4a65c_set_bcc79, Cond.instanceMethod yJx4a65c_set_bcc79, Cond.selects RJx4a65c yJx4a65c_set_bcc79 yJx4a65c_set_bcc79, Cond.code yJx4a65c_set_bcc79 cJx4a65c_set_bcc79 4 (some (.object "java/lang/Object")), Cond.methodLink RX5 112 yX3_makeRow, Cond.instanceMethod yX3_makeRow, Cond.selects RX3 yX3_makeRow yX3_makeRow, Cond.code yX3_makeRow cX3_makeRow 3 none, Cond.fieldLink RX3 25 "SolidGroups$Group" "members" "Ljava/util/ArrayList;", Cond.fieldLink RX3 35 "SolidGroups$Group" "row" "LSolidGroups$TokenRow;", Cond.methodLink RX3 31 yX3_gather, Cond.instanceMethod yX3_gather]
def wsL_law0_r16 : List Cond := [Cond.selects RX3 yX3_gather yX3_gather, Cond.code yX3_gather cX3_gather 5 none, Cond.classLink RX3 65 "SolidGroups$Entry", Cond.fieldLink RX3 67 "SolidGroups$Entry" "length" "I", Cond.fieldLink RX3 68 "SolidGroups$Entry" "bytes" "[I", Cond.methodLink RX3 55 yJx4a65c_size_8abf5, Cond.methodLink RX3 61 yJx4a65c_get_915e3, Cond.methodLink RX3 39 yX4_clear, Cond.methodLink RX3 44 yX3_findCopy, Cond.instanceMethod yX3_findCopy, Cond.selects RX3 yX3_findCopy yX3_findCopy, Cond.code yX3_findCopy cX3_findCopy 5 none, Cond.methodLink RX3 71 Lib.Math.min.name, Cond.methodLink RX3 77 yX3_sameBytes, Cond.instanceMethod yX3_sameBytes, Cond.selects RX3 yX3_sameBytes yX3_sameBytes, Cond.code yX3_sameBytes cX3_sameBytes 5 (some .int), Cond.methodLink RX3 48 yX4_addCopy, Cond.instanceMethod yX4_addCopy, Cond.selects RX4 yX4_addCopy yX4_addCopy, Cond.code yX4_addCopy cX4_addCopy 3 none, Cond.methodLink RX4 28 yX4_addToken, Cond.instanceMethod yX4_addToken, Cond.selects RX4 yX4_addToken yX4_addToken]
def wsL_law0_r17 : List Cond := [Cond.code yX4_addToken cX4_addToken 4 none, Cond.methodLink RX3 52 yX4_addByte, Cond.instanceMethod yX4_addByte, Cond.selects RX4 yX4_addByte yX4_addByte, Cond.code yX4_addByte cX4_addByte 2 none, Cond.methodLink RL 35 yX6_change, Cond.instanceMethod yX6_change, Cond.selects RX6 yX6_change yX6_change, Cond.code yX6_change cX6_change 8 (some .int), Cond.methodLink RX6 133 yX6_placeInOrder, Cond.instanceMethod yX6_placeInOrder, Cond.selects RX6 yX6_placeInOrder yX6_placeInOrder, Cond.code yX6_placeInOrder cX6_placeInOrder 3 (some .int), Cond.fieldLink RX6 104 "SolidGroupsModel" "kept" "I", Cond.methodLink RX6 136 yX6_settles, Cond.instanceMethod yX6_settles, Cond.selects RX6 yX6_settles yX6_settles, Cond.code yX6_settles cX6_settles 6 none, Cond.fieldLink RX6 107 "SolidGroupsModel" "groups" "I", Cond.fieldLink RX6 101 "SolidGroupsModel" "bound" "I", Cond.methodLink RX6 120 yX6_groupBytes, Cond.instanceMethod yX6_groupBytes, Cond.selects RX6 yX6_groupBytes yX6_groupBytes, Cond.code yX6_groupBytes cX6_groupBytes 4 (some .int)]
def wsL_law0_r18 : List Cond := [Cond.methodLink RX6 123 yX6_makes, Cond.instanceMethod yX6_makes, Cond.selects RX6 yX6_makes yX6_makes, Cond.code yX6_makes cX6_makes 8 none, Cond.fieldLink RX6 127 "SolidGroupsModel" "allMany" "I", Cond.methodLink RX6 130 yX6_gathers, Cond.instanceMethod yX6_gathers, Cond.selects RX6 yX6_gathers yX6_gathers, Cond.code yX6_gathers cX6_gathers 4 none, Cond.methodLink RL 36 yX5_pack, Cond.instanceMethod yX5_pack, Cond.selects RX5 yX5_pack yX5_pack, Cond.code yX5_pack cX5_pack 4 (some .int), Cond.methodLink RX5 93 yX5_findTwins, Cond.instanceMethod yX5_findTwins, Cond.selects RX5 yX5_findTwins yX5_findTwins, Cond.code yX5_findTwins cX5_findTwins 3 none, Cond.methodLink RX5 207 yX5_firstLike, Cond.instanceMethod yX5_firstLike, Cond.selects RX5 yX5_firstLike yX5_firstLike, Cond.code yX5_firstLike cX5_firstLike 3 (some .int), Cond.methodLink RX5 210 yX1_isLike, Cond.instanceMethod yX1_isLike, Cond.selects RX1 yX1_isLike yX1_isLike]
def wsL_law0_r19 : List Cond := [Cond.code yX1_isLike cX1_isLike 3 (some .boolean), Cond.methodLink RX5 96 yX5_dropGroups, Cond.instanceMethod yX5_dropGroups, Cond.selects RX5 yX5_dropGroups yX5_dropGroups, Cond.code yX5_dropGroups cX5_dropGroups 2 none, Cond.methodLink RX5 188 yJx4a65c_clear_da8c8, Cond.methodLink RX5 99 yX5_lineUpKept, Cond.instanceMethod yX5_lineUpKept, Cond.selects RX5 yX5_lineUpKept yX5_lineUpKept, Cond.code yX5_lineUpKept cX5_lineUpKept 4 none, Cond.methodLink RX5 103 yX0_arrange, Cond.instanceMethod yX0_arrange, Cond.selects RX0 yX0_arrange yX0_arrange, Cond.code yX0_arrange cX0_arrange 3 none, Cond.methodLink RX0 25 yJx4a65c_size_8abf5, Cond.methodLink RX0 29 yX0_arrangeBest, Cond.instanceMethod yX0_arrangeBest, Cond.selects RX0 yX0_arrangeBest yX0_arrangeBest, Cond.code yX0_arrangeBest cX0_arrangeBest 7 none, Cond.classLink RX0 40 "SolidGroups$Entry", Cond.methodLink RX0 53 yJx4a65c_clear_da8c8, Cond.methodLink RX0 36 yJx4a65c_get_915e3, Cond.methodLink RX0 56 yJx4a65c_add_9ea2d, Cond.methodLink RX0 59 yX0_measureSteps]
def wsL_law0_r20 : List Cond := [Cond.instanceMethod yX0_measureSteps, Cond.selects RX0 yX0_measureSteps yX0_measureSteps, Cond.code yX0_measureSteps cX0_measureSteps 4 none, Cond.static yX5_apart, Cond.code yX5_apart cX5_apart 4 (some .int), Cond.methodLink RX5 204 Lib.Math.abs.name, Cond.static Lib.Math.abs.name, Cond.code Lib.Math.abs.name Lib.Math.abs.code 1 (some .int), Cond.fieldLink RX5 195 "SolidGroups$Entry" "marks" "[I", Cond.methodLink RX0 63 yX0_measureSums, Cond.instanceMethod yX0_measureSums, Cond.selects RX0 yX0_measureSums yX0_measureSums, Cond.code yX0_measureSums cX0_measureSums 5 none, Cond.methodLink RX0 66 yX0_bestNext, Cond.instanceMethod yX0_bestNext, Cond.selects RX0 yX0_bestNext yX0_bestNext, Cond.code yX0_bestNext cX0_bestNext 8 (some .int), Cond.methodLink RX0 74 yX0_sumBy, Cond.instanceMethod yX0_sumBy, Cond.selects RX0 yX0_sumBy yX0_sumBy, Cond.code yX0_sumBy cX0_sumBy 5 (some .int), Cond.methodLink RX0 70 yJx4a65c_set_bcc79, Cond.methodLink RX0 33 yX0_arrangeChain, Cond.instanceMethod yX0_arrangeChain]
def wsL_law0_r21 : List Cond := [Cond.selects RX0 yX0_arrangeChain yX0_arrangeChain, Cond.code yX0_arrangeChain cX0_arrangeChain 8 none, Cond.methodLink RX0 46 yJx4a65c_remove_915e3, Cond.methodLink RX0 49 yJx4a65c_add_7a177, Cond.methodLink RX5 107 yX5_groupLine, Cond.instanceMethod yX5_groupLine, Cond.selects RX5 yX5_groupLine yX5_groupLine, Cond.code yX5_groupLine cX5_groupLine 3 none, Cond.methodLink RL 39 yX6_pack, Cond.instanceMethod yX6_pack, Cond.selects RX6 yX6_pack yX6_pack, Cond.code yX6_pack cX6_pack 5 (some .int), Cond.fieldLink RX6 90 "SolidGroupsModel" "rowMany" "I", Cond.methodLink RX6 110 yX6_isSame, Cond.instanceMethod yX6_isSame, Cond.selects RX6 yX6_isSame yX6_isSame, Cond.code yX6_isSame cX6_isSame 5 (some .boolean), Cond.methodLink RX6 114 yX6_bestOfAll, Cond.instanceMethod yX6_bestOfAll, Cond.selects RX6 yX6_bestOfAll yX6_bestOfAll, Cond.code yX6_bestOfAll cX6_bestOfAll 5 none, Cond.methodLink RX6 93 yX6_rowSum, Cond.instanceMethod yX6_rowSum, Cond.selects RX6 yX6_rowSum yX6_rowSum]
def wsL_law0_r22 : List Cond := [Cond.code yX6_rowSum cX6_rowSum 3 (some .int), Cond.methodLink RX6 87 yX6_distanceOf, Cond.instanceMethod yX6_distanceOf, Cond.selects RX6 yX6_distanceOf yX6_distanceOf, Cond.code yX6_distanceOf cX6_distanceOf 5 (some .int), Cond.methodLink RX6 72 yX6_marks, Cond.instanceMethod yX6_marks, Cond.selects RX6 yX6_marks yX6_marks, Cond.code yX6_marks cX6_marks 5 none, Cond.methodLink RX6 76 yX6_size, Cond.static yX6_size, Cond.code yX6_size cX6_size 1 (some .int), Cond.methodLink RX6 97 yX6_next, Cond.instanceMethod yX6_next, Cond.selects RX6 yX6_next yX6_next, Cond.code yX6_next cX6_next 6 (some .boolean), Cond.methodLink RX6 117 yX6_chain, Cond.instanceMethod yX6_chain, Cond.selects RX6 yX6_chain yX6_chain, Cond.code yX6_chain cX6_chain 6 none, Cond.methodLink RL 40 yX5_common, Cond.instanceMethod yX5_common, Cond.selects RX5 yX5_common yX5_common, Cond.code yX5_common cX5_common 3 (some .int)]
def wsL_law0_r23 : List Cond := [Cond.methodLink RX5 116 yX5_commonMarks, Cond.static yX5_commonMarks, Cond.code yX5_commonMarks cX5_commonMarks 4 (some .int), Cond.methodLink RX5 198 Lib.Math.min.name, Cond.methodLink RL 43 yX6_common, Cond.instanceMethod yX6_common, Cond.selects RX6 yX6_common yX6_common, Cond.code yX6_common cX6_common 3 (some .int), Cond.methodLink RX6 80 yX6_commonOf, Cond.instanceMethod yX6_commonOf, Cond.selects RX6 yX6_commonOf yX6_commonOf, Cond.code yX6_commonOf cX6_commonOf 5 (some .int), Cond.methodLink RL 44 yL_share, Cond.static yL_share, Cond.initialized RL, Cond.codeWith yL_share cL_share 5 (some .int) [(0, 10, 13, 13)], Cond.classLink RL 13 "java/lang/ArithmeticException", Cond.methodLink RL 7 yX5_share, Cond.instanceMethod yX5_share, Cond.selects RX5 yX5_share yX5_share, Cond.code yX5_share cX5_share 7 (some .int), Cond.classLink RX5 123 "java/lang/ArithmeticException", Cond.initialized "java/lang/ArithmeticException", Cond.methodLink RX5 120 yX1_markCount]
def wsL_law0_r24 : List Cond := [Cond.instanceMethod yX1_markCount, Cond.selects RX1 yX1_markCount yX1_markCount, Cond.code yX1_markCount cX1_markCount 1 (some .int), Cond.methodLink RX1 31 Lib.Math.max.name, Cond.methodLink RL 49 yX6_share, Cond.instanceMethod yX6_share, Cond.selects RX6 yX6_share yX6_share, Cond.code yX6_share cX6_share 6 (some .int), Cond.fieldLink RX6 84 "SolidGroupsModel" "code" "I", Cond.methodLink RL 50 yX6_thrown, Cond.instanceMethod yX6_thrown, Cond.selects RX6 yX6_thrown yX6_thrown, Cond.code yX6_thrown cX6_thrown 1 (some .int), Cond.methodLink RL 54 yX5_distance, Cond.instanceMethod yX5_distance, Cond.selects RX5 yX5_distance yX5_distance, Cond.code yX5_distance cX5_distance 3 (some .int), Cond.methodLink RX5 130 yX5_apart, Cond.methodLink RL 57 yX6_distance, Cond.instanceMethod yX6_distance, Cond.selects RX6 yX6_distance yX6_distance, Cond.code yX6_distance cX6_distance 3 (some .int), Cond.methodLink RL 58 yX5_order, Cond.instanceMethod yX5_order]
def wsL_law0_r25 : List Cond := [Cond.selects RX5 yX5_order yX5_order, Cond.code yX5_order cX5_order 6 (some .int), Cond.methodLink RL 61 yX6_order, Cond.instanceMethod yX6_order, Cond.selects RX6 yX6_order yX6_order, Cond.code yX6_order cX6_order 2 (some .int), Cond.methodLink RL 62 yX5_twin, Cond.instanceMethod yX5_twin, Cond.selects RX5 yX5_twin yX5_twin, Cond.code yX5_twin cX5_twin 2 (some .int), Cond.methodLink RL 65 yX6_twin, Cond.instanceMethod yX6_twin, Cond.selects RX6 yX6_twin yX6_twin, Cond.code yX6_twin cX6_twin 2 (some .int), Cond.methodLink RL 66 yX5_group, Cond.instanceMethod yX5_group, Cond.selects RX5 yX5_group yX5_group, Cond.code yX5_group cX5_group 2 (some .int), Cond.methodLink RL 69 yX6_group, Cond.instanceMethod yX6_group, Cond.selects RX6 yX6_group yX6_group, Cond.code yX6_group cX6_group 2 (some .int), Cond.methodLink RL 70 yX5_place, Cond.instanceMethod yX5_place]
def wsL_law0_r26 : List Cond := [Cond.selects RX5 yX5_place yX5_place, Cond.code yX5_place cX5_place 2 (some .int), Cond.methodLink RX5 146 yX5_placeOf, Cond.instanceMethod yX5_placeOf, Cond.selects RX5 yX5_placeOf yX5_placeOf, Cond.code yX5_placeOf cX5_placeOf 3 (some .int), Cond.methodLink RX5 246 yX2_placeOf, Cond.instanceMethod yX2_placeOf, Cond.selects RX2 yX2_placeOf yX2_placeOf, Cond.code yX2_placeOf cX2_placeOf 2 (some .int), Cond.methodLink RL 73 yX6_place, Cond.instanceMethod yX6_place, Cond.selects RX6 yX6_place yX6_place, Cond.code yX6_place cX6_place 2 (some .int), Cond.methodLink RX6 139 yX6_placeOf, Cond.instanceMethod yX6_placeOf, Cond.selects RX6 yX6_placeOf yX6_placeOf, Cond.code yX6_placeOf cX6_placeOf 5 (some .int), Cond.methodLink RL 74 yX5_access, Cond.instanceMethod yX5_access, Cond.selects RX5 yX5_access yX5_access, Cond.code yX5_access cX5_access 4 (some .int), Cond.fieldLink RX5 153 "SolidGroups$Group" "row" "LSolidGroups$TokenRow;", Cond.methodLink RX5 157 yX4_tokensTill]
def wsL_law0_r27 : List Cond := [Cond.instanceMethod yX4_tokensTill, Cond.selects RX4 yX4_tokensTill yX4_tokensTill, Cond.code yX4_tokensTill cX4_tokensTill 4 (some .int), Cond.methodLink RL 77 yX6_access, Cond.instanceMethod yX6_access, Cond.selects RX6 yX6_access yX6_access, Cond.code yX6_access cX6_access 6 (some .int), Cond.methodLink RX6 142 yX6_group, Cond.methodLink RL 78 yX5_open, Cond.instanceMethod yX5_open, Cond.selects RX5 yX5_open yX5_open, Cond.code yX5_open cX5_open 5 (some .int), Cond.methodLink RX5 162 yX4_unpack, Cond.instanceMethod yX4_unpack, Cond.selects RX4 yX4_unpack yX4_unpack, Cond.code yX4_unpack cX4_unpack 5 (some .int), Cond.methodLink RX4 32 yX4_tokensTill, Cond.methodLink RL 81 yX6_open, Cond.instanceMethod yX6_open, Cond.selects RX6 yX6_open yX6_open, Cond.code yX6_open cX6_open 8 (some .int), Cond.methodLink RL 82 yX5_of, Cond.instanceMethod yX5_of, Cond.selects RX5 yX5_of yX5_of]
def wsL_law0_r28 : List Cond := [Cond.code yX5_of cX5_of 4 (some .int), Cond.fieldLink RX5 171 "SolidGroups$TokenRow" "count" "I", Cond.fieldLink RX5 174 "SolidGroups$TokenRow" "size" "I", Cond.methodLink RL 85 yX6_of, Cond.instanceMethod yX6_of, Cond.selects RX6 yX6_of yX6_of, Cond.code yX6_of cX6_of 5 (some .int), Cond.methodLink RX6 145 yX6_sizeOf, Cond.instanceMethod yX6_sizeOf, Cond.selects RX6 yX6_sizeOf yX6_sizeOf, Cond.code yX6_sizeOf cX6_sizeOf 4 (some .int), Cond.methodLink RL 86 yX5_token, Cond.instanceMethod yX5_token, Cond.selects RX5 yX5_token yX5_token, Cond.code yX5_token cX5_token 5 (some .int), Cond.fieldLink RX5 179 "SolidGroups$TokenRow" "value" "[I", Cond.fieldLink RX5 182 "SolidGroups$TokenRow" "back" "[I", Cond.fieldLink RX5 185 "SolidGroups$TokenRow" "many" "[I", Cond.methodLink RL 89 yX6_token, Cond.instanceMethod yX6_token, Cond.selects RX6 yX6_token yX6_token, Cond.code yX6_token cX6_token 4 (some .int), Cond.methodLink RL 90 yX5_sum, Cond.instanceMethod yX5_sum]
def wsL_law0_r29 : List Cond := [Cond.selects RX5 yX5_sum yX5_sum, Cond.code yX5_sum cX5_sum 4 (some .int), Cond.methodLink RX5 191 yX2_addMembersTo, Cond.instanceMethod yX2_addMembersTo, Cond.selects RX2 yX2_addMembersTo yX2_addMembersTo, Cond.code yX2_addMembersTo cX2_addMembersTo 3 none, Cond.methodLink RX2 63 yJx4a65c_add_9ea2d, Cond.methodLink RL 93 yX6_sum, Cond.instanceMethod yX6_sum, Cond.selects RX6 yX6_sum yX6_sum, Cond.code yX6_sum cX6_sum 5 (some .int), Cond.methodLink RL 94 yX5_count, Cond.instanceMethod yX5_count, Cond.selects RX5 yX5_count yX5_count, Cond.code yX5_count cX5_count 5 (some .int), Cond.methodLink RL 97 yX6_count, Cond.instanceMethod yX6_count, Cond.selects RX6 yX6_count yX6_count, Cond.code yX6_count cX6_count 4 (some .int)]
def wsL_law0 : List Cond := (wsL_law0_r1 ++ (wsL_law0_r2 ++ (wsL_law0_r3 ++ (wsL_law0_r4 ++ (wsL_law0_r5 ++ (wsL_law0_r6 ++ (wsL_law0_r7 ++ (wsL_law0_r8 ++ (wsL_law0_r9 ++ (wsL_law0_r10 ++ (wsL_law0_r11 ++ (wsL_law0_r12 ++ (wsL_law0_r13 ++ (wsL_law0_r14 ++ (wsL_law0_r15 ++ (wsL_law0_r16 ++ (wsL_law0_r17 ++ (wsL_law0_r18 ++ (wsL_law0_r19 ++ (wsL_law0_r20 ++ (wsL_law0_r21 ++ (wsL_law0_r22 ++ (wsL_law0_r23 ++ (wsL_law0_r24 ++ (wsL_law0_r25 ++ (wsL_law0_r26 ++ (wsL_law0_r27 ++ (wsL_law0_r28 ++ wsL_law0_r29)))))))))))))))))))))))))))) ++ wsX50 ++ wsX60 ++ wsJx4a65c0 ++ wsX00 ++ wsX30 ++ wsX10 ++ wsX20 ++ wsX40 ++ ([] : List Cond)
def wsL_law : List Cond := wsL_law0 ++ (vx_atS RX5 127 "java/lang/ArithmeticException" ["java/lang/RuntimeException", "java/lang/Exception"]).filter goodWord
set_option maxRecDepth 20000 in
theorem ggX0_init_Jx4a65c_init_da8c8 : GoodIn wsX0_init wsJx4a65c_init_da8c8 := goodIn_r _ [13, 14, 15, 16, 17, 18, 19, 20, 21, 22, 23, 24, 25, 2, 3, 26, 27, 28] (by decide +kernel) (by decide +kernel)
set_option maxRecDepth 20000 in
theorem gX0_init_Jx4a65c_init_da8c8 : GoodIn wsX0_init (wsJx4a65c_init_da8c8) := ggX0_init_Jx4a65c_init_da8c8
theorem dX0_init_0 : decode cX0_init 0 = .ok (.aload_n 0, 1) := by decide +kernel
theorem dX0_init_1 : decode cX0_init 1 = .ok (.invokespecial 3, 3) := by decide +kernel
theorem dX0_init_4 : decode cX0_init 4 = .ok (.aload_n 0, 1) := by decide +kernel
theorem dX0_init_5 : decode cX0_init 5 = .ok (.new 9, 3) := by decide +kernel
theorem dX0_init_8 : decode cX0_init 8 = .ok (.dup, 1) := by decide +kernel
theorem dX0_init_9 : decode cX0_init 9 = .ok (.invokespecial 11, 3) := by decide +kernel
theorem dX0_init_12 : decode cX0_init 12 = .ok (.putfield 12, 3) := by decide +kernel
theorem dX0_init_15 : decode cX0_init 15 = .ok (.aload_n 0, 1) := by decide +kernel
theorem dX0_init_16 : decode cX0_init 16 = .ok (.bipush 49, 2) := by decide +kernel
theorem dX0_init_18 : decode cX0_init 18 = .ok (.newarray .int, 2) := by decide +kernel
theorem dX0_init_20 : decode cX0_init 20 = .ok (.putfield 18, 3) := by decide +kernel
theorem dX0_init_23 : decode cX0_init 23 = .ok (.aload_n 0, 1) := by decide +kernel
theorem dX0_init_24 : decode cX0_init 24 = .ok (.sipush 896, 3) := by decide +kernel
theorem dX0_init_27 : decode cX0_init 27 = .ok (.newarray .int, 2) := by decide +kernel
theorem dX0_init_29 : decode cX0_init 29 = .ok (.putfield 22, 3) := by decide +kernel
theorem dX0_init_32 : decode cX0_init 32 = .ok (.return_, 1) := by decide +kernel
set_option maxRecDepth 20000 in
theorem ggX0_arrange_Jx4a65c_size_8abf5 : GoodIn wsX0_arrange wsJx4a65c_size_8abf5 := goodIn_r _ [5, 6, 139, 140, 141] (by decide +kernel) (by decide +kernel)
set_option maxRecDepth 20000 in
theorem gX0_arrange_Jx4a65c_size_8abf5 : GoodIn wsX0_arrange (wsV RX0 25 RJx4a65c yJx4a65c_size_8abf5 wsJx4a65c_size_8abf5) := goodIn_app (goodIn_of _ (by decide +kernel)) ggX0_arrange_Jx4a65c_size_8abf5
set_option maxRecDepth 20000 in
theorem ggX0_arrange_X0_arrangeBest : GoodIn wsX0_arrange wsX0_arrangeBest := goodIn_r _ [11, 12, 13, 1, 2, 3, 4, 5, 6, 14, 15, 16, 17, 18, 19, 20, 21, 22, 23, 24, 25, 26, 27, 28, 29, 30, 31, 32, 33, 34, 35, 36, 37, 38, 39, 40, 41, 42, 43, 44, 45, 46, 47, 48, 49, 50, 51, 52, 53, 54, 55, 56, 57, 58, 59, 60, 61, 62, 63, 64, 65, 66, 67, 68, 69, 70, 71, 72, 73, 74, 75, 76, 77, 78, 79, 80, 81, 82, 83, 84, 85, 86, 87, 88, 89, 90, 10, 91, 92, 93, 94, 95, 96, 97, 98, 99, 100, 101, 102, 103, 104, 105, 106, 107, 108, 109, 110, 111, 112, 113, 114, 115, 116, 117, 142, 143, 144, 139, 140, 141, 145, 146, 147, 148, 149, 150] (by decide +kernel) (by decide +kernel)
set_option maxRecDepth 20000 in
theorem gX0_arrange_X0_arrangeBest : GoodIn wsX0_arrange (wsV RX0 29 RX0 yX0_arrangeBest wsX0_arrangeBest) := goodIn_app (goodIn_of _ (by decide +kernel)) ggX0_arrange_X0_arrangeBest
set_option maxRecDepth 20000 in
theorem ggX0_arrange_X0_arrangeChain : GoodIn wsX0_arrange wsX0_arrangeChain := goodIn_r _ [121, 13, 1, 2, 3, 4, 5, 6, 21, 22, 23, 24, 25, 26, 27, 28, 29, 30, 31, 32, 33, 34, 35, 36, 20, 93, 94, 95, 96, 97, 98, 56, 99, 100, 122, 123, 124, 125, 126, 127, 128, 129, 18, 19, 130, 85, 86, 87, 131, 132, 133, 134, 135, 136, 137, 138, 45, 46, 47, 48, 49, 50, 51, 52, 53, 54, 55, 57, 58, 59, 60, 61, 62, 63, 64, 65, 66, 67, 68, 69, 70, 71, 72, 73, 74, 75, 76, 77, 78, 79, 80, 81, 82, 83, 84, 139, 140, 141, 145, 146, 147, 148, 149, 150] (by decide +kernel) (by decide +kernel)
set_option maxRecDepth 20000 in
theorem gX0_arrange_X0_arrangeChain : GoodIn wsX0_arrange (wsV RX0 33 RX0 yX0_arrangeChain wsX0_arrangeChain) := goodIn_app (goodIn_of _ (by decide +kernel)) ggX0_arrange_X0_arrangeChain
theorem dX0_arrange_0 : decode cX0_arrange 0 = .ok (.iload_n 2, 1) := by decide +kernel
theorem dX0_arrange_1 : decode cX0_arrange 1 = .ok (.iconst 2, 1) := by decide +kernel
theorem dX0_arrange_2 : decode cX0_arrange 2 = .ok (.if_icmp .ne 20, 3) := by decide +kernel
theorem dX0_arrange_5 : decode cX0_arrange 5 = .ok (.aload_n 1, 1) := by decide +kernel
theorem dX0_arrange_6 : decode cX0_arrange 6 = .ok (.invokevirtual 25, 3) := by decide +kernel
theorem dX0_arrange_9 : decode cX0_arrange 9 = .ok (.bipush 7, 2) := by decide +kernel
theorem dX0_arrange_11 : decode cX0_arrange 11 = .ok (.if_icmp .gt 11, 3) := by decide +kernel
theorem dX0_arrange_14 : decode cX0_arrange 14 = .ok (.aload_n 0, 1) := by decide +kernel
theorem dX0_arrange_15 : decode cX0_arrange 15 = .ok (.aload_n 1, 1) := by decide +kernel
theorem dX0_arrange_16 : decode cX0_arrange 16 = .ok (.invokevirtual 29, 3) := by decide +kernel
theorem dX0_arrange_19 : decode cX0_arrange 19 = .ok (.goto 12, 3) := by decide +kernel
theorem dX0_arrange_22 : decode cX0_arrange 22 = .ok (.iload_n 2, 1) := by decide +kernel
theorem dX0_arrange_23 : decode cX0_arrange 23 = .ok (.ifCond .eq 8, 3) := by decide +kernel
theorem dX0_arrange_26 : decode cX0_arrange 26 = .ok (.aload_n 0, 1) := by decide +kernel
theorem dX0_arrange_27 : decode cX0_arrange 27 = .ok (.aload_n 1, 1) := by decide +kernel
theorem dX0_arrange_28 : decode cX0_arrange 28 = .ok (.invokevirtual 33, 3) := by decide +kernel
theorem dX0_arrange_31 : decode cX0_arrange 31 = .ok (.return_, 1) := by decide +kernel
set_option maxRecDepth 20000 in
theorem ggX0_arrangeChain_Jx4a65c_size_8abf5 : GoodIn wsX0_arrangeChain wsJx4a65c_size_8abf5 := goodIn_r _ [6, 7, 95, 96, 97] (by decide +kernel) (by decide +kernel)
set_option maxRecDepth 20000 in
theorem gX0_arrangeChain_Jx4a65c_size_8abf5 : GoodIn wsX0_arrangeChain (wsV RX0 25 RJx4a65c yJx4a65c_size_8abf5 wsJx4a65c_size_8abf5) := goodIn_app (goodIn_of _ (by decide +kernel)) ggX0_arrangeChain_Jx4a65c_size_8abf5
set_option maxRecDepth 20000 in
theorem ggX0_arrangeChain_Jx4a65c_get_915e3 : GoodIn wsX0_arrangeChain wsJx4a65c_get_915e3 := goodIn_r _ [11, 7, 12, 13, 14, 15, 16, 17, 18, 19, 20, 21, 22, 5, 23, 24, 95, 96, 97] (by decide +kernel) (by decide +kernel)
set_option maxRecDepth 20000 in
theorem gX0_arrangeChain_Jx4a65c_get_915e3 : GoodIn wsX0_arrangeChain (wsV RX0 36 RJx4a65c yJx4a65c_get_915e3 wsJx4a65c_get_915e3) := goodIn_app (goodIn_of _ (by decide +kernel)) ggX0_arrangeChain_Jx4a65c_get_915e3
set_option maxRecDepth 20000 in
theorem ggX0_arrangeChain_X5_apart : GoodIn wsX0_arrangeChain wsX5_apart := goodIn_r _ [27, 28, 29, 30, 31, 32, 33, 98, 99, 100, 101, 102, 103] (by decide +kernel) (by decide +kernel)
set_option maxRecDepth 20000 in
theorem gX0_arrangeChain_X5_apart_n42 : GoodIn wsX0_arrangeChain (wsX5_apart) := ggX0_arrangeChain_X5_apart
set_option maxRecDepth 20000 in
theorem ggX0_arrangeChain_Jx4a65c_remove_915e3 : GoodIn wsX0_arrangeChain wsJx4a65c_remove_915e3 := goodIn_r _ [37, 7, 24, 12, 13, 14, 15, 16, 17, 18, 19, 38, 39, 40, 5, 41, 42, 43, 44, 45, 46, 47, 95, 96, 97] (by decide +kernel) (by decide +kernel)
set_option maxRecDepth 20000 in
theorem gX0_arrangeChain_Jx4a65c_remove_915e3 : GoodIn wsX0_arrangeChain (wsV RX0 46 RJx4a65c yJx4a65c_remove_915e3 wsJx4a65c_remove_915e3) := goodIn_app (goodIn_of _ (by decide +kernel)) ggX0_arrangeChain_Jx4a65c_remove_915e3
set_option maxRecDepth 20000 in
theorem ggX0_arrangeChain_Jx4a65c_add_7a177 : GoodIn wsX0_arrangeChain wsJx4a65c_add_7a177 := goodIn_r _ [51, 42, 43, 7, 24, 44, 45, 46, 47, 52, 53, 54, 5, 55, 56, 57, 58, 59, 60, 61, 62, 63, 64, 65, 66, 31, 67, 68, 69, 70, 71, 72, 73, 74, 75, 76, 77, 78, 79, 80, 81, 82, 83, 84, 85, 86, 87, 88, 89, 90, 91, 92, 93, 94, 95, 96, 97] (by decide +kernel) (by decide +kernel)
set_option maxRecDepth 20000 in
theorem gX0_arrangeChain_Jx4a65c_add_7a177 : GoodIn wsX0_arrangeChain (wsV RX0 49 RJx4a65c yJx4a65c_add_7a177 wsJx4a65c_add_7a177) := goodIn_app (goodIn_of _ (by decide +kernel)) ggX0_arrangeChain_Jx4a65c_add_7a177
theorem dX0_arrangeChain_0 : decode cX0_arrangeChain 0 = .ok (.iconst 1, 1) := by decide +kernel
theorem dX0_arrangeChain_1 : decode cX0_arrangeChain 1 = .ok (.istore_n 2, 1) := by decide +kernel
theorem dX0_arrangeChain_2 : decode cX0_arrangeChain 2 = .ok (.iload_n 2, 1) := by decide +kernel
theorem dX0_arrangeChain_3 : decode cX0_arrangeChain 3 = .ok (.aload_n 1, 1) := by decide +kernel
theorem dX0_arrangeChain_4 : decode cX0_arrangeChain 4 = .ok (.invokevirtual 25, 3) := by decide +kernel
theorem dX0_arrangeChain_7 : decode cX0_arrangeChain 7 = .ok (.if_icmp .ge 101, 3) := by decide +kernel
theorem dX0_arrangeChain_10 : decode cX0_arrangeChain 10 = .ok (.aload_n 1, 1) := by decide +kernel
theorem dX0_arrangeChain_11 : decode cX0_arrangeChain 11 = .ok (.iload_n 2, 1) := by decide +kernel
theorem dX0_arrangeChain_12 : decode cX0_arrangeChain 12 = .ok (.iconst 1, 1) := by decide +kernel
theorem dX0_arrangeChain_13 : decode cX0_arrangeChain 13 = .ok (.isub, 1) := by decide +kernel
theorem dX0_arrangeChain_14 : decode cX0_arrangeChain 14 = .ok (.invokevirtual 36, 3) := by decide +kernel
theorem dX0_arrangeChain_17 : decode cX0_arrangeChain 17 = .ok (.checkcast 40, 3) := by decide +kernel
theorem dX0_arrangeChain_20 : decode cX0_arrangeChain 20 = .ok (.astore_n 3, 1) := by decide +kernel
theorem dX0_arrangeChain_21 : decode cX0_arrangeChain 21 = .ok (.iload_n 2, 1) := by decide +kernel
theorem dX0_arrangeChain_22 : decode cX0_arrangeChain 22 = .ok (.istore 4, 2) := by decide +kernel
theorem dX0_arrangeChain_24 : decode cX0_arrangeChain 24 = .ok (.aload_n 3, 1) := by decide +kernel
theorem dX0_arrangeChain_25 : decode cX0_arrangeChain 25 = .ok (.aload_n 1, 1) := by decide +kernel
theorem dX0_arrangeChain_26 : decode cX0_arrangeChain 26 = .ok (.iload_n 2, 1) := by decide +kernel
theorem dX0_arrangeChain_27 : decode cX0_arrangeChain 27 = .ok (.invokevirtual 36, 3) := by decide +kernel
theorem dX0_arrangeChain_30 : decode cX0_arrangeChain 30 = .ok (.checkcast 40, 3) := by decide +kernel
theorem dX0_arrangeChain_33 : decode cX0_arrangeChain 33 = .ok (.invokestatic 42, 3) := by decide +kernel
theorem dX0_arrangeChain_36 : decode cX0_arrangeChain 36 = .ok (.istore 5, 2) := by decide +kernel
theorem dX0_arrangeChain_38 : decode cX0_arrangeChain 38 = .ok (.iload_n 2, 1) := by decide +kernel
theorem dX0_arrangeChain_39 : decode cX0_arrangeChain 39 = .ok (.iconst 1, 1) := by decide +kernel
theorem dX0_arrangeChain_40 : decode cX0_arrangeChain 40 = .ok (.iadd, 1) := by decide +kernel
theorem dX0_arrangeChain_41 : decode cX0_arrangeChain 41 = .ok (.istore 6, 2) := by decide +kernel
theorem dX0_arrangeChain_43 : decode cX0_arrangeChain 43 = .ok (.iload 6, 2) := by decide +kernel
theorem dX0_arrangeChain_45 : decode cX0_arrangeChain 45 = .ok (.aload_n 1, 1) := by decide +kernel
theorem dX0_arrangeChain_46 : decode cX0_arrangeChain 46 = .ok (.invokevirtual 25, 3) := by decide +kernel
theorem dX0_arrangeChain_49 : decode cX0_arrangeChain 49 = .ok (.if_icmp .ge 39, 3) := by decide +kernel
theorem dX0_arrangeChain_52 : decode cX0_arrangeChain 52 = .ok (.aload_n 3, 1) := by decide +kernel
theorem dX0_arrangeChain_53 : decode cX0_arrangeChain 53 = .ok (.aload_n 1, 1) := by decide +kernel
theorem dX0_arrangeChain_54 : decode cX0_arrangeChain 54 = .ok (.iload 6, 2) := by decide +kernel
theorem dX0_arrangeChain_56 : decode cX0_arrangeChain 56 = .ok (.invokevirtual 36, 3) := by decide +kernel
theorem dX0_arrangeChain_59 : decode cX0_arrangeChain 59 = .ok (.checkcast 40, 3) := by decide +kernel
theorem dX0_arrangeChain_62 : decode cX0_arrangeChain 62 = .ok (.invokestatic 42, 3) := by decide +kernel
theorem dX0_arrangeChain_65 : decode cX0_arrangeChain 65 = .ok (.istore 7, 2) := by decide +kernel
theorem dX0_arrangeChain_67 : decode cX0_arrangeChain 67 = .ok (.iload 7, 2) := by decide +kernel
theorem dX0_arrangeChain_69 : decode cX0_arrangeChain 69 = .ok (.iload 5, 2) := by decide +kernel
theorem dX0_arrangeChain_71 : decode cX0_arrangeChain 71 = .ok (.if_icmp .ge 11, 3) := by decide +kernel
theorem dX0_arrangeChain_74 : decode cX0_arrangeChain 74 = .ok (.iload 7, 2) := by decide +kernel
theorem dX0_arrangeChain_76 : decode cX0_arrangeChain 76 = .ok (.istore 5, 2) := by decide +kernel
theorem dX0_arrangeChain_78 : decode cX0_arrangeChain 78 = .ok (.iload 6, 2) := by decide +kernel
theorem dX0_arrangeChain_80 : decode cX0_arrangeChain 80 = .ok (.istore 4, 2) := by decide +kernel
theorem dX0_arrangeChain_82 : decode cX0_arrangeChain 82 = .ok (.iinc 6 1, 3) := by decide +kernel
theorem dX0_arrangeChain_85 : decode cX0_arrangeChain 85 = .ok (.goto (-42), 3) := by decide +kernel
theorem dX0_arrangeChain_88 : decode cX0_arrangeChain 88 = .ok (.aload_n 1, 1) := by decide +kernel
theorem dX0_arrangeChain_89 : decode cX0_arrangeChain 89 = .ok (.iload_n 2, 1) := by decide +kernel
theorem dX0_arrangeChain_90 : decode cX0_arrangeChain 90 = .ok (.aload_n 1, 1) := by decide +kernel
theorem dX0_arrangeChain_91 : decode cX0_arrangeChain 91 = .ok (.iload 4, 2) := by decide +kernel
theorem dX0_arrangeChain_93 : decode cX0_arrangeChain 93 = .ok (.invokevirtual 46, 3) := by decide +kernel
theorem dX0_arrangeChain_96 : decode cX0_arrangeChain 96 = .ok (.checkcast 40, 3) := by decide +kernel
theorem dX0_arrangeChain_99 : decode cX0_arrangeChain 99 = .ok (.invokevirtual 49, 3) := by decide +kernel
theorem dX0_arrangeChain_102 : decode cX0_arrangeChain 102 = .ok (.iinc 2 1, 3) := by decide +kernel
theorem dX0_arrangeChain_105 : decode cX0_arrangeChain 105 = .ok (.goto (-103), 3) := by decide +kernel
theorem dX0_arrangeChain_108 : decode cX0_arrangeChain 108 = .ok (.return_, 1) := by decide +kernel
set_option maxRecDepth 20000 in
theorem ggX0_arrangeBest_Jx4a65c_size_8abf5 : GoodIn wsX0_arrangeBest wsJx4a65c_size_8abf5 := goodIn_r _ [7, 8, 117, 118, 119] (by decide +kernel) (by decide +kernel)
set_option maxRecDepth 20000 in
theorem gX0_arrangeBest_Jx4a65c_size_8abf5 : GoodIn wsX0_arrangeBest (wsV RX0 25 RJx4a65c yJx4a65c_size_8abf5 wsJx4a65c_size_8abf5) := goodIn_app (goodIn_of _ (by decide +kernel)) ggX0_arrangeBest_Jx4a65c_size_8abf5
set_option maxRecDepth 20000 in
theorem ggX0_arrangeBest_Jx4a65c_clear_da8c8 : GoodIn wsX0_arrangeBest wsJx4a65c_clear_da8c8 := goodIn_r _ [12, 13, 14, 15, 8, 117, 118, 119] (by decide +kernel) (by decide +kernel)
set_option maxRecDepth 20000 in
theorem gX0_arrangeBest_Jx4a65c_clear_da8c8 : GoodIn wsX0_arrangeBest (wsV RX0 53 RJx4a65c yJx4a65c_clear_da8c8 wsJx4a65c_clear_da8c8) := goodIn_app (goodIn_of _ (by decide +kernel)) ggX0_arrangeBest_Jx4a65c_clear_da8c8
set_option maxRecDepth 20000 in
theorem ggX0_arrangeBest_Jx4a65c_get_915e3 : GoodIn wsX0_arrangeBest wsJx4a65c_get_915e3 := goodIn_r _ [19, 8, 20, 21, 22, 23, 24, 25, 26, 27, 28, 29, 30, 6, 31, 15, 117, 118, 119] (by decide +kernel) (by decide +kernel)
set_option maxRecDepth 20000 in
theorem gX0_arrangeBest_Jx4a65c_get_915e3 : GoodIn wsX0_arrangeBest (wsV RX0 36 RJx4a65c yJx4a65c_get_915e3 wsJx4a65c_get_915e3) := goodIn_app (goodIn_of _ (by decide +kernel)) ggX0_arrangeBest_Jx4a65c_get_915e3
set_option maxRecDepth 20000 in
theorem ggX0_arrangeBest_Jx4a65c_add_9ea2d : GoodIn wsX0_arrangeBest wsJx4a65c_add_9ea2d := goodIn_r _ [35, 13, 14, 15, 8, 36, 37, 38, 6, 39, 40, 41, 42, 43, 44, 45, 46, 47, 48, 49, 50, 51, 52, 53, 54, 55, 56, 57, 58, 59, 60, 61, 62, 63, 64, 65, 66, 67, 68, 69, 70, 71, 72, 73, 74, 75, 76, 77, 78, 79, 80, 81, 82, 117, 118, 119] (by decide +kernel) (by decide +kernel)
set_option maxRecDepth 20000 in
theorem gX0_arrangeBest_Jx4a65c_add_9ea2d : GoodIn wsX0_arrangeBest (wsV RX0 56 RJx4a65c yJx4a65c_add_9ea2d wsJx4a65c_add_9ea2d) := goodIn_app (goodIn_of _ (by decide +kernel)) ggX0_arrangeBest_Jx4a65c_add_9ea2d
set_option maxRecDepth 20000 in
theorem ggX0_arrangeBest_X0_measureSteps : GoodIn wsX0_arrangeBest wsX0_measureSteps := goodIn_r _ [87, 88, 1, 2, 16, 17, 18, 6, 19, 8, 20, 21, 22, 23, 24, 25, 26, 27, 28, 29, 30, 31, 15, 89, 90, 91, 92, 93, 94, 51, 95, 96, 114, 115, 116, 117, 118, 119, 120, 121, 122, 123, 124, 125] (by decide +kernel) (by decide +kernel)
set_option maxRecDepth 20000 in
theorem gX0_arrangeBest_X0_measureSteps : GoodIn wsX0_arrangeBest (wsV RX0 59 RX0 yX0_measureSteps wsX0_measureSteps) := goodIn_app (goodIn_of _ (by decide +kernel)) ggX0_arrangeBest_X0_measureSteps
set_option maxRecDepth 20000 in
theorem ggX0_arrangeBest_X0_measureSums : GoodIn wsX0_arrangeBest wsX0_measureSums := goodIn_r _ [100, 101, 102, 103, 104, 86, 105, 106, 107, 108, 109, 88, 114, 115, 116] (by decide +kernel) (by decide +kernel)
set_option maxRecDepth 20000 in
theorem gX0_arrangeBest_X0_measureSums : GoodIn wsX0_arrangeBest (wsV RX0 63 RX0 yX0_measureSums wsX0_measureSums) := goodIn_app (goodIn_of _ (by decide +kernel)) ggX0_arrangeBest_X0_measureSums
set_option maxRecDepth 20000 in
theorem ggX0_arrangeBest_X0_bestNext : GoodIn wsX0_arrangeBest wsX0_bestNext := goodIn_r _ [105, 106, 107, 108, 86, 109, 88, 101, 114, 115, 116] (by decide +kernel) (by decide +kernel)
set_option maxRecDepth 20000 in
theorem gX0_arrangeBest_X0_bestNext : GoodIn wsX0_arrangeBest (wsV RX0 66 RX0 yX0_bestNext wsX0_bestNext) := goodIn_app (goodIn_of _ (by decide +kernel)) ggX0_arrangeBest_X0_bestNext
set_option maxRecDepth 20000 in
theorem ggX0_arrangeBest_Jx4a65c_set_bcc79 : GoodIn wsX0_arrangeBest wsJx4a65c_set_bcc79 := goodIn_r _ [113, 8, 15, 20, 21, 22, 23, 24, 25, 26, 27, 28, 29, 30, 6, 31, 117, 118, 119] (by decide +kernel) (by decide +kernel)
set_option maxRecDepth 20000 in
theorem gX0_arrangeBest_Jx4a65c_set_bcc79 : GoodIn wsX0_arrangeBest (wsV RX0 70 RJx4a65c yJx4a65c_set_bcc79 wsJx4a65c_set_bcc79) := goodIn_app (goodIn_of _ (by decide +kernel)) ggX0_arrangeBest_Jx4a65c_set_bcc79
theorem dX0_arrangeBest_0 : decode cX0_arrangeBest 0 = .ok (.aload_n 1, 1) := by decide +kernel
theorem dX0_arrangeBest_1 : decode cX0_arrangeBest 1 = .ok (.invokevirtual 25, 3) := by decide +kernel
theorem dX0_arrangeBest_4 : decode cX0_arrangeBest 4 = .ok (.istore_n 2, 1) := by decide +kernel
theorem dX0_arrangeBest_5 : decode cX0_arrangeBest 5 = .ok (.aload_n 0, 1) := by decide +kernel
theorem dX0_arrangeBest_6 : decode cX0_arrangeBest 6 = .ok (.getfield 12, 3) := by decide +kernel
theorem dX0_arrangeBest_9 : decode cX0_arrangeBest 9 = .ok (.invokevirtual 53, 3) := by decide +kernel
theorem dX0_arrangeBest_12 : decode cX0_arrangeBest 12 = .ok (.iconst 0, 1) := by decide +kernel
theorem dX0_arrangeBest_13 : decode cX0_arrangeBest 13 = .ok (.istore_n 3, 1) := by decide +kernel
theorem dX0_arrangeBest_14 : decode cX0_arrangeBest 14 = .ok (.iload_n 3, 1) := by decide +kernel
theorem dX0_arrangeBest_15 : decode cX0_arrangeBest 15 = .ok (.iload_n 2, 1) := by decide +kernel
theorem dX0_arrangeBest_16 : decode cX0_arrangeBest 16 = .ok (.if_icmp .ge 25, 3) := by decide +kernel
theorem dX0_arrangeBest_19 : decode cX0_arrangeBest 19 = .ok (.aload_n 0, 1) := by decide +kernel
theorem dX0_arrangeBest_20 : decode cX0_arrangeBest 20 = .ok (.getfield 12, 3) := by decide +kernel
theorem dX0_arrangeBest_23 : decode cX0_arrangeBest 23 = .ok (.aload_n 1, 1) := by decide +kernel
theorem dX0_arrangeBest_24 : decode cX0_arrangeBest 24 = .ok (.iload_n 3, 1) := by decide +kernel
theorem dX0_arrangeBest_25 : decode cX0_arrangeBest 25 = .ok (.invokevirtual 36, 3) := by decide +kernel
theorem dX0_arrangeBest_28 : decode cX0_arrangeBest 28 = .ok (.checkcast 40, 3) := by decide +kernel
theorem dX0_arrangeBest_31 : decode cX0_arrangeBest 31 = .ok (.invokevirtual 56, 3) := by decide +kernel
theorem dX0_arrangeBest_34 : decode cX0_arrangeBest 34 = .ok (.pop, 1) := by decide +kernel
theorem dX0_arrangeBest_35 : decode cX0_arrangeBest 35 = .ok (.iinc 3 1, 3) := by decide +kernel
theorem dX0_arrangeBest_38 : decode cX0_arrangeBest 38 = .ok (.goto (-24), 3) := by decide +kernel
theorem dX0_arrangeBest_41 : decode cX0_arrangeBest 41 = .ok (.aload_n 0, 1) := by decide +kernel
theorem dX0_arrangeBest_42 : decode cX0_arrangeBest 42 = .ok (.iload_n 2, 1) := by decide +kernel
theorem dX0_arrangeBest_43 : decode cX0_arrangeBest 43 = .ok (.invokevirtual 59, 3) := by decide +kernel
theorem dX0_arrangeBest_46 : decode cX0_arrangeBest 46 = .ok (.aload_n 0, 1) := by decide +kernel
theorem dX0_arrangeBest_47 : decode cX0_arrangeBest 47 = .ok (.iload_n 2, 1) := by decide +kernel
theorem dX0_arrangeBest_48 : decode cX0_arrangeBest 48 = .ok (.invokevirtual 63, 3) := by decide +kernel
theorem dX0_arrangeBest_51 : decode cX0_arrangeBest 51 = .ok (.iconst 1, 1) := by decide +kernel
theorem dX0_arrangeBest_52 : decode cX0_arrangeBest 52 = .ok (.iload_n 2, 1) := by decide +kernel
theorem dX0_arrangeBest_53 : decode cX0_arrangeBest 53 = .ok (.ishl, 1) := by decide +kernel
theorem dX0_arrangeBest_54 : decode cX0_arrangeBest 54 = .ok (.iconst 1, 1) := by decide +kernel
theorem dX0_arrangeBest_55 : decode cX0_arrangeBest 55 = .ok (.isub, 1) := by decide +kernel
theorem dX0_arrangeBest_56 : decode cX0_arrangeBest 56 = .ok (.istore_n 3, 1) := by decide +kernel
theorem dX0_arrangeBest_57 : decode cX0_arrangeBest 57 = .ok (.iconst (-1), 1) := by decide +kernel
theorem dX0_arrangeBest_58 : decode cX0_arrangeBest 58 = .ok (.istore 4, 2) := by decide +kernel
theorem dX0_arrangeBest_60 : decode cX0_arrangeBest 60 = .ok (.iconst 0, 1) := by decide +kernel
theorem dX0_arrangeBest_61 : decode cX0_arrangeBest 61 = .ok (.istore 5, 2) := by decide +kernel
theorem dX0_arrangeBest_63 : decode cX0_arrangeBest 63 = .ok (.iload 5, 2) := by decide +kernel
theorem dX0_arrangeBest_65 : decode cX0_arrangeBest 65 = .ok (.iload_n 2, 1) := by decide +kernel
theorem dX0_arrangeBest_66 : decode cX0_arrangeBest 66 = .ok (.if_icmp .ge 62, 3) := by decide +kernel
theorem dX0_arrangeBest_69 : decode cX0_arrangeBest 69 = .ok (.aload_n 0, 1) := by decide +kernel
theorem dX0_arrangeBest_70 : decode cX0_arrangeBest 70 = .ok (.iload 4, 2) := by decide +kernel
theorem dX0_arrangeBest_72 : decode cX0_arrangeBest 72 = .ok (.iload_n 3, 1) := by decide +kernel
theorem dX0_arrangeBest_73 : decode cX0_arrangeBest 73 = .ok (.iload_n 2, 1) := by decide +kernel
theorem dX0_arrangeBest_74 : decode cX0_arrangeBest 74 = .ok (.invokevirtual 66, 3) := by decide +kernel
theorem dX0_arrangeBest_77 : decode cX0_arrangeBest 77 = .ok (.istore 6, 2) := by decide +kernel
theorem dX0_arrangeBest_79 : decode cX0_arrangeBest 79 = .ok (.iload 6, 2) := by decide +kernel
theorem dX0_arrangeBest_81 : decode cX0_arrangeBest 81 = .ok (.ifCond .lt 41, 3) := by decide +kernel
theorem dX0_arrangeBest_84 : decode cX0_arrangeBest 84 = .ok (.iload 6, 2) := by decide +kernel
theorem dX0_arrangeBest_86 : decode cX0_arrangeBest 86 = .ok (.iload_n 2, 1) := by decide +kernel
theorem dX0_arrangeBest_87 : decode cX0_arrangeBest 87 = .ok (.if_icmp .ge 35, 3) := by decide +kernel
theorem dX0_arrangeBest_90 : decode cX0_arrangeBest 90 = .ok (.aload_n 1, 1) := by decide +kernel
theorem dX0_arrangeBest_91 : decode cX0_arrangeBest 91 = .ok (.iload 5, 2) := by decide +kernel
theorem dX0_arrangeBest_93 : decode cX0_arrangeBest 93 = .ok (.aload_n 0, 1) := by decide +kernel
theorem dX0_arrangeBest_94 : decode cX0_arrangeBest 94 = .ok (.getfield 12, 3) := by decide +kernel
theorem dX0_arrangeBest_97 : decode cX0_arrangeBest 97 = .ok (.iload 6, 2) := by decide +kernel
theorem dX0_arrangeBest_99 : decode cX0_arrangeBest 99 = .ok (.invokevirtual 36, 3) := by decide +kernel
theorem dX0_arrangeBest_102 : decode cX0_arrangeBest 102 = .ok (.checkcast 40, 3) := by decide +kernel
theorem dX0_arrangeBest_105 : decode cX0_arrangeBest 105 = .ok (.invokevirtual 70, 3) := by decide +kernel
theorem dX0_arrangeBest_108 : decode cX0_arrangeBest 108 = .ok (.pop, 1) := by decide +kernel
theorem dX0_arrangeBest_109 : decode cX0_arrangeBest 109 = .ok (.iload_n 3, 1) := by decide +kernel
theorem dX0_arrangeBest_110 : decode cX0_arrangeBest 110 = .ok (.iconst 1, 1) := by decide +kernel
theorem dX0_arrangeBest_111 : decode cX0_arrangeBest 111 = .ok (.iload 6, 2) := by decide +kernel
theorem dX0_arrangeBest_113 : decode cX0_arrangeBest 113 = .ok (.ishl, 1) := by decide +kernel
theorem dX0_arrangeBest_114 : decode cX0_arrangeBest 114 = .ok (.iconst (-1), 1) := by decide +kernel
theorem dX0_arrangeBest_115 : decode cX0_arrangeBest 115 = .ok (.ixor, 1) := by decide +kernel
theorem dX0_arrangeBest_116 : decode cX0_arrangeBest 116 = .ok (.iand, 1) := by decide +kernel
theorem dX0_arrangeBest_117 : decode cX0_arrangeBest 117 = .ok (.istore_n 3, 1) := by decide +kernel
theorem dX0_arrangeBest_118 : decode cX0_arrangeBest 118 = .ok (.iload 6, 2) := by decide +kernel
theorem dX0_arrangeBest_120 : decode cX0_arrangeBest 120 = .ok (.istore 4, 2) := by decide +kernel
theorem dX0_arrangeBest_122 : decode cX0_arrangeBest 122 = .ok (.iinc 5 1, 3) := by decide +kernel
theorem dX0_arrangeBest_125 : decode cX0_arrangeBest 125 = .ok (.goto (-62), 3) := by decide +kernel
theorem dX0_arrangeBest_128 : decode cX0_arrangeBest 128 = .ok (.return_, 1) := by decide +kernel
set_option maxRecDepth 20000 in
theorem ggX0_measureSteps_Jx4a65c_get_915e3 : GoodIn wsX0_measureSteps wsJx4a65c_get_915e3 := goodIn_r _ [8, 9, 10, 11, 12, 13, 14, 15, 16, 17, 18, 19, 20, 7, 21, 22, 35, 36, 37] (by decide +kernel) (by decide +kernel)
set_option maxRecDepth 20000 in
theorem gX0_measureSteps_Jx4a65c_get_915e3 : GoodIn wsX0_measureSteps (wsV RX0 36 RJx4a65c yJx4a65c_get_915e3 wsJx4a65c_get_915e3) := goodIn_app (goodIn_of _ (by decide +kernel)) ggX0_measureSteps_Jx4a65c_get_915e3
set_option maxRecDepth 20000 in
theorem ggX0_measureSteps_X5_apart : GoodIn wsX0_measureSteps wsX5_apart := goodIn_r _ [25, 26, 27, 28, 29, 30, 31, 38, 39, 40, 41, 42, 43] (by decide +kernel) (by decide +kernel)
set_option maxRecDepth 20000 in
theorem gX0_measureSteps_X5_apart_n42 : GoodIn wsX0_measureSteps (wsX5_apart) := ggX0_measureSteps_X5_apart
theorem dX0_measureSteps_0 : decode cX0_measureSteps 0 = .ok (.iconst 0, 1) := by decide +kernel
theorem dX0_measureSteps_1 : decode cX0_measureSteps 1 = .ok (.istore_n 2, 1) := by decide +kernel
theorem dX0_measureSteps_2 : decode cX0_measureSteps 2 = .ok (.iload_n 2, 1) := by decide +kernel
theorem dX0_measureSteps_3 : decode cX0_measureSteps 3 = .ok (.iload_n 1, 1) := by decide +kernel
theorem dX0_measureSteps_4 : decode cX0_measureSteps 4 = .ok (.if_icmp .ge 58, 3) := by decide +kernel
theorem dX0_measureSteps_7 : decode cX0_measureSteps 7 = .ok (.iconst 0, 1) := by decide +kernel
theorem dX0_measureSteps_8 : decode cX0_measureSteps 8 = .ok (.istore_n 3, 1) := by decide +kernel
theorem dX0_measureSteps_9 : decode cX0_measureSteps 9 = .ok (.iload_n 3, 1) := by decide +kernel
theorem dX0_measureSteps_10 : decode cX0_measureSteps 10 = .ok (.iload_n 1, 1) := by decide +kernel
theorem dX0_measureSteps_11 : decode cX0_measureSteps 11 = .ok (.if_icmp .ge 45, 3) := by decide +kernel
theorem dX0_measureSteps_14 : decode cX0_measureSteps 14 = .ok (.aload_n 0, 1) := by decide +kernel
theorem dX0_measureSteps_15 : decode cX0_measureSteps 15 = .ok (.getfield 18, 3) := by decide +kernel
theorem dX0_measureSteps_18 : decode cX0_measureSteps 18 = .ok (.iload_n 2, 1) := by decide +kernel
theorem dX0_measureSteps_19 : decode cX0_measureSteps 19 = .ok (.bipush 7, 2) := by decide +kernel
theorem dX0_measureSteps_21 : decode cX0_measureSteps 21 = .ok (.imul, 1) := by decide +kernel
theorem dX0_measureSteps_22 : decode cX0_measureSteps 22 = .ok (.iload_n 3, 1) := by decide +kernel
theorem dX0_measureSteps_23 : decode cX0_measureSteps 23 = .ok (.iadd, 1) := by decide +kernel
theorem dX0_measureSteps_24 : decode cX0_measureSteps 24 = .ok (.aload_n 0, 1) := by decide +kernel
theorem dX0_measureSteps_25 : decode cX0_measureSteps 25 = .ok (.getfield 12, 3) := by decide +kernel
theorem dX0_measureSteps_28 : decode cX0_measureSteps 28 = .ok (.iload_n 2, 1) := by decide +kernel
theorem dX0_measureSteps_29 : decode cX0_measureSteps 29 = .ok (.invokevirtual 36, 3) := by decide +kernel
theorem dX0_measureSteps_32 : decode cX0_measureSteps 32 = .ok (.checkcast 40, 3) := by decide +kernel
theorem dX0_measureSteps_35 : decode cX0_measureSteps 35 = .ok (.aload_n 0, 1) := by decide +kernel
theorem dX0_measureSteps_36 : decode cX0_measureSteps 36 = .ok (.getfield 12, 3) := by decide +kernel
theorem dX0_measureSteps_39 : decode cX0_measureSteps 39 = .ok (.iload_n 3, 1) := by decide +kernel
theorem dX0_measureSteps_40 : decode cX0_measureSteps 40 = .ok (.invokevirtual 36, 3) := by decide +kernel
theorem dX0_measureSteps_43 : decode cX0_measureSteps 43 = .ok (.checkcast 40, 3) := by decide +kernel
theorem dX0_measureSteps_46 : decode cX0_measureSteps 46 = .ok (.invokestatic 42, 3) := by decide +kernel
theorem dX0_measureSteps_49 : decode cX0_measureSteps 49 = .ok (.iastore, 1) := by decide +kernel
theorem dX0_measureSteps_50 : decode cX0_measureSteps 50 = .ok (.iinc 3 1, 3) := by decide +kernel
theorem dX0_measureSteps_53 : decode cX0_measureSteps 53 = .ok (.goto (-44), 3) := by decide +kernel
theorem dX0_measureSteps_56 : decode cX0_measureSteps 56 = .ok (.iinc 2 1, 3) := by decide +kernel
theorem dX0_measureSteps_59 : decode cX0_measureSteps 59 = .ok (.goto (-57), 3) := by decide +kernel
theorem dX0_measureSteps_62 : decode cX0_measureSteps 62 = .ok (.return_, 1) := by decide +kernel
set_option maxRecDepth 20000 in
theorem ggX0_measureSums_X0_bestNext : GoodIn wsX0_measureSums wsX0_bestNext := goodIn_r _ [6, 7, 8, 9, 5, 10, 11, 1, 12, 13, 14] (by decide +kernel) (by decide +kernel)
set_option maxRecDepth 20000 in
theorem gX0_measureSums_X0_bestNext : GoodIn wsX0_measureSums (wsV RX0 66 RX0 yX0_bestNext wsX0_bestNext) := goodIn_app (goodIn_of _ (by decide +kernel)) ggX0_measureSums_X0_bestNext
set_option maxRecDepth 20000 in
theorem ggX0_measureSums_X0_sumBy : GoodIn wsX0_measureSums wsX0_sumBy := goodIn_r _ [10, 11, 1, 12, 13, 14] (by decide +kernel) (by decide +kernel)
set_option maxRecDepth 20000 in
theorem gX0_measureSums_X0_sumBy : GoodIn wsX0_measureSums (wsV RX0 74 RX0 yX0_sumBy wsX0_sumBy) := goodIn_app (goodIn_of _ (by decide +kernel)) ggX0_measureSums_X0_sumBy
theorem dX0_measureSums_0 : decode cX0_measureSums 0 = .ok (.iconst 0, 1) := by decide +kernel
theorem dX0_measureSums_1 : decode cX0_measureSums 1 = .ok (.istore_n 2, 1) := by decide +kernel
theorem dX0_measureSums_2 : decode cX0_measureSums 2 = .ok (.iload_n 2, 1) := by decide +kernel
theorem dX0_measureSums_3 : decode cX0_measureSums 3 = .ok (.iconst 1, 1) := by decide +kernel
theorem dX0_measureSums_4 : decode cX0_measureSums 4 = .ok (.iload_n 1, 1) := by decide +kernel
theorem dX0_measureSums_5 : decode cX0_measureSums 5 = .ok (.ishl, 1) := by decide +kernel
