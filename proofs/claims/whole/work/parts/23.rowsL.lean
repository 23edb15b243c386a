/-! ===== the law: its words, its decode rows ===== -/
theorem mem_r {big : List Cond} (ws : List Cond) (ps : List Nat) (hp : ws = ps.filterMap (fun i => big[i]?)) : ∀ w ∈ ws, w ∈ big := by
  intro w hw
  rw [hp] at hw
  obtain ⟨i, -, hi⟩ := List.mem_filterMap.mp hw
  first | exact List.mem_of_getElem? hi | exact List.getElem?_mem hi
def wsL_law0_r1 : List Cond := [Cond.classLink RL 8 RX6, Cond.instantiable RX6 8, Cond.initialized RX6, Cond.classLink RL 75 RX7, Cond.instantiable RX7 32, Cond.initialized RX7, Cond.arrayClass .long, Cond.methodLink RL 74 yX6_init, Cond.instanceMethod yX6_init, Cond.code yX6_init cX6_init 2 none, Cond.methodLink RX6 1 objectInit, Cond.instanceMethod objectInit, Cond.code objectInit ⟨#[0xb1]⟩ 1 none, Cond.classLink RX6 9 RX4, Cond.fieldLink RX6 11 "TabStore" "tabs" "[LTabStore$Tab;", Cond.classLink RX6 15 RX3, Cond.fieldLink RX6 17 "TabStore" "stores" "[LTabStore$Store;", Cond.fieldLink RX6 21 "TabStore" "copies" "[LTabStore$Store;", Cond.classLink RX6 24 RJx4a65c, Cond.instantiable RJx4a65c 3, Cond.initialized RJx4a65c, Cond.fieldLink RX6 27 "TabStore" "transactions" "Ljava/util/List;", Cond.fieldLink RX6 31 "TabStore" "cursors" "Ljava/util/List;", Cond.fieldLink RX6 34 "TabStore" "databaseVersion" "I"]
def wsL_law0_r2 : List Cond := [Cond.fieldLink RX6 38 "TabStore" "runningUpgrade" "I", Cond.fieldLink RX6 41 "TabStore" "turns" "I", Cond.instantiable RX4 3, Cond.initialized RX4, Cond.instantiable RX3 3, Cond.initialized RX3, Cond.methodLink RX6 26 yJx4a65c_init_da8c8, Cond.instanceMethod yJx4a65c_init_da8c8, Cond.code yJx4a65c_init_da8c8 cJx4a65c_init_da8c8 1 none, Cond.fieldLink RJx4a65c 39 "java/util/ArrayList" "DEFAULTCAPACITY_EMPTY_ELEMENTDATA" "[Ljava/lang/Object;", Cond.fieldLink RJx4a65c 9 "java/util/ArrayList" "elementData" "[Ljava/lang/Object;", Cond.methodLink RJx4a65c 1 yJxc12de_init_da8c8, Cond.instanceMethod yJxc12de_init_da8c8, Cond.initialized RJxc12de, Cond.code yJxc12de_init_da8c8 cJxc12de_init_da8c8 1 none, Cond.fieldLink RJxc12de 7 "java/util/AbstractList" "modCount" "I", Cond.methodLink RJxc12de 1 yJxa1e45_init_da8c8, Cond.instanceMethod yJxa1e45_init_da8c8, Cond.initialized RJxa1e45, Cond.code yJxa1e45_init_da8c8 cJxa1e45_init_da8c8 1 none, Cond.methodLink RJxa1e45 1 objectInit, Cond.instanceMethod yX4_init, Cond.code yX4_init cX4_init 1 none, Cond.methodLink RX4 1 objectInit]
def wsL_law0_r3 : List Cond := [Cond.fieldLink RX4 9 "TabStore$Tab" "condition" "I", Cond.fieldLink RX4 13 "TabStore$Tab" "wanted" "I", Cond.fieldLink RX4 16 "TabStore$Tab" "turn" "I", Cond.instanceMethod yX3_init, Cond.code yX3_init cX3_init 1 none, Cond.methodLink RX3 3 objectInit, Cond.fieldLink RX3 9 "TabStore$Store" "isThere" "Z", Cond.arrayClass .int, Cond.fieldLink RX3 15 "TabStore$Store" "indexes" "[I", Cond.classLink RX3 19 RJx4a65c, Cond.fieldLink RX3 22 "TabStore$Store" "rows" "Ljava/util/List;", Cond.methodLink RX3 21 yJx4a65c_init_da8c8, Cond.methodLink RL 77 yX7_init, Cond.instanceMethod yX7_init, Cond.code yX7_init cX7_init 1 none, Cond.methodLink RX7 1 objectInit, Cond.fieldLink RX7 7 "TabStoreModel" "state" "[I", Cond.fieldLink RX7 13 "TabStoreModel" "wanted" "[I", Cond.fieldLink RX7 16 "TabStoreModel" "since" "[I", Cond.fieldLink RX7 19 "TabStoreModel" "upgrade" "I", Cond.arrayClass .boolean, Cond.fieldLink RX7 23 "TabStoreModel" "isThere" "[Z", Cond.fieldLink RX7 27 "TabStoreModel" "index" "[I", Cond.fieldLink RX7 30 "TabStoreModel" "size" "[I"]
def wsL_law0_r4 : List Cond := [Cond.fieldLink RX7 33 "TabStoreModel" "key" "[I", Cond.fieldLink RX7 36 "TabStoreModel" "content" "[I", Cond.fieldLink RX7 39 "TabStoreModel" "field" "[I", Cond.fieldLink RX7 42 "TabStoreModel" "wasThere" "[Z", Cond.fieldLink RX7 45 "TabStoreModel" "keptIndex" "[I", Cond.fieldLink RX7 48 "TabStoreModel" "keptSize" "[I", Cond.fieldLink RX7 51 "TabStoreModel" "keptKey" "[I", Cond.fieldLink RX7 54 "TabStoreModel" "keptContent" "[I", Cond.fieldLink RX7 57 "TabStoreModel" "keptField" "[I", Cond.fieldLink RX7 60 "TabStoreModel" "tab" "[I", Cond.fieldLink RX7 63 "TabStoreModel" "scope" "[I", Cond.fieldLink RX7 66 "TabStoreModel" "writes" "[Z", Cond.fieldLink RX7 69 "TabStoreModel" "standing" "[I", Cond.fieldLink RX7 72 "TabStoreModel" "itsTransaction" "[I", Cond.fieldLink RX7 75 "TabStoreModel" "itsStore" "[I", Cond.fieldLink RX7 78 "TabStoreModel" "itsField" "[I", Cond.fieldLink RX7 81 "TabStoreModel" "direction" "[I", Cond.fieldLink RX7 84 "TabStoreModel" "phase" "[I", Cond.fieldLink RX7 87 "TabStoreModel" "number" "[I", Cond.fieldLink RX7 90 "TabStoreModel" "place" "[I", Cond.methodLink RL 78 yL_open, Cond.static yL_open, Cond.initialized RL, Cond.codeWith yL_open cL_open 5 (some .int) [(0, 10, 13, 13), (0, 10, 17, 15), (0, 10, 21, 17)]]
def wsL_law0_r5 : List Cond := [Cond.classLink RL 13 "java/lang/IndexOutOfBoundsException", Cond.methodLink RL 7 yX6_open, Cond.instanceMethod yX6_open, Cond.selects RX6 yX6_open yX6_open, Cond.code yX6_open cX6_open 4 (some .int), Cond.classLink RX6 58 "java/lang/IllegalStateException", Cond.initialized "java/lang/IllegalStateException", Cond.fieldLink RX6 65 "TabStore$Tab" "condition" "I", Cond.fieldLink RX6 68 "TabStore$Tab" "wanted" "I", Cond.fieldLink RX6 71 "TabStore$Tab" "turn" "I", Cond.methodLink RX6 46 yX6_tabAt, Cond.instanceMethod yX6_tabAt, Cond.selects RX6 yX6_tabAt yX6_tabAt, Cond.code yX6_tabAt cX6_tabAt 2 (some (.object "TabStore$Tab")), Cond.classLink RX6 118 "java/lang/IndexOutOfBoundsException", Cond.initialized "java/lang/IndexOutOfBoundsException", Cond.methodLink RX6 50 yX6_requireInRange, Cond.static yX6_requireInRange, Cond.code yX6_requireInRange cX6_requireInRange 3 none, Cond.classLink RX6 277 "java/lang/IllegalArgumentException", Cond.initialized "java/lang/IllegalArgumentException", Cond.methodLink RX6 54 yX6_canOpen, Cond.instanceMethod yX6_canOpen, Cond.selects RX6 yX6_canOpen yX6_canOpen]
def wsL_law0_r6 : List Cond := [Cond.code yX6_canOpen cX6_canOpen 3 (some .boolean), Cond.methodLink RX6 161 yX6_hasRoom, Cond.instanceMethod yX6_hasRoom, Cond.selects RX6 yX6_hasRoom yX6_hasRoom, Cond.code yX6_hasRoom cX6_hasRoom 1 (some .boolean), Cond.methodLink RX6 83 ⟨"java/util/List", "size", "()I"⟩, Cond.selects RJx4a65c ⟨"java/util/List", "size", "()I"⟩ yJx4a65c_size_8abf5, Cond.instanceMethod yJx4a65c_size_8abf5, Cond.code yJx4a65c_size_8abf5 cJx4a65c_size_8abf5 1 (some .int), Cond.fieldLink RJx4a65c 48 "java/util/ArrayList" "size" "I", Cond.methodLink RX6 300 yX6_upgradesMustWait, Cond.instanceMethod yX6_upgradesMustWait, Cond.selects RX6 yX6_upgradesMustWait yX6_upgradesMustWait, Cond.code yX6_upgradesMustWait cX6_upgradesMustWait 2 (some .boolean), Cond.methodLink RX6 303 yX4_isInside, Cond.instanceMethod yX4_isInside, Cond.selects RX4 yX4_isInside yX4_isInside, Cond.code yX4_isInside cX4_isInside 1 (some .boolean), Cond.methodLink RX6 74 yX6_beginDueUpgrade, Cond.instanceMethod yX6_beginDueUpgrade, Cond.selects RX6 yX6_beginDueUpgrade yX6_beginDueUpgrade, Cond.code yX6_beginDueUpgrade cX6_beginDueUpgrade 3 none, Cond.methodLink RX6 309 yX6_firstBlocked, Cond.instanceMethod yX6_firstBlocked]
def wsL_law0_r7 : List Cond := [Cond.selects RX6 yX6_firstBlocked yX6_firstBlocked, Cond.code yX6_firstBlocked cX6_firstBlocked 4 (some (.object "TabStore$Tab")), Cond.methodLink RX6 313 yX6_beginUpgrade, Cond.instanceMethod yX6_beginUpgrade, Cond.selects RX6 yX6_beginUpgrade yX6_beginUpgrade, Cond.code yX6_beginUpgrade cX6_beginUpgrade 3 none, Cond.classLink RX6 93 RX5, Cond.instantiable RX5 4, Cond.initialized RX5, Cond.methodLink RX6 166 yX5_init, Cond.instanceMethod yX5_init, Cond.code yX5_init cX5_init 4 none, Cond.methodLink RX5 1 objectInit, Cond.fieldLink RX5 9 "TabStore$Transaction" "phase" "I", Cond.fieldLink RX5 13 "TabStore$Transaction" "tab" "LTabStore$Tab;", Cond.fieldLink RX5 17 "TabStore$Transaction" "scope" "I", Cond.fieldLink RX5 20 "TabStore$Transaction" "writes" "Z", Cond.methodLink RX6 169 ⟨"java/util/List", "add", "(Ljava/lang/Object;)Z"⟩, Cond.selects RJx4a65c ⟨"java/util/List", "add", "(Ljava/lang/Object;)Z"⟩ yJx4a65c_add_9ea2d, Cond.instanceMethod yJx4a65c_add_9ea2d, Cond.code yJx4a65c_add_9ea2d cJx4a65c_add_9ea2d 2 (some .boolean), Cond.fieldLink RJx4a65c 63 "java/util/ArrayList" "modCount" "I", Cond.sameField "java/util/ArrayList" "java/util/AbstractList" "modCount" "I", Cond.methodLink RJx4a65c 131 yJx4a65c_add_72be8]
def wsL_law0_r8 : List Cond := [Cond.instanceMethod yJx4a65c_add_72be8, Cond.selects RJx4a65c yJx4a65c_add_72be8 yJx4a65c_add_72be8, Cond.code yJx4a65c_add_72be8 cJx4a65c_add_72be8 4 none, Cond.methodLink RJx4a65c 129 yJx4a65c_grow_d5877, Cond.instanceMethod yJx4a65c_grow_d5877, Cond.selects RJx4a65c yJx4a65c_grow_d5877 yJx4a65c_grow_d5877, Cond.code yJx4a65c_grow_d5877 cJx4a65c_grow_d5877 1 (some (.array (.object "java/lang/Object"))), Cond.methodLink RJx4a65c 69 yJx4a65c_grow_92f84, Cond.instanceMethod yJx4a65c_grow_92f84, Cond.selects RJx4a65c yJx4a65c_grow_92f84 yJx4a65c_grow_92f84, Cond.code yJx4a65c_grow_92f84 cJx4a65c_grow_92f84 4 (some (.array (.object "java/lang/Object"))), Cond.methodLink RJx4a65c 79 Lib.Math.max.name, Cond.static Lib.Math.max.name, Cond.initialized "java/lang/Math", Cond.code Lib.Math.max.name Lib.Math.max.code 2 (some .int), Cond.classLink RJx4a65c 7 "java/lang/Object", Cond.methodLink RJx4a65c 73 yJ8_newLength_cabcc, Cond.static yJ8_newLength_cabcc, Cond.initialized RJ8, Cond.code yJ8_newLength_cabcc cJ8_newLength_cabcc 4 (some .int), Cond.methodLink RJ8 194 Lib.Math.max.name, Cond.constant RJ8 200 (2147483639), Cond.methodLink RJ8 201 yJ8_hugeLength_7cf53, Cond.static yJ8_hugeLength_7cf53]
def wsL_law0_r9 : List Cond := [Cond.code yJ8_hugeLength_7cf53 cJ8_hugeLength_7cf53 3 (some .int), Cond.methodLink RJx4a65c 66 yJ7_copyOf_1904c, Cond.static yJ7_copyOf_1904c, Cond.initialized RJ7, Cond.code yJ7_copyOf_1904c cJ7_copyOf_1904c 2 (some (.array (.object "java/lang/Object"))), Cond.methodLink RJ7 86 ⟨"java/lang/Object", "getClass", "()Ljava/lang/Class;"⟩, Cond.selects "[Ljava/lang/Object;" ⟨"java/lang/Object", "getClass", "()Ljava/lang/Class;"⟩ ⟨"java/lang/Object", "getClass", "()Ljava/lang/Class;"⟩, Cond.instanceMethod ⟨"java/lang/Object", "getClass", "()Ljava/lang/Class;"⟩, Cond.native ⟨"java/lang/Object", "getClass", "()Ljava/lang/Class;"⟩, Cond.methodLink RJ7 300 yJ7_copyOf_6403c, Cond.static yJ7_copyOf_6403c, Cond.code yJ7_copyOf_6403c cJ7_copyOf_6403c 4 (some (.array (.object "java/lang/Object"))), Cond.classLink RJ7 110 "[Ljava/lang/Object;", Cond.classLink RJ7 2 "java/lang/Object", Cond.methodLink RJ7 304 Lib.Math.min.name, Cond.static Lib.Math.min.name, Cond.code Lib.Math.min.name Lib.Math.min.code 2 (some .int), Cond.methodLink RJ7 150 arraycopyName, Cond.native arraycopyName, Cond.static arraycopyName, Cond.initialized "java/lang/System", Cond.methodLink RX6 316 yX6_run, Cond.instanceMethod yX6_run, Cond.selects RX6 yX6_run yX6_run]
def wsL_law0_r10 : List Cond := [Cond.code yX6_run cX6_run 2 none, Cond.fieldLink RX6 173 "TabStore$Transaction" "phase" "I", Cond.fieldLink RX6 255 "TabStore$Transaction" "writes" "Z", Cond.methodLink RX6 326 yX6_copyScope, Cond.static yX6_copyScope, Cond.code yX6_copyScope cX6_copyScope 4 none, Cond.methodLink RX6 293 yX5_hasInScope, Cond.instanceMethod yX5_hasInScope, Cond.selects RX5 yX5_hasInScope yX5_hasInScope, Cond.code yX5_hasInScope cX5_hasInScope 2 (some .boolean), Cond.methodLink RX6 330 yX3_takeOver, Cond.instanceMethod yX3_takeOver, Cond.selects RX3 yX3_takeOver yX3_takeOver, Cond.code yX3_takeOver cX3_takeOver 3 none, Cond.classLink RX3 39 "TabStore$Row", Cond.methodLink RX3 32 ⟨"java/util/List", "clear", "()V"⟩, Cond.selects RJx4a65c ⟨"java/util/List", "clear", "()V"⟩ yJx4a65c_clear_da8c8, Cond.instanceMethod yJx4a65c_clear_da8c8, Cond.code yJx4a65c_clear_da8c8 cJx4a65c_clear_da8c8 4 none, Cond.methodLink RX3 26 ⟨"java/util/List", "size", "()I"⟩, Cond.methodLink RX3 35 ⟨"java/util/List", "get", "(I)Ljava/lang/Object;"⟩, Cond.selects RJx4a65c ⟨"java/util/List", "get", "(I)Ljava/lang/Object;"⟩ yJx4a65c_get_915e3, Cond.instanceMethod yJx4a65c_get_915e3, Cond.code yJx4a65c_get_915e3 cJx4a65c_get_915e3 2 (some (.object "java/lang/Object"))]
def wsL_law0_r11 : List Cond := [Cond.methodLink RJx4a65c 118 yJ15_checkIndex_7cf53, Cond.static yJ15_checkIndex_7cf53, Cond.initialized RJ15, Cond.code yJ15_checkIndex_7cf53 cJ15_checkIndex_7cf53 2 (some .int), Cond.methodLink RJ15 105 yJ3_checkIndex_8e157, Cond.static yJ3_checkIndex_8e157, Cond.initialized RJ3, Cond.code yJ3_checkIndex_8e157 cJ3_checkIndex_8e157 3 (some .int), Cond.methodLink RJx4a65c 123 yJx4a65c_elementData_915e3, Cond.instanceMethod yJx4a65c_elementData_915e3, Cond.selects RJx4a65c yJx4a65c_elementData_915e3 yJx4a65c_elementData_915e3, Cond.code yJx4a65c_elementData_915e3 cJx4a65c_elementData_915e3 2 (some (.object "java/lang/Object")), Cond.methodLink RX3 41 ⟨"java/util/List", "add", "(Ljava/lang/Object;)Z"⟩, Cond.methodLink RL 83 yX7_open, Cond.instanceMethod yX7_open, Cond.selects RX7 yX7_open yX7_open, Cond.code yX7_open cX7_open 7 (some .int), Cond.fieldLink RX7 120 "TabStoreModel" "version" "I", Cond.fieldLink RX7 100 "TabStoreModel" "transactions" "I", Cond.fieldLink RX7 140 "TabStoreModel" "clock" "I", Cond.methodLink RX7 134 yX7_isTab, Cond.static yX7_isTab, Cond.code yX7_isTab cX7_isTab 1 (some .boolean), Cond.methodLink RX7 96 yX7_isIn]
def wsL_law0_r12 : List Cond := [Cond.static yX7_isIn, Cond.code yX7_isIn cX7_isIn 3 (some .boolean), Cond.methodLink RX7 123 yX7_isBusy, Cond.instanceMethod yX7_isBusy, Cond.selects RX7 yX7_isBusy yX7_isBusy, Cond.code yX7_isBusy cX7_isBusy 4 (some .boolean), Cond.methodLink RX7 137 yX7_fails, Cond.instanceMethod yX7_fails, Cond.selects RX7 yX7_fails yX7_fails, Cond.code yX7_fails cX7_fails 2 (some .boolean), Cond.fieldLink RX7 93 "TabStoreModel" "thrown" "I", Cond.methodLink RX7 143 yX7_looks, Cond.instanceMethod yX7_looks, Cond.selects RX7 yX7_looks yX7_looks, Cond.code yX7_looks cX7_looks 2 none, Cond.methodLink RX7 126 yX7_firstBlocked, Cond.instanceMethod yX7_firstBlocked, Cond.selects RX7 yX7_firstBlocked yX7_firstBlocked, Cond.code yX7_firstBlocked cX7_firstBlocked 3 (some .int), Cond.methodLink RX7 130 yX7_adds, Cond.instanceMethod yX7_adds, Cond.selects RX7 yX7_adds yX7_adds, Cond.code yX7_adds cX7_adds 4 (some .int), Cond.methodLink RX7 117 yX7_runs]
def wsL_law0_r13 : List Cond := [Cond.instanceMethod yX7_runs, Cond.selects RX7 yX7_runs yX7_runs, Cond.code yX7_runs cX7_runs 3 none, Cond.methodLink RX7 106 yX7_copies, Cond.instanceMethod yX7_copies, Cond.selects RX7 yX7_copies yX7_copies, Cond.code yX7_copies cX7_copies 3 none, Cond.methodLink RL 84 yX7_thrown, Cond.instanceMethod yX7_thrown, Cond.selects RX7 yX7_thrown yX7_thrown, Cond.code yX7_thrown cX7_thrown 1 (some .int), Cond.methodLink RL 88 yL_close, Cond.static yL_close, Cond.codeWith yL_close cL_close 4 (some .int) [(0, 9, 12, 13), (0, 9, 15, 17)], Cond.methodLink RL 19 yX6_close, Cond.instanceMethod yX6_close, Cond.selects RX6 yX6_close yX6_close, Cond.code yX6_close cX6_close 6 (some .int), Cond.classLink RX6 93 "TabStore$Transaction", Cond.fieldLink RX6 95 "TabStore$Transaction" "tab" "LTabStore$Tab;", Cond.methodLink RX6 77 yX6_hasRoomAfter, Cond.instanceMethod yX6_hasRoomAfter, Cond.selects RX6 yX6_hasRoomAfter yX6_hasRoomAfter, Cond.code yX6_hasRoomAfter cX6_hasRoomAfter 2 (some .boolean)]
def wsL_law0_r14 : List Cond := [Cond.methodLink RX6 306 yX6_upgradeFollows, Cond.instanceMethod yX6_upgradeFollows, Cond.selects RX6 yX6_upgradeFollows yX6_upgradeFollows, Cond.code yX6_upgradeFollows cX6_upgradeFollows 5 (some .boolean), Cond.methodLink RX6 89 ⟨"java/util/List", "get", "(I)Ljava/lang/Object;"⟩, Cond.methodLink RX6 99 yX5_isPending, Cond.instanceMethod yX5_isPending, Cond.selects RX5 yX5_isPending yX5_isPending, Cond.code yX5_isPending cX5_isPending 1 (some .boolean), Cond.methodLink RX6 103 yX6_giveUp, Cond.instanceMethod yX6_giveUp, Cond.selects RX6 yX6_giveUp yX6_giveUp, Cond.code yX6_giveUp cX6_giveUp 2 none, Cond.methodLink RX6 107 yX6_runFreed, Cond.instanceMethod yX6_runFreed, Cond.selects RX6 yX6_runFreed yX6_runFreed, Cond.code yX6_runFreed cX6_runFreed 4 (some .int), Cond.methodLink RX6 319 yX6_mustWait, Cond.instanceMethod yX6_mustWait, Cond.selects RX6 yX6_mustWait yX6_mustWait, Cond.code yX6_mustWait cX6_mustWait 4 (some .boolean), Cond.methodLink RX6 323 yX5_conflictsWith, Cond.instanceMethod yX5_conflictsWith, Cond.selects RX5 yX5_conflictsWith yX5_conflictsWith]
def wsL_law0_r15 : List Cond := [Cond.code yX5_conflictsWith cX5_conflictsWith 2 (some .boolean), Cond.methodLink RX6 110 yX6_leave, Cond.instanceMethod yX6_leave, Cond.selects RX6 yX6_leave yX6_leave, Cond.code yX6_leave cX6_leave 2 none, Cond.methodLink RL 91 yX7_close, Cond.instanceMethod yX7_close, Cond.selects RX7 yX7_close yX7_close, Cond.code yX7_close cX7_close 5 (some .int), Cond.methodLink RX7 149 yX7_wouldBegin, Cond.instanceMethod yX7_wouldBegin, Cond.selects RX7 yX7_wouldBegin yX7_wouldBegin, Cond.code yX7_wouldBegin cX7_wouldBegin 4 (some .boolean), Cond.methodLink RX7 110 yX7_isAlive, Cond.instanceMethod yX7_isAlive, Cond.selects RX7 yX7_isAlive yX7_isAlive, Cond.code yX7_isAlive cX7_isAlive 2 (some .boolean), Cond.methodLink RX7 152 yX7_aborts, Cond.instanceMethod yX7_aborts, Cond.selects RX7 yX7_aborts yX7_aborts, Cond.code yX7_aborts cX7_aborts 3 none, Cond.methodLink RX7 146 yX7_restores, Cond.instanceMethod yX7_restores, Cond.selects RX7 yX7_restores yX7_restores]
def wsL_law0_r16 : List Cond := [Cond.code yX7_restores cX7_restores 3 none, Cond.methodLink RX7 155 yX7_goesOn, Cond.instanceMethod yX7_goesOn, Cond.selects RX7 yX7_goesOn yX7_goesOn, Cond.code yX7_goesOn cX7_goesOn 3 (some .int), Cond.methodLink RX7 114 yX7_mustWait, Cond.instanceMethod yX7_mustWait, Cond.selects RX7 yX7_mustWait yX7_mustWait, Cond.code yX7_mustWait cX7_mustWait 4 (some .boolean), Cond.methodLink RL 92 yL_state, Cond.static yL_state, Cond.codeWith yL_state cL_state 4 (some .int) [(0, 9, 12, 13)], Cond.methodLink RL 23 yX6_state, Cond.instanceMethod yX6_state, Cond.selects RX6 yX6_state yX6_state, Cond.code yX6_state cX6_state 2 (some .int), Cond.methodLink RL 94 yX7_state, Cond.instanceMethod yX7_state, Cond.selects RX7 yX7_state yX7_state, Cond.code yX7_state cX7_state 2 (some .int), Cond.methodLink RL 95 yX6_version, Cond.instanceMethod yX6_version, Cond.selects RX6 yX6_version yX6_version, Cond.code yX6_version cX6_version 1 (some .int)]
def wsL_law0_r17 : List Cond := [Cond.methodLink RL 98 yX7_version, Cond.instanceMethod yX7_version, Cond.selects RX7 yX7_version yX7_version, Cond.code yX7_version cX7_version 1 (some .int), Cond.methodLink RL 99 yX6_upgrade, Cond.instanceMethod yX6_upgrade, Cond.selects RX6 yX6_upgrade yX6_upgrade, Cond.code yX6_upgrade cX6_upgrade 1 (some .int), Cond.methodLink RL 102 yX7_upgrade, Cond.instanceMethod yX7_upgrade, Cond.selects RX7 yX7_upgrade yX7_upgrade, Cond.code yX7_upgrade cX7_upgrade 1 (some .int), Cond.methodLink RL 103 yL_makeStore, Cond.static yL_makeStore, Cond.codeWith yL_makeStore cL_makeStore 4 (some .int) [(0, 6, 9, 13), (0, 6, 12, 17)], Cond.methodLink RL 26 yX6_makeStore, Cond.instanceMethod yX6_makeStore, Cond.selects RX6 yX6_makeStore yX6_makeStore, Cond.code yX6_makeStore cX6_makeStore 4 none, Cond.fieldLink RX6 127 "TabStore$Store" "isThere" "Z", Cond.methodLink RX6 114 yX6_transactionAt, Cond.instanceMethod yX6_transactionAt, Cond.selects RX6 yX6_transactionAt yX6_transactionAt, Cond.code yX6_transactionAt cX6_transactionAt 2 (some (.object "TabStore$Transaction"))]
def wsL_law0_r18 : List Cond := [Cond.methodLink RX6 123 yX6_requireUpgrade, Cond.instanceMethod yX6_requireUpgrade, Cond.selects RX6 yX6_requireUpgrade yX6_requireUpgrade, Cond.code yX6_requireUpgrade cX6_requireUpgrade 2 none, Cond.methodLink RL 106 yX7_makeStore, Cond.instanceMethod yX7_makeStore, Cond.selects RX7 yX7_makeStore yX7_makeStore, Cond.code yX7_makeStore cX7_makeStore 4 none, Cond.methodLink RX7 158 yX7_isTransaction, Cond.instanceMethod yX7_isTransaction, Cond.selects RX7 yX7_isTransaction yX7_isTransaction, Cond.code yX7_isTransaction cX7_isTransaction 2 (some .boolean), Cond.methodLink RL 107 yL_deleteStore, Cond.static yL_deleteStore, Cond.codeWith yL_deleteStore cL_deleteStore 5 (some .int) [(0, 10, 13, 13), (0, 10, 17, 17)], Cond.methodLink RL 30 yX6_deleteStore, Cond.instanceMethod yX6_deleteStore, Cond.selects RX6 yX6_deleteStore yX6_deleteStore, Cond.code yX6_deleteStore cX6_deleteStore 5 (some .int), Cond.methodLink RX6 133 yX6_storeAt, Cond.instanceMethod yX6_storeAt, Cond.selects RX6 yX6_storeAt yX6_storeAt, Cond.code yX6_storeAt cX6_storeAt 2 (some (.object "TabStore$Store")), Cond.methodLink RX6 137 yX3_size]
def wsL_law0_r19 : List Cond := [Cond.instanceMethod yX3_size, Cond.selects RX3 yX3_size yX3_size, Cond.code yX3_size cX3_size 1 (some .int), Cond.methodLink RX6 138 yX3_wipe, Cond.instanceMethod yX3_wipe, Cond.selects RX3 yX3_wipe yX3_wipe, Cond.code yX3_wipe cX3_wipe 2 none, Cond.methodLink RL 109 yX7_deleteStore, Cond.instanceMethod yX7_deleteStore, Cond.selects RX7 yX7_deleteStore yX7_deleteStore, Cond.code yX7_deleteStore cX7_deleteStore 5 (some .int), Cond.methodLink RX7 161 yX7_isStore, Cond.instanceMethod yX7_isStore, Cond.selects RX7 yX7_isStore yX7_isStore, Cond.code yX7_isStore cX7_isStore 2 (some .boolean), Cond.methodLink RL 110 yL_makeIndex, Cond.static yL_makeIndex, Cond.codeWith yL_makeIndex cL_makeIndex 6 (some .int) [(0, 9, 12, 13), (0, 9, 16, 17)], Cond.methodLink RL 33 yX6_makeIndex, Cond.instanceMethod yX6_makeIndex, Cond.selects RX6 yX6_makeIndex yX6_makeIndex, Cond.code yX6_makeIndex cX6_makeIndex 6 none, Cond.methodLink RX6 143 yX3_hasIndex, Cond.instanceMethod yX3_hasIndex]
def wsL_law0_r20 : List Cond := [Cond.selects RX3 yX3_hasIndex yX3_hasIndex, Cond.code yX3_hasIndex cX3_hasIndex 2 (some .boolean), Cond.methodLink RX6 147 yX3_hasDoubles, Cond.instanceMethod yX3_hasDoubles, Cond.selects RX3 yX3_hasDoubles yX3_hasDoubles, Cond.code yX3_hasDoubles cX3_hasDoubles 3 (some .boolean), Cond.methodLink RX3 45 yX3_isTaken, Cond.instanceMethod yX3_isTaken, Cond.selects RX3 yX3_isTaken yX3_isTaken, Cond.code yX3_isTaken cX3_isTaken 6 (some .boolean), Cond.fieldLink RX3 53 "TabStore$Row" "key" "I", Cond.methodLink RX3 49 yX2_number, Cond.instanceMethod yX2_number, Cond.selects RX2 yX2_number yX2_number, Cond.initialized RX2, Cond.code yX2_number cX2_number 2 (some .int), Cond.fieldLink RX2 20 "TabStore$Row" "first" "I", Cond.fieldLink RX2 23 "TabStore$Row" "second" "I", Cond.methodLink RX6 152 yX3_addIndex, Cond.instanceMethod yX3_addIndex, Cond.selects RX3 yX3_addIndex yX3_addIndex, Cond.code yX3_addIndex cX3_addIndex 3 none, Cond.methodLink RL 113 yX7_makeIndex, Cond.instanceMethod yX7_makeIndex]
def wsL_law0_r21 : List Cond := [Cond.selects RX7 yX7_makeIndex yX7_makeIndex, Cond.code yX7_makeIndex cX7_makeIndex 7 none, Cond.methodLink RX7 164 yX7_hasDoubles, Cond.instanceMethod yX7_hasDoubles, Cond.selects RX7 yX7_hasDoubles yX7_hasDoubles, Cond.code yX7_hasDoubles cX7_hasDoubles 6 (some .boolean), Cond.methodLink RL 114 yL_begin, Cond.static yL_begin, Cond.codeWith yL_begin cL_begin 6 (some .int) [(0, 12, 15, 13), (0, 12, 19, 15), (0, 12, 23, 17)], Cond.methodLink RL 37 yX6_begin, Cond.instanceMethod yX6_begin, Cond.selects RX6 yX6_begin yX6_begin, Cond.code yX6_begin cX6_begin 6 (some .int), Cond.methodLink RX6 156 yX6_areThere, Cond.instanceMethod yX6_areThere, Cond.selects RX6 yX6_areThere yX6_areThere, Cond.code yX6_areThere cX6_areThere 3 (some .boolean), Cond.methodLink RL 117 yX7_begin, Cond.instanceMethod yX7_begin, Cond.selects RX7 yX7_begin yX7_begin, Cond.code yX7_begin cX7_begin 7 (some .int), Cond.methodLink RL 118 yL_standing, Cond.static yL_standing, Cond.codeWith yL_standing cL_standing 4 (some .int) [(0, 9, 12, 13)]]
def wsL_law0_r22 : List Cond := [Cond.methodLink RL 41 yX6_standing, Cond.instanceMethod yX6_standing, Cond.selects RX6 yX6_standing yX6_standing, Cond.code yX6_standing cX6_standing 2 (some .int), Cond.methodLink RL 120 yX7_standing, Cond.instanceMethod yX7_standing, Cond.selects RX7 yX7_standing yX7_standing, Cond.code yX7_standing cX7_standing 2 (some .int), Cond.methodLink RL 121 yL_commit, Cond.static yL_commit, Cond.codeWith yL_commit cL_commit 4 (some .int) [(0, 9, 12, 13), (0, 9, 15, 17)], Cond.methodLink RL 44 yX6_commit, Cond.instanceMethod yX6_commit, Cond.selects RX6 yX6_commit yX6_commit, Cond.code yX6_commit cX6_commit 3 (some .int), Cond.methodLink RX6 176 yX6_requireRunning, Cond.static yX6_requireRunning, Cond.code yX6_requireRunning cX6_requireRunning 1 none, Cond.methodLink RL 123 yX7_commit, Cond.instanceMethod yX7_commit, Cond.selects RX7 yX7_commit yX7_commit, Cond.code yX7_commit cX7_commit 3 (some .int), Cond.methodLink RL 124 yL_abort, Cond.static yL_abort]
def wsL_law0_r23 : List Cond := [Cond.codeWith yL_abort cL_abort 4 (some .int) [(0, 9, 12, 13), (0, 9, 15, 17)], Cond.methodLink RL 47 yX6_abort, Cond.instanceMethod yX6_abort, Cond.selects RX6 yX6_abort yX6_abort, Cond.code yX6_abort cX6_abort 5 (some .int), Cond.methodLink RL 126 yX7_abort, Cond.instanceMethod yX7_abort, Cond.selects RX7 yX7_abort yX7_abort, Cond.code yX7_abort cX7_abort 5 (some .int), Cond.methodLink RL 127 yL_put, Cond.static yL_put, Cond.codeWith yL_put cL_put 9 (some .int) [(0, 25, 28, 13), (0, 25, 32, 15), (0, 25, 36, 17)], Cond.methodLink RL 50 yX6_put, Cond.instanceMethod yX6_put, Cond.selects RX6 yX6_put yX6_put, Cond.code yX6_put cX6_put 11 (some .boolean), Cond.classLink RX6 188 RX2, Cond.instantiable RX2 4, Cond.methodLink RX6 181 yX6_requireKey, Cond.static yX6_requireKey, Cond.code yX6_requireKey cX6_requireKey 1 none, Cond.methodLink RX6 282 yX1_isKey, Cond.static yX1_isKey, Cond.initialized RX1]
def wsL_law0_r24 : List Cond := [Cond.code yX1_isKey cX1_isKey 3 (some .boolean), Cond.constant RX1 11 (4000000), Cond.constant RX1 12 (1000000), Cond.methodLink RX1 13 yX1_isText, Cond.static yX1_isText, Cond.code yX1_isText cX1_isText 5 (some .boolean), Cond.methodLink RX1 17 yX1_isLetter, Cond.static yX1_isLetter, Cond.code yX1_isLetter cX1_isLetter 1 (some .boolean), Cond.methodLink RX6 184 yX6_requireWriting, Cond.static yX6_requireWriting, Cond.code yX6_requireWriting cX6_requireWriting 2 none, Cond.methodLink RX6 214 yX6_requireReading, Cond.static yX6_requireReading, Cond.code yX6_requireReading cX6_requireReading 2 none, Cond.methodLink RX6 190 yX2_init, Cond.instanceMethod yX2_init, Cond.code yX2_init cX2_init 5 none, Cond.methodLink RX2 7 objectInit, Cond.fieldLink RX2 13 "TabStore$Row" "key" "I", Cond.fieldLink RX2 17 "TabStore$Row" "content" "I", Cond.methodLink RX6 193 yX3_find, Cond.instanceMethod yX3_find, Cond.selects RX3 yX3_find yX3_find]
def wsL_law0_r25 : List Cond := [Cond.code yX3_find cX3_find 4 (some (.object "TabStore$Row")), Cond.methodLink RX6 197 yX3_clashes, Cond.instanceMethod yX3_clashes, Cond.selects RX3 yX3_clashes yX3_clashes, Cond.code yX3_clashes cX3_clashes 3 (some .boolean), Cond.methodLink RX6 201 yX6_rowsInAll, Cond.instanceMethod yX6_rowsInAll, Cond.selects RX6 yX6_rowsInAll yX6_rowsInAll, Cond.code yX6_rowsInAll cX6_rowsInAll 3 (some .int), Cond.methodLink RX6 206 yX3_set, Cond.instanceMethod yX3_set, Cond.selects RX3 yX3_set yX3_set, Cond.code yX3_set cX3_set 3 none, Cond.methodLink RX3 57 ⟨"java/util/List", "set", "(ILjava/lang/Object;)Ljava/lang/Object;"⟩, Cond.selects RJx4a65c ⟨"java/util/List", "set", "(ILjava/lang/Object;)Ljava/lang/Object;"⟩ yJx4a65c_set_bcc79, Cond.instanceMethod yJx4a65c_set_bcc79, Cond.code yJx4a65c_set_bcc79 cJx4a65c_set_bcc79 4 (some (.object "java/lang/Object")), Cond.methodLink RL 130 yX7_put, Cond.instanceMethod yX7_put, Cond.selects RX7 yX7_put yX7_put, Cond.code yX7_put cX7_put 13 (some .boolean), Cond.methodLink RX7 168 yX7_isKey, Cond.static yX7_isKey, Cond.code yX7_isKey cX7_isKey 5 (some .boolean)]
def wsL_law0_r26 : List Cond := [Cond.constant RX7 103 (1000000), Cond.constant RX7 104 (3999999), Cond.constant RX7 105 (1999999), Cond.methodLink RX7 171 yX7_find, Cond.instanceMethod yX7_find, Cond.selects RX7 yX7_find yX7_find, Cond.code yX7_find cX7_find 4 (some .int), Cond.methodLink RX7 175 yX7_can, Cond.instanceMethod yX7_can, Cond.selects RX7 yX7_can yX7_can, Cond.code yX7_can cX7_can 4 (some .boolean), Cond.methodLink RX7 179 yX7_isTaken, Cond.instanceMethod yX7_isTaken, Cond.selects RX7 yX7_isTaken yX7_isTaken, Cond.code yX7_isTaken cX7_isTaken 7 (some .boolean), Cond.methodLink RL 131 yL_remove, Cond.static yL_remove, Cond.codeWith yL_remove cL_remove 7 (some .int) [(0, 14, 17, 13), (0, 14, 21, 15), (0, 14, 25, 17)], Cond.methodLink RL 54 yX6_remove, Cond.instanceMethod yX6_remove, Cond.selects RX6 yX6_remove yX6_remove, Cond.code yX6_remove cX6_remove 7 (some .int), Cond.methodLink RX6 210 yX3_removeBetween, Cond.instanceMethod yX3_removeBetween]
def wsL_law0_r27 : List Cond := [Cond.selects RX3 yX3_removeBetween yX3_removeBetween, Cond.code yX3_removeBetween cX3_removeBetween 5 (some .int), Cond.methodLink RX3 61 yX2_isBetween, Cond.instanceMethod yX2_isBetween, Cond.selects RX2 yX2_isBetween yX2_isBetween, Cond.code yX2_isBetween cX2_isBetween 4 (some .boolean), Cond.methodLink RX2 26 yX1_rank, Cond.static yX1_rank, Cond.code yX1_rank cX1_rank 2 (some .int), Cond.constant RX1 20 (2000000), Cond.methodLink RX3 65 ⟨"java/util/List", "remove", "(I)Ljava/lang/Object;"⟩, Cond.selects RJx4a65c ⟨"java/util/List", "remove", "(I)Ljava/lang/Object;"⟩ yJx4a65c_remove_915e3, Cond.instanceMethod yJx4a65c_remove_915e3, Cond.code yJx4a65c_remove_915e3 cJx4a65c_remove_915e3 4 (some (.object "java/lang/Object")), Cond.methodLink RJx4a65c 144 yJx4a65c_fastRemove_b59b0, Cond.instanceMethod yJx4a65c_fastRemove_b59b0, Cond.selects RJx4a65c yJx4a65c_fastRemove_b59b0 yJx4a65c_fastRemove_b59b0, Cond.code yJx4a65c_fastRemove_b59b0 cJx4a65c_fastRemove_b59b0 4 none, Cond.methodLink RJx4a65c 112 arraycopyName, Cond.methodLink RL 134 yX7_remove, Cond.instanceMethod yX7_remove, Cond.selects RX7 yX7_remove yX7_remove, Cond.code yX7_remove cX7_remove 7 (some .int), Cond.methodLink RX7 187 yX7_misses]
def wsL_law0_r28 : List Cond := [Cond.instanceMethod yX7_misses, Cond.selects RX7 yX7_misses yX7_misses, Cond.code yX7_misses cX7_misses 7 (some .int), Cond.methodLink RX7 191 yX7_isBetween, Cond.static yX7_isBetween, Cond.code yX7_isBetween cX7_isBetween 3 (some .boolean), Cond.methodLink RX7 183 yX7_rank, Cond.static yX7_rank, Cond.code yX7_rank cX7_rank 2 (some .int), Cond.methodLink RL 135 yL_get, Cond.static yL_get, Cond.codeWith yL_get cL_get 6 (some .int) [(0, 12, 15, 13), (0, 12, 19, 15), (0, 12, 23, 17)], Cond.methodLink RL 58 yX6_get, Cond.instanceMethod yX6_get, Cond.selects RX6 yX6_get yX6_get, Cond.code yX6_get cX6_get 7 (some .int), Cond.fieldLink RX6 217 "TabStore$Row" "content" "I", Cond.methodLink RL 138 yX7_get, Cond.instanceMethod yX7_get, Cond.selects RX7 yX7_get yX7_get, Cond.code yX7_get cX7_get 5 (some .int), Cond.methodLink RL 139 yL_count, Cond.static yL_count, Cond.codeWith yL_count cL_count 7 (some .int) [(0, 14, 17, 13), (0, 14, 21, 15), (0, 14, 25, 17)]]
def wsL_law0_r29 : List Cond := [Cond.methodLink RL 62 yX6_count, Cond.instanceMethod yX6_count, Cond.selects RX6 yX6_count yX6_count, Cond.code yX6_count cX6_count 7 (some .int), Cond.methodLink RX6 220 yX3_countBetween, Cond.instanceMethod yX3_countBetween, Cond.selects RX3 yX3_countBetween yX3_countBetween, Cond.code yX3_countBetween cX3_countBetween 5 (some .int), Cond.methodLink RL 141 yX7_count, Cond.instanceMethod yX7_count, Cond.selects RX7 yX7_count yX7_count, Cond.code yX7_count cX7_count 7 (some .int), Cond.methodLink RL 142 yL_cursor, Cond.static yL_cursor, Cond.codeWith yL_cursor cL_cursor 7 (some .int) [(0, 14, 17, 13), (0, 14, 21, 15), (0, 14, 25, 17)], Cond.methodLink RL 65 yX6_cursor, Cond.instanceMethod yX6_cursor, Cond.selects RX6 yX6_cursor yX6_cursor, Cond.code yX6_cursor cX6_cursor 8 (some .int), Cond.classLink RX6 225 RX0, Cond.instantiable RX0 8, Cond.initialized RX0, Cond.methodLink RX6 227 yX0_init, Cond.instanceMethod yX0_init]
def wsL_law0_r30 : List Cond := [Cond.code yX0_init cX0_init 5 none, Cond.methodLink RX0 3 objectInit, Cond.fieldLink RX0 11 "TabStore$Cursor" "phase" "I", Cond.fieldLink RX0 15 "TabStore$Cursor" "key" "I", Cond.fieldLink RX0 18 "TabStore$Cursor" "place" "J", Cond.fieldLink RX0 22 "TabStore$Cursor" "transaction" "LTabStore$Transaction;", Cond.fieldLink RX0 26 "TabStore$Cursor" "store" "LTabStore$Store;", Cond.fieldLink RX0 30 "TabStore$Cursor" "field" "I", Cond.fieldLink RX0 33 "TabStore$Cursor" "isBackward" "Z", Cond.fieldLink RX0 37 "TabStore$Cursor" "skipsDoubles" "Z", Cond.methodLink RL 144 yX7_cursor, Cond.instanceMethod yX7_cursor, Cond.selects RX7 yX7_cursor yX7_cursor, Cond.code yX7_cursor cX7_cursor 7 (some .int), Cond.fieldLink RX7 194 "TabStoreModel" "cursors" "I", Cond.methodLink RL 145 yL_step, Cond.static yL_step, Cond.codeWith yL_step cL_step 4 (some .int) [(0, 9, 12, 13), (0, 9, 15, 17)], Cond.methodLink RL 68 yX6_step, Cond.instanceMethod yX6_step, Cond.selects RX6 yX6_step yX6_step, Cond.code yX6_step cX6_step 4 (some .int), Cond.fieldLink RX6 234 "TabStore$Cursor" "transaction" "LTabStore$Transaction;", Cond.fieldLink RX6 238 "TabStore$Cursor" "store" "LTabStore$Store;"]
def wsL_law0_r31 : List Cond := [Cond.fieldLink RX6 242 "TabStore$Cursor" "phase" "I", Cond.fieldLink RX6 252 "TabStore$Row" "key" "I", Cond.methodLink RX6 230 yX6_cursorAt, Cond.instanceMethod yX6_cursorAt, Cond.selects RX6 yX6_cursorAt yX6_cursorAt, Cond.code yX6_cursorAt cX6_cursorAt 2 (some (.object "TabStore$Cursor")), Cond.classLink RX6 225 "TabStore$Cursor", Cond.methodLink RX6 245 yX0_nextRow, Cond.instanceMethod yX0_nextRow, Cond.selects RX0 yX0_nextRow yX0_nextRow, Cond.code yX0_nextRow cX0_nextRow 1 (some (.object "TabStore$Row")), Cond.methodLink RX0 40 yX0_nextBackward, Cond.instanceMethod yX0_nextBackward, Cond.selects RX0 yX0_nextBackward yX0_nextBackward, Cond.code yX0_nextBackward cX0_nextBackward 4 (some (.object "TabStore$Row")), Cond.constantLong RX0 61 (4000000000), Cond.methodLink RX0 53 yX2_startOfNumber, Cond.static yX2_startOfNumber, Cond.code yX2_startOfNumber cX2_startOfNumber 2 (some .long), Cond.constantLong RX2 35 (4000000), Cond.methodLink RX0 63 yX3_lastBelow, Cond.instanceMethod yX3_lastBelow, Cond.selects RX3 yX3_lastBelow yX3_lastBelow, Cond.code yX3_lastBelow cX3_lastBelow 9 (some (.object "TabStore$Row"))]
def wsL_law0_r32 : List Cond := [Cond.methodLink RX3 68 yX2_place, Cond.instanceMethod yX2_place, Cond.selects RX2 yX2_place yX2_place, Cond.code yX2_place cX2_place 3 (some .long), Cond.constantLong RX2 33 (-1), Cond.methodLink RX2 30 yX2_number, Cond.methodLink RX0 66 yX2_place, Cond.methodLink RX0 47 yX3_firstFrom, Cond.instanceMethod yX3_firstFrom, Cond.selects RX3 yX3_firstFrom yX3_firstFrom, Cond.code yX3_firstFrom cX3_firstFrom 9 (some (.object "TabStore$Row")), Cond.methodLink RX0 44 yX0_nextForward, Cond.instanceMethod yX0_nextForward, Cond.selects RX0 yX0_nextForward yX0_nextForward, Cond.code yX0_nextForward cX0_nextForward 3 (some (.object "TabStore$Row")), Cond.constantLong RX0 59 (4000000), Cond.methodLink RX6 249 yX0_moveTo, Cond.instanceMethod yX0_moveTo, Cond.selects RX0 yX0_moveTo yX0_moveTo, Cond.code yX0_moveTo cX0_moveTo 2 none, Cond.fieldLink RX0 69 "TabStore$Row" "key" "I", Cond.methodLink RL 147 yX7_step, Cond.instanceMethod yX7_step, Cond.selects RX7 yX7_step yX7_step]
def wsL_law0_r33 : List Cond := [Cond.code yX7_step cX7_step 7 (some .int), Cond.methodLink RX7 204 yX7_isCursor, Cond.instanceMethod yX7_isCursor, Cond.selects RX7 yX7_isCursor yX7_isCursor, Cond.code yX7_isCursor cX7_isCursor 2 (some .boolean), Cond.methodLink RX7 207 yX7_isBehind, Cond.instanceMethod yX7_isBehind, Cond.selects RX7 yX7_isBehind yX7_isBehind, Cond.code yX7_isBehind cX7_isBehind 6 (some .boolean), Cond.methodLink RX7 197 yX7_entry, Cond.instanceMethod yX7_entry, Cond.selects RX7 yX7_entry yX7_entry, Cond.code yX7_entry cX7_entry 3 (some .int), Cond.methodLink RX7 200 yX7_apart, Cond.static yX7_apart, Cond.code yX7_apart cX7_apart 4 (some .int), Cond.methodLink RX7 210 yX7_isSooner, Cond.instanceMethod yX7_isSooner, Cond.selects RX7 yX7_isSooner yX7_isSooner, Cond.code yX7_isSooner cX7_isSooner 8 (some .boolean), Cond.methodLink RL 148 yL_update, Cond.static yL_update, Cond.codeWith yL_update cL_update 5 (some .int) [(0, 10, 13, 13), (0, 10, 17, 15), (0, 10, 21, 17)], Cond.methodLink RL 71 yX6_update]
def wsL_law0_r34 : List Cond := [Cond.instanceMethod yX6_update, Cond.selects RX6 yX6_update yX6_update, Cond.code yX6_update cX6_update 5 (some .int), Cond.fieldLink RX6 260 "TabStore$Cursor" "key" "I", Cond.fieldLink RX6 263 "TabStore$Row" "first" "I", Cond.fieldLink RX6 266 "TabStore$Row" "second" "I", Cond.methodLink RL 150 yX7_update, Cond.instanceMethod yX7_update, Cond.selects RX7 yX7_update yX7_update, Cond.code yX7_update cX7_update 7 (some .int)]
def wsL_law0 : List Cond := (wsL_law0_r1 ++ (wsL_law0_r2 ++ (wsL_law0_r3 ++ (wsL_law0_r4 ++ (wsL_law0_r5 ++ (wsL_law0_r6 ++ (wsL_law0_r7 ++ (wsL_law0_r8 ++ (wsL_law0_r9 ++ (wsL_law0_r10 ++ (wsL_law0_r11 ++ (wsL_law0_r12 ++ (wsL_law0_r13 ++ (wsL_law0_r14 ++ (wsL_law0_r15 ++ (wsL_law0_r16 ++ (wsL_law0_r17 ++ (wsL_law0_r18 ++ (wsL_law0_r19 ++ (wsL_law0_r20 ++ (wsL_law0_r21 ++ (wsL_law0_r22 ++ (wsL_law0_r23 ++ (wsL_law0_r24 ++ (wsL_law0_r25 ++ (wsL_law0_r26 ++ (wsL_law0_r27 ++ (wsL_law0_r28 ++ (wsL_law0_r29 ++ (wsL_law0_r30 ++ (wsL_law0_r31 ++ (wsL_law0_r32 ++ (wsL_law0_r33 ++ wsL_law0_r34))))))))))))))))))))))))))))))))) ++ wsX60 ++ wsX70 ++ wsJx4a65c0 ++ wsX40 ++ wsX30 ++ wsX50 ++ wsX20 ++ wsX00 ++ ([] : List Cond)
def wsL_law : List Cond := wsL_law0 ++ (vx_atS RX6 62 "java/lang/IllegalStateException" ["java/lang/RuntimeException", "java/lang/Exception"]).filter goodWord ++ (vx_atS RX6 122 "java/lang/IndexOutOfBoundsException" ["java/lang/RuntimeException", "java/lang/Exception"]).filter goodWord ++ (vx_atS RX6 281 "java/lang/IllegalArgumentException" ["java/lang/RuntimeException", "java/lang/Exception"]).filter goodWord
set_option maxRecDepth 200000 in
theorem inT_wsL_law0_r1 : ∀ w ∈ wsL_law0_r1, w ∈ lw_tbl := mem_r wsL_law0_r1 [76, 77, 53, 862, 863, 59, 1163, 78, 79, 80, 81, 82, 83, 84, 151, 86, 152, 153, 88, 89, 56, 154, 155, 156] rfl
set_option maxRecDepth 200000 in
theorem inT_wsL_law0_r2 : ∀ w ∈ wsL_law0_r2, w ∈ lw_tbl := mem_r wsL_law0_r2 [157, 158, 114, 57, 132, 58, 90, 91, 92, 100, 102, 93, 94, 55, 95, 104, 96, 97, 54, 98, 99, 116, 117, 118] rfl
set_option maxRecDepth 200000 in
theorem inT_wsL_law0_r3 : ∀ w ∈ wsL_law0_r3, w ∈ lw_tbl := mem_r wsL_law0_r3 [119, 121, 123, 134, 135, 136, 139, 150, 141, 137, 142, 138, 864, 865, 866, 867, 869, 870, 871, 873, 965, 874, 875, 876] rfl
set_option maxRecDepth 200000 in
theorem inT_wsL_law0_r4 : ∀ w ∈ wsL_law0_r4, w ∈ lw_tbl := mem_r wsL_law0_r4 [877, 878, 879, 880, 881, 882, 883, 884, 885, 887, 888, 889, 890, 892, 893, 894, 895, 896, 897, 898, 184, 185, 52, 186] rfl
set_option maxRecDepth 200000 in
theorem inT_wsL_law0_r5 : ∀ w ∈ wsL_law0_r5, w ∈ lw_tbl := mem_r wsL_law0_r5 [187, 190, 191, 192, 193, 311, 65, 120, 122, 124, 194, 196, 0, 197, 198, 63, 266, 267, 268, 269, 64, 285, 287, 2] rfl
set_option maxRecDepth 200000 in
theorem inT_wsL_law0_r6 : ∀ w ∈ wsL_law0_r6, w ∈ lw_tbl := mem_r wsL_law0_r6 [288, 289, 291, 3, 292, 294, 298, 300, 302, 103, 303, 305, 4, 306, 307, 308, 309, 310, 327, 329, 5, 330, 331, 333] rfl
set_option maxRecDepth 200000 in
theorem inT_wsL_law0_r7 : ∀ w ∈ wsL_law0_r7, w ∈ lw_tbl := mem_r wsL_law0_r7 [6, 334, 335, 337, 7, 338, 339, 340, 66, 341, 342, 343, 344, 350, 345, 349, 347, 362, 365, 367, 369, 105, 106, 370] rfl
set_option maxRecDepth 200000 in
theorem inT_wsL_law0_r8 : ∀ w ∈ wsL_law0_r8, w ∈ lw_tbl := mem_r wsL_law0_r8 [372, 8, 373, 374, 376, 9, 377, 378, 380, 10, 381, 422, 386, 68, 387, 423, 382, 383, 67, 384, 385, 388, 389, 390] rfl
set_option maxRecDepth 200000 in
theorem inT_wsL_law0_r9 : ∀ w ∈ wsL_law0_r9, w ∈ lw_tbl := mem_r wsL_law0_r9 [391, 392, 393, 69, 394, 395, 1179, 396, 409, 410, 411, 412, 413, 415, 416, 417, 418, 419, 421, 420, 70, 424, 426, 11] rfl
set_option maxRecDepth 200000 in
theorem inT_wsL_law0_r10 : ∀ w ∈ wsL_law0_r10, w ∈ lw_tbl := mem_r wsL_law0_r10 [427, 351, 348, 428, 429, 430, 431, 432, 433, 434, 435, 436, 437, 438, 469, 440, 443, 445, 447, 449, 451, 454, 456, 458] rfl
set_option maxRecDepth 200000 in
theorem inT_wsL_law0_r11 : ∀ w ∈ wsL_law0_r11, w ∈ lw_tbl := mem_r wsL_law0_r11 [459, 460, 71, 461, 462, 463, 72, 464, 465, 466, 467, 468, 471, 970, 971, 972, 973, 868, 886, 872, 974, 975, 976, 977] rfl
set_option maxRecDepth 200000 in
theorem inT_wsL_law0_r12 : ∀ w ∈ wsL_law0_r12, w ∈ lw_tbl := mem_r wsL_law0_r12 [978, 979, 980, 982, 28, 983, 984, 986, 29, 987, 899, 988, 990, 30, 991, 992, 994, 31, 995, 996, 998, 32, 999, 1000] rfl
set_option maxRecDepth 200000 in
theorem inT_wsL_law0_r13 : ∀ w ∈ wsL_law0_r13, w ∈ lw_tbl := mem_r wsL_law0_r13 [1002, 33, 1003, 1004, 1006, 34, 1007, 966, 967, 968, 969, 472, 473, 474, 475, 476, 477, 478, 339, 346, 479, 481, 12, 482] rfl
set_option maxRecDepth 200000 in
theorem inT_wsL_law0_r14 : ∀ w ∈ wsL_law0_r14, w ∈ lw_tbl := mem_r wsL_law0_r14 [483, 485, 13, 486, 489, 490, 491, 492, 493, 494, 496, 14, 497, 498, 500, 15, 501, 502, 504, 16, 505, 506, 507, 508] rfl
set_option maxRecDepth 200000 in
theorem inT_wsL_law0_r15 : ∀ w ∈ wsL_law0_r15, w ∈ lw_tbl := mem_r wsL_law0_r15 [509, 510, 512, 17, 513, 1008, 1009, 1010, 1011, 1012, 1014, 35, 1015, 1016, 1018, 36, 1019, 1020, 1022, 37, 1023, 1024, 1026, 38] rfl
set_option maxRecDepth 200000 in
theorem inT_wsL_law0_r16 : ∀ w ∈ wsL_law0_r16, w ∈ lw_tbl := mem_r wsL_law0_r16 [1027, 1028, 1030, 39, 1031, 1032, 1034, 40, 1035, 514, 515, 516, 517, 518, 519, 520, 1036, 1037, 1038, 1039, 176, 177, 178, 179] rfl
set_option maxRecDepth 200000 in
theorem inT_wsL_law0_r17 : ∀ w ∈ wsL_law0_r17, w ∈ lw_tbl := mem_r wsL_law0_r17 [1040, 1041, 1042, 1043, 180, 181, 182, 183, 1044, 1045, 1046, 1047, 521, 522, 523, 524, 525, 526, 527, 140, 528, 530, 18, 531] rfl
set_option maxRecDepth 200000 in
theorem inT_wsL_law0_r18 : ∀ w ∈ wsL_law0_r18, w ∈ lw_tbl := mem_r wsL_law0_r18 [534, 536, 19, 537, 1048, 1049, 1050, 1051, 1052, 1054, 41, 1055, 540, 541, 542, 543, 544, 545, 546, 547, 549, 20, 550, 552] rfl
set_option maxRecDepth 200000 in
theorem inT_wsL_law0_r19 : ∀ w ∈ wsL_law0_r19, w ∈ lw_tbl := mem_r wsL_law0_r19 [553, 554, 555, 556, 557, 558, 559, 1056, 1057, 1058, 1059, 1060, 1062, 42, 1063, 560, 561, 562, 563, 564, 565, 566, 568, 569] rfl
set_option maxRecDepth 200000 in
theorem inT_wsL_law0_r20 : ∀ w ∈ wsL_law0_r20, w ∈ lw_tbl := mem_r wsL_law0_r20 [570, 571, 572, 573, 574, 575, 576, 578, 21, 579, 666, 580, 581, 582, 74, 583, 670, 672, 585, 586, 587, 588, 1064, 1065] rfl
set_option maxRecDepth 200000 in
theorem inT_wsL_law0_r21 : ∀ w ∈ wsL_law0_r21, w ∈ lw_tbl := mem_r wsL_law0_r21 [1066, 1067, 1068, 1070, 43, 1071, 589, 590, 591, 592, 593, 594, 595, 596, 598, 22, 599, 1072, 1073, 1074, 1075, 602, 603, 604] rfl
set_option maxRecDepth 200000 in
theorem inT_wsL_law0_r22 : ∀ w ∈ wsL_law0_r22, w ∈ lw_tbl := mem_r wsL_law0_r22 [605, 606, 607, 608, 1076, 1077, 1078, 1079, 609, 610, 611, 612, 613, 614, 615, 616, 617, 618, 1080, 1081, 1082, 1083, 620, 621] rfl
set_option maxRecDepth 200000 in
theorem inT_wsL_law0_r23 : ∀ w ∈ wsL_law0_r23, w ∈ lw_tbl := mem_r wsL_law0_r23 [622, 623, 624, 625, 626, 1084, 1085, 1086, 1087, 628, 629, 630, 631, 632, 633, 634, 658, 659, 635, 636, 637, 638, 639, 73] rfl
set_option maxRecDepth 200000 in
theorem inT_wsL_law0_r24 : ∀ w ∈ wsL_law0_r24, w ∈ lw_tbl := mem_r wsL_law0_r24 [640, 641, 642, 643, 644, 645, 646, 647, 648, 650, 651, 652, 653, 654, 655, 660, 661, 662, 663, 664, 668, 683, 684, 685] rfl
set_option maxRecDepth 200000 in
theorem inT_wsL_law0_r25 : ∀ w ∈ wsL_law0_r25, w ∈ lw_tbl := mem_r wsL_law0_r25 [686, 687, 688, 689, 690, 691, 693, 23, 694, 696, 697, 698, 699, 701, 704, 706, 708, 1088, 1089, 1090, 1091, 1092, 1093, 1094] rfl
set_option maxRecDepth 200000 in
theorem inT_wsL_law0_r26 : ∀ w ∈ wsL_law0_r26, w ∈ lw_tbl := mem_r wsL_law0_r26 [1095, 1096, 1097, 1098, 1100, 44, 1101, 1102, 1104, 45, 1105, 1106, 1108, 46, 1109, 709, 710, 711, 712, 713, 714, 715, 716, 717] rfl
set_option maxRecDepth 200000 in
theorem inT_wsL_law0_r27 : ∀ w ∈ wsL_law0_r27, w ∈ lw_tbl := mem_r wsL_law0_r27 [718, 719, 720, 721, 722, 723, 724, 725, 726, 727, 729, 732, 734, 736, 737, 739, 24, 740, 741, 1110, 1111, 1112, 1113, 1114] rfl
set_option maxRecDepth 200000 in
theorem inT_wsL_law0_r28 : ∀ w ∈ wsL_law0_r28, w ∈ lw_tbl := mem_r wsL_law0_r28 [1116, 47, 1117, 1118, 1119, 1120, 1121, 1122, 1123, 742, 743, 744, 745, 746, 747, 748, 669, 1124, 1125, 1126, 1127, 749, 750, 751] rfl
set_option maxRecDepth 200000 in
theorem inT_wsL_law0_r29 : ∀ w ∈ wsL_law0_r29, w ∈ lw_tbl := mem_r wsL_law0_r29 [752, 753, 754, 755, 756, 757, 758, 759, 1128, 1129, 1130, 1131, 760, 761, 762, 763, 764, 765, 766, 768, 769, 75, 770, 771] rfl
set_option maxRecDepth 200000 in
theorem inT_wsL_law0_r30 : ∀ w ∈ wsL_law0_r30, w ∈ lw_tbl := mem_r wsL_law0_r30 [772, 773, 781, 783, 785, 774, 776, 778, 779, 780, 1132, 1133, 1134, 1135, 891, 803, 804, 805, 806, 807, 808, 809, 775, 777] rfl
set_option maxRecDepth 200000 in
theorem inT_wsL_law0_r31 : ∀ w ∈ wsL_law0_r31, w ∈ lw_tbl := mem_r wsL_law0_r31 [782, 667, 810, 812, 25, 813, 768, 816, 817, 818, 819, 820, 822, 26, 823, 824, 825, 826, 827, 828, 829, 830, 831, 832] rfl
set_option maxRecDepth 200000 in
theorem inT_wsL_law0_r32 : ∀ w ∈ wsL_law0_r32, w ∈ lw_tbl := mem_r wsL_law0_r32 [833, 834, 835, 836, 838, 837, 839, 840, 841, 842, 843, 844, 846, 27, 847, 848, 849, 850, 851, 852, 665, 1136, 1137, 1138] rfl
set_option maxRecDepth 200000 in
theorem inT_wsL_law0_r33 : ∀ w ∈ wsL_law0_r33, w ∈ lw_tbl := mem_r wsL_law0_r33 [1139, 1140, 1142, 48, 1143, 1144, 1146, 49, 1147, 1148, 1150, 50, 1151, 1152, 1153, 1154, 1155, 1157, 51, 1158, 853, 854, 855, 856] rfl
set_option maxRecDepth 200000 in
theorem inT_wsL_law0_r34 : ∀ w ∈ wsL_law0_r34, w ∈ lw_tbl := mem_r wsL_law0_r34 [857, 858, 859, 784, 671, 673, 1159, 1160, 1161, 1162] rfl
set_option maxRecDepth 200000 in
theorem inT_wsX60 : ∀ w ∈ wsX60, w ∈ lw_tbl := mem_r wsX60 [159, 161, 163, 165, 167, 169, 171, 173] rfl
set_option maxRecDepth 200000 in
theorem inT_wsX70 : ∀ w ∈ wsX70, w ∈ lw_tbl := mem_r wsX70 [900, 902, 904, 906, 908, 910, 912, 914, 916, 918, 920, 922, 924, 926, 928, 930, 932, 934, 936, 938, 940, 942, 944, 946, 948, 950, 952, 954, 956, 958, 960, 962] rfl
set_option maxRecDepth 200000 in
theorem inT_wsJx4a65c0 : ∀ w ∈ wsJx4a65c0, w ∈ lw_tbl := mem_r wsJx4a65c0 [111, 107, 109] rfl
set_option maxRecDepth 200000 in
theorem inT_wsX40 : ∀ w ∈ wsX40, w ∈ lw_tbl := mem_r wsX40 [125, 127, 129] rfl
set_option maxRecDepth 200000 in
theorem inT_wsX30 : ∀ w ∈ wsX30, w ∈ lw_tbl := mem_r wsX30 [143, 145, 147] rfl
set_option maxRecDepth 200000 in
theorem inT_wsX50 : ∀ w ∈ wsX50, w ∈ lw_tbl := mem_r wsX50 [352, 354, 356, 358] rfl
set_option maxRecDepth 200000 in
theorem inT_wsX20 : ∀ w ∈ wsX20, w ∈ lw_tbl := mem_r wsX20 [674, 676, 678, 680] rfl
set_option maxRecDepth 200000 in
theorem inT_wsX00 : ∀ w ∈ wsX00, w ∈ lw_tbl := mem_r wsX00 [786, 788, 790, 792, 794, 796, 798, 800] rfl
theorem wsL_law_in0 : ∀ w ∈ wsL_law0, w ∈ lw_tbl := by
  intro w h
  unfold wsL_law0 at h
  simp only [List.mem_append, List.not_mem_nil, or_false] at h
  rcases h with (((((((((h | h | h | h | h | h | h | h | h | h | h | h | h | h | h | h | h | h | h | h | h | h | h | h | h | h | h | h | h | h | h | h | h | h) | h) | h) | h) | h) | h) | h) | h) | h)
  · exact inT_wsL_law0_r1 w h
  · exact inT_wsL_law0_r2 w h
  · exact inT_wsL_law0_r3 w h
  · exact inT_wsL_law0_r4 w h
  · exact inT_wsL_law0_r5 w h
  · exact inT_wsL_law0_r6 w h
  · exact inT_wsL_law0_r7 w h
  · exact inT_wsL_law0_r8 w h
  · exact inT_wsL_law0_r9 w h
  · exact inT_wsL_law0_r10 w h
  · exact inT_wsL_law0_r11 w h
  · exact inT_wsL_law0_r12 w h
  · exact inT_wsL_law0_r13 w h
  · exact inT_wsL_law0_r14 w h
  · exact inT_wsL_law0_r15 w h
  · exact inT_wsL_law0_r16 w h
  · exact inT_wsL_law0_r17 w h
  · exact inT_wsL_law0_r18 w h
  · exact inT_wsL_law0_r19 w h
  · exact inT_wsL_law0_r20 w h
  · exact inT_wsL_law0_r21 w h
  · exact inT_wsL_law0_r22 w h
  · exact inT_wsL_law0_r23 w h
  · exact inT_wsL_law0_r24 w h
  · exact inT_wsL_law0_r25 w h
  · exact inT_wsL_law0_r26 w h
  · exact inT_wsL_law0_r27 w h
  · exact inT_wsL_law0_r28 w h
  · exact inT_wsL_law0_r29 w h
  · exact inT_wsL_law0_r30 w h
  · exact inT_wsL_law0_r31 w h
  · exact inT_wsL_law0_r32 w h
  · exact inT_wsL_law0_r33 w h
  · exact inT_wsL_law0_r34 w h
  · exact inT_wsX60 w h
  · exact inT_wsX70 w h
  · exact inT_wsJx4a65c0 w h
  · exact inT_wsX40 w h
  · exact inT_wsX30 w h
  · exact inT_wsX50 w h
  · exact inT_wsX20 w h
  · exact inT_wsX00 w h
theorem wsL_law_x0 : ∀ w ∈ (vx_atS RX6 62 "java/lang/IllegalStateException" ["java/lang/RuntimeException", "java/lang/Exception"]).filter goodWord, w ∈ lw_tbl := by decide +kernel
theorem wsL_law_x1 : ∀ w ∈ (vx_atS RX6 122 "java/lang/IndexOutOfBoundsException" ["java/lang/RuntimeException", "java/lang/Exception"]).filter goodWord, w ∈ lw_tbl := by decide +kernel
theorem wsL_law_x2 : ∀ w ∈ (vx_atS RX6 281 "java/lang/IllegalArgumentException" ["java/lang/RuntimeException", "java/lang/Exception"]).filter goodWord, w ∈ lw_tbl := by decide +kernel
theorem wsL_law_in : ∀ w ∈ wsL_law, w ∈ lw_tbl := fun w h => (List.mem_append.mp h).elim (fun h => (List.mem_append.mp h).elim (fun h => (List.mem_append.mp h).elim (fun h => wsL_law_in0 w h) (fun h => wsL_law_x0 w h)) (fun h => wsL_law_x1 w h)) (fun h => wsL_law_x2 w h)
set_option maxRecDepth 20000 in
theorem ggL_open_X6_open : GoodIn wsL_open wsX6_open := goodIn_ca (goodIn_ca (goodIn_ca (goodIn_r _ [6, 7, 8, 9, 10, 11, 12, 13, 14, 15, 16, 5, 17, 18, 19, 20, 21, 22, 23, 24, 25, 26, 27, 28, 29, 30, 31, 32, 33, 34, 35, 36, 37, 38, 39, 40, 41, 42, 43, 44, 45, 46, 47, 48, 49, 50, 51, 52, 53, 54, 55, 56, 57, 58, 59, 60, 61, 62, 63, 64, 65, 66, 67, 68, 69, 70, 71, 72, 73, 74, 75, 76, 77, 78, 79, 80, 81, 82, 83, 84, 85, 86, 87, 88, 89, 90, 91, 92, 93, 94, 95, 96, 97, 98, 99, 100, 101, 102, 103, 104, 105, 106, 107, 108, 109, 110, 111, 112, 113, 114, 115, 116, 117, 118, 119, 120, 121, 122, 123, 124, 125, 126, 127, 128, 129, 130, 131, 132, 133, 134, 135, 136, 137, 138, 139, 140, 141, 142, 143, 144, 145, 146, 147, 148, 149, 150, 151, 152, 153, 154, 155, 156, 157, 158, 159, 160, 161, 162, 163, 164, 165, 166, 167, 168, 169, 170, 171, 172, 173, 174, 175, 176, 177, 178, 179, 180, 181, 182, 183, 184, 185, 186, 187, 188, 189, 190, 191, 192, 193, 194, 195, 196, 197] rfl (by decide +kernel)) (goodIn_sub (fun _ h => List.mem_cons_of_mem _ (List.mem_append_left _ (List.mem_append_left _ (List.mem_append_right _ h)))) (by decide +kernel))) (goodIn_sub (fun _ h => List.mem_cons_of_mem _ (List.mem_append_left _ (List.mem_append_right _ h))) (by decide +kernel))) (goodIn_sub (fun _ h => List.mem_cons_of_mem _ (List.mem_append_right _ h)) (by decide +kernel))
set_option maxRecDepth 20000 in
theorem gL_open_X6_open : GoodIn wsL_open (wsV RL 7 RX6 yX6_open wsX6_open) := goodIn_app (goodIn_of _ (by decide +kernel)) ggL_open_X6_open
theorem dL_open_0 : decode cL_open 0 = .ok (.aload_n 3, 1) := by decide +kernel
theorem dL_open_1 : decode cL_open 1 = .ok (.iconst 0, 1) := by decide +kernel
theorem dL_open_2 : decode cL_open 2 = .ok (.aload_n 0, 1) := by decide +kernel
theorem dL_open_3 : decode cL_open 3 = .ok (.iload_n 1, 1) := by decide +kernel
theorem dL_open_4 : decode cL_open 4 = .ok (.iload_n 2, 1) := by decide +kernel
theorem dL_open_5 : decode cL_open 5 = .ok (.invokevirtual 7, 3) := by decide +kernel
theorem dL_open_8 : decode cL_open 8 = .ok (.i2l, 1) := by decide +kernel
theorem dL_open_9 : decode cL_open 9 = .ok (.lastore, 1) := by decide +kernel
theorem dL_open_10 : decode cL_open 10 = .ok (.goto 15, 3) := by decide +kernel
theorem dL_open_13 : decode cL_open 13 = .ok (.astore 4, 2) := by decide +kernel
theorem dL_open_15 : decode cL_open 15 = .ok (.iconst 1, 1) := by decide +kernel
theorem dL_open_16 : decode cL_open 16 = .ok (.ireturn, 1) := by decide +kernel
theorem dL_open_17 : decode cL_open 17 = .ok (.astore 4, 2) := by decide +kernel
theorem dL_open_19 : decode cL_open 19 = .ok (.iconst 2, 1) := by decide +kernel
theorem dL_open_20 : decode cL_open 20 = .ok (.ireturn, 1) := by decide +kernel
theorem dL_open_21 : decode cL_open 21 = .ok (.astore 4, 2) := by decide +kernel
theorem dL_open_23 : decode cL_open 23 = .ok (.iconst 3, 1) := by decide +kernel
theorem dL_open_24 : decode cL_open 24 = .ok (.ireturn, 1) := by decide +kernel
theorem dL_open_25 : decode cL_open 25 = .ok (.iconst 0, 1) := by decide +kernel
theorem dL_open_26 : decode cL_open 26 = .ok (.ireturn, 1) := by decide +kernel
set_option maxRecDepth 20000 in
theorem ggL_close_X6_close : GoodIn wsL_close wsX6_close := goodIn_ca (goodIn_ca (goodIn_r _ [6, 7, 8, 9, 10, 11, 12, 13, 14, 15, 5, 16, 17, 18, 19, 20, 21, 22, 23, 24, 25, 26, 27, 28, 29, 30, 31, 32, 33, 34, 35, 36, 37, 38, 39, 40, 41, 42, 43, 44, 45, 46, 47, 48, 49, 50, 51, 52, 53, 54, 55, 56, 57, 58, 59, 60, 61, 62, 63, 64, 65, 66, 67, 68, 69, 70, 71, 72, 73, 74, 75, 76, 77, 78, 79, 80, 81, 82, 83, 84, 85, 86, 87, 88, 89, 90, 91, 92, 93, 94, 95, 96, 97, 98, 99, 100, 101, 102, 103, 104, 105, 106, 107, 108, 109, 110, 111, 112, 113, 114, 115, 116, 117, 118, 119, 120, 121, 122, 123, 124, 125, 126, 127, 128, 129, 130, 131, 132, 133, 134, 135, 136, 137, 138, 139, 140, 141, 142, 143, 144, 145, 146, 147, 148, 149, 150, 151, 152, 153, 154, 155, 156, 157, 158, 159, 160, 161, 162, 163, 164, 165, 166, 167, 168, 169, 170, 171, 172, 173, 174, 175, 176, 177, 178, 179, 180, 181, 182, 183, 184, 185, 186, 187, 188, 189, 190, 191, 192, 193, 194, 195, 196, 197, 198, 199, 200, 201, 202, 203, 204, 205, 206, 207, 208, 209, 210, 211, 212, 213, 214, 215, 216, 217, 218, 219, 220, 221, 222] rfl (by decide +kernel)) (goodIn_sub (fun _ h => List.mem_cons_of_mem _ (List.mem_append_left _ (List.mem_append_right _ h))) (by decide +kernel))) (goodIn_sub (fun _ h => List.mem_cons_of_mem _ (List.mem_append_right _ h)) (by decide +kernel))
set_option maxRecDepth 20000 in
theorem gL_close_X6_close : GoodIn wsL_close (wsV RL 19 RX6 yX6_close wsX6_close) := goodIn_app (goodIn_of _ (by decide +kernel)) ggL_close_X6_close
theorem dL_close_0 : decode cL_close 0 = .ok (.aload_n 2, 1) := by decide +kernel
theorem dL_close_1 : decode cL_close 1 = .ok (.iconst 0, 1) := by decide +kernel
theorem dL_close_2 : decode cL_close 2 = .ok (.aload_n 0, 1) := by decide +kernel
theorem dL_close_3 : decode cL_close 3 = .ok (.iload_n 1, 1) := by decide +kernel
theorem dL_close_4 : decode cL_close 4 = .ok (.invokevirtual 19, 3) := by decide +kernel
theorem dL_close_7 : decode cL_close 7 = .ok (.i2l, 1) := by decide +kernel
theorem dL_close_8 : decode cL_close 8 = .ok (.lastore, 1) := by decide +kernel
theorem dL_close_9 : decode cL_close 9 = .ok (.goto 9, 3) := by decide +kernel
theorem dL_close_12 : decode cL_close 12 = .ok (.astore_n 3, 1) := by decide +kernel
theorem dL_close_13 : decode cL_close 13 = .ok (.iconst 1, 1) := by decide +kernel
theorem dL_close_14 : decode cL_close 14 = .ok (.ireturn, 1) := by decide +kernel
theorem dL_close_15 : decode cL_close 15 = .ok (.astore_n 3, 1) := by decide +kernel
theorem dL_close_16 : decode cL_close 16 = .ok (.iconst 2, 1) := by decide +kernel
theorem dL_close_17 : decode cL_close 17 = .ok (.ireturn, 1) := by decide +kernel
theorem dL_close_18 : decode cL_close 18 = .ok (.iconst 0, 1) := by decide +kernel
theorem dL_close_19 : decode cL_close 19 = .ok (.ireturn, 1) := by decide +kernel
set_option maxRecDepth 20000 in
theorem ggL_state_X6_state : GoodIn wsL_state wsX6_state := goodIn_ca (goodIn_r _ [6, 7, 8, 9, 10, 5, 11, 12, 13, 14, 15, 16, 17, 18, 19, 20, 21, 22, 23, 24, 25] rfl (by decide +kernel)) (goodIn_sub (fun _ h => List.mem_cons_of_mem _ (List.mem_append_right _ h)) (by decide +kernel))
set_option maxRecDepth 20000 in
theorem gL_state_X6_state : GoodIn wsL_state (wsV RL 23 RX6 yX6_state wsX6_state) := goodIn_app (goodIn_of _ (by decide +kernel)) ggL_state_X6_state
theorem dL_state_0 : decode cL_state 0 = .ok (.aload_n 2, 1) := by decide +kernel
theorem dL_state_1 : decode cL_state 1 = .ok (.iconst 0, 1) := by decide +kernel
theorem dL_state_2 : decode cL_state 2 = .ok (.aload_n 0, 1) := by decide +kernel
theorem dL_state_3 : decode cL_state 3 = .ok (.iload_n 1, 1) := by decide +kernel
theorem dL_state_4 : decode cL_state 4 = .ok (.invokevirtual 23, 3) := by decide +kernel
theorem dL_state_7 : decode cL_state 7 = .ok (.i2l, 1) := by decide +kernel
theorem dL_state_8 : decode cL_state 8 = .ok (.lastore, 1) := by decide +kernel
theorem dL_state_9 : decode cL_state 9 = .ok (.goto 6, 3) := by decide +kernel
theorem dL_state_12 : decode cL_state 12 = .ok (.astore_n 3, 1) := by decide +kernel
theorem dL_state_13 : decode cL_state 13 = .ok (.iconst 1, 1) := by decide +kernel
theorem dL_state_14 : decode cL_state 14 = .ok (.ireturn, 1) := by decide +kernel
theorem dL_state_15 : decode cL_state 15 = .ok (.iconst 0, 1) := by decide +kernel
theorem dL_state_16 : decode cL_state 16 = .ok (.ireturn, 1) := by decide +kernel
set_option maxRecDepth 20000 in
theorem ggL_makeStore_X6_makeStore : GoodIn wsL_makeStore wsX6_makeStore := goodIn_ca (goodIn_ca (goodIn_r _ [6, 7, 8, 9, 10, 11, 12, 13, 14, 15, 5, 16, 17, 18, 19, 20, 21, 22, 23, 24, 25, 26, 27, 28, 29, 30, 31, 32, 33, 34, 35, 36, 37, 38, 39, 40, 41, 42, 43, 44, 45, 46, 47, 48, 49, 50, 51, 52, 53, 54, 55, 56, 57, 58, 59, 60] rfl (by decide +kernel)) (goodIn_sub (fun _ h => List.mem_cons_of_mem _ (List.mem_append_left _ (List.mem_append_right _ h))) (by decide +kernel))) (goodIn_sub (fun _ h => List.mem_cons_of_mem _ (List.mem_append_right _ h)) (by decide +kernel))
set_option maxRecDepth 20000 in
theorem gL_makeStore_X6_makeStore : GoodIn wsL_makeStore (wsV RL 26 RX6 yX6_makeStore wsX6_makeStore) := goodIn_app (goodIn_of _ (by decide +kernel)) ggL_makeStore_X6_makeStore
theorem dL_makeStore_0 : decode cL_makeStore 0 = .ok (.aload_n 0, 1) := by decide +kernel
theorem dL_makeStore_1 : decode cL_makeStore 1 = .ok (.iload_n 1, 1) := by decide +kernel
theorem dL_makeStore_2 : decode cL_makeStore 2 = .ok (.iload_n 2, 1) := by decide +kernel
theorem dL_makeStore_3 : decode cL_makeStore 3 = .ok (.invokevirtual 26, 3) := by decide +kernel
theorem dL_makeStore_6 : decode cL_makeStore 6 = .ok (.goto 9, 3) := by decide +kernel
theorem dL_makeStore_9 : decode cL_makeStore 9 = .ok (.astore_n 3, 1) := by decide +kernel
theorem dL_makeStore_10 : decode cL_makeStore 10 = .ok (.iconst 1, 1) := by decide +kernel
theorem dL_makeStore_11 : decode cL_makeStore 11 = .ok (.ireturn, 1) := by decide +kernel
theorem dL_makeStore_12 : decode cL_makeStore 12 = .ok (.astore_n 3, 1) := by decide +kernel
theorem dL_makeStore_13 : decode cL_makeStore 13 = .ok (.iconst 2, 1) := by decide +kernel
theorem dL_makeStore_14 : decode cL_makeStore 14 = .ok (.ireturn, 1) := by decide +kernel
theorem dL_makeStore_15 : decode cL_makeStore 15 = .ok (.iconst 0, 1) := by decide +kernel
theorem dL_makeStore_16 : decode cL_makeStore 16 = .ok (.ireturn, 1) := by decide +kernel
set_option maxRecDepth 20000 in
theorem ggL_deleteStore_X6_deleteStore : GoodIn wsL_deleteStore wsX6_deleteStore := goodIn_ca (goodIn_ca (goodIn_r _ [6, 7, 8, 9, 5, 10, 11, 12, 13, 14, 15, 16, 17, 18, 19, 20, 21, 22, 23, 24, 25, 26, 27, 28, 29, 30, 31, 32, 33, 34, 35, 36, 37, 38, 39, 40, 41, 42, 43, 44, 45, 46, 47, 48, 49, 50, 51, 52, 53, 54, 55, 56, 57, 58, 59, 60, 61, 62, 63, 64, 65, 66, 67, 68, 69, 70, 71, 72, 73, 74, 75, 76, 77, 78, 79, 80, 81, 82, 83] rfl (by decide +kernel)) (goodIn_sub (fun _ h => List.mem_cons_of_mem _ (List.mem_append_left _ (List.mem_append_right _ h))) (by decide +kernel))) (goodIn_sub (fun _ h => List.mem_cons_of_mem _ (List.mem_append_right _ h)) (by decide +kernel))
set_option maxRecDepth 20000 in
theorem gL_deleteStore_X6_deleteStore : GoodIn wsL_deleteStore (wsV RL 30 RX6 yX6_deleteStore wsX6_deleteStore) := goodIn_app (goodIn_of _ (by decide +kernel)) ggL_deleteStore_X6_deleteStore
theorem dL_deleteStore_0 : decode cL_deleteStore 0 = .ok (.aload_n 3, 1) := by decide +kernel
theorem dL_deleteStore_1 : decode cL_deleteStore 1 = .ok (.iconst 0, 1) := by decide +kernel
theorem dL_deleteStore_2 : decode cL_deleteStore 2 = .ok (.aload_n 0, 1) := by decide +kernel
theorem dL_deleteStore_3 : decode cL_deleteStore 3 = .ok (.iload_n 1, 1) := by decide +kernel
theorem dL_deleteStore_4 : decode cL_deleteStore 4 = .ok (.iload_n 2, 1) := by decide +kernel
theorem dL_deleteStore_5 : decode cL_deleteStore 5 = .ok (.invokevirtual 30, 3) := by decide +kernel
theorem dL_deleteStore_8 : decode cL_deleteStore 8 = .ok (.i2l, 1) := by decide +kernel
theorem dL_deleteStore_9 : decode cL_deleteStore 9 = .ok (.lastore, 1) := by decide +kernel
theorem dL_deleteStore_10 : decode cL_deleteStore 10 = .ok (.goto 11, 3) := by decide +kernel
theorem dL_deleteStore_13 : decode cL_deleteStore 13 = .ok (.astore 4, 2) := by decide +kernel
theorem dL_deleteStore_15 : decode cL_deleteStore 15 = .ok (.iconst 1, 1) := by decide +kernel
theorem dL_deleteStore_16 : decode cL_deleteStore 16 = .ok (.ireturn, 1) := by decide +kernel
theorem dL_deleteStore_17 : decode cL_deleteStore 17 = .ok (.astore 4, 2) := by decide +kernel
theorem dL_deleteStore_19 : decode cL_deleteStore 19 = .ok (.iconst 2, 1) := by decide +kernel
theorem dL_deleteStore_20 : decode cL_deleteStore 20 = .ok (.ireturn, 1) := by decide +kernel
theorem dL_deleteStore_21 : decode cL_deleteStore 21 = .ok (.iconst 0, 1) := by decide +kernel
theorem dL_deleteStore_22 : decode cL_deleteStore 22 = .ok (.ireturn, 1) := by decide +kernel
set_option maxRecDepth 20000 in
theorem ggL_makeIndex_X6_makeIndex : GoodIn wsL_makeIndex wsX6_makeIndex := goodIn_ca (goodIn_ca (goodIn_r _ [6, 7, 8, 9, 10, 11, 12, 13, 5, 14, 15, 16, 17, 18, 19, 20, 21, 22, 23, 24, 25, 26, 27, 28, 29, 30, 31, 32, 33, 34, 35, 36, 37, 38, 39, 40, 41, 42, 43, 44, 45, 46, 47, 48, 49, 50, 51, 52, 53, 54, 55, 56, 57, 58, 59, 60, 61, 62, 63, 64, 65, 66, 67, 68, 69, 70, 71, 72, 73, 74, 75, 76, 77, 78, 79, 80, 81, 82, 83, 84, 85, 86, 87, 88, 89, 90, 91, 92, 93, 94, 95, 96, 97, 98] rfl (by decide +kernel)) (goodIn_sub (fun _ h => List.mem_cons_of_mem _ (List.mem_append_left _ (List.mem_append_right _ h))) (by decide +kernel))) (goodIn_sub (fun _ h => List.mem_cons_of_mem _ (List.mem_append_right _ h)) (by decide +kernel))
set_option maxRecDepth 20000 in
theorem gL_makeIndex_X6_makeIndex : GoodIn wsL_makeIndex (wsV RL 33 RX6 yX6_makeIndex wsX6_makeIndex) := goodIn_app (goodIn_of _ (by decide +kernel)) ggL_makeIndex_X6_makeIndex
theorem dL_makeIndex_0 : decode cL_makeIndex 0 = .ok (.aload_n 0, 1) := by decide +kernel
theorem dL_makeIndex_1 : decode cL_makeIndex 1 = .ok (.iload_n 1, 1) := by decide +kernel
theorem dL_makeIndex_2 : decode cL_makeIndex 2 = .ok (.iload_n 2, 1) := by decide +kernel
theorem dL_makeIndex_3 : decode cL_makeIndex 3 = .ok (.iload_n 3, 1) := by decide +kernel
theorem dL_makeIndex_4 : decode cL_makeIndex 4 = .ok (.iload 4, 2) := by decide +kernel
theorem dL_makeIndex_6 : decode cL_makeIndex 6 = .ok (.invokevirtual 33, 3) := by decide +kernel
theorem dL_makeIndex_9 : decode cL_makeIndex 9 = .ok (.goto 11, 3) := by decide +kernel
theorem dL_makeIndex_12 : decode cL_makeIndex 12 = .ok (.astore 5, 2) := by decide +kernel
theorem dL_makeIndex_14 : decode cL_makeIndex 14 = .ok (.iconst 1, 1) := by decide +kernel
theorem dL_makeIndex_15 : decode cL_makeIndex 15 = .ok (.ireturn, 1) := by decide +kernel
theorem dL_makeIndex_16 : decode cL_makeIndex 16 = .ok (.astore 5, 2) := by decide +kernel
theorem dL_makeIndex_18 : decode cL_makeIndex 18 = .ok (.iconst 2, 1) := by decide +kernel
theorem dL_makeIndex_19 : decode cL_makeIndex 19 = .ok (.ireturn, 1) := by decide +kernel
theorem dL_makeIndex_20 : decode cL_makeIndex 20 = .ok (.iconst 0, 1) := by decide +kernel
theorem dL_makeIndex_21 : decode cL_makeIndex 21 = .ok (.ireturn, 1) := by decide +kernel
set_option maxRecDepth 20000 in
theorem ggL_begin_X6_begin : GoodIn wsL_begin wsX6_begin := goodIn_ca (goodIn_ca (goodIn_ca (goodIn_r _ [6, 7, 8, 9, 10, 11, 12, 13, 14, 15, 16, 17, 18, 5, 19, 20, 21, 22, 23, 24, 25, 26, 27, 28, 29, 30, 31, 32, 33, 34, 35, 36, 37, 38, 39, 40, 41, 42, 43, 44, 45, 46, 47, 48, 49, 50, 51, 52, 53, 54, 55, 56, 57, 58, 59, 60, 61, 62, 63, 64, 65, 66, 67, 68, 69, 70, 71, 72, 73, 74, 75, 76, 77, 78, 79, 80, 81, 82, 83, 84, 85, 86, 87, 88, 89, 90, 91, 92, 93, 94, 95, 96, 97, 98, 99, 100, 101, 102, 103, 104, 105, 106, 107, 108, 109, 110, 111, 112, 113, 114, 115, 116, 117, 118, 119, 120, 121, 122, 123, 124, 125, 126, 127, 128, 129, 130, 131, 132, 133, 134, 135, 136, 137, 138, 139, 140, 141, 142, 143, 144, 145, 146, 147, 148, 149, 150, 151, 152, 153, 154, 155, 156, 157, 158, 159, 160, 161, 162, 163, 164, 165, 166, 167, 168, 169, 170, 171, 172, 173, 174, 175, 176, 177, 178, 179, 180, 181, 182, 183, 184, 185, 186, 187, 188, 189] rfl (by decide +kernel)) (goodIn_sub (fun _ h => List.mem_cons_of_mem _ (List.mem_append_left _ (List.mem_append_left _ (List.mem_append_right _ h)))) (by decide +kernel))) (goodIn_sub (fun _ h => List.mem_cons_of_mem _ (List.mem_append_left _ (List.mem_append_right _ h))) (by decide +kernel))) (goodIn_sub (fun _ h => List.mem_cons_of_mem _ (List.mem_append_right _ h)) (by decide +kernel))
set_option maxRecDepth 20000 in
theorem gL_begin_X6_begin : GoodIn wsL_begin (wsV RL 37 RX6 yX6_begin wsX6_begin) := goodIn_app (goodIn_of _ (by decide +kernel)) ggL_begin_X6_begin
theorem dL_begin_0 : decode cL_begin 0 = .ok (.aload 4, 2) := by decide +kernel
theorem dL_begin_2 : decode cL_begin 2 = .ok (.iconst 0, 1) := by decide +kernel
theorem dL_begin_3 : decode cL_begin 3 = .ok (.aload_n 0, 1) := by decide +kernel
theorem dL_begin_4 : decode cL_begin 4 = .ok (.iload_n 1, 1) := by decide +kernel
theorem dL_begin_5 : decode cL_begin 5 = .ok (.iload_n 2, 1) := by decide +kernel
theorem dL_begin_6 : decode cL_begin 6 = .ok (.iload_n 3, 1) := by decide +kernel
theorem dL_begin_7 : decode cL_begin 7 = .ok (.invokevirtual 37, 3) := by decide +kernel
theorem dL_begin_10 : decode cL_begin 10 = .ok (.i2l, 1) := by decide +kernel
theorem dL_begin_11 : decode cL_begin 11 = .ok (.lastore, 1) := by decide +kernel
theorem dL_begin_12 : decode cL_begin 12 = .ok (.goto 15, 3) := by decide +kernel
theorem dL_begin_15 : decode cL_begin 15 = .ok (.astore 5, 2) := by decide +kernel
theorem dL_begin_17 : decode cL_begin 17 = .ok (.iconst 1, 1) := by decide +kernel
theorem dL_begin_18 : decode cL_begin 18 = .ok (.ireturn, 1) := by decide +kernel
theorem dL_begin_19 : decode cL_begin 19 = .ok (.astore 5, 2) := by decide +kernel
theorem dL_begin_21 : decode cL_begin 21 = .ok (.iconst 2, 1) := by decide +kernel
theorem dL_begin_22 : decode cL_begin 22 = .ok (.ireturn, 1) := by decide +kernel
theorem dL_begin_23 : decode cL_begin 23 = .ok (.astore 5, 2) := by decide +kernel
theorem dL_begin_25 : decode cL_begin 25 = .ok (.iconst 3, 1) := by decide +kernel
theorem dL_begin_26 : decode cL_begin 26 = .ok (.ireturn, 1) := by decide +kernel
theorem dL_begin_27 : decode cL_begin 27 = .ok (.iconst 0, 1) := by decide +kernel
theorem dL_begin_28 : decode cL_begin 28 = .ok (.ireturn, 1) := by decide +kernel
set_option maxRecDepth 20000 in
theorem ggL_standing_X6_standing : GoodIn wsL_standing wsX6_standing := goodIn_ca (goodIn_r _ [6, 7, 8, 9, 10, 5, 11, 12, 13, 14, 15, 16, 17, 18, 19, 20, 21, 22, 23, 24, 25, 26, 27, 28, 29, 30, 31, 32, 33, 34, 35, 36, 37, 38, 39, 40, 41, 42, 43, 44, 45, 46, 47, 48, 49, 50, 51, 52, 53] rfl (by decide +kernel)) (goodIn_sub (fun _ h => List.mem_cons_of_mem _ (List.mem_append_right _ h)) (by decide +kernel))
set_option maxRecDepth 20000 in
theorem gL_standing_X6_standing : GoodIn wsL_standing (wsV RL 41 RX6 yX6_standing wsX6_standing) := goodIn_app (goodIn_of _ (by decide +kernel)) ggL_standing_X6_standing
theorem dL_standing_0 : decode cL_standing 0 = .ok (.aload_n 2, 1) := by decide +kernel
theorem dL_standing_1 : decode cL_standing 1 = .ok (.iconst 0, 1) := by decide +kernel
theorem dL_standing_2 : decode cL_standing 2 = .ok (.aload_n 0, 1) := by decide +kernel
theorem dL_standing_3 : decode cL_standing 3 = .ok (.iload_n 1, 1) := by decide +kernel
theorem dL_standing_4 : decode cL_standing 4 = .ok (.invokevirtual 41, 3) := by decide +kernel
theorem dL_standing_7 : decode cL_standing 7 = .ok (.i2l, 1) := by decide +kernel
theorem dL_standing_8 : decode cL_standing 8 = .ok (.lastore, 1) := by decide +kernel
theorem dL_standing_9 : decode cL_standing 9 = .ok (.goto 6, 3) := by decide +kernel
theorem dL_standing_12 : decode cL_standing 12 = .ok (.astore_n 3, 1) := by decide +kernel
theorem dL_standing_13 : decode cL_standing 13 = .ok (.iconst 1, 1) := by decide +kernel
theorem dL_standing_14 : decode cL_standing 14 = .ok (.ireturn, 1) := by decide +kernel
theorem dL_standing_15 : decode cL_standing 15 = .ok (.iconst 0, 1) := by decide +kernel
theorem dL_standing_16 : decode cL_standing 16 = .ok (.ireturn, 1) := by decide +kernel
set_option maxRecDepth 20000 in
theorem ggL_commit_X6_commit : GoodIn wsL_commit wsX6_commit := goodIn_ca (goodIn_ca (goodIn_r _ [6, 7, 8, 9, 10, 11, 12, 13, 14, 15, 5, 16, 17, 18, 19, 20, 21, 22, 23, 24, 25, 26, 27, 28, 29, 30, 31, 32, 33, 34, 35, 36, 37, 38, 39, 40, 41, 42, 43, 44, 45, 46, 47, 48, 49, 50, 51, 52, 53, 54, 55, 56, 57, 58, 59, 60, 61, 62, 63, 64, 65, 66, 67, 68, 69, 70, 71, 72, 73, 74, 75, 76, 77, 78, 79, 80, 81, 82, 83, 84, 85, 86, 87, 88, 89, 90, 91, 92, 93, 94, 95, 96, 97, 98, 99, 100, 101, 102, 103, 104, 105, 106, 107, 108, 109, 110, 111, 112, 113, 114, 115, 116, 117, 118, 119, 120, 121, 122, 123, 124, 125, 126, 127, 128, 129, 130, 131, 132, 133, 134, 135, 136, 137, 138, 139, 140, 141, 142, 143, 144, 145, 146, 147, 148, 149, 150, 151, 152, 153, 154, 155, 156, 157, 158, 159, 160, 161, 162, 163, 164, 165, 166, 167, 168, 169, 170, 171] rfl (by decide +kernel)) (goodIn_sub (fun _ h => List.mem_cons_of_mem _ (List.mem_append_left _ (List.mem_append_right _ h))) (by decide +kernel))) (goodIn_sub (fun _ h => List.mem_cons_of_mem _ (List.mem_append_right _ h)) (by decide +kernel))
set_option maxRecDepth 20000 in
theorem gL_commit_X6_commit : GoodIn wsL_commit (wsV RL 44 RX6 yX6_commit wsX6_commit) := goodIn_app (goodIn_of _ (by decide +kernel)) ggL_commit_X6_commit
theorem dL_commit_0 : decode cL_commit 0 = .ok (.aload_n 2, 1) := by decide +kernel
theorem dL_commit_1 : decode cL_commit 1 = .ok (.iconst 0, 1) := by decide +kernel
theorem dL_commit_2 : decode cL_commit 2 = .ok (.aload_n 0, 1) := by decide +kernel
theorem dL_commit_3 : decode cL_commit 3 = .ok (.iload_n 1, 1) := by decide +kernel
theorem dL_commit_4 : decode cL_commit 4 = .ok (.invokevirtual 44, 3) := by decide +kernel
theorem dL_commit_7 : decode cL_commit 7 = .ok (.i2l, 1) := by decide +kernel
theorem dL_commit_8 : decode cL_commit 8 = .ok (.lastore, 1) := by decide +kernel
theorem dL_commit_9 : decode cL_commit 9 = .ok (.goto 9, 3) := by decide +kernel
theorem dL_commit_12 : decode cL_commit 12 = .ok (.astore_n 3, 1) := by decide +kernel
theorem dL_commit_13 : decode cL_commit 13 = .ok (.iconst 1, 1) := by decide +kernel
theorem dL_commit_14 : decode cL_commit 14 = .ok (.ireturn, 1) := by decide +kernel
theorem dL_commit_15 : decode cL_commit 15 = .ok (.astore_n 3, 1) := by decide +kernel
theorem dL_commit_16 : decode cL_commit 16 = .ok (.iconst 2, 1) := by decide +kernel
theorem dL_commit_17 : decode cL_commit 17 = .ok (.ireturn, 1) := by decide +kernel
theorem dL_commit_18 : decode cL_commit 18 = .ok (.iconst 0, 1) := by decide +kernel
theorem dL_commit_19 : decode cL_commit 19 = .ok (.ireturn, 1) := by decide +kernel
set_option maxRecDepth 20000 in
theorem ggL_abort_X6_abort : GoodIn wsL_abort wsX6_abort := goodIn_ca (goodIn_ca (goodIn_r _ [6, 7, 8, 9, 10, 11, 12, 13, 5, 14, 15, 16, 17, 18, 19, 20, 21, 22, 23, 24, 25, 26, 27, 28, 29, 30, 31, 32, 33, 34, 35, 36, 37, 38, 39, 40, 41, 42, 43, 44, 45, 46, 47, 48, 49, 50, 51, 52, 53, 54, 55, 56, 57, 58, 59, 60, 61, 62, 63, 64, 65, 66, 67, 68, 69, 70, 71, 72, 73, 74, 75, 76, 77, 78, 79, 80, 81, 82, 83, 84, 85, 86, 87, 88, 89, 90, 91, 92, 93, 94, 95, 96, 97, 98, 99, 100, 101, 102, 103, 104, 105, 106, 107, 108, 109, 110, 111, 112, 113, 114, 115, 116, 117, 118, 119, 120, 121, 122, 123, 124, 125, 126, 127, 128, 129, 130, 131, 132, 133, 134, 135, 136, 137, 138, 139, 140, 141, 142, 143, 144, 145, 146, 147, 148, 149, 150, 151, 152, 153, 154, 155, 156, 157, 158, 159, 160, 161, 162, 163, 164, 165, 166, 167, 168, 169, 170, 171, 172, 173, 174, 175, 176, 177, 178, 179, 180, 181, 182, 183, 184, 185, 186, 187, 188, 189, 190, 191, 192, 193, 194, 195, 196, 197, 198, 199, 200, 201, 202, 203, 204, 205, 206, 207, 208, 209, 210, 211, 212, 213, 214, 215, 216, 217, 218, 219, 220, 221, 222] rfl (by decide +kernel)) (goodIn_sub (fun _ h => List.mem_cons_of_mem _ (List.mem_append_left _ (List.mem_append_right _ h))) (by decide +kernel))) (goodIn_sub (fun _ h => List.mem_cons_of_mem _ (List.mem_append_right _ h)) (by decide +kernel))
set_option maxRecDepth 20000 in
theorem gL_abort_X6_abort : GoodIn wsL_abort (wsV RL 47 RX6 yX6_abort wsX6_abort) := goodIn_app (goodIn_of _ (by decide +kernel)) ggL_abort_X6_abort
theorem dL_abort_0 : decode cL_abort 0 = .ok (.aload_n 2, 1) := by decide +kernel
theorem dL_abort_1 : decode cL_abort 1 = .ok (.iconst 0, 1) := by decide +kernel
theorem dL_abort_2 : decode cL_abort 2 = .ok (.aload_n 0, 1) := by decide +kernel
theorem dL_abort_3 : decode cL_abort 3 = .ok (.iload_n 1, 1) := by decide +kernel
theorem dL_abort_4 : decode cL_abort 4 = .ok (.invokevirtual 47, 3) := by decide +kernel
theorem dL_abort_7 : decode cL_abort 7 = .ok (.i2l, 1) := by decide +kernel
theorem dL_abort_8 : decode cL_abort 8 = .ok (.lastore, 1) := by decide +kernel
theorem dL_abort_9 : decode cL_abort 9 = .ok (.goto 9, 3) := by decide +kernel
theorem dL_abort_12 : decode cL_abort 12 = .ok (.astore_n 3, 1) := by decide +kernel
theorem dL_abort_13 : decode cL_abort 13 = .ok (.iconst 1, 1) := by decide +kernel
theorem dL_abort_14 : decode cL_abort 14 = .ok (.ireturn, 1) := by decide +kernel
theorem dL_abort_15 : decode cL_abort 15 = .ok (.astore_n 3, 1) := by decide +kernel
theorem dL_abort_16 : decode cL_abort 16 = .ok (.iconst 2, 1) := by decide +kernel
theorem dL_abort_17 : decode cL_abort 17 = .ok (.ireturn, 1) := by decide +kernel
theorem dL_abort_18 : decode cL_abort 18 = .ok (.iconst 0, 1) := by decide +kernel
theorem dL_abort_19 : decode cL_abort 19 = .ok (.ireturn, 1) := by decide +kernel
set_option maxRecDepth 20000 in
theorem ggL_put_X6_put : GoodIn wsL_put wsX6_put := goodIn_ca (goodIn_ca (goodIn_ca (goodIn_r _ [6, 7, 8, 9, 10, 11, 12, 13, 14, 5, 15, 16, 17, 18, 19, 20, 21, 22, 23, 24, 25, 26, 27, 28, 29, 30, 31, 32, 33, 34, 35, 36, 37, 38, 39, 40, 41, 42, 43, 44, 45, 46, 47, 48, 49, 50, 51, 52, 53, 54, 55, 56, 57, 58, 59, 60, 61, 62, 63, 64, 65, 66, 67, 68, 69, 70, 71, 72, 73, 74, 75, 76, 77, 78, 79, 80, 81, 82, 83, 84, 85, 86, 87, 88, 89, 90, 91, 92, 93, 94, 95, 96, 97, 98, 99, 100, 101, 102, 103, 104, 105, 106, 107, 108, 109, 110, 111, 112, 113, 114, 115, 116, 117, 118, 119, 120, 121, 122, 123, 124, 125, 126, 127, 128, 129, 130, 131, 132, 133, 134, 135, 136, 137, 138, 139, 140, 141, 142, 143, 144, 145, 146, 147, 148, 149, 150, 151, 152, 153, 154, 155, 156, 157, 158, 159, 160, 161, 162, 163, 164, 165, 166, 167, 168, 169, 170, 171, 172, 173, 174, 175, 176, 177, 178, 179, 180, 181, 182, 183, 184, 185, 186, 187, 188, 189, 190, 191, 192, 193, 194, 195, 196, 197, 198, 199, 200, 201, 202, 203, 204, 205, 206, 207, 208, 209] rfl (by decide +kernel)) (goodIn_sub (fun _ h => List.mem_cons_of_mem _ (List.mem_append_left _ (List.mem_append_left _ (List.mem_append_right _ h)))) (by decide +kernel))) (goodIn_sub (fun _ h => List.mem_cons_of_mem _ (List.mem_append_left _ (List.mem_append_right _ h))) (by decide +kernel))) (goodIn_sub (fun _ h => List.mem_cons_of_mem _ (List.mem_append_right _ h)) (by decide +kernel))
set_option maxRecDepth 20000 in
theorem gL_put_X6_put : GoodIn wsL_put (wsV RL 50 RX6 yX6_put wsX6_put) := goodIn_app (goodIn_of _ (by decide +kernel)) ggL_put_X6_put
theorem dL_put_0 : decode cL_put 0 = .ok (.aload 7, 2) := by decide +kernel
theorem dL_put_2 : decode cL_put 2 = .ok (.iconst 0, 1) := by decide +kernel
theorem dL_put_3 : decode cL_put 3 = .ok (.aload_n 0, 1) := by decide +kernel
theorem dL_put_4 : decode cL_put 4 = .ok (.iload_n 1, 1) := by decide +kernel
theorem dL_put_5 : decode cL_put 5 = .ok (.iload_n 2, 1) := by decide +kernel
theorem dL_put_6 : decode cL_put 6 = .ok (.iload_n 3, 1) := by decide +kernel
theorem dL_put_7 : decode cL_put 7 = .ok (.iload 4, 2) := by decide +kernel
theorem dL_put_9 : decode cL_put 9 = .ok (.iload 5, 2) := by decide +kernel
theorem dL_put_11 : decode cL_put 11 = .ok (.iload 6, 2) := by decide +kernel
theorem dL_put_13 : decode cL_put 13 = .ok (.invokevirtual 50, 3) := by decide +kernel
theorem dL_put_16 : decode cL_put 16 = .ok (.ifCond .eq 7, 3) := by decide +kernel
theorem dL_put_19 : decode cL_put 19 = .ok (.lconst 1, 1) := by decide +kernel
theorem dL_put_20 : decode cL_put 20 = .ok (.goto 4, 3) := by decide +kernel
theorem dL_put_23 : decode cL_put 23 = .ok (.lconst 0, 1) := by decide +kernel
theorem dL_put_24 : decode cL_put 24 = .ok (.lastore, 1) := by decide +kernel
theorem dL_put_25 : decode cL_put 25 = .ok (.goto 15, 3) := by decide +kernel
theorem dL_put_28 : decode cL_put 28 = .ok (.astore 8, 2) := by decide +kernel
theorem dL_put_30 : decode cL_put 30 = .ok (.iconst 1, 1) := by decide +kernel
theorem dL_put_31 : decode cL_put 31 = .ok (.ireturn, 1) := by decide +kernel
theorem dL_put_32 : decode cL_put 32 = .ok (.astore 8, 2) := by decide +kernel
theorem dL_put_34 : decode cL_put 34 = .ok (.iconst 2, 1) := by decide +kernel
theorem dL_put_35 : decode cL_put 35 = .ok (.ireturn, 1) := by decide +kernel
theorem dL_put_36 : decode cL_put 36 = .ok (.astore 8, 2) := by decide +kernel
theorem dL_put_38 : decode cL_put 38 = .ok (.iconst 3, 1) := by decide +kernel
theorem dL_put_39 : decode cL_put 39 = .ok (.ireturn, 1) := by decide +kernel
theorem dL_put_40 : decode cL_put 40 = .ok (.iconst 0, 1) := by decide +kernel
theorem dL_put_41 : decode cL_put 41 = .ok (.ireturn, 1) := by decide +kernel
set_option maxRecDepth 20000 in
theorem ggL_remove_X6_remove : GoodIn wsL_remove wsX6_remove := goodIn_ca (goodIn_ca (goodIn_ca (goodIn_r _ [6, 7, 8, 9, 5, 10, 11, 12, 13, 14, 15, 16, 17, 18, 19, 20, 21, 22, 23, 24, 25, 26, 27, 28, 29, 30, 31, 32, 33, 34, 35, 36, 37, 38, 39, 40, 41, 42, 43, 44, 45, 46, 47, 48, 49, 50, 51, 52, 53, 54, 55, 56, 57, 58, 59, 60, 61, 62, 63, 64, 65, 66, 67, 68, 69, 70, 71, 72, 73, 74, 75, 76, 77, 78, 79, 80, 81, 82, 83, 84, 85, 86, 87, 88, 89, 90, 91, 92, 93, 94, 95, 96, 97, 98, 99, 100, 101, 102, 103, 104, 105, 106, 107, 108, 109, 110, 111, 112, 113, 114, 115, 116, 117, 118, 119, 120, 121, 122, 123, 124, 125, 126, 127, 128, 129, 130, 131, 132, 133, 134] rfl (by decide +kernel)) (goodIn_sub (fun _ h => List.mem_cons_of_mem _ (List.mem_append_left _ (List.mem_append_left _ (List.mem_append_right _ h)))) (by decide +kernel))) (goodIn_sub (fun _ h => List.mem_cons_of_mem _ (List.mem_append_left _ (List.mem_append_right _ h))) (by decide +kernel))) (goodIn_sub (fun _ h => List.mem_cons_of_mem _ (List.mem_append_right _ h)) (by decide +kernel))
set_option maxRecDepth 20000 in
theorem gL_remove_X6_remove : GoodIn wsL_remove (wsV RL 54 RX6 yX6_remove wsX6_remove) := goodIn_app (goodIn_of _ (by decide +kernel)) ggL_remove_X6_remove
theorem dL_remove_0 : decode cL_remove 0 = .ok (.aload 5, 2) := by decide +kernel
theorem dL_remove_2 : decode cL_remove 2 = .ok (.iconst 0, 1) := by decide +kernel
theorem dL_remove_3 : decode cL_remove 3 = .ok (.aload_n 0, 1) := by decide +kernel
theorem dL_remove_4 : decode cL_remove 4 = .ok (.iload_n 1, 1) := by decide +kernel
theorem dL_remove_5 : decode cL_remove 5 = .ok (.iload_n 2, 1) := by decide +kernel
theorem dL_remove_6 : decode cL_remove 6 = .ok (.iload_n 3, 1) := by decide +kernel
theorem dL_remove_7 : decode cL_remove 7 = .ok (.iload 4, 2) := by decide +kernel
theorem dL_remove_9 : decode cL_remove 9 = .ok (.invokevirtual 54, 3) := by decide +kernel
theorem dL_remove_12 : decode cL_remove 12 = .ok (.i2l, 1) := by decide +kernel
theorem dL_remove_13 : decode cL_remove 13 = .ok (.lastore, 1) := by decide +kernel
theorem dL_remove_14 : decode cL_remove 14 = .ok (.goto 15, 3) := by decide +kernel
theorem dL_remove_17 : decode cL_remove 17 = .ok (.astore 6, 2) := by decide +kernel
theorem dL_remove_19 : decode cL_remove 19 = .ok (.iconst 1, 1) := by decide +kernel
theorem dL_remove_20 : decode cL_remove 20 = .ok (.ireturn, 1) := by decide +kernel
theorem dL_remove_21 : decode cL_remove 21 = .ok (.astore 6, 2) := by decide +kernel
theorem dL_remove_23 : decode cL_remove 23 = .ok (.iconst 2, 1) := by decide +kernel
theorem dL_remove_24 : decode cL_remove 24 = .ok (.ireturn, 1) := by decide +kernel
theorem dL_remove_25 : decode cL_remove 25 = .ok (.astore 6, 2) := by decide +kernel
theorem dL_remove_27 : decode cL_remove 27 = .ok (.iconst 3, 1) := by decide +kernel
theorem dL_remove_28 : decode cL_remove 28 = .ok (.ireturn, 1) := by decide +kernel
theorem dL_remove_29 : decode cL_remove 29 = .ok (.iconst 0, 1) := by decide +kernel
theorem dL_remove_30 : decode cL_remove 30 = .ok (.ireturn, 1) := by decide +kernel
set_option maxRecDepth 20000 in
theorem ggL_get_X6_get : GoodIn wsL_get wsX6_get := goodIn_ca (goodIn_ca (goodIn_ca (goodIn_r _ [6, 7, 8, 9, 10, 5, 11, 12, 13, 14, 15, 16, 17, 18, 19, 20, 21, 22, 23, 24, 25, 26, 27, 28, 29, 30, 31, 32, 33, 34, 35, 36, 37, 38, 39, 40, 41, 42, 43, 44, 45, 46, 47, 48, 49, 50, 51, 52, 53, 54, 55, 56, 57, 58, 59, 60, 61, 62, 63, 64, 65, 66, 67, 68, 69, 70, 71, 72, 73, 74, 75, 76, 77, 78, 79, 80, 81, 82, 83, 84, 85, 86, 87, 88, 89, 90, 91, 92, 93, 94, 95, 96, 97, 98, 99, 100, 101, 102, 103, 104, 105, 106, 107, 108] rfl (by decide +kernel)) (goodIn_sub (fun _ h => List.mem_cons_of_mem _ (List.mem_append_left _ (List.mem_append_left _ (List.mem_append_right _ h)))) (by decide +kernel))) (goodIn_sub (fun _ h => List.mem_cons_of_mem _ (List.mem_append_left _ (List.mem_append_right _ h))) (by decide +kernel))) (goodIn_sub (fun _ h => List.mem_cons_of_mem _ (List.mem_append_right _ h)) (by decide +kernel))
set_option maxRecDepth 20000 in
theorem gL_get_X6_get : GoodIn wsL_get (wsV RL 58 RX6 yX6_get wsX6_get) := goodIn_app (goodIn_of _ (by decide +kernel)) ggL_get_X6_get
theorem dL_get_0 : decode cL_get 0 = .ok (.aload 4, 2) := by decide +kernel
theorem dL_get_2 : decode cL_get 2 = .ok (.iconst 0, 1) := by decide +kernel
theorem dL_get_3 : decode cL_get 3 = .ok (.aload_n 0, 1) := by decide +kernel
theorem dL_get_4 : decode cL_get 4 = .ok (.iload_n 1, 1) := by decide +kernel
theorem dL_get_5 : decode cL_get 5 = .ok (.iload_n 2, 1) := by decide +kernel
theorem dL_get_6 : decode cL_get 6 = .ok (.iload_n 3, 1) := by decide +kernel
theorem dL_get_7 : decode cL_get 7 = .ok (.invokevirtual 58, 3) := by decide +kernel
theorem dL_get_10 : decode cL_get 10 = .ok (.i2l, 1) := by decide +kernel
theorem dL_get_11 : decode cL_get 11 = .ok (.lastore, 1) := by decide +kernel
theorem dL_get_12 : decode cL_get 12 = .ok (.goto 15, 3) := by decide +kernel
theorem dL_get_15 : decode cL_get 15 = .ok (.astore 5, 2) := by decide +kernel
theorem dL_get_17 : decode cL_get 17 = .ok (.iconst 1, 1) := by decide +kernel
theorem dL_get_18 : decode cL_get 18 = .ok (.ireturn, 1) := by decide +kernel
theorem dL_get_19 : decode cL_get 19 = .ok (.astore 5, 2) := by decide +kernel
theorem dL_get_21 : decode cL_get 21 = .ok (.iconst 2, 1) := by decide +kernel
theorem dL_get_22 : decode cL_get 22 = .ok (.ireturn, 1) := by decide +kernel
theorem dL_get_23 : decode cL_get 23 = .ok (.astore 5, 2) := by decide +kernel
theorem dL_get_25 : decode cL_get 25 = .ok (.iconst 3, 1) := by decide +kernel
theorem dL_get_26 : decode cL_get 26 = .ok (.ireturn, 1) := by decide +kernel
theorem dL_get_27 : decode cL_get 27 = .ok (.iconst 0, 1) := by decide +kernel
theorem dL_get_28 : decode cL_get 28 = .ok (.ireturn, 1) := by decide +kernel
set_option maxRecDepth 20000 in
theorem ggL_count_X6_count : GoodIn wsL_count wsX6_count := goodIn_ca (goodIn_ca (goodIn_ca (goodIn_r _ [6, 7, 8, 9, 5, 10, 11, 12, 13, 14, 15, 16, 17, 18, 19, 20, 21, 22, 23, 24, 25, 26, 27, 28, 29, 30, 31, 32, 33, 34, 35, 36, 37, 38, 39, 40, 41, 42, 43, 44, 45, 46, 47, 48, 49, 50, 51, 52, 53, 54, 55, 56, 57, 58, 59, 60, 61, 62, 63, 64, 65, 66, 67, 68, 69, 70, 71, 72, 73, 74, 75, 76, 77, 78, 79, 80, 81, 82, 83, 84, 85, 86, 87, 88, 89, 90, 91, 92, 93, 94, 95, 96, 97, 98, 99, 100, 101, 102, 103, 104, 105, 106, 107, 108, 109, 110, 111, 112, 113, 114, 115, 116] rfl (by decide +kernel)) (goodIn_sub (fun _ h => List.mem_cons_of_mem _ (List.mem_append_left _ (List.mem_append_left _ (List.mem_append_right _ h)))) (by decide +kernel))) (goodIn_sub (fun _ h => List.mem_cons_of_mem _ (List.mem_append_left _ (List.mem_append_right _ h))) (by decide +kernel))) (goodIn_sub (fun _ h => List.mem_cons_of_mem _ (List.mem_append_right _ h)) (by decide +kernel))
set_option maxRecDepth 20000 in
theorem gL_count_X6_count : GoodIn wsL_count (wsV RL 62 RX6 yX6_count wsX6_count) := goodIn_app (goodIn_of _ (by decide +kernel)) ggL_count_X6_count
theorem dL_count_0 : decode cL_count 0 = .ok (.aload 5, 2) := by decide +kernel
theorem dL_count_2 : decode cL_count 2 = .ok (.iconst 0, 1) := by decide +kernel
theorem dL_count_3 : decode cL_count 3 = .ok (.aload_n 0, 1) := by decide +kernel
theorem dL_count_4 : decode cL_count 4 = .ok (.iload_n 1, 1) := by decide +kernel
theorem dL_count_5 : decode cL_count 5 = .ok (.iload_n 2, 1) := by decide +kernel
theorem dL_count_6 : decode cL_count 6 = .ok (.iload_n 3, 1) := by decide +kernel
theorem dL_count_7 : decode cL_count 7 = .ok (.iload 4, 2) := by decide +kernel
theorem dL_count_9 : decode cL_count 9 = .ok (.invokevirtual 62, 3) := by decide +kernel
theorem dL_count_12 : decode cL_count 12 = .ok (.i2l, 1) := by decide +kernel
theorem dL_count_13 : decode cL_count 13 = .ok (.lastore, 1) := by decide +kernel
theorem dL_count_14 : decode cL_count 14 = .ok (.goto 15, 3) := by decide +kernel
theorem dL_count_17 : decode cL_count 17 = .ok (.astore 6, 2) := by decide +kernel
theorem dL_count_19 : decode cL_count 19 = .ok (.iconst 1, 1) := by decide +kernel
theorem dL_count_20 : decode cL_count 20 = .ok (.ireturn, 1) := by decide +kernel
theorem dL_count_21 : decode cL_count 21 = .ok (.astore 6, 2) := by decide +kernel
theorem dL_count_23 : decode cL_count 23 = .ok (.iconst 2, 1) := by decide +kernel
theorem dL_count_24 : decode cL_count 24 = .ok (.ireturn, 1) := by decide +kernel
theorem dL_count_25 : decode cL_count 25 = .ok (.astore 6, 2) := by decide +kernel
theorem dL_count_27 : decode cL_count 27 = .ok (.iconst 3, 1) := by decide +kernel
theorem dL_count_28 : decode cL_count 28 = .ok (.ireturn, 1) := by decide +kernel
theorem dL_count_29 : decode cL_count 29 = .ok (.iconst 0, 1) := by decide +kernel
theorem dL_count_30 : decode cL_count 30 = .ok (.ireturn, 1) := by decide +kernel
set_option maxRecDepth 20000 in
theorem ggL_cursor_X6_cursor : GoodIn wsL_cursor wsX6_cursor := goodIn_ca (goodIn_ca (goodIn_ca (goodIn_r _ [6, 7, 8, 9, 10, 11, 12, 13, 14, 15, 16, 17, 5, 18, 19, 20, 21, 22, 23, 24, 25, 26, 27, 28, 29, 30, 31, 32, 33, 34, 35, 36, 37, 38, 39, 40, 41, 42, 43, 44, 45, 46, 47, 48, 49, 50, 51, 52, 53, 54, 55, 56, 57, 58, 59, 60, 61, 62, 63, 64, 65, 66, 67, 68, 69, 70, 71, 72, 73, 74, 75, 76, 77, 78, 79, 80, 81, 82, 83, 84, 85, 86, 87, 88, 89, 90, 91, 92, 93, 94, 95, 96, 97, 98, 99, 100, 101, 102, 103, 104, 105, 106, 107, 108, 109, 110, 111, 112, 113, 114, 115, 116, 117, 118, 119, 120, 121, 122, 123, 124, 125, 126, 127, 128, 129, 130, 131, 132, 133, 134, 135, 136, 137, 138, 139, 140, 141, 142, 143, 144, 145, 146, 147, 148, 149, 150, 151, 152, 153, 154, 155, 156, 157, 158, 159, 160, 161, 162, 163, 164, 165, 166] rfl (by decide +kernel)) (goodIn_sub (fun _ h => List.mem_cons_of_mem _ (List.mem_append_left _ (List.mem_append_left _ (List.mem_append_right _ h)))) (by decide +kernel))) (goodIn_sub (fun _ h => List.mem_cons_of_mem _ (List.mem_append_left _ (List.mem_append_right _ h))) (by decide +kernel))) (goodIn_sub (fun _ h => List.mem_cons_of_mem _ (List.mem_append_right _ h)) (by decide +kernel))
set_option maxRecDepth 20000 in
theorem gL_cursor_X6_cursor : GoodIn wsL_cursor (wsV RL 65 RX6 yX6_cursor wsX6_cursor) := goodIn_app (goodIn_of _ (by decide +kernel)) ggL_cursor_X6_cursor
theorem dL_cursor_0 : decode cL_cursor 0 = .ok (.aload 5, 2) := by decide +kernel
theorem dL_cursor_2 : decode cL_cursor 2 = .ok (.iconst 0, 1) := by decide +kernel
theorem dL_cursor_3 : decode cL_cursor 3 = .ok (.aload_n 0, 1) := by decide +kernel
theorem dL_cursor_4 : decode cL_cursor 4 = .ok (.iload_n 1, 1) := by decide +kernel
theorem dL_cursor_5 : decode cL_cursor 5 = .ok (.iload_n 2, 1) := by decide +kernel
theorem dL_cursor_6 : decode cL_cursor 6 = .ok (.iload_n 3, 1) := by decide +kernel
theorem dL_cursor_7 : decode cL_cursor 7 = .ok (.iload 4, 2) := by decide +kernel
theorem dL_cursor_9 : decode cL_cursor 9 = .ok (.invokevirtual 65, 3) := by decide +kernel
theorem dL_cursor_12 : decode cL_cursor 12 = .ok (.i2l, 1) := by decide +kernel
theorem dL_cursor_13 : decode cL_cursor 13 = .ok (.lastore, 1) := by decide +kernel
theorem dL_cursor_14 : decode cL_cursor 14 = .ok (.goto 15, 3) := by decide +kernel
theorem dL_cursor_17 : decode cL_cursor 17 = .ok (.astore 6, 2) := by decide +kernel
theorem dL_cursor_19 : decode cL_cursor 19 = .ok (.iconst 1, 1) := by decide +kernel
theorem dL_cursor_20 : decode cL_cursor 20 = .ok (.ireturn, 1) := by decide +kernel
theorem dL_cursor_21 : decode cL_cursor 21 = .ok (.astore 6, 2) := by decide +kernel
theorem dL_cursor_23 : decode cL_cursor 23 = .ok (.iconst 2, 1) := by decide +kernel
theorem dL_cursor_24 : decode cL_cursor 24 = .ok (.ireturn, 1) := by decide +kernel
theorem dL_cursor_25 : decode cL_cursor 25 = .ok (.astore 6, 2) := by decide +kernel
theorem dL_cursor_27 : decode cL_cursor 27 = .ok (.iconst 3, 1) := by decide +kernel
theorem dL_cursor_28 : decode cL_cursor 28 = .ok (.ireturn, 1) := by decide +kernel
theorem dL_cursor_29 : decode cL_cursor 29 = .ok (.iconst 0, 1) := by decide +kernel
theorem dL_cursor_30 : decode cL_cursor 30 = .ok (.ireturn, 1) := by decide +kernel
set_option maxRecDepth 20000 in
theorem ggL_step_X6_step : GoodIn wsL_step wsX6_step := goodIn_ca (goodIn_ca (goodIn_r _ [6, 7, 8, 9, 10, 11, 12, 13, 14, 15, 16, 5, 17, 18, 19, 20, 21, 22, 23, 24, 25, 26, 27, 28, 29, 30, 31, 32, 33, 34, 35, 36, 37, 38, 39, 40, 41, 42, 43, 44, 45, 46, 47, 48, 49, 50, 51, 52, 53, 54, 55, 56, 57, 58, 59, 60, 61, 62, 63, 64, 65, 66, 67, 68, 69, 70, 71, 72, 73, 74, 75, 76, 77, 78, 79, 80, 81, 82, 83, 84, 85, 86, 87, 88, 89, 90, 91, 92, 93, 94, 95, 96, 97, 98, 99, 100, 101, 102, 103, 104, 105, 106, 107, 108, 109, 110, 111, 112, 113, 114, 115, 116, 117, 118, 119, 120, 121, 122, 123, 124, 125, 126, 127, 128, 129, 130, 131, 132, 133, 134, 135, 136, 137, 138, 139, 140, 141, 142] rfl (by decide +kernel)) (goodIn_sub (fun _ h => List.mem_cons_of_mem _ (List.mem_append_left _ (List.mem_append_right _ h))) (by decide +kernel))) (goodIn_sub (fun _ h => List.mem_cons_of_mem _ (List.mem_append_right _ h)) (by decide +kernel))
set_option maxRecDepth 20000 in
theorem gL_step_X6_step : GoodIn wsL_step (wsV RL 68 RX6 yX6_step wsX6_step) := goodIn_app (goodIn_of _ (by decide +kernel)) ggL_step_X6_step
theorem dL_step_0 : decode cL_step 0 = .ok (.aload_n 2, 1) := by decide +kernel
theorem dL_step_1 : decode cL_step 1 = .ok (.iconst 0, 1) := by decide +kernel
theorem dL_step_2 : decode cL_step 2 = .ok (.aload_n 0, 1) := by decide +kernel
theorem dL_step_3 : decode cL_step 3 = .ok (.iload_n 1, 1) := by decide +kernel
theorem dL_step_4 : decode cL_step 4 = .ok (.invokevirtual 68, 3) := by decide +kernel
theorem dL_step_7 : decode cL_step 7 = .ok (.i2l, 1) := by decide +kernel
theorem dL_step_8 : decode cL_step 8 = .ok (.lastore, 1) := by decide +kernel
theorem dL_step_9 : decode cL_step 9 = .ok (.goto 9, 3) := by decide +kernel
theorem dL_step_12 : decode cL_step 12 = .ok (.astore_n 3, 1) := by decide +kernel
theorem dL_step_13 : decode cL_step 13 = .ok (.iconst 1, 1) := by decide +kernel
theorem dL_step_14 : decode cL_step 14 = .ok (.ireturn, 1) := by decide +kernel
theorem dL_step_15 : decode cL_step 15 = .ok (.astore_n 3, 1) := by decide +kernel
theorem dL_step_16 : decode cL_step 16 = .ok (.iconst 2, 1) := by decide +kernel
theorem dL_step_17 : decode cL_step 17 = .ok (.ireturn, 1) := by decide +kernel
theorem dL_step_18 : decode cL_step 18 = .ok (.iconst 0, 1) := by decide +kernel
theorem dL_step_19 : decode cL_step 19 = .ok (.ireturn, 1) := by decide +kernel
set_option maxRecDepth 20000 in
theorem ggL_update_X6_update : GoodIn wsL_update wsX6_update := goodIn_ca (goodIn_ca (goodIn_ca (goodIn_r _ [6, 7, 8, 9, 10, 11, 12, 13, 14, 15, 16, 17, 18, 19, 20, 21, 22, 23, 5, 24, 25, 26, 27, 28, 29, 30, 31, 32, 33, 34, 35, 36, 37, 38, 39, 40, 41, 42, 43, 44, 45, 46, 47, 48, 49, 50, 51, 52, 53, 54, 55, 56, 57, 58, 59, 60, 61, 62, 63, 64, 65, 66, 67, 68, 69, 70, 71, 72, 73, 74, 75, 76, 77, 78, 79, 80, 81, 82, 83, 84, 85, 86, 87, 88, 89, 90, 91, 92, 93, 94, 95, 96, 97, 98, 99, 100, 101, 102, 103, 104, 105, 106, 107, 108, 109, 110, 111, 112, 113, 114, 115, 116, 117, 118, 119, 120, 121, 122, 123, 124, 125, 126, 127, 128, 129, 130, 131, 132, 133, 134, 135, 136, 137, 138, 139, 140, 141, 142, 143, 144, 145, 146, 147, 148, 149, 150, 151, 152, 153, 154, 155, 156, 157, 158, 159, 160, 161, 162, 163, 164, 165, 166, 167, 168, 169, 170, 171] rfl (by decide +kernel)) (goodIn_sub (fun _ h => List.mem_cons_of_mem _ (List.mem_append_left _ (List.mem_append_left _ (List.mem_append_right _ h)))) (by decide +kernel))) (goodIn_sub (fun _ h => List.mem_cons_of_mem _ (List.mem_append_left _ (List.mem_append_right _ h))) (by decide +kernel))) (goodIn_sub (fun _ h => List.mem_cons_of_mem _ (List.mem_append_right _ h)) (by decide +kernel))
set_option maxRecDepth 20000 in
theorem gL_update_X6_update : GoodIn wsL_update (wsV RL 71 RX6 yX6_update wsX6_update) := goodIn_app (goodIn_of _ (by decide +kernel)) ggL_update_X6_update
theorem dL_update_0 : decode cL_update 0 = .ok (.aload_n 3, 1) := by decide +kernel
theorem dL_update_1 : decode cL_update 1 = .ok (.iconst 0, 1) := by decide +kernel
theorem dL_update_2 : decode cL_update 2 = .ok (.aload_n 0, 1) := by decide +kernel
theorem dL_update_3 : decode cL_update 3 = .ok (.iload_n 1, 1) := by decide +kernel
theorem dL_update_4 : decode cL_update 4 = .ok (.iload_n 2, 1) := by decide +kernel
theorem dL_update_5 : decode cL_update 5 = .ok (.invokevirtual 71, 3) := by decide +kernel
theorem dL_update_8 : decode cL_update 8 = .ok (.i2l, 1) := by decide +kernel
theorem dL_update_9 : decode cL_update 9 = .ok (.lastore, 1) := by decide +kernel
theorem dL_update_10 : decode cL_update 10 = .ok (.goto 15, 3) := by decide +kernel
theorem dL_update_13 : decode cL_update 13 = .ok (.astore 4, 2) := by decide +kernel
theorem dL_update_15 : decode cL_update 15 = .ok (.iconst 1, 1) := by decide +kernel
theorem dL_update_16 : decode cL_update 16 = .ok (.ireturn, 1) := by decide +kernel
theorem dL_update_17 : decode cL_update 17 = .ok (.astore 4, 2) := by decide +kernel
theorem dL_update_19 : decode cL_update 19 = .ok (.iconst 2, 1) := by decide +kernel
theorem dL_update_20 : decode cL_update 20 = .ok (.ireturn, 1) := by decide +kernel
theorem dL_update_21 : decode cL_update 21 = .ok (.astore 4, 2) := by decide +kernel
theorem dL_update_23 : decode cL_update 23 = .ok (.iconst 3, 1) := by decide +kernel
theorem dL_update_24 : decode cL_update 24 = .ok (.ireturn, 1) := by decide +kernel
theorem dL_update_25 : decode cL_update 25 = .ok (.iconst 0, 1) := by decide +kernel
theorem dL_update_26 : decode cL_update 26 = .ok (.ireturn, 1) := by decide +kernel
set_option maxRecDepth 20000 in
theorem ggL_law_X6_init : GoodIn wsL_law wsX6_init := goodIn_r _ [9, 10, 11, 12, 13, 14, 15, 16, 17, 18, 19, 20, 21, 22, 23, 24, 25, 26, 27, 28, 29, 30, 31, 32, 33, 34, 35, 36, 37, 38, 39, 40, 41, 42, 43, 44, 45, 46, 47, 48, 49, 50, 51, 52, 53, 54, 55, 56, 57, 58, 59, 802, 803, 804, 805, 806, 807, 808, 809, 842, 843, 844, 845, 846, 847, 848, 849, 850] rfl (by decide +kernel)
set_option maxRecDepth 20000 in
theorem gL_law_X6_init : GoodIn wsL_law (wsX6_init) := ggL_law_X6_init
set_option maxRecDepth 20000 in
theorem ggL_law_X7_init : GoodIn wsL_law wsX7_init := goodIn_r _ [62, 63, 11, 12, 55, 64, 65, 66, 67, 68, 69, 70, 71, 72, 73, 74, 75, 76, 77, 78, 79, 80, 81, 82, 83, 84, 85, 86, 87, 88, 89, 90, 91, 810, 811, 812, 813, 814, 815, 816, 817, 818, 819, 820, 821, 822, 823, 824, 825, 826, 827, 828, 829, 830, 831, 832, 833, 834, 835, 836, 837, 838, 839, 840, 841] rfl (by decide +kernel)
set_option maxRecDepth 20000 in
theorem gL_law_X7_init : GoodIn wsL_law (wsX7_init) := ggL_law_X7_init
set_option maxRecDepth 20000 in
theorem ggL_law_L_open : GoodIn wsL_law wsL_open := goodIn_ca (goodIn_ca (goodIn_ca (goodIn_r _ [95, 96, 97, 98, 99, 2, 100, 101, 102, 23, 103, 104, 25, 105, 106, 107, 108, 109, 110, 111, 14, 112, 113, 114, 115, 116, 117, 118, 119, 120, 24, 121, 122, 123, 124, 21, 125, 126, 127, 20, 128, 129, 130, 131, 132, 133, 134, 135, 136, 27, 137, 48, 138, 139, 140, 141, 142, 143, 144, 145, 146, 147, 148, 149, 150, 151, 152, 153, 154, 155, 156, 11, 12, 157, 158, 159, 160, 161, 162, 163, 164, 165, 166, 34, 167, 168, 169, 170, 171, 172, 173, 174, 175, 176, 177, 178, 33, 179, 180, 181, 182, 183, 184, 185, 186, 187, 188, 189, 190, 191, 192, 193, 194, 195, 196, 197, 198, 199, 200, 201, 202, 203, 204, 205, 206, 207, 208, 209, 210, 211, 212, 213, 214, 215, 216, 217, 218, 16, 17, 219, 220, 221, 222, 223, 224, 225, 226, 227, 228, 29, 229, 54, 56, 58, 230, 231, 232, 233, 234, 235, 236, 237, 238, 239, 240, 241, 242, 243, 244, 245, 246, 247, 248, 249, 250, 251, 252, 802, 803, 804, 805, 806, 807, 808, 809, 845, 846, 847, 842, 843, 844, 851, 852, 853, 854, 848, 849, 850] rfl (by decide +kernel)) (goodIn_sub (fun _ h => List.mem_append_left _ (List.mem_append_left _ (List.mem_append_right _ h))) (by decide +kernel))) (goodIn_sub (fun _ h => List.mem_append_left _ (List.mem_append_right _ h)) (by decide +kernel))) (goodIn_sub (fun _ h => List.mem_append_right _ h) (by decide +kernel))
set_option maxRecDepth 20000 in
theorem gL_law_L_open : GoodIn wsL_law (va_wsS RL 78 yL_open wsL_open) := goodIn_app (goodIn_of _ (by decide +kernel)) ggL_law_L_open
set_option maxRecDepth 20000 in
theorem ggL_law_X7_open : GoodIn wsL_law wsX7_open := goodIn_r _ [256, 64, 257, 67, 258, 65, 66, 259, 260, 261, 5, 262, 263, 264, 265, 266, 267, 268, 269, 270, 271, 272, 273, 274, 275, 276, 277, 278, 279, 280, 281, 282, 283, 284, 285, 286, 81, 82, 83, 84, 287, 288, 289, 290, 291, 292, 293, 294, 75, 69, 77, 71, 76, 70, 78, 72, 79, 73, 80, 74, 810, 811, 812, 813, 814, 815, 816, 817, 818, 819, 820, 821, 822, 823, 824, 825, 826, 827, 828, 829, 830, 831, 832, 833, 834, 835, 836, 837, 838, 839, 840, 841] rfl (by decide +kernel)
set_option maxRecDepth 20000 in
theorem gL_law_X7_open : GoodIn wsL_law (wsV RL 83 RX7 yX7_open wsX7_open) := goodIn_app (goodIn_of _ (by decide +kernel)) ggL_law_X7_open
set_option maxRecDepth 20000 in
theorem ggL_law_X7_thrown : GoodIn wsL_law wsX7_thrown := goodIn_r _ [298, 274, 810, 811, 812, 813, 814, 815, 816, 817, 818, 819, 820, 821, 822, 823, 824, 825, 826, 827, 828, 829, 830, 831, 832, 833, 834, 835, 836, 837, 838, 839, 840, 841] rfl (by decide +kernel)
set_option maxRecDepth 20000 in
theorem gL_law_X7_thrown : GoodIn wsL_law (wsV RL 84 RX7 yX7_thrown wsX7_thrown) := goodIn_app (goodIn_of _ (by decide +kernel)) ggL_law_X7_thrown
set_option maxRecDepth 20000 in
theorem ggL_law_L_close : GoodIn wsL_law wsL_close := goodIn_ca (goodIn_ca (goodIn_r _ [301, 96, 302, 303, 304, 2, 305, 101, 102, 103, 21, 306, 307, 106, 107, 108, 109, 110, 111, 14, 308, 309, 310, 311, 121, 122, 123, 124, 125, 126, 127, 20, 128, 129, 312, 313, 314, 315, 104, 23, 134, 135, 136, 27, 137, 48, 316, 237, 238, 239, 240, 241, 242, 243, 244, 245, 246, 247, 248, 249, 250, 251, 34, 317, 318, 319, 152, 320, 157, 321, 322, 323, 324, 217, 218, 17, 16, 219, 220, 221, 222, 223, 224, 225, 159, 226, 227, 228, 29, 229, 54, 56, 58, 230, 231, 232, 233, 234, 165, 166, 235, 236, 252, 162, 163, 164, 167, 168, 169, 170, 171, 172, 173, 174, 175, 176, 177, 178, 33, 179, 180, 181, 182, 183, 184, 185, 186, 187, 188, 189, 190, 191, 192, 193, 194, 195, 196, 197, 198, 199, 200, 201, 202, 203, 204, 205, 206, 207, 208, 209, 210, 211, 212, 325, 326, 327, 328, 329, 330, 331, 332, 333, 334, 335, 336, 160, 213, 214, 215, 216, 337, 338, 339, 340, 24, 138, 139, 140, 141, 130, 131, 132, 133, 142, 143, 144, 145, 105, 146, 147, 148, 149, 150, 151, 153, 154, 155, 156, 11, 12, 158, 161, 845, 846, 847, 802, 803, 804, 805, 806, 807, 808, 809, 851, 852, 853, 854, 842, 843, 844, 848, 849, 850] rfl (by decide +kernel)) (goodIn_sub (fun _ h => List.mem_append_left _ (List.mem_append_left _ (List.mem_append_right _ h))) (by decide +kernel))) (goodIn_sub (fun _ h => List.mem_append_left _ (List.mem_append_right _ h)) (by decide +kernel))
set_option maxRecDepth 20000 in
theorem gL_law_L_close : GoodIn wsL_law (va_wsS RL 88 yL_close wsL_close) := goodIn_app (goodIn_of _ (by decide +kernel)) ggL_law_L_close
set_option maxRecDepth 20000 in
theorem ggL_law_X7_close : GoodIn wsL_law wsX7_close := goodIn_r _ [344, 64, 258, 81, 260, 261, 5, 262, 263, 264, 265, 345, 346, 347, 348, 65, 257, 266, 267, 268, 269, 270, 271, 272, 273, 274, 349, 350, 351, 352, 84, 353, 354, 355, 356, 83, 82, 67, 357, 358, 359, 360, 69, 75, 71, 77, 70, 76, 72, 78, 73, 79, 74, 80, 361, 362, 363, 364, 365, 366, 367, 368, 287, 288, 289, 290, 291, 292, 293, 294, 275, 276, 277, 278, 279, 280, 281, 282, 66, 283, 284, 285, 286, 810, 811, 812, 813, 814, 815, 816, 817, 818, 819, 820, 821, 822, 823, 824, 825, 826, 827, 828, 829, 830, 831, 832, 833, 834, 835, 836, 837, 838, 839, 840, 841] rfl (by decide +kernel)
set_option maxRecDepth 20000 in
theorem gL_law_X7_close : GoodIn wsL_law (wsV RL 91 RX7 yX7_close wsX7_close) := goodIn_app (goodIn_of _ (by decide +kernel)) ggL_law_X7_close
set_option maxRecDepth 20000 in
theorem ggL_law_L_state : GoodIn wsL_law wsL_state := goodIn_ca (goodIn_r _ [371, 96, 372, 373, 374, 2, 375, 103, 106, 107, 108, 109, 110, 111, 14, 845, 846, 847, 802, 803, 804, 805, 806, 807, 808, 809] rfl (by decide +kernel)) (goodIn_sub (fun _ h => List.mem_append_left _ (List.mem_append_right _ h)) (by decide +kernel))
set_option maxRecDepth 20000 in
theorem gL_law_L_state : GoodIn wsL_law (va_wsS RL 92 yL_state wsL_state) := goodIn_app (goodIn_of _ (by decide +kernel)) ggL_law_L_state
set_option maxRecDepth 20000 in
theorem ggL_law_X7_state : GoodIn wsL_law wsX7_state := goodIn_r _ [379, 64, 260, 261, 5, 262, 263, 264, 265, 270, 271, 272, 273, 274, 810, 811, 812, 813, 814, 815, 816, 817, 818, 819, 820, 821, 822, 823, 824, 825, 826, 827, 828, 829, 830, 831, 832, 833, 834, 835, 836, 837, 838, 839, 840, 841] rfl (by decide +kernel)
set_option maxRecDepth 20000 in
theorem gL_law_X7_state : GoodIn wsL_law (wsV RL 94 RX7 yX7_state wsX7_state) := goodIn_app (goodIn_of _ (by decide +kernel)) ggL_law_X7_state
set_option maxRecDepth 20000 in
theorem ggL_law_X6_version : GoodIn wsL_law wsX6_version := goodIn_r _ [383, 23, 802, 803, 804, 805, 806, 807, 808, 809] rfl (by decide +kernel)
set_option maxRecDepth 20000 in
theorem gL_law_X6_version : GoodIn wsL_law (wsV RL 95 RX6 yX6_version wsX6_version) := goodIn_app (goodIn_of _ (by decide +kernel)) ggL_law_X6_version
set_option maxRecDepth 20000 in
theorem ggL_law_X7_version : GoodIn wsL_law wsX7_version := goodIn_r _ [387, 274, 257, 810, 811, 812, 813, 814, 815, 816, 817, 818, 819, 820, 821, 822, 823, 824, 825, 826, 827, 828, 829, 830, 831, 832, 833, 834, 835, 836, 837, 838, 839, 840, 841] rfl (by decide +kernel)
set_option maxRecDepth 20000 in
theorem gL_law_X7_version : GoodIn wsL_law (wsV RL 98 RX7 yX7_version wsX7_version) := goodIn_app (goodIn_of _ (by decide +kernel)) ggL_law_X7_version
set_option maxRecDepth 20000 in
theorem ggL_law_X6_upgrade : GoodIn wsL_law wsX6_upgrade := goodIn_r _ [391, 24, 802, 803, 804, 805, 806, 807, 808, 809] rfl (by decide +kernel)
set_option maxRecDepth 20000 in
theorem gL_law_X6_upgrade : GoodIn wsL_law (wsV RL 99 RX6 yX6_upgrade wsX6_upgrade) := goodIn_app (goodIn_of _ (by decide +kernel)) ggL_law_X6_upgrade
set_option maxRecDepth 20000 in
theorem ggL_law_X7_upgrade : GoodIn wsL_law wsX7_upgrade := goodIn_r _ [395, 274, 67, 810, 811, 812, 813, 814, 815, 816, 817, 818, 819, 820, 821, 822, 823, 824, 825, 826, 827, 828, 829, 830, 831, 832, 833, 834, 835, 836, 837, 838, 839, 840, 841] rfl (by decide +kernel)
set_option maxRecDepth 20000 in
theorem gL_law_X7_upgrade : GoodIn wsL_law (wsV RL 102 RX7 yX7_upgrade wsX7_upgrade) := goodIn_app (goodIn_of _ (by decide +kernel)) ggL_law_X7_upgrade
set_option maxRecDepth 20000 in
theorem ggL_law_L_makeStore : GoodIn wsL_law wsL_makeStore := goodIn_ca (goodIn_ca (goodIn_r _ [398, 96, 399, 400, 401, 2, 402, 110, 111, 101, 102, 16, 403, 404, 405, 406, 407, 21, 306, 125, 126, 127, 20, 128, 129, 316, 237, 238, 239, 240, 241, 242, 243, 244, 245, 246, 247, 248, 249, 250, 251, 34, 408, 409, 410, 411, 24, 802, 803, 804, 805, 806, 807, 808, 809, 848, 849, 850, 842, 843, 844] rfl (by decide +kernel)) (goodIn_sub (fun _ h => List.mem_append_left _ (List.mem_append_right _ h)) (by decide +kernel))) (goodIn_sub (fun _ h => List.mem_append_left _ (List.mem_append_left _ (List.mem_append_right _ h))) (by decide +kernel))
set_option maxRecDepth 20000 in
theorem gL_law_L_makeStore : GoodIn wsL_law (va_wsS RL 103 yL_makeStore wsL_makeStore) := goodIn_app (goodIn_of _ (by decide +kernel)) ggL_law_L_makeStore
set_option maxRecDepth 20000 in
theorem ggL_law_X7_makeStore : GoodIn wsL_law wsX7_makeStore := goodIn_r _ [415, 67, 69, 71, 70, 416, 417, 418, 5, 419, 258, 263, 264, 265, 270, 271, 272, 273, 274, 810, 811, 812, 813, 814, 815, 816, 817, 818, 819, 820, 821, 822, 823, 824, 825, 826, 827, 828, 829, 830, 831, 832, 833, 834, 835, 836, 837, 838, 839, 840, 841] rfl (by decide +kernel)
set_option maxRecDepth 20000 in
theorem gL_law_X7_makeStore : GoodIn wsL_law (wsV RL 106 RX7 yX7_makeStore wsX7_makeStore) := goodIn_app (goodIn_of _ (by decide +kernel)) ggL_law_X7_makeStore
set_option maxRecDepth 20000 in
theorem ggL_law_L_deleteStore : GoodIn wsL_law wsL_deleteStore := goodIn_ca (goodIn_ca (goodIn_r _ [422, 96, 423, 424, 425, 2, 426, 404, 405, 406, 407, 110, 111, 21, 306, 125, 126, 127, 20, 128, 129, 316, 237, 238, 239, 240, 241, 242, 243, 244, 245, 246, 247, 248, 249, 250, 251, 34, 427, 428, 429, 430, 16, 403, 408, 409, 410, 411, 101, 102, 24, 431, 432, 433, 29, 434, 58, 235, 435, 436, 437, 438, 54, 56, 231, 232, 233, 234, 165, 166, 802, 803, 804, 805, 806, 807, 808, 809, 842, 843, 844, 848, 849, 850] rfl (by decide +kernel)) (goodIn_sub (fun _ h => List.mem_append_left _ (List.mem_append_right _ h)) (by decide +kernel))) (goodIn_sub (fun _ h => List.mem_append_left _ (List.mem_append_left _ (List.mem_append_right _ h))) (by decide +kernel))
set_option maxRecDepth 20000 in
theorem gL_law_L_deleteStore : GoodIn wsL_law (va_wsS RL 107 yL_deleteStore wsL_deleteStore) := goodIn_app (goodIn_of _ (by decide +kernel)) ggL_law_L_deleteStore
set_option maxRecDepth 20000 in
theorem ggL_law_X7_deleteStore : GoodIn wsL_law wsX7_deleteStore := goodIn_r _ [442, 67, 71, 69, 416, 417, 418, 5, 419, 258, 263, 264, 265, 443, 444, 445, 446, 270, 271, 272, 273, 274, 810, 811, 812, 813, 814, 815, 816, 817, 818, 819, 820, 821, 822, 823, 824, 825, 826, 827, 828, 829, 830, 831, 832, 833, 834, 835, 836, 837, 838, 839, 840, 841] rfl (by decide +kernel)
set_option maxRecDepth 20000 in
theorem gL_law_X7_deleteStore : GoodIn wsL_law (wsV RL 109 RX7 yX7_deleteStore wsX7_deleteStore) := goodIn_app (goodIn_of _ (by decide +kernel)) ggL_law_X7_deleteStore
set_option maxRecDepth 20000 in
theorem ggL_law_L_makeIndex : GoodIn wsL_law wsL_makeIndex := goodIn_ca (goodIn_ca (goodIn_r _ [449, 96, 450, 451, 452, 2, 453, 110, 111, 101, 102, 404, 405, 406, 407, 21, 306, 125, 126, 127, 20, 128, 129, 316, 237, 238, 239, 240, 241, 242, 243, 244, 245, 246, 247, 248, 249, 250, 251, 34, 427, 428, 429, 430, 16, 403, 408, 409, 410, 411, 24, 454, 455, 456, 29, 457, 56, 458, 459, 460, 461, 58, 230, 235, 236, 462, 463, 464, 465, 466, 467, 468, 469, 470, 471, 472, 473, 474, 475, 476, 477, 802, 803, 804, 805, 806, 807, 808, 809, 842, 843, 844, 848, 849, 850, 855, 856, 857, 858] rfl (by decide +kernel)) (goodIn_sub (fun _ h => List.mem_append_left _ (List.mem_append_right _ h)) (by decide +kernel))) (goodIn_sub (fun _ h => List.mem_append_left _ (List.mem_append_left _ (List.mem_append_right _ h))) (by decide +kernel))
set_option maxRecDepth 20000 in
theorem gL_law_L_makeIndex : GoodIn wsL_law (va_wsS RL 110 yL_makeIndex wsL_makeIndex) := goodIn_app (goodIn_of _ (by decide +kernel)) ggL_law_L_makeIndex
set_option maxRecDepth 20000 in
theorem ggL_law_X7_makeIndex : GoodIn wsL_law wsX7_makeIndex := goodIn_r _ [481, 67, 70, 416, 417, 418, 5, 419, 258, 263, 264, 265, 443, 444, 445, 446, 69, 482, 483, 484, 485, 71, 74, 270, 271, 272, 273, 274, 810, 811, 812, 813, 814, 815, 816, 817, 818, 819, 820, 821, 822, 823, 824, 825, 826, 827, 828, 829, 830, 831, 832, 833, 834, 835, 836, 837, 838, 839, 840, 841] rfl (by decide +kernel)
set_option maxRecDepth 20000 in
theorem gL_law_X7_makeIndex : GoodIn wsL_law (wsV RL 113 RX7 yX7_makeIndex wsX7_makeIndex) := goodIn_app (goodIn_of _ (by decide +kernel)) ggL_law_X7_makeIndex
set_option maxRecDepth 20000 in
theorem ggL_law_L_begin : GoodIn wsL_law wsL_begin := goodIn_ca (goodIn_ca (goodIn_ca (goodIn_r _ [488, 96, 489, 490, 491, 2, 492, 110, 111, 101, 102, 103, 21, 150, 151, 152, 106, 107, 108, 109, 14, 493, 494, 495, 496, 16, 403, 112, 113, 114, 115, 116, 121, 122, 123, 124, 125, 126, 127, 20, 128, 129, 153, 154, 155, 156, 11, 12, 157, 158, 159, 160, 161, 162, 163, 164, 165, 166, 34, 167, 168, 169, 170, 171, 172, 173, 174, 175, 176, 177, 178, 33, 179, 180, 181, 182, 183, 184, 185, 186, 187, 188, 189, 190, 191, 192, 193, 194, 195, 196, 197, 198, 199, 200, 201, 202, 203, 204, 205, 206, 207, 208, 209, 210, 211, 212, 325, 326, 327, 328, 306, 217, 316, 237, 238, 239, 240, 241, 242, 243, 244, 245, 246, 247, 248, 249, 250, 251, 329, 330, 331, 332, 317, 318, 319, 320, 333, 334, 335, 336, 213, 214, 215, 216, 218, 17, 219, 220, 221, 222, 223, 224, 225, 226, 227, 228, 29, 229, 54, 56, 58, 230, 231, 232, 233, 234, 235, 236, 252, 845, 846, 847, 802, 803, 804, 805, 806, 807, 808, 809, 851, 852, 853, 854, 848, 849, 850, 842, 843, 844] rfl (by decide +kernel)) (goodIn_sub (fun _ h => List.mem_append_left _ (List.mem_append_right _ h)) (by decide +kernel))) (goodIn_sub (fun _ h => List.mem_append_left _ (List.mem_append_left _ (List.mem_append_right _ h))) (by decide +kernel))) (goodIn_sub (fun _ h => List.mem_append_right _ h) (by decide +kernel))
set_option maxRecDepth 20000 in
theorem gL_law_L_begin : GoodIn wsL_law (va_wsS RL 114 yL_begin wsL_begin) := goodIn_app (goodIn_of _ (by decide +kernel)) ggL_law_L_begin
set_option maxRecDepth 20000 in
theorem ggL_law_X7_begin : GoodIn wsL_law wsX7_begin := goodIn_r _ [500, 69, 64, 258, 263, 264, 5, 265, 260, 261, 262, 270, 271, 272, 273, 274, 283, 284, 285, 286, 81, 82, 83, 84, 361, 362, 363, 364, 365, 366, 367, 368, 349, 350, 351, 352, 287, 288, 289, 290, 291, 292, 293, 294, 75, 77, 71, 76, 70, 78, 72, 79, 73, 80, 74, 810, 811, 812, 813, 814, 815, 816, 817, 818, 819, 820, 821, 822, 823, 824, 825, 826, 827, 828, 829, 830, 831, 832, 833, 834, 835, 836, 837, 838, 839, 840, 841] rfl (by decide +kernel)
set_option maxRecDepth 20000 in
theorem gL_law_X7_begin : GoodIn wsL_law (wsV RL 117 RX7 yX7_begin wsX7_begin) := goodIn_app (goodIn_of _ (by decide +kernel)) ggL_law_X7_begin
set_option maxRecDepth 20000 in
theorem ggL_law_L_standing : GoodIn wsL_law wsL_standing := goodIn_ca (goodIn_r _ [503, 96, 504, 505, 506, 2, 507, 217, 404, 405, 406, 407, 110, 111, 21, 306, 125, 126, 127, 20, 128, 129, 316, 237, 238, 239, 240, 241, 242, 243, 244, 245, 246, 247, 248, 249, 250, 251, 34, 851, 852, 853, 854, 802, 803, 804, 805, 806, 807, 808, 809, 842, 843, 844] rfl (by decide +kernel)) (goodIn_sub (fun _ h => List.mem_append_left _ (List.mem_append_right _ h)) (by decide +kernel))
set_option maxRecDepth 20000 in
theorem gL_law_L_standing : GoodIn wsL_law (va_wsS RL 118 yL_standing wsL_standing) := goodIn_app (goodIn_of _ (by decide +kernel)) ggL_law_L_standing
set_option maxRecDepth 20000 in
theorem ggL_law_X7_standing : GoodIn wsL_law wsX7_standing := goodIn_r _ [511, 84, 416, 417, 418, 5, 419, 258, 263, 264, 265, 270, 271, 272, 273, 274, 810, 811, 812, 813, 814, 815, 816, 817, 818, 819, 820, 821, 822, 823, 824, 825, 826, 827, 828, 829, 830, 831, 832, 833, 834, 835, 836, 837, 838, 839, 840, 841] rfl (by decide +kernel)
set_option maxRecDepth 20000 in
theorem gL_law_X7_standing : GoodIn wsL_law (wsV RL 120 RX7 yX7_standing wsX7_standing) := goodIn_app (goodIn_of _ (by decide +kernel)) ggL_law_X7_standing
set_option maxRecDepth 20000 in
theorem ggL_law_L_commit : GoodIn wsL_law wsL_commit := goodIn_ca (goodIn_ca (goodIn_r _ [514, 96, 515, 516, 517, 2, 518, 217, 24, 307, 104, 23, 103, 404, 405, 406, 407, 110, 111, 21, 306, 125, 126, 127, 20, 128, 129, 316, 237, 238, 239, 240, 241, 242, 243, 244, 245, 246, 247, 248, 249, 250, 251, 34, 519, 520, 521, 101, 102, 325, 326, 327, 328, 329, 330, 331, 332, 317, 318, 319, 152, 320, 157, 333, 334, 335, 336, 159, 160, 213, 214, 215, 216, 218, 16, 17, 219, 220, 221, 222, 223, 224, 225, 226, 227, 228, 29, 229, 54, 56, 58, 230, 231, 232, 233, 234, 165, 166, 235, 236, 252, 162, 163, 164, 167, 168, 169, 170, 171, 172, 173, 174, 175, 176, 177, 178, 33, 179, 180, 181, 182, 183, 184, 185, 186, 187, 188, 189, 190, 191, 192, 193, 194, 195, 196, 197, 198, 199, 200, 201, 202, 203, 204, 205, 206, 207, 208, 209, 210, 211, 212, 851, 852, 853, 854, 802, 803, 804, 805, 806, 807, 808, 809, 845, 846, 847, 842, 843, 844, 848, 849, 850] rfl (by decide +kernel)) (goodIn_sub (fun _ h => List.mem_append_left _ (List.mem_append_right _ h)) (by decide +kernel))) (goodIn_sub (fun _ h => List.mem_append_left _ (List.mem_append_left _ (List.mem_append_right _ h))) (by decide +kernel))
set_option maxRecDepth 20000 in
theorem gL_law_L_commit : GoodIn wsL_law (va_wsS RL 121 yL_commit wsL_commit) := goodIn_app (goodIn_of _ (by decide +kernel)) ggL_law_L_commit
set_option maxRecDepth 20000 in
theorem ggL_law_X7_commit : GoodIn wsL_law wsX7_commit := goodIn_r _ [525, 84, 67, 65, 81, 257, 64, 416, 417, 418, 5, 419, 258, 263, 264, 265, 270, 271, 272, 273, 274, 361, 362, 363, 364, 365, 366, 367, 368, 82, 83, 349, 350, 351, 352, 287, 288, 289, 290, 291, 292, 293, 294, 75, 69, 77, 71, 76, 70, 78, 72, 79, 73, 80, 74, 810, 811, 812, 813, 814, 815, 816, 817, 818, 819, 820, 821, 822, 823, 824, 825, 826, 827, 828, 829, 830, 831, 832, 833, 834, 835, 836, 837, 838, 839, 840, 841] rfl (by decide +kernel)
set_option maxRecDepth 20000 in
theorem gL_law_X7_commit : GoodIn wsL_law (wsV RL 123 RX7 yX7_commit wsX7_commit) := goodIn_app (goodIn_of _ (by decide +kernel)) ggL_law_X7_commit
set_option maxRecDepth 20000 in
theorem ggL_law_L_abort : GoodIn wsL_law wsL_abort := goodIn_ca (goodIn_ca (goodIn_r _ [528, 96, 529, 530, 531, 2, 532, 101, 102, 24, 307, 404, 405, 406, 407, 110, 111, 21, 306, 125, 126, 127, 20, 128, 129, 316, 237, 238, 239, 240, 241, 242, 243, 244, 245, 246, 247, 248, 249, 250, 251, 34, 317, 318, 319, 152, 320, 157, 308, 309, 310, 311, 121, 122, 123, 124, 312, 313, 314, 315, 14, 103, 104, 23, 134, 135, 136, 27, 137, 48, 321, 322, 323, 324, 217, 218, 17, 16, 219, 220, 221, 222, 223, 224, 225, 159, 226, 227, 228, 29, 229, 54, 56, 58, 230, 231, 232, 233, 234, 165, 166, 235, 236, 252, 162, 163, 164, 167, 168, 169, 170, 171, 172, 173, 174, 175, 176, 177, 178, 33, 179, 180, 181, 182, 183, 184, 185, 186, 187, 188, 189, 190, 191, 192, 193, 194, 195, 196, 197, 198, 199, 200, 201, 202, 203, 204, 205, 206, 207, 208, 209, 210, 211, 212, 325, 326, 327, 328, 329, 330, 331, 332, 333, 334, 335, 336, 160, 213, 214, 215, 216, 337, 338, 339, 340, 138, 139, 140, 141, 130, 131, 132, 133, 142, 143, 144, 145, 105, 146, 147, 148, 149, 150, 151, 153, 154, 155, 156, 11, 12, 158, 161, 802, 803, 804, 805, 806, 807, 808, 809, 851, 852, 853, 854, 842, 843, 844, 845, 846, 847, 848, 849, 850] rfl (by decide +kernel)) (goodIn_sub (fun _ h => List.mem_append_left _ (List.mem_append_left _ (List.mem_append_right _ h))) (by decide +kernel))) (goodIn_sub (fun _ h => List.mem_append_left _ (List.mem_append_right _ h)) (by decide +kernel))
set_option maxRecDepth 20000 in
theorem gL_law_L_abort : GoodIn wsL_law (va_wsS RL 124 yL_abort wsL_abort) := goodIn_app (goodIn_of _ (by decide +kernel)) ggL_law_L_abort
set_option maxRecDepth 20000 in
theorem ggL_law_X7_abort : GoodIn wsL_law wsX7_abort := goodIn_r _ [536, 67, 81, 258, 416, 417, 418, 5, 419, 263, 264, 265, 349, 350, 351, 352, 84, 345, 346, 347, 348, 64, 65, 257, 266, 267, 268, 269, 270, 271, 272, 273, 274, 353, 354, 355, 356, 83, 82, 357, 358, 359, 360, 69, 75, 71, 77, 70, 76, 72, 78, 73, 79, 74, 80, 361, 362, 363, 364, 365, 366, 367, 368, 287, 288, 289, 290, 291, 292, 293, 294, 275, 276, 277, 278, 279, 280, 281, 282, 66, 283, 284, 285, 286, 810, 811, 812, 813, 814, 815, 816, 817, 818, 819, 820, 821, 822, 823, 824, 825, 826, 827, 828, 829, 830, 831, 832, 833, 834, 835, 836, 837, 838, 839, 840, 841] rfl (by decide +kernel)
set_option maxRecDepth 20000 in
theorem gL_law_X7_abort : GoodIn wsL_law (wsV RL 126 RX7 yX7_abort wsX7_abort) := goodIn_app (goodIn_of _ (by decide +kernel)) ggL_law_X7_abort
set_option maxRecDepth 20000 in
theorem ggL_law_L_put : GoodIn wsL_law wsL_put := goodIn_ca (goodIn_ca (goodIn_ca (goodIn_r _ [539, 96, 540, 541, 542, 2, 543, 101, 102, 544, 545, 470, 404, 405, 406, 407, 110, 111, 21, 306, 125, 126, 127, 20, 128, 129, 316, 237, 238, 239, 240, 241, 242, 243, 244, 245, 246, 247, 248, 249, 250, 251, 34, 427, 428, 429, 430, 16, 403, 546, 547, 548, 115, 116, 549, 550, 551, 552, 553, 554, 555, 556, 557, 558, 559, 560, 112, 113, 114, 561, 562, 563, 218, 564, 565, 566, 519, 520, 521, 217, 222, 223, 224, 152, 225, 159, 567, 568, 569, 570, 11, 12, 571, 572, 472, 473, 573, 574, 575, 29, 576, 58, 230, 466, 235, 236, 577, 578, 579, 580, 56, 462, 463, 464, 465, 467, 468, 469, 471, 581, 582, 583, 584, 431, 432, 433, 434, 585, 586, 587, 588, 589, 590, 591, 592, 252, 162, 163, 164, 165, 166, 167, 168, 169, 170, 171, 172, 173, 174, 175, 176, 177, 178, 33, 179, 180, 181, 182, 183, 184, 185, 186, 187, 188, 189, 190, 191, 192, 193, 194, 195, 196, 197, 198, 199, 200, 201, 202, 203, 204, 205, 206, 207, 208, 209, 210, 211, 212, 855, 856, 857, 858, 802, 803, 804, 805, 806, 807, 808, 809, 842, 843, 844, 848, 849, 850, 851, 852, 853, 854] rfl (by decide +kernel)) (goodIn_sub (fun _ h => List.mem_append_left _ (List.mem_append_left _ (List.mem_append_right _ h))) (by decide +kernel))) (goodIn_sub (fun _ h => List.mem_append_left _ (List.mem_append_right _ h)) (by decide +kernel))) (goodIn_sub (fun _ h => List.mem_append_right _ h) (by decide +kernel))
set_option maxRecDepth 20000 in
theorem gL_law_L_put : GoodIn wsL_law (va_wsS RL 127 yL_put wsL_put) := goodIn_app (goodIn_of _ (by decide +kernel)) ggL_law_L_put
set_option maxRecDepth 20000 in
theorem ggL_law_X7_put : GoodIn wsL_law wsX7_put := goodIn_r _ [596, 71, 72, 73, 74, 416, 417, 418, 5, 419, 258, 263, 264, 265, 443, 444, 445, 446, 69, 597, 598, 599, 600, 601, 602, 603, 604, 605, 606, 607, 608, 609, 610, 84, 82, 83, 611, 612, 613, 614, 70, 270, 271, 272, 273, 274, 810, 811, 812, 813, 814, 815, 816, 817, 818, 819, 820, 821, 822, 823, 824, 825, 826, 827, 828, 829, 830, 831, 832, 833, 834, 835, 836, 837, 838, 839, 840, 841] rfl (by decide +kernel)
set_option maxRecDepth 20000 in
theorem gL_law_X7_put : GoodIn wsL_law (wsV RL 130 RX7 yX7_put wsX7_put) := goodIn_app (goodIn_of _ (by decide +kernel)) ggL_law_X7_put
set_option maxRecDepth 20000 in
theorem ggL_law_L_remove : GoodIn wsL_law wsL_remove := goodIn_ca (goodIn_ca (goodIn_ca (goodIn_r _ [617, 96, 618, 619, 620, 2, 621, 404, 405, 406, 407, 110, 111, 21, 306, 125, 126, 127, 20, 128, 129, 316, 237, 238, 239, 240, 241, 242, 243, 244, 245, 246, 247, 248, 249, 250, 251, 34, 427, 428, 429, 430, 16, 403, 546, 547, 548, 115, 116, 549, 550, 551, 552, 553, 554, 555, 556, 557, 558, 559, 560, 561, 562, 563, 101, 102, 218, 564, 565, 566, 519, 520, 521, 217, 222, 223, 224, 152, 225, 159, 622, 623, 624, 29, 625, 58, 230, 235, 236, 626, 627, 628, 470, 629, 571, 630, 631, 632, 633, 634, 635, 636, 637, 638, 639, 640, 641, 165, 166, 642, 210, 211, 212, 802, 803, 804, 805, 806, 807, 808, 809, 842, 843, 844, 848, 849, 850, 851, 852, 853, 854, 855, 856, 857, 858] rfl (by decide +kernel)) (goodIn_sub (fun _ h => List.mem_append_left _ (List.mem_append_right _ h)) (by decide +kernel))) (goodIn_sub (fun _ h => List.mem_append_right _ h) (by decide +kernel))) (goodIn_sub (fun _ h => List.mem_append_left _ (List.mem_append_left _ (List.mem_append_right _ h))) (by decide +kernel))
set_option maxRecDepth 20000 in
theorem gL_law_L_remove : GoodIn wsL_law (va_wsS RL 131 yL_remove wsL_remove) := goodIn_app (goodIn_of _ (by decide +kernel)) ggL_law_L_remove
set_option maxRecDepth 20000 in
theorem ggL_law_X7_remove : GoodIn wsL_law wsX7_remove := goodIn_r _ [646, 71, 72, 73, 74, 647, 648, 649, 5, 650, 416, 417, 418, 419, 258, 263, 264, 265, 443, 444, 445, 446, 69, 597, 598, 599, 600, 601, 602, 607, 608, 609, 610, 84, 82, 83, 270, 271, 272, 273, 274, 651, 652, 653, 654, 655, 656, 810, 811, 812, 813, 814, 815, 816, 817, 818, 819, 820, 821, 822, 823, 824, 825, 826, 827, 828, 829, 830, 831, 832, 833, 834, 835, 836, 837, 838, 839, 840, 841] rfl (by decide +kernel)
set_option maxRecDepth 20000 in
theorem gL_law_X7_remove : GoodIn wsL_law (wsV RL 134 RX7 yX7_remove wsX7_remove) := goodIn_app (goodIn_of _ (by decide +kernel)) ggL_law_X7_remove
set_option maxRecDepth 20000 in
theorem ggL_law_L_get : GoodIn wsL_law wsL_get := goodIn_ca (goodIn_ca (goodIn_ca (goodIn_r _ [659, 96, 660, 661, 662, 2, 663, 664, 404, 405, 406, 407, 110, 111, 21, 306, 125, 126, 127, 20, 128, 129, 316, 237, 238, 239, 240, 241, 242, 243, 244, 245, 246, 247, 248, 249, 250, 251, 34, 427, 428, 429, 430, 16, 403, 546, 547, 548, 115, 116, 549, 550, 551, 552, 553, 554, 555, 556, 557, 558, 559, 560, 564, 565, 566, 101, 102, 519, 520, 521, 217, 222, 223, 224, 152, 225, 159, 573, 574, 575, 29, 576, 58, 230, 466, 235, 236, 855, 856, 857, 858, 802, 803, 804, 805, 806, 807, 808, 809, 842, 843, 844, 848, 849, 850, 851, 852, 853, 854] rfl (by decide +kernel)) (goodIn_sub (fun _ h => List.mem_append_left _ (List.mem_append_right _ h)) (by decide +kernel))) (goodIn_sub (fun _ h => List.mem_append_right _ h) (by decide +kernel))) (goodIn_sub (fun _ h => List.mem_append_left _ (List.mem_append_left _ (List.mem_append_right _ h))) (by decide +kernel))
set_option maxRecDepth 20000 in
theorem gL_law_L_get : GoodIn wsL_law (va_wsS RL 135 yL_get wsL_get) := goodIn_app (goodIn_of _ (by decide +kernel)) ggL_law_L_get
set_option maxRecDepth 20000 in
theorem ggL_law_X7_get : GoodIn wsL_law wsX7_get := goodIn_r _ [668, 73, 647, 648, 649, 5, 650, 416, 417, 418, 419, 258, 263, 264, 265, 443, 444, 445, 446, 69, 597, 598, 599, 600, 601, 602, 607, 608, 609, 610, 84, 82, 83, 270, 271, 272, 273, 274, 603, 604, 605, 606, 71, 72, 810, 811, 812, 813, 814, 815, 816, 817, 818, 819, 820, 821, 822, 823, 824, 825, 826, 827, 828, 829, 830, 831, 832, 833, 834, 835, 836, 837, 838, 839, 840, 841] rfl (by decide +kernel)
set_option maxRecDepth 20000 in
theorem gL_law_X7_get : GoodIn wsL_law (wsV RL 138 RX7 yX7_get wsX7_get) := goodIn_app (goodIn_of _ (by decide +kernel)) ggL_law_X7_get
set_option maxRecDepth 20000 in
theorem ggL_law_L_count : GoodIn wsL_law wsL_count := goodIn_ca (goodIn_ca (goodIn_ca (goodIn_r _ [671, 96, 672, 673, 674, 2, 675, 404, 405, 406, 407, 110, 111, 21, 306, 125, 126, 127, 20, 128, 129, 316, 237, 238, 239, 240, 241, 242, 243, 244, 245, 246, 247, 248, 249, 250, 251, 34, 427, 428, 429, 430, 16, 403, 546, 547, 548, 115, 116, 549, 550, 551, 552, 553, 554, 555, 556, 557, 558, 559, 560, 564, 565, 566, 101, 102, 519, 520, 521, 217, 222, 223, 224, 152, 225, 159, 676, 677, 678, 29, 679, 58, 230, 235, 236, 626, 627, 628, 470, 629, 571, 630, 631, 632, 633, 802, 803, 804, 805, 806, 807, 808, 809, 842, 843, 844, 848, 849, 850, 851, 852, 853, 854, 855, 856, 857, 858] rfl (by decide +kernel)) (goodIn_sub (fun _ h => List.mem_append_left _ (List.mem_append_right _ h)) (by decide +kernel))) (goodIn_sub (fun _ h => List.mem_append_right _ h) (by decide +kernel))) (goodIn_sub (fun _ h => List.mem_append_left _ (List.mem_append_left _ (List.mem_append_right _ h))) (by decide +kernel))
set_option maxRecDepth 20000 in
theorem gL_law_L_count : GoodIn wsL_law (va_wsS RL 139 yL_count wsL_count) := goodIn_app (goodIn_of _ (by decide +kernel)) ggL_law_L_count
set_option maxRecDepth 20000 in
theorem ggL_law_X7_count : GoodIn wsL_law wsX7_count := goodIn_r _ [683, 71, 72, 647, 648, 649, 5, 650, 416, 417, 418, 419, 258, 263, 264, 265, 443, 444, 445, 446, 69, 597, 598, 599, 600, 601, 602, 607, 608, 609, 610, 84, 82, 83, 270, 271, 272, 273, 274, 651, 652, 653, 654, 655, 656, 810, 811, 812, 813, 814, 815, 816, 817, 818, 819, 820, 821, 822, 823, 824, 825, 826, 827, 828, 829, 830, 831, 832, 833, 834, 835, 836, 837, 838, 839, 840, 841] rfl (by decide +kernel)
set_option maxRecDepth 20000 in
theorem gL_law_X7_count : GoodIn wsL_law (wsV RL 141 RX7 yX7_count wsX7_count) := goodIn_app (goodIn_of _ (by decide +kernel)) ggL_law_X7_count
set_option maxRecDepth 20000 in
theorem ggL_law_L_cursor : GoodIn wsL_law wsL_cursor := goodIn_ca (goodIn_ca (goodIn_ca (goodIn_r _ [686, 96, 687, 688, 689, 2, 690, 110, 111, 101, 102, 22, 691, 692, 693, 404, 405, 406, 407, 21, 306, 125, 126, 127, 20, 128, 129, 316, 237, 238, 239, 240, 241, 242, 243, 244, 245, 246, 247, 248, 249, 250, 251, 34, 427, 428, 429, 430, 16, 403, 112, 113, 114, 115, 116, 564, 565, 566, 519, 520, 521, 217, 222, 223, 224, 152, 225, 159, 454, 455, 456, 29, 457, 56, 694, 695, 696, 697, 11, 12, 698, 699, 700, 701, 702, 703, 704, 705, 161, 162, 163, 164, 165, 166, 167, 168, 169, 170, 171, 172, 173, 174, 175, 176, 177, 178, 33, 179, 180, 181, 182, 183, 184, 185, 186, 187, 188, 189, 190, 191, 192, 193, 194, 195, 196, 197, 198, 199, 200, 201, 202, 203, 204, 205, 206, 207, 208, 209, 210, 211, 212, 802, 803, 804, 805, 806, 807, 808, 809, 859, 860, 861, 862, 863, 864, 865, 866, 842, 843, 844, 848, 849, 850, 851, 852, 853, 854] rfl (by decide +kernel)) (goodIn_sub (fun _ h => List.mem_append_left _ (List.mem_append_right _ h)) (by decide +kernel))) (goodIn_sub (fun _ h => List.mem_append_left _ (List.mem_append_left _ (List.mem_append_right _ h))) (by decide +kernel))) (goodIn_sub (fun _ h => List.mem_append_right _ h) (by decide +kernel))
set_option maxRecDepth 20000 in
theorem gL_law_L_cursor : GoodIn wsL_law (va_wsS RL 142 yL_cursor wsL_cursor) := goodIn_app (goodIn_of _ (by decide +kernel)) ggL_law_L_cursor
set_option maxRecDepth 20000 in
theorem ggL_law_X7_cursor : GoodIn wsL_law wsX7_cursor := goodIn_r _ [709, 70, 710, 85, 86, 87, 88, 89, 416, 417, 418, 5, 419, 258, 263, 264, 265, 443, 444, 445, 446, 69, 607, 608, 609, 610, 84, 82, 83, 270, 271, 272, 273, 274, 810, 811, 812, 813, 814, 815, 816, 817, 818, 819, 820, 821, 822, 823, 824, 825, 826, 827, 828, 829, 830, 831, 832, 833, 834, 835, 836, 837, 838, 839, 840, 841] rfl (by decide +kernel)
set_option maxRecDepth 20000 in
theorem gL_law_X7_cursor : GoodIn wsL_law (wsV RL 144 RX7 yX7_cursor wsX7_cursor) := goodIn_app (goodIn_of _ (by decide +kernel)) ggL_law_X7_cursor
set_option maxRecDepth 20000 in
theorem ggL_law_L_step : GoodIn wsL_law wsL_step := goodIn_ca (goodIn_ca (goodIn_r _ [713, 96, 714, 715, 716, 2, 717, 101, 102, 718, 719, 403, 720, 721, 722, 723, 724, 725, 110, 111, 22, 726, 125, 126, 127, 20, 128, 129, 316, 237, 238, 239, 240, 241, 242, 243, 244, 245, 246, 247, 248, 249, 250, 251, 34, 519, 520, 521, 217, 727, 728, 729, 693, 730, 704, 731, 732, 733, 734, 735, 698, 705, 700, 702, 703, 736, 737, 470, 738, 739, 740, 741, 742, 29, 743, 58, 230, 235, 236, 744, 745, 746, 747, 571, 748, 630, 631, 551, 632, 554, 633, 749, 468, 469, 471, 472, 473, 750, 751, 752, 753, 754, 755, 756, 757, 758, 759, 760, 761, 762, 763, 764, 699, 859, 860, 861, 862, 863, 864, 865, 866, 848, 849, 850, 855, 856, 857, 858, 802, 803, 804, 805, 806, 807, 808, 809, 842, 843, 844, 851, 852, 853, 854] rfl (by decide +kernel)) (goodIn_sub (fun _ h => List.mem_append_left _ (List.mem_append_left _ (List.mem_append_right _ h))) (by decide +kernel))) (goodIn_sub (fun _ h => List.mem_append_left _ (List.mem_append_right _ h)) (by decide +kernel))
set_option maxRecDepth 20000 in
theorem gL_law_L_step : GoodIn wsL_law (va_wsS RL 145 yL_step wsL_step) := goodIn_app (goodIn_of _ (by decide +kernel)) ggL_law_L_step
set_option maxRecDepth 20000 in
theorem ggL_law_X7_step : GoodIn wsL_law wsX7_step := goodIn_r _ [768, 84, 85, 69, 86, 89, 71, 90, 91, 72, 769, 770, 771, 5, 772, 710, 263, 264, 265, 270, 271, 272, 273, 274, 773, 774, 775, 776, 88, 87, 777, 778, 779, 780, 74, 781, 782, 783, 654, 655, 656, 600, 784, 785, 786, 787, 810, 811, 812, 813, 814, 815, 816, 817, 818, 819, 820, 821, 822, 823, 824, 825, 826, 827, 828, 829, 830, 831, 832, 833, 834, 835, 836, 837, 838, 839, 840, 841] rfl (by decide +kernel)
set_option maxRecDepth 20000 in
theorem gL_law_X7_step : GoodIn wsL_law (wsV RL 147 RX7 yX7_step wsX7_step) := goodIn_app (goodIn_of _ (by decide +kernel)) ggL_law_X7_step
set_option maxRecDepth 20000 in
theorem ggL_law_L_update : GoodIn wsL_law wsL_update := goodIn_ca (goodIn_ca (goodIn_ca (goodIn_r _ [790, 96, 791, 792, 793, 2, 794, 101, 102, 718, 218, 720, 719, 795, 544, 545, 470, 721, 796, 797, 664, 722, 723, 724, 725, 110, 111, 22, 726, 125, 126, 127, 20, 128, 129, 316, 237, 238, 239, 240, 241, 242, 243, 244, 245, 246, 247, 248, 249, 250, 251, 34, 112, 113, 114, 115, 116, 519, 520, 521, 217, 573, 574, 575, 29, 576, 58, 230, 466, 235, 236, 567, 568, 569, 570, 11, 12, 571, 572, 472, 473, 585, 586, 587, 588, 589, 590, 591, 592, 252, 162, 163, 164, 165, 166, 167, 168, 169, 170, 171, 172, 173, 174, 175, 176, 177, 178, 33, 179, 180, 181, 182, 183, 184, 185, 186, 187, 188, 189, 190, 191, 192, 193, 194, 195, 196, 197, 198, 199, 200, 201, 202, 203, 204, 205, 206, 207, 208, 209, 210, 211, 212, 859, 860, 861, 862, 863, 864, 865, 866, 851, 852, 853, 854, 855, 856, 857, 858, 802, 803, 804, 805, 806, 807, 808, 809, 842, 843, 844, 848, 849, 850] rfl (by decide +kernel)) (goodIn_sub (fun _ h => List.mem_append_left _ (List.mem_append_left _ (List.mem_append_right _ h))) (by decide +kernel))) (goodIn_sub (fun _ h => List.mem_append_left _ (List.mem_append_right _ h)) (by decide +kernel))) (goodIn_sub (fun _ h => List.mem_append_right _ h) (by decide +kernel))
set_option maxRecDepth 20000 in
theorem gL_law_L_update : GoodIn wsL_law (va_wsS RL 148 yL_update wsL_update) := goodIn_app (goodIn_of _ (by decide +kernel)) ggL_law_L_update
set_option maxRecDepth 20000 in
theorem ggL_law_X7_update : GoodIn wsL_law wsX7_update := goodIn_r _ [801, 85, 86, 89, 69, 91, 73, 769, 770, 771, 5, 772, 710, 263, 264, 265, 607, 608, 609, 610, 84, 82, 83, 603, 604, 605, 606, 71, 72, 270, 271, 272, 273, 274, 810, 811, 812, 813, 814, 815, 816, 817, 818, 819, 820, 821, 822, 823, 824, 825, 826, 827, 828, 829, 830, 831, 832, 833, 834, 835, 836, 837, 838, 839, 840, 841] rfl (by decide +kernel)
set_option maxRecDepth 20000 in
theorem gL_law_X7_update : GoodIn wsL_law (wsV RL 150 RX7 yX7_update wsX7_update) := goodIn_app (goodIn_of _ (by decide +kernel)) ggL_law_X7_update
theorem dL_law_0 : decode cL_law 0 = .ok (.new 8, 3) := by decide +kernel
theorem dL_law_3 : decode cL_law 3 = .ok (.dup, 1) := by decide +kernel
theorem dL_law_4 : decode cL_law 4 = .ok (.invokespecial 74, 3) := by decide +kernel
theorem dL_law_7 : decode cL_law 7 = .ok (.astore_n 1, 1) := by decide +kernel
theorem dL_law_8 : decode cL_law 8 = .ok (.new 75, 3) := by decide +kernel
theorem dL_law_11 : decode cL_law 11 = .ok (.dup, 1) := by decide +kernel
theorem dL_law_12 : decode cL_law 12 = .ok (.invokespecial 77, 3) := by decide +kernel
theorem dL_law_15 : decode cL_law 15 = .ok (.astore_n 2, 1) := by decide +kernel
theorem dL_law_16 : decode cL_law 16 = .ok (.iconst 1, 1) := by decide +kernel
theorem dL_law_17 : decode cL_law 17 = .ok (.newarray .long, 2) := by decide +kernel
theorem dL_law_19 : decode cL_law 19 = .ok (.astore_n 3, 1) := by decide +kernel
theorem dL_law_20 : decode cL_law 20 = .ok (.iconst 0, 1) := by decide +kernel
theorem dL_law_21 : decode cL_law 21 = .ok (.istore 4, 2) := by decide +kernel
theorem dL_law_23 : decode cL_law 23 = .ok (.iload 4, 2) := by decide +kernel
theorem dL_law_25 : decode cL_law 25 = .ok (.aload_n 0, 1) := by decide +kernel
theorem dL_law_26 : decode cL_law 26 = .ok (.arraylength, 1) := by decide +kernel
theorem dL_law_27 : decode cL_law 27 = .ok (.bipush 7, 2) := by decide +kernel
theorem dL_law_29 : decode cL_law 29 = .ok (.isub, 1) := by decide +kernel
theorem dL_law_30 : decode cL_law 30 = .ok (.if_icmp .gt 1387, 3) := by decide +kernel
theorem dL_law_33 : decode cL_law 33 = .ok (.aload_n 0, 1) := by decide +kernel
theorem dL_law_34 : decode cL_law 34 = .ok (.iload 4, 2) := by decide +kernel
theorem dL_law_36 : decode cL_law 36 = .ok (.iaload, 1) := by decide +kernel
theorem dL_law_37 : decode cL_law 37 = .ok (.bipush 31, 2) := by decide +kernel
theorem dL_law_39 : decode cL_law 39 = .ok (.iand, 1) := by decide +kernel
theorem dL_law_40 : decode cL_law 40 = .ok (.tableswitch 1371 0 18 #[92, 160, 216, 272, 285, 298, 346, 414, 502, 598, 654, 710, 766, 891, 983, 1063, 1155, 1247, 1303], 92) := by decide +kernel
theorem dL_law_132 : decode cL_law 132 = .ok (.aload_n 1, 1) := by decide +kernel
theorem dL_law_133 : decode cL_law 133 = .ok (.aload_n 0, 1) := by decide +kernel
theorem dL_law_134 : decode cL_law 134 = .ok (.iload 4, 2) := by decide +kernel
theorem dL_law_136 : decode cL_law 136 = .ok (.iconst 1, 1) := by decide +kernel
theorem dL_law_137 : decode cL_law 137 = .ok (.iadd, 1) := by decide +kernel
theorem dL_law_138 : decode cL_law 138 = .ok (.iaload, 1) := by decide +kernel
theorem dL_law_139 : decode cL_law 139 = .ok (.aload_n 0, 1) := by decide +kernel
theorem dL_law_140 : decode cL_law 140 = .ok (.iload 4, 2) := by decide +kernel
theorem dL_law_142 : decode cL_law 142 = .ok (.iconst 2, 1) := by decide +kernel
theorem dL_law_143 : decode cL_law 143 = .ok (.iadd, 1) := by decide +kernel
theorem dL_law_144 : decode cL_law 144 = .ok (.iaload, 1) := by decide +kernel
theorem dL_law_145 : decode cL_law 145 = .ok (.aload_n 3, 1) := by decide +kernel
theorem dL_law_146 : decode cL_law 146 = .ok (.invokestatic 78, 3) := by decide +kernel
theorem dL_law_149 : decode cL_law 149 = .ok (.istore 5, 2) := by decide +kernel
theorem dL_law_151 : decode cL_law 151 = .ok (.aload_n 2, 1) := by decide +kernel
theorem dL_law_152 : decode cL_law 152 = .ok (.aload_n 0, 1) := by decide +kernel
theorem dL_law_153 : decode cL_law 153 = .ok (.iload 4, 2) := by decide +kernel
theorem dL_law_155 : decode cL_law 155 = .ok (.iconst 1, 1) := by decide +kernel
theorem dL_law_156 : decode cL_law 156 = .ok (.iadd, 1) := by decide +kernel
theorem dL_law_157 : decode cL_law 157 = .ok (.iaload, 1) := by decide +kernel
theorem dL_law_158 : decode cL_law 158 = .ok (.aload_n 0, 1) := by decide +kernel
theorem dL_law_159 : decode cL_law 159 = .ok (.iload 4, 2) := by decide +kernel
theorem dL_law_161 : decode cL_law 161 = .ok (.iconst 2, 1) := by decide +kernel
theorem dL_law_162 : decode cL_law 162 = .ok (.iadd, 1) := by decide +kernel
theorem dL_law_163 : decode cL_law 163 = .ok (.iaload, 1) := by decide +kernel
theorem dL_law_164 : decode cL_law 164 = .ok (.invokevirtual 83, 3) := by decide +kernel
theorem dL_law_167 : decode cL_law 167 = .ok (.istore 6, 2) := by decide +kernel
theorem dL_law_169 : decode cL_law 169 = .ok (.aload_n 2, 1) := by decide +kernel
theorem dL_law_170 : decode cL_law 170 = .ok (.invokevirtual 84, 3) := by decide +kernel
theorem dL_law_173 : decode cL_law 173 = .ok (.iload 5, 2) := by decide +kernel
theorem dL_law_175 : decode cL_law 175 = .ok (.if_icmp .eq 5, 3) := by decide +kernel
theorem dL_law_178 : decode cL_law 178 = .ok (.iconst 0, 1) := by decide +kernel
theorem dL_law_179 : decode cL_law 179 = .ok (.ireturn, 1) := by decide +kernel
theorem dL_law_180 : decode cL_law 180 = .ok (.iload 5, 2) := by decide +kernel
theorem dL_law_182 : decode cL_law 182 = .ok (.ifCond .ne 15, 3) := by decide +kernel
theorem dL_law_185 : decode cL_law 185 = .ok (.aload_n 3, 1) := by decide +kernel
theorem dL_law_186 : decode cL_law 186 = .ok (.iconst 0, 1) := by decide +kernel
theorem dL_law_187 : decode cL_law 187 = .ok (.laload, 1) := by decide +kernel
theorem dL_law_188 : decode cL_law 188 = .ok (.iload 6, 2) := by decide +kernel
theorem dL_law_190 : decode cL_law 190 = .ok (.i2l, 1) := by decide +kernel
theorem dL_law_191 : decode cL_law 191 = .ok (.lcmp, 1) := by decide +kernel
theorem dL_law_192 : decode cL_law 192 = .ok (.ifCond .eq 5, 3) := by decide +kernel
theorem dL_law_195 : decode cL_law 195 = .ok (.iconst 0, 1) := by decide +kernel
theorem dL_law_196 : decode cL_law 196 = .ok (.ireturn, 1) := by decide +kernel
theorem dL_law_197 : decode cL_law 197 = .ok (.goto 1214, 3) := by decide +kernel
theorem dL_law_200 : decode cL_law 200 = .ok (.aload_n 1, 1) := by decide +kernel
theorem dL_law_201 : decode cL_law 201 = .ok (.aload_n 0, 1) := by decide +kernel
theorem dL_law_202 : decode cL_law 202 = .ok (.iload 4, 2) := by decide +kernel
theorem dL_law_204 : decode cL_law 204 = .ok (.iconst 1, 1) := by decide +kernel
theorem dL_law_205 : decode cL_law 205 = .ok (.iadd, 1) := by decide +kernel
theorem dL_law_206 : decode cL_law 206 = .ok (.iaload, 1) := by decide +kernel
theorem dL_law_207 : decode cL_law 207 = .ok (.aload_n 3, 1) := by decide +kernel
theorem dL_law_208 : decode cL_law 208 = .ok (.invokestatic 88, 3) := by decide +kernel
theorem dL_law_211 : decode cL_law 211 = .ok (.istore 5, 2) := by decide +kernel
theorem dL_law_213 : decode cL_law 213 = .ok (.aload_n 2, 1) := by decide +kernel
theorem dL_law_214 : decode cL_law 214 = .ok (.aload_n 0, 1) := by decide +kernel
theorem dL_law_215 : decode cL_law 215 = .ok (.iload 4, 2) := by decide +kernel
theorem dL_law_217 : decode cL_law 217 = .ok (.iconst 1, 1) := by decide +kernel
theorem dL_law_218 : decode cL_law 218 = .ok (.iadd, 1) := by decide +kernel
theorem dL_law_219 : decode cL_law 219 = .ok (.iaload, 1) := by decide +kernel
theorem dL_law_220 : decode cL_law 220 = .ok (.invokevirtual 91, 3) := by decide +kernel
theorem dL_law_223 : decode cL_law 223 = .ok (.istore 6, 2) := by decide +kernel
theorem dL_law_225 : decode cL_law 225 = .ok (.aload_n 2, 1) := by decide +kernel
theorem dL_law_226 : decode cL_law 226 = .ok (.invokevirtual 84, 3) := by decide +kernel
theorem dL_law_229 : decode cL_law 229 = .ok (.iload 5, 2) := by decide +kernel
theorem dL_law_231 : decode cL_law 231 = .ok (.if_icmp .eq 5, 3) := by decide +kernel
theorem dL_law_234 : decode cL_law 234 = .ok (.iconst 0, 1) := by decide +kernel
theorem dL_law_235 : decode cL_law 235 = .ok (.ireturn, 1) := by decide +kernel
theorem dL_law_236 : decode cL_law 236 = .ok (.iload 5, 2) := by decide +kernel
theorem dL_law_238 : decode cL_law 238 = .ok (.ifCond .ne 15, 3) := by decide +kernel
theorem dL_law_241 : decode cL_law 241 = .ok (.aload_n 3, 1) := by decide +kernel
theorem dL_law_242 : decode cL_law 242 = .ok (.iconst 0, 1) := by decide +kernel
theorem dL_law_243 : decode cL_law 243 = .ok (.laload, 1) := by decide +kernel
theorem dL_law_244 : decode cL_law 244 = .ok (.iload 6, 2) := by decide +kernel
theorem dL_law_246 : decode cL_law 246 = .ok (.i2l, 1) := by decide +kernel
theorem dL_law_247 : decode cL_law 247 = .ok (.lcmp, 1) := by decide +kernel
theorem dL_law_248 : decode cL_law 248 = .ok (.ifCond .eq 5, 3) := by decide +kernel
theorem dL_law_251 : decode cL_law 251 = .ok (.iconst 0, 1) := by decide +kernel
theorem dL_law_252 : decode cL_law 252 = .ok (.ireturn, 1) := by decide +kernel
theorem dL_law_253 : decode cL_law 253 = .ok (.goto 1158, 3) := by decide +kernel
theorem dL_law_256 : decode cL_law 256 = .ok (.aload_n 1, 1) := by decide +kernel
theorem dL_law_257 : decode cL_law 257 = .ok (.aload_n 0, 1) := by decide +kernel
theorem dL_law_258 : decode cL_law 258 = .ok (.iload 4, 2) := by decide +kernel
theorem dL_law_260 : decode cL_law 260 = .ok (.iconst 1, 1) := by decide +kernel
theorem dL_law_261 : decode cL_law 261 = .ok (.iadd, 1) := by decide +kernel
theorem dL_law_262 : decode cL_law 262 = .ok (.iaload, 1) := by decide +kernel
theorem dL_law_263 : decode cL_law 263 = .ok (.aload_n 3, 1) := by decide +kernel
theorem dL_law_264 : decode cL_law 264 = .ok (.invokestatic 92, 3) := by decide +kernel
theorem dL_law_267 : decode cL_law 267 = .ok (.istore 5, 2) := by decide +kernel
theorem dL_law_269 : decode cL_law 269 = .ok (.aload_n 2, 1) := by decide +kernel
theorem dL_law_270 : decode cL_law 270 = .ok (.aload_n 0, 1) := by decide +kernel
theorem dL_law_271 : decode cL_law 271 = .ok (.iload 4, 2) := by decide +kernel
theorem dL_law_273 : decode cL_law 273 = .ok (.iconst 1, 1) := by decide +kernel
theorem dL_law_274 : decode cL_law 274 = .ok (.iadd, 1) := by decide +kernel
theorem dL_law_275 : decode cL_law 275 = .ok (.iaload, 1) := by decide +kernel
theorem dL_law_276 : decode cL_law 276 = .ok (.invokevirtual 94, 3) := by decide +kernel
theorem dL_law_279 : decode cL_law 279 = .ok (.istore 6, 2) := by decide +kernel
theorem dL_law_281 : decode cL_law 281 = .ok (.aload_n 2, 1) := by decide +kernel
theorem dL_law_282 : decode cL_law 282 = .ok (.invokevirtual 84, 3) := by decide +kernel
theorem dL_law_285 : decode cL_law 285 = .ok (.iload 5, 2) := by decide +kernel
theorem dL_law_287 : decode cL_law 287 = .ok (.if_icmp .eq 5, 3) := by decide +kernel
theorem dL_law_290 : decode cL_law 290 = .ok (.iconst 0, 1) := by decide +kernel
theorem dL_law_291 : decode cL_law 291 = .ok (.ireturn, 1) := by decide +kernel
theorem dL_law_292 : decode cL_law 292 = .ok (.iload 5, 2) := by decide +kernel
theorem dL_law_294 : decode cL_law 294 = .ok (.ifCond .ne 15, 3) := by decide +kernel
theorem dL_law_297 : decode cL_law 297 = .ok (.aload_n 3, 1) := by decide +kernel
theorem dL_law_298 : decode cL_law 298 = .ok (.iconst 0, 1) := by decide +kernel
theorem dL_law_299 : decode cL_law 299 = .ok (.laload, 1) := by decide +kernel
theorem dL_law_300 : decode cL_law 300 = .ok (.iload 6, 2) := by decide +kernel
theorem dL_law_302 : decode cL_law 302 = .ok (.i2l, 1) := by decide +kernel
theorem dL_law_303 : decode cL_law 303 = .ok (.lcmp, 1) := by decide +kernel
theorem dL_law_304 : decode cL_law 304 = .ok (.ifCond .eq 5, 3) := by decide +kernel
theorem dL_law_307 : decode cL_law 307 = .ok (.iconst 0, 1) := by decide +kernel
theorem dL_law_308 : decode cL_law 308 = .ok (.ireturn, 1) := by decide +kernel
theorem dL_law_309 : decode cL_law 309 = .ok (.goto 1102, 3) := by decide +kernel
theorem dL_law_312 : decode cL_law 312 = .ok (.aload_n 1, 1) := by decide +kernel
theorem dL_law_313 : decode cL_law 313 = .ok (.invokevirtual 95, 3) := by decide +kernel
theorem dL_law_316 : decode cL_law 316 = .ok (.aload_n 2, 1) := by decide +kernel
theorem dL_law_317 : decode cL_law 317 = .ok (.invokevirtual 98, 3) := by decide +kernel
theorem dL_law_320 : decode cL_law 320 = .ok (.if_icmp .eq 1091, 3) := by decide +kernel
theorem dL_law_323 : decode cL_law 323 = .ok (.iconst 0, 1) := by decide +kernel
theorem dL_law_324 : decode cL_law 324 = .ok (.ireturn, 1) := by decide +kernel
theorem dL_law_325 : decode cL_law 325 = .ok (.aload_n 1, 1) := by decide +kernel
theorem dL_law_326 : decode cL_law 326 = .ok (.invokevirtual 99, 3) := by decide +kernel
theorem dL_law_329 : decode cL_law 329 = .ok (.aload_n 2, 1) := by decide +kernel
theorem dL_law_330 : decode cL_law 330 = .ok (.invokevirtual 102, 3) := by decide +kernel
theorem dL_law_333 : decode cL_law 333 = .ok (.if_icmp .eq 1078, 3) := by decide +kernel
theorem dL_law_336 : decode cL_law 336 = .ok (.iconst 0, 1) := by decide +kernel
theorem dL_law_337 : decode cL_law 337 = .ok (.ireturn, 1) := by decide +kernel
theorem dL_law_338 : decode cL_law 338 = .ok (.aload_n 1, 1) := by decide +kernel
theorem dL_law_339 : decode cL_law 339 = .ok (.aload_n 0, 1) := by decide +kernel
theorem dL_law_340 : decode cL_law 340 = .ok (.iload 4, 2) := by decide +kernel
theorem dL_law_342 : decode cL_law 342 = .ok (.iconst 1, 1) := by decide +kernel
theorem dL_law_343 : decode cL_law 343 = .ok (.iadd, 1) := by decide +kernel
theorem dL_law_344 : decode cL_law 344 = .ok (.iaload, 1) := by decide +kernel
theorem dL_law_345 : decode cL_law 345 = .ok (.aload_n 0, 1) := by decide +kernel
theorem dL_law_346 : decode cL_law 346 = .ok (.iload 4, 2) := by decide +kernel
theorem dL_law_348 : decode cL_law 348 = .ok (.iconst 2, 1) := by decide +kernel
theorem dL_law_349 : decode cL_law 349 = .ok (.iadd, 1) := by decide +kernel
theorem dL_law_350 : decode cL_law 350 = .ok (.iaload, 1) := by decide +kernel
theorem dL_law_351 : decode cL_law 351 = .ok (.invokestatic 103, 3) := by decide +kernel
theorem dL_law_354 : decode cL_law 354 = .ok (.istore 5, 2) := by decide +kernel
theorem dL_law_356 : decode cL_law 356 = .ok (.aload_n 2, 1) := by decide +kernel
theorem dL_law_357 : decode cL_law 357 = .ok (.aload_n 0, 1) := by decide +kernel
theorem dL_law_358 : decode cL_law 358 = .ok (.iload 4, 2) := by decide +kernel
theorem dL_law_360 : decode cL_law 360 = .ok (.iconst 1, 1) := by decide +kernel
theorem dL_law_361 : decode cL_law 361 = .ok (.iadd, 1) := by decide +kernel
theorem dL_law_362 : decode cL_law 362 = .ok (.iaload, 1) := by decide +kernel
theorem dL_law_363 : decode cL_law 363 = .ok (.aload_n 0, 1) := by decide +kernel
theorem dL_law_364 : decode cL_law 364 = .ok (.iload 4, 2) := by decide +kernel
theorem dL_law_366 : decode cL_law 366 = .ok (.iconst 2, 1) := by decide +kernel
theorem dL_law_367 : decode cL_law 367 = .ok (.iadd, 1) := by decide +kernel
theorem dL_law_368 : decode cL_law 368 = .ok (.iaload, 1) := by decide +kernel
theorem dL_law_369 : decode cL_law 369 = .ok (.invokevirtual 106, 3) := by decide +kernel
theorem dL_law_372 : decode cL_law 372 = .ok (.aload_n 2, 1) := by decide +kernel
theorem dL_law_373 : decode cL_law 373 = .ok (.invokevirtual 84, 3) := by decide +kernel
theorem dL_law_376 : decode cL_law 376 = .ok (.iload 5, 2) := by decide +kernel
theorem dL_law_378 : decode cL_law 378 = .ok (.if_icmp .eq 5, 3) := by decide +kernel
theorem dL_law_381 : decode cL_law 381 = .ok (.iconst 0, 1) := by decide +kernel
theorem dL_law_382 : decode cL_law 382 = .ok (.ireturn, 1) := by decide +kernel
theorem dL_law_383 : decode cL_law 383 = .ok (.goto 1028, 3) := by decide +kernel
theorem dL_law_386 : decode cL_law 386 = .ok (.aload_n 1, 1) := by decide +kernel
theorem dL_law_387 : decode cL_law 387 = .ok (.aload_n 0, 1) := by decide +kernel
theorem dL_law_388 : decode cL_law 388 = .ok (.iload 4, 2) := by decide +kernel
theorem dL_law_390 : decode cL_law 390 = .ok (.iconst 1, 1) := by decide +kernel
theorem dL_law_391 : decode cL_law 391 = .ok (.iadd, 1) := by decide +kernel
theorem dL_law_392 : decode cL_law 392 = .ok (.iaload, 1) := by decide +kernel
theorem dL_law_393 : decode cL_law 393 = .ok (.aload_n 0, 1) := by decide +kernel
theorem dL_law_394 : decode cL_law 394 = .ok (.iload 4, 2) := by decide +kernel
theorem dL_law_396 : decode cL_law 396 = .ok (.iconst 2, 1) := by decide +kernel
theorem dL_law_397 : decode cL_law 397 = .ok (.iadd, 1) := by decide +kernel
theorem dL_law_398 : decode cL_law 398 = .ok (.iaload, 1) := by decide +kernel
theorem dL_law_399 : decode cL_law 399 = .ok (.aload_n 3, 1) := by decide +kernel
theorem dL_law_400 : decode cL_law 400 = .ok (.invokestatic 107, 3) := by decide +kernel
theorem dL_law_403 : decode cL_law 403 = .ok (.istore 5, 2) := by decide +kernel
theorem dL_law_405 : decode cL_law 405 = .ok (.aload_n 2, 1) := by decide +kernel
theorem dL_law_406 : decode cL_law 406 = .ok (.aload_n 0, 1) := by decide +kernel
theorem dL_law_407 : decode cL_law 407 = .ok (.iload 4, 2) := by decide +kernel
theorem dL_law_409 : decode cL_law 409 = .ok (.iconst 1, 1) := by decide +kernel
theorem dL_law_410 : decode cL_law 410 = .ok (.iadd, 1) := by decide +kernel
theorem dL_law_411 : decode cL_law 411 = .ok (.iaload, 1) := by decide +kernel
theorem dL_law_412 : decode cL_law 412 = .ok (.aload_n 0, 1) := by decide +kernel
theorem dL_law_413 : decode cL_law 413 = .ok (.iload 4, 2) := by decide +kernel
theorem dL_law_415 : decode cL_law 415 = .ok (.iconst 2, 1) := by decide +kernel
theorem dL_law_416 : decode cL_law 416 = .ok (.iadd, 1) := by decide +kernel
theorem dL_law_417 : decode cL_law 417 = .ok (.iaload, 1) := by decide +kernel
theorem dL_law_418 : decode cL_law 418 = .ok (.invokevirtual 109, 3) := by decide +kernel
theorem dL_law_421 : decode cL_law 421 = .ok (.istore 6, 2) := by decide +kernel
theorem dL_law_423 : decode cL_law 423 = .ok (.aload_n 2, 1) := by decide +kernel
theorem dL_law_424 : decode cL_law 424 = .ok (.invokevirtual 84, 3) := by decide +kernel
theorem dL_law_427 : decode cL_law 427 = .ok (.iload 5, 2) := by decide +kernel
theorem dL_law_429 : decode cL_law 429 = .ok (.if_icmp .eq 5, 3) := by decide +kernel
theorem dL_law_432 : decode cL_law 432 = .ok (.iconst 0, 1) := by decide +kernel
theorem dL_law_433 : decode cL_law 433 = .ok (.ireturn, 1) := by decide +kernel
theorem dL_law_434 : decode cL_law 434 = .ok (.iload 5, 2) := by decide +kernel
theorem dL_law_436 : decode cL_law 436 = .ok (.ifCond .ne 15, 3) := by decide +kernel
theorem dL_law_439 : decode cL_law 439 = .ok (.aload_n 3, 1) := by decide +kernel
theorem dL_law_440 : decode cL_law 440 = .ok (.iconst 0, 1) := by decide +kernel
theorem dL_law_441 : decode cL_law 441 = .ok (.laload, 1) := by decide +kernel
theorem dL_law_442 : decode cL_law 442 = .ok (.iload 6, 2) := by decide +kernel
theorem dL_law_444 : decode cL_law 444 = .ok (.i2l, 1) := by decide +kernel
theorem dL_law_445 : decode cL_law 445 = .ok (.lcmp, 1) := by decide +kernel
theorem dL_law_446 : decode cL_law 446 = .ok (.ifCond .eq 5, 3) := by decide +kernel
theorem dL_law_449 : decode cL_law 449 = .ok (.iconst 0, 1) := by decide +kernel
theorem dL_law_450 : decode cL_law 450 = .ok (.ireturn, 1) := by decide +kernel
theorem dL_law_451 : decode cL_law 451 = .ok (.goto 960, 3) := by decide +kernel
theorem dL_law_454 : decode cL_law 454 = .ok (.aload_n 1, 1) := by decide +kernel
theorem dL_law_455 : decode cL_law 455 = .ok (.aload_n 0, 1) := by decide +kernel
theorem dL_law_456 : decode cL_law 456 = .ok (.iload 4, 2) := by decide +kernel
theorem dL_law_458 : decode cL_law 458 = .ok (.iconst 1, 1) := by decide +kernel
theorem dL_law_459 : decode cL_law 459 = .ok (.iadd, 1) := by decide +kernel
theorem dL_law_460 : decode cL_law 460 = .ok (.iaload, 1) := by decide +kernel
theorem dL_law_461 : decode cL_law 461 = .ok (.aload_n 0, 1) := by decide +kernel
theorem dL_law_462 : decode cL_law 462 = .ok (.iload 4, 2) := by decide +kernel
theorem dL_law_464 : decode cL_law 464 = .ok (.iconst 2, 1) := by decide +kernel
theorem dL_law_465 : decode cL_law 465 = .ok (.iadd, 1) := by decide +kernel
theorem dL_law_466 : decode cL_law 466 = .ok (.iaload, 1) := by decide +kernel
theorem dL_law_467 : decode cL_law 467 = .ok (.aload_n 0, 1) := by decide +kernel
theorem dL_law_468 : decode cL_law 468 = .ok (.iload 4, 2) := by decide +kernel
theorem dL_law_470 : decode cL_law 470 = .ok (.iconst 3, 1) := by decide +kernel
theorem dL_law_471 : decode cL_law 471 = .ok (.iadd, 1) := by decide +kernel
theorem dL_law_472 : decode cL_law 472 = .ok (.iaload, 1) := by decide +kernel
theorem dL_law_473 : decode cL_law 473 = .ok (.aload_n 0, 1) := by decide +kernel
theorem dL_law_474 : decode cL_law 474 = .ok (.iload 4, 2) := by decide +kernel
theorem dL_law_476 : decode cL_law 476 = .ok (.iconst 4, 1) := by decide +kernel
theorem dL_law_477 : decode cL_law 477 = .ok (.iadd, 1) := by decide +kernel
theorem dL_law_478 : decode cL_law 478 = .ok (.iaload, 1) := by decide +kernel
theorem dL_law_479 : decode cL_law 479 = .ok (.ifCond .eq 7, 3) := by decide +kernel
theorem dL_law_482 : decode cL_law 482 = .ok (.iconst 1, 1) := by decide +kernel
theorem dL_law_483 : decode cL_law 483 = .ok (.goto 4, 3) := by decide +kernel
theorem dL_law_486 : decode cL_law 486 = .ok (.iconst 0, 1) := by decide +kernel
theorem dL_law_487 : decode cL_law 487 = .ok (.invokestatic 110, 3) := by decide +kernel
theorem dL_law_490 : decode cL_law 490 = .ok (.istore 5, 2) := by decide +kernel
theorem dL_law_492 : decode cL_law 492 = .ok (.aload_n 2, 1) := by decide +kernel
theorem dL_law_493 : decode cL_law 493 = .ok (.aload_n 0, 1) := by decide +kernel
theorem dL_law_494 : decode cL_law 494 = .ok (.iload 4, 2) := by decide +kernel
theorem dL_law_496 : decode cL_law 496 = .ok (.iconst 1, 1) := by decide +kernel
theorem dL_law_497 : decode cL_law 497 = .ok (.iadd, 1) := by decide +kernel
theorem dL_law_498 : decode cL_law 498 = .ok (.iaload, 1) := by decide +kernel
theorem dL_law_499 : decode cL_law 499 = .ok (.aload_n 0, 1) := by decide +kernel
theorem dL_law_500 : decode cL_law 500 = .ok (.iload 4, 2) := by decide +kernel
theorem dL_law_502 : decode cL_law 502 = .ok (.iconst 2, 1) := by decide +kernel
theorem dL_law_503 : decode cL_law 503 = .ok (.iadd, 1) := by decide +kernel
theorem dL_law_504 : decode cL_law 504 = .ok (.iaload, 1) := by decide +kernel
theorem dL_law_505 : decode cL_law 505 = .ok (.aload_n 0, 1) := by decide +kernel
theorem dL_law_506 : decode cL_law 506 = .ok (.iload 4, 2) := by decide +kernel
theorem dL_law_508 : decode cL_law 508 = .ok (.iconst 3, 1) := by decide +kernel
theorem dL_law_509 : decode cL_law 509 = .ok (.iadd, 1) := by decide +kernel
theorem dL_law_510 : decode cL_law 510 = .ok (.iaload, 1) := by decide +kernel
theorem dL_law_511 : decode cL_law 511 = .ok (.aload_n 0, 1) := by decide +kernel
theorem dL_law_512 : decode cL_law 512 = .ok (.iload 4, 2) := by decide +kernel
theorem dL_law_514 : decode cL_law 514 = .ok (.iconst 4, 1) := by decide +kernel
theorem dL_law_515 : decode cL_law 515 = .ok (.iadd, 1) := by decide +kernel
theorem dL_law_516 : decode cL_law 516 = .ok (.iaload, 1) := by decide +kernel
theorem dL_law_517 : decode cL_law 517 = .ok (.ifCond .eq 7, 3) := by decide +kernel
theorem dL_law_520 : decode cL_law 520 = .ok (.iconst 1, 1) := by decide +kernel
theorem dL_law_521 : decode cL_law 521 = .ok (.goto 4, 3) := by decide +kernel
theorem dL_law_524 : decode cL_law 524 = .ok (.iconst 0, 1) := by decide +kernel
theorem dL_law_525 : decode cL_law 525 = .ok (.invokevirtual 113, 3) := by decide +kernel
theorem dL_law_528 : decode cL_law 528 = .ok (.aload_n 2, 1) := by decide +kernel
theorem dL_law_529 : decode cL_law 529 = .ok (.invokevirtual 84, 3) := by decide +kernel
theorem dL_law_532 : decode cL_law 532 = .ok (.iload 5, 2) := by decide +kernel
theorem dL_law_534 : decode cL_law 534 = .ok (.if_icmp .eq 5, 3) := by decide +kernel
theorem dL_law_537 : decode cL_law 537 = .ok (.iconst 0, 1) := by decide +kernel
theorem dL_law_538 : decode cL_law 538 = .ok (.ireturn, 1) := by decide +kernel
theorem dL_law_539 : decode cL_law 539 = .ok (.goto 872, 3) := by decide +kernel
theorem dL_law_542 : decode cL_law 542 = .ok (.aload_n 1, 1) := by decide +kernel
theorem dL_law_543 : decode cL_law 543 = .ok (.aload_n 0, 1) := by decide +kernel
theorem dL_law_544 : decode cL_law 544 = .ok (.iload 4, 2) := by decide +kernel
theorem dL_law_546 : decode cL_law 546 = .ok (.iconst 1, 1) := by decide +kernel
theorem dL_law_547 : decode cL_law 547 = .ok (.iadd, 1) := by decide +kernel
theorem dL_law_548 : decode cL_law 548 = .ok (.iaload, 1) := by decide +kernel
theorem dL_law_549 : decode cL_law 549 = .ok (.aload_n 0, 1) := by decide +kernel
theorem dL_law_550 : decode cL_law 550 = .ok (.iload 4, 2) := by decide +kernel
theorem dL_law_552 : decode cL_law 552 = .ok (.iconst 2, 1) := by decide +kernel
theorem dL_law_553 : decode cL_law 553 = .ok (.iadd, 1) := by decide +kernel
theorem dL_law_554 : decode cL_law 554 = .ok (.iaload, 1) := by decide +kernel
theorem dL_law_555 : decode cL_law 555 = .ok (.aload_n 0, 1) := by decide +kernel
theorem dL_law_556 : decode cL_law 556 = .ok (.iload 4, 2) := by decide +kernel
theorem dL_law_558 : decode cL_law 558 = .ok (.iconst 3, 1) := by decide +kernel
theorem dL_law_559 : decode cL_law 559 = .ok (.iadd, 1) := by decide +kernel
theorem dL_law_560 : decode cL_law 560 = .ok (.iaload, 1) := by decide +kernel
theorem dL_law_561 : decode cL_law 561 = .ok (.ifCond .eq 7, 3) := by decide +kernel
theorem dL_law_564 : decode cL_law 564 = .ok (.iconst 1, 1) := by decide +kernel
theorem dL_law_565 : decode cL_law 565 = .ok (.goto 4, 3) := by decide +kernel
theorem dL_law_568 : decode cL_law 568 = .ok (.iconst 0, 1) := by decide +kernel
theorem dL_law_569 : decode cL_law 569 = .ok (.aload_n 3, 1) := by decide +kernel
theorem dL_law_570 : decode cL_law 570 = .ok (.invokestatic 114, 3) := by decide +kernel
theorem dL_law_573 : decode cL_law 573 = .ok (.istore 5, 2) := by decide +kernel
theorem dL_law_575 : decode cL_law 575 = .ok (.aload_n 2, 1) := by decide +kernel
theorem dL_law_576 : decode cL_law 576 = .ok (.aload_n 0, 1) := by decide +kernel
theorem dL_law_577 : decode cL_law 577 = .ok (.iload 4, 2) := by decide +kernel
theorem dL_law_579 : decode cL_law 579 = .ok (.iconst 1, 1) := by decide +kernel
theorem dL_law_580 : decode cL_law 580 = .ok (.iadd, 1) := by decide +kernel
theorem dL_law_581 : decode cL_law 581 = .ok (.iaload, 1) := by decide +kernel
theorem dL_law_582 : decode cL_law 582 = .ok (.aload_n 0, 1) := by decide +kernel
theorem dL_law_583 : decode cL_law 583 = .ok (.iload 4, 2) := by decide +kernel
theorem dL_law_585 : decode cL_law 585 = .ok (.iconst 2, 1) := by decide +kernel
theorem dL_law_586 : decode cL_law 586 = .ok (.iadd, 1) := by decide +kernel
theorem dL_law_587 : decode cL_law 587 = .ok (.iaload, 1) := by decide +kernel
theorem dL_law_588 : decode cL_law 588 = .ok (.aload_n 0, 1) := by decide +kernel
theorem dL_law_589 : decode cL_law 589 = .ok (.iload 4, 2) := by decide +kernel
theorem dL_law_591 : decode cL_law 591 = .ok (.iconst 3, 1) := by decide +kernel
theorem dL_law_592 : decode cL_law 592 = .ok (.iadd, 1) := by decide +kernel
theorem dL_law_593 : decode cL_law 593 = .ok (.iaload, 1) := by decide +kernel
theorem dL_law_594 : decode cL_law 594 = .ok (.ifCond .eq 7, 3) := by decide +kernel
theorem dL_law_597 : decode cL_law 597 = .ok (.iconst 1, 1) := by decide +kernel
theorem dL_law_598 : decode cL_law 598 = .ok (.goto 4, 3) := by decide +kernel
theorem dL_law_601 : decode cL_law 601 = .ok (.iconst 0, 1) := by decide +kernel
theorem dL_law_602 : decode cL_law 602 = .ok (.invokevirtual 117, 3) := by decide +kernel
theorem dL_law_605 : decode cL_law 605 = .ok (.istore 6, 2) := by decide +kernel
theorem dL_law_607 : decode cL_law 607 = .ok (.aload_n 2, 1) := by decide +kernel
theorem dL_law_608 : decode cL_law 608 = .ok (.invokevirtual 84, 3) := by decide +kernel
theorem dL_law_611 : decode cL_law 611 = .ok (.iload 5, 2) := by decide +kernel
theorem dL_law_613 : decode cL_law 613 = .ok (.if_icmp .eq 5, 3) := by decide +kernel
theorem dL_law_616 : decode cL_law 616 = .ok (.iconst 0, 1) := by decide +kernel
theorem dL_law_617 : decode cL_law 617 = .ok (.ireturn, 1) := by decide +kernel
theorem dL_law_618 : decode cL_law 618 = .ok (.iload 5, 2) := by decide +kernel
theorem dL_law_620 : decode cL_law 620 = .ok (.ifCond .ne 15, 3) := by decide +kernel
theorem dL_law_623 : decode cL_law 623 = .ok (.aload_n 3, 1) := by decide +kernel
theorem dL_law_624 : decode cL_law 624 = .ok (.iconst 0, 1) := by decide +kernel
theorem dL_law_625 : decode cL_law 625 = .ok (.laload, 1) := by decide +kernel
theorem dL_law_626 : decode cL_law 626 = .ok (.iload 6, 2) := by decide +kernel
theorem dL_law_628 : decode cL_law 628 = .ok (.i2l, 1) := by decide +kernel
theorem dL_law_629 : decode cL_law 629 = .ok (.lcmp, 1) := by decide +kernel
theorem dL_law_630 : decode cL_law 630 = .ok (.ifCond .eq 5, 3) := by decide +kernel
theorem dL_law_633 : decode cL_law 633 = .ok (.iconst 0, 1) := by decide +kernel
theorem dL_law_634 : decode cL_law 634 = .ok (.ireturn, 1) := by decide +kernel
theorem dL_law_635 : decode cL_law 635 = .ok (.goto 776, 3) := by decide +kernel
theorem dL_law_638 : decode cL_law 638 = .ok (.aload_n 1, 1) := by decide +kernel
theorem dL_law_639 : decode cL_law 639 = .ok (.aload_n 0, 1) := by decide +kernel
theorem dL_law_640 : decode cL_law 640 = .ok (.iload 4, 2) := by decide +kernel
theorem dL_law_642 : decode cL_law 642 = .ok (.iconst 1, 1) := by decide +kernel
theorem dL_law_643 : decode cL_law 643 = .ok (.iadd, 1) := by decide +kernel
theorem dL_law_644 : decode cL_law 644 = .ok (.iaload, 1) := by decide +kernel
theorem dL_law_645 : decode cL_law 645 = .ok (.aload_n 3, 1) := by decide +kernel
theorem dL_law_646 : decode cL_law 646 = .ok (.invokestatic 118, 3) := by decide +kernel
theorem dL_law_649 : decode cL_law 649 = .ok (.istore 5, 2) := by decide +kernel
theorem dL_law_651 : decode cL_law 651 = .ok (.aload_n 2, 1) := by decide +kernel
theorem dL_law_652 : decode cL_law 652 = .ok (.aload_n 0, 1) := by decide +kernel
theorem dL_law_653 : decode cL_law 653 = .ok (.iload 4, 2) := by decide +kernel
theorem dL_law_655 : decode cL_law 655 = .ok (.iconst 1, 1) := by decide +kernel
theorem dL_law_656 : decode cL_law 656 = .ok (.iadd, 1) := by decide +kernel
theorem dL_law_657 : decode cL_law 657 = .ok (.iaload, 1) := by decide +kernel
theorem dL_law_658 : decode cL_law 658 = .ok (.invokevirtual 120, 3) := by decide +kernel
theorem dL_law_661 : decode cL_law 661 = .ok (.istore 6, 2) := by decide +kernel
theorem dL_law_663 : decode cL_law 663 = .ok (.aload_n 2, 1) := by decide +kernel
theorem dL_law_664 : decode cL_law 664 = .ok (.invokevirtual 84, 3) := by decide +kernel
theorem dL_law_667 : decode cL_law 667 = .ok (.iload 5, 2) := by decide +kernel
theorem dL_law_669 : decode cL_law 669 = .ok (.if_icmp .eq 5, 3) := by decide +kernel
theorem dL_law_672 : decode cL_law 672 = .ok (.iconst 0, 1) := by decide +kernel
theorem dL_law_673 : decode cL_law 673 = .ok (.ireturn, 1) := by decide +kernel
theorem dL_law_674 : decode cL_law 674 = .ok (.iload 5, 2) := by decide +kernel
theorem dL_law_676 : decode cL_law 676 = .ok (.ifCond .ne 15, 3) := by decide +kernel
theorem dL_law_679 : decode cL_law 679 = .ok (.aload_n 3, 1) := by decide +kernel
theorem dL_law_680 : decode cL_law 680 = .ok (.iconst 0, 1) := by decide +kernel
theorem dL_law_681 : decode cL_law 681 = .ok (.laload, 1) := by decide +kernel
theorem dL_law_682 : decode cL_law 682 = .ok (.iload 6, 2) := by decide +kernel
theorem dL_law_684 : decode cL_law 684 = .ok (.i2l, 1) := by decide +kernel
theorem dL_law_685 : decode cL_law 685 = .ok (.lcmp, 1) := by decide +kernel
theorem dL_law_686 : decode cL_law 686 = .ok (.ifCond .eq 5, 3) := by decide +kernel
theorem dL_law_689 : decode cL_law 689 = .ok (.iconst 0, 1) := by decide +kernel
theorem dL_law_690 : decode cL_law 690 = .ok (.ireturn, 1) := by decide +kernel
theorem dL_law_691 : decode cL_law 691 = .ok (.goto 720, 3) := by decide +kernel
theorem dL_law_694 : decode cL_law 694 = .ok (.aload_n 1, 1) := by decide +kernel
theorem dL_law_695 : decode cL_law 695 = .ok (.aload_n 0, 1) := by decide +kernel
theorem dL_law_696 : decode cL_law 696 = .ok (.iload 4, 2) := by decide +kernel
theorem dL_law_698 : decode cL_law 698 = .ok (.iconst 1, 1) := by decide +kernel
theorem dL_law_699 : decode cL_law 699 = .ok (.iadd, 1) := by decide +kernel
theorem dL_law_700 : decode cL_law 700 = .ok (.iaload, 1) := by decide +kernel
theorem dL_law_701 : decode cL_law 701 = .ok (.aload_n 3, 1) := by decide +kernel
theorem dL_law_702 : decode cL_law 702 = .ok (.invokestatic 121, 3) := by decide +kernel
theorem dL_law_705 : decode cL_law 705 = .ok (.istore 5, 2) := by decide +kernel
theorem dL_law_707 : decode cL_law 707 = .ok (.aload_n 2, 1) := by decide +kernel
theorem dL_law_708 : decode cL_law 708 = .ok (.aload_n 0, 1) := by decide +kernel
theorem dL_law_709 : decode cL_law 709 = .ok (.iload 4, 2) := by decide +kernel
theorem dL_law_711 : decode cL_law 711 = .ok (.iconst 1, 1) := by decide +kernel
theorem dL_law_712 : decode cL_law 712 = .ok (.iadd, 1) := by decide +kernel
theorem dL_law_713 : decode cL_law 713 = .ok (.iaload, 1) := by decide +kernel
theorem dL_law_714 : decode cL_law 714 = .ok (.invokevirtual 123, 3) := by decide +kernel
theorem dL_law_717 : decode cL_law 717 = .ok (.istore 6, 2) := by decide +kernel
theorem dL_law_719 : decode cL_law 719 = .ok (.aload_n 2, 1) := by decide +kernel
theorem dL_law_720 : decode cL_law 720 = .ok (.invokevirtual 84, 3) := by decide +kernel
theorem dL_law_723 : decode cL_law 723 = .ok (.iload 5, 2) := by decide +kernel
theorem dL_law_725 : decode cL_law 725 = .ok (.if_icmp .eq 5, 3) := by decide +kernel
theorem dL_law_728 : decode cL_law 728 = .ok (.iconst 0, 1) := by decide +kernel
theorem dL_law_729 : decode cL_law 729 = .ok (.ireturn, 1) := by decide +kernel
theorem dL_law_730 : decode cL_law 730 = .ok (.iload 5, 2) := by decide +kernel
theorem dL_law_732 : decode cL_law 732 = .ok (.ifCond .ne 15, 3) := by decide +kernel
theorem dL_law_735 : decode cL_law 735 = .ok (.aload_n 3, 1) := by decide +kernel
theorem dL_law_736 : decode cL_law 736 = .ok (.iconst 0, 1) := by decide +kernel
theorem dL_law_737 : decode cL_law 737 = .ok (.laload, 1) := by decide +kernel
theorem dL_law_738 : decode cL_law 738 = .ok (.iload 6, 2) := by decide +kernel
theorem dL_law_740 : decode cL_law 740 = .ok (.i2l, 1) := by decide +kernel
theorem dL_law_741 : decode cL_law 741 = .ok (.lcmp, 1) := by decide +kernel
theorem dL_law_742 : decode cL_law 742 = .ok (.ifCond .eq 5, 3) := by decide +kernel
theorem dL_law_745 : decode cL_law 745 = .ok (.iconst 0, 1) := by decide +kernel
theorem dL_law_746 : decode cL_law 746 = .ok (.ireturn, 1) := by decide +kernel
theorem dL_law_747 : decode cL_law 747 = .ok (.goto 664, 3) := by decide +kernel
theorem dL_law_750 : decode cL_law 750 = .ok (.aload_n 1, 1) := by decide +kernel
theorem dL_law_751 : decode cL_law 751 = .ok (.aload_n 0, 1) := by decide +kernel
theorem dL_law_752 : decode cL_law 752 = .ok (.iload 4, 2) := by decide +kernel
theorem dL_law_754 : decode cL_law 754 = .ok (.iconst 1, 1) := by decide +kernel
theorem dL_law_755 : decode cL_law 755 = .ok (.iadd, 1) := by decide +kernel
theorem dL_law_756 : decode cL_law 756 = .ok (.iaload, 1) := by decide +kernel
theorem dL_law_757 : decode cL_law 757 = .ok (.aload_n 3, 1) := by decide +kernel
theorem dL_law_758 : decode cL_law 758 = .ok (.invokestatic 124, 3) := by decide +kernel
theorem dL_law_761 : decode cL_law 761 = .ok (.istore 5, 2) := by decide +kernel
theorem dL_law_763 : decode cL_law 763 = .ok (.aload_n 2, 1) := by decide +kernel
theorem dL_law_764 : decode cL_law 764 = .ok (.aload_n 0, 1) := by decide +kernel
theorem dL_law_765 : decode cL_law 765 = .ok (.iload 4, 2) := by decide +kernel
theorem dL_law_767 : decode cL_law 767 = .ok (.iconst 1, 1) := by decide +kernel
theorem dL_law_768 : decode cL_law 768 = .ok (.iadd, 1) := by decide +kernel
theorem dL_law_769 : decode cL_law 769 = .ok (.iaload, 1) := by decide +kernel
theorem dL_law_770 : decode cL_law 770 = .ok (.invokevirtual 126, 3) := by decide +kernel
theorem dL_law_773 : decode cL_law 773 = .ok (.istore 6, 2) := by decide +kernel
theorem dL_law_775 : decode cL_law 775 = .ok (.aload_n 2, 1) := by decide +kernel
theorem dL_law_776 : decode cL_law 776 = .ok (.invokevirtual 84, 3) := by decide +kernel
theorem dL_law_779 : decode cL_law 779 = .ok (.iload 5, 2) := by decide +kernel
theorem dL_law_781 : decode cL_law 781 = .ok (.if_icmp .eq 5, 3) := by decide +kernel
theorem dL_law_784 : decode cL_law 784 = .ok (.iconst 0, 1) := by decide +kernel
theorem dL_law_785 : decode cL_law 785 = .ok (.ireturn, 1) := by decide +kernel
theorem dL_law_786 : decode cL_law 786 = .ok (.iload 5, 2) := by decide +kernel
theorem dL_law_788 : decode cL_law 788 = .ok (.ifCond .ne 15, 3) := by decide +kernel
theorem dL_law_791 : decode cL_law 791 = .ok (.aload_n 3, 1) := by decide +kernel
theorem dL_law_792 : decode cL_law 792 = .ok (.iconst 0, 1) := by decide +kernel
theorem dL_law_793 : decode cL_law 793 = .ok (.laload, 1) := by decide +kernel
theorem dL_law_794 : decode cL_law 794 = .ok (.iload 6, 2) := by decide +kernel
theorem dL_law_796 : decode cL_law 796 = .ok (.i2l, 1) := by decide +kernel
theorem dL_law_797 : decode cL_law 797 = .ok (.lcmp, 1) := by decide +kernel
theorem dL_law_798 : decode cL_law 798 = .ok (.ifCond .eq 5, 3) := by decide +kernel
theorem dL_law_801 : decode cL_law 801 = .ok (.iconst 0, 1) := by decide +kernel
theorem dL_law_802 : decode cL_law 802 = .ok (.ireturn, 1) := by decide +kernel
theorem dL_law_803 : decode cL_law 803 = .ok (.goto 608, 3) := by decide +kernel
theorem dL_law_806 : decode cL_law 806 = .ok (.aload_n 1, 1) := by decide +kernel
theorem dL_law_807 : decode cL_law 807 = .ok (.aload_n 0, 1) := by decide +kernel
theorem dL_law_808 : decode cL_law 808 = .ok (.iload 4, 2) := by decide +kernel
theorem dL_law_810 : decode cL_law 810 = .ok (.iconst 1, 1) := by decide +kernel
theorem dL_law_811 : decode cL_law 811 = .ok (.iadd, 1) := by decide +kernel
theorem dL_law_812 : decode cL_law 812 = .ok (.iaload, 1) := by decide +kernel
theorem dL_law_813 : decode cL_law 813 = .ok (.aload_n 0, 1) := by decide +kernel
theorem dL_law_814 : decode cL_law 814 = .ok (.iload 4, 2) := by decide +kernel
theorem dL_law_816 : decode cL_law 816 = .ok (.iconst 2, 1) := by decide +kernel
theorem dL_law_817 : decode cL_law 817 = .ok (.iadd, 1) := by decide +kernel
theorem dL_law_818 : decode cL_law 818 = .ok (.iaload, 1) := by decide +kernel
theorem dL_law_819 : decode cL_law 819 = .ok (.aload_n 0, 1) := by decide +kernel
theorem dL_law_820 : decode cL_law 820 = .ok (.iload 4, 2) := by decide +kernel
theorem dL_law_822 : decode cL_law 822 = .ok (.iconst 3, 1) := by decide +kernel
theorem dL_law_823 : decode cL_law 823 = .ok (.iadd, 1) := by decide +kernel
theorem dL_law_824 : decode cL_law 824 = .ok (.iaload, 1) := by decide +kernel
theorem dL_law_825 : decode cL_law 825 = .ok (.aload_n 0, 1) := by decide +kernel
theorem dL_law_826 : decode cL_law 826 = .ok (.iload 4, 2) := by decide +kernel
theorem dL_law_828 : decode cL_law 828 = .ok (.iconst 4, 1) := by decide +kernel
theorem dL_law_829 : decode cL_law 829 = .ok (.iadd, 1) := by decide +kernel
theorem dL_law_830 : decode cL_law 830 = .ok (.iaload, 1) := by decide +kernel
theorem dL_law_831 : decode cL_law 831 = .ok (.aload_n 0, 1) := by decide +kernel
theorem dL_law_832 : decode cL_law 832 = .ok (.iload 4, 2) := by decide +kernel
theorem dL_law_834 : decode cL_law 834 = .ok (.iconst 5, 1) := by decide +kernel
theorem dL_law_835 : decode cL_law 835 = .ok (.iadd, 1) := by decide +kernel
theorem dL_law_836 : decode cL_law 836 = .ok (.iaload, 1) := by decide +kernel
theorem dL_law_837 : decode cL_law 837 = .ok (.aload_n 0, 1) := by decide +kernel
theorem dL_law_838 : decode cL_law 838 = .ok (.iload 4, 2) := by decide +kernel
theorem dL_law_840 : decode cL_law 840 = .ok (.bipush 6, 2) := by decide +kernel
theorem dL_law_842 : decode cL_law 842 = .ok (.iadd, 1) := by decide +kernel
theorem dL_law_843 : decode cL_law 843 = .ok (.iaload, 1) := by decide +kernel
theorem dL_law_844 : decode cL_law 844 = .ok (.aload_n 3, 1) := by decide +kernel
theorem dL_law_845 : decode cL_law 845 = .ok (.invokestatic 127, 3) := by decide +kernel
theorem dL_law_848 : decode cL_law 848 = .ok (.istore 5, 2) := by decide +kernel
theorem dL_law_850 : decode cL_law 850 = .ok (.aload_n 2, 1) := by decide +kernel
theorem dL_law_851 : decode cL_law 851 = .ok (.aload_n 0, 1) := by decide +kernel
theorem dL_law_852 : decode cL_law 852 = .ok (.iload 4, 2) := by decide +kernel
theorem dL_law_854 : decode cL_law 854 = .ok (.iconst 1, 1) := by decide +kernel
theorem dL_law_855 : decode cL_law 855 = .ok (.iadd, 1) := by decide +kernel
theorem dL_law_856 : decode cL_law 856 = .ok (.iaload, 1) := by decide +kernel
theorem dL_law_857 : decode cL_law 857 = .ok (.aload_n 0, 1) := by decide +kernel
theorem dL_law_858 : decode cL_law 858 = .ok (.iload 4, 2) := by decide +kernel
theorem dL_law_860 : decode cL_law 860 = .ok (.iconst 2, 1) := by decide +kernel
theorem dL_law_861 : decode cL_law 861 = .ok (.iadd, 1) := by decide +kernel
theorem dL_law_862 : decode cL_law 862 = .ok (.iaload, 1) := by decide +kernel
theorem dL_law_863 : decode cL_law 863 = .ok (.aload_n 0, 1) := by decide +kernel
theorem dL_law_864 : decode cL_law 864 = .ok (.iload 4, 2) := by decide +kernel
theorem dL_law_866 : decode cL_law 866 = .ok (.iconst 3, 1) := by decide +kernel
theorem dL_law_867 : decode cL_law 867 = .ok (.iadd, 1) := by decide +kernel
theorem dL_law_868 : decode cL_law 868 = .ok (.iaload, 1) := by decide +kernel
theorem dL_law_869 : decode cL_law 869 = .ok (.aload_n 0, 1) := by decide +kernel
theorem dL_law_870 : decode cL_law 870 = .ok (.iload 4, 2) := by decide +kernel
theorem dL_law_872 : decode cL_law 872 = .ok (.iconst 4, 1) := by decide +kernel
theorem dL_law_873 : decode cL_law 873 = .ok (.iadd, 1) := by decide +kernel
theorem dL_law_874 : decode cL_law 874 = .ok (.iaload, 1) := by decide +kernel
theorem dL_law_875 : decode cL_law 875 = .ok (.aload_n 0, 1) := by decide +kernel
theorem dL_law_876 : decode cL_law 876 = .ok (.iload 4, 2) := by decide +kernel
theorem dL_law_878 : decode cL_law 878 = .ok (.iconst 5, 1) := by decide +kernel
theorem dL_law_879 : decode cL_law 879 = .ok (.iadd, 1) := by decide +kernel
theorem dL_law_880 : decode cL_law 880 = .ok (.iaload, 1) := by decide +kernel
theorem dL_law_881 : decode cL_law 881 = .ok (.aload_n 0, 1) := by decide +kernel
theorem dL_law_882 : decode cL_law 882 = .ok (.iload 4, 2) := by decide +kernel
theorem dL_law_884 : decode cL_law 884 = .ok (.bipush 6, 2) := by decide +kernel
theorem dL_law_886 : decode cL_law 886 = .ok (.iadd, 1) := by decide +kernel
theorem dL_law_887 : decode cL_law 887 = .ok (.iaload, 1) := by decide +kernel
theorem dL_law_888 : decode cL_law 888 = .ok (.invokevirtual 130, 3) := by decide +kernel
theorem dL_law_891 : decode cL_law 891 = .ok (.istore 6, 2) := by decide +kernel
theorem dL_law_893 : decode cL_law 893 = .ok (.aload_n 2, 1) := by decide +kernel
theorem dL_law_894 : decode cL_law 894 = .ok (.invokevirtual 84, 3) := by decide +kernel
theorem dL_law_897 : decode cL_law 897 = .ok (.iload 5, 2) := by decide +kernel
theorem dL_law_899 : decode cL_law 899 = .ok (.if_icmp .eq 5, 3) := by decide +kernel
theorem dL_law_902 : decode cL_law 902 = .ok (.iconst 0, 1) := by decide +kernel
theorem dL_law_903 : decode cL_law 903 = .ok (.ireturn, 1) := by decide +kernel
theorem dL_law_904 : decode cL_law 904 = .ok (.iload 5, 2) := by decide +kernel
theorem dL_law_906 : decode cL_law 906 = .ok (.ifCond .ne 22, 3) := by decide +kernel
theorem dL_law_909 : decode cL_law 909 = .ok (.aload_n 3, 1) := by decide +kernel
theorem dL_law_910 : decode cL_law 910 = .ok (.iconst 0, 1) := by decide +kernel
theorem dL_law_911 : decode cL_law 911 = .ok (.laload, 1) := by decide +kernel
theorem dL_law_912 : decode cL_law 912 = .ok (.iload 6, 2) := by decide +kernel
theorem dL_law_914 : decode cL_law 914 = .ok (.ifCond .eq 7, 3) := by decide +kernel
theorem dL_law_917 : decode cL_law 917 = .ok (.lconst 1, 1) := by decide +kernel
theorem dL_law_918 : decode cL_law 918 = .ok (.goto 4, 3) := by decide +kernel
theorem dL_law_921 : decode cL_law 921 = .ok (.lconst 0, 1) := by decide +kernel
theorem dL_law_922 : decode cL_law 922 = .ok (.lcmp, 1) := by decide +kernel
theorem dL_law_923 : decode cL_law 923 = .ok (.ifCond .eq 5, 3) := by decide +kernel
theorem dL_law_926 : decode cL_law 926 = .ok (.iconst 0, 1) := by decide +kernel
theorem dL_law_927 : decode cL_law 927 = .ok (.ireturn, 1) := by decide +kernel
theorem dL_law_928 : decode cL_law 928 = .ok (.goto 483, 3) := by decide +kernel
theorem dL_law_931 : decode cL_law 931 = .ok (.aload_n 1, 1) := by decide +kernel
theorem dL_law_932 : decode cL_law 932 = .ok (.aload_n 0, 1) := by decide +kernel
theorem dL_law_933 : decode cL_law 933 = .ok (.iload 4, 2) := by decide +kernel
theorem dL_law_935 : decode cL_law 935 = .ok (.iconst 1, 1) := by decide +kernel
theorem dL_law_936 : decode cL_law 936 = .ok (.iadd, 1) := by decide +kernel
theorem dL_law_937 : decode cL_law 937 = .ok (.iaload, 1) := by decide +kernel
theorem dL_law_938 : decode cL_law 938 = .ok (.aload_n 0, 1) := by decide +kernel
theorem dL_law_939 : decode cL_law 939 = .ok (.iload 4, 2) := by decide +kernel
theorem dL_law_941 : decode cL_law 941 = .ok (.iconst 2, 1) := by decide +kernel
theorem dL_law_942 : decode cL_law 942 = .ok (.iadd, 1) := by decide +kernel
theorem dL_law_943 : decode cL_law 943 = .ok (.iaload, 1) := by decide +kernel
theorem dL_law_944 : decode cL_law 944 = .ok (.aload_n 0, 1) := by decide +kernel
theorem dL_law_945 : decode cL_law 945 = .ok (.iload 4, 2) := by decide +kernel
theorem dL_law_947 : decode cL_law 947 = .ok (.iconst 3, 1) := by decide +kernel
theorem dL_law_948 : decode cL_law 948 = .ok (.iadd, 1) := by decide +kernel
theorem dL_law_949 : decode cL_law 949 = .ok (.iaload, 1) := by decide +kernel
theorem dL_law_950 : decode cL_law 950 = .ok (.aload_n 0, 1) := by decide +kernel
theorem dL_law_951 : decode cL_law 951 = .ok (.iload 4, 2) := by decide +kernel
theorem dL_law_953 : decode cL_law 953 = .ok (.iconst 4, 1) := by decide +kernel
theorem dL_law_954 : decode cL_law 954 = .ok (.iadd, 1) := by decide +kernel
theorem dL_law_955 : decode cL_law 955 = .ok (.iaload, 1) := by decide +kernel
theorem dL_law_956 : decode cL_law 956 = .ok (.aload_n 3, 1) := by decide +kernel
theorem dL_law_957 : decode cL_law 957 = .ok (.invokestatic 131, 3) := by decide +kernel
theorem dL_law_960 : decode cL_law 960 = .ok (.istore 5, 2) := by decide +kernel
theorem dL_law_962 : decode cL_law 962 = .ok (.aload_n 2, 1) := by decide +kernel
theorem dL_law_963 : decode cL_law 963 = .ok (.aload_n 0, 1) := by decide +kernel
theorem dL_law_964 : decode cL_law 964 = .ok (.iload 4, 2) := by decide +kernel
theorem dL_law_966 : decode cL_law 966 = .ok (.iconst 1, 1) := by decide +kernel
theorem dL_law_967 : decode cL_law 967 = .ok (.iadd, 1) := by decide +kernel
theorem dL_law_968 : decode cL_law 968 = .ok (.iaload, 1) := by decide +kernel
theorem dL_law_969 : decode cL_law 969 = .ok (.aload_n 0, 1) := by decide +kernel
theorem dL_law_970 : decode cL_law 970 = .ok (.iload 4, 2) := by decide +kernel
theorem dL_law_972 : decode cL_law 972 = .ok (.iconst 2, 1) := by decide +kernel
theorem dL_law_973 : decode cL_law 973 = .ok (.iadd, 1) := by decide +kernel
theorem dL_law_974 : decode cL_law 974 = .ok (.iaload, 1) := by decide +kernel
theorem dL_law_975 : decode cL_law 975 = .ok (.aload_n 0, 1) := by decide +kernel
theorem dL_law_976 : decode cL_law 976 = .ok (.iload 4, 2) := by decide +kernel
theorem dL_law_978 : decode cL_law 978 = .ok (.iconst 3, 1) := by decide +kernel
theorem dL_law_979 : decode cL_law 979 = .ok (.iadd, 1) := by decide +kernel
theorem dL_law_980 : decode cL_law 980 = .ok (.iaload, 1) := by decide +kernel
theorem dL_law_981 : decode cL_law 981 = .ok (.aload_n 0, 1) := by decide +kernel
theorem dL_law_982 : decode cL_law 982 = .ok (.iload 4, 2) := by decide +kernel
theorem dL_law_984 : decode cL_law 984 = .ok (.iconst 4, 1) := by decide +kernel
theorem dL_law_985 : decode cL_law 985 = .ok (.iadd, 1) := by decide +kernel
theorem dL_law_986 : decode cL_law 986 = .ok (.iaload, 1) := by decide +kernel
theorem dL_law_987 : decode cL_law 987 = .ok (.invokevirtual 134, 3) := by decide +kernel
theorem dL_law_990 : decode cL_law 990 = .ok (.istore 6, 2) := by decide +kernel
theorem dL_law_992 : decode cL_law 992 = .ok (.aload_n 2, 1) := by decide +kernel
theorem dL_law_993 : decode cL_law 993 = .ok (.invokevirtual 84, 3) := by decide +kernel
theorem dL_law_996 : decode cL_law 996 = .ok (.iload 5, 2) := by decide +kernel
theorem dL_law_998 : decode cL_law 998 = .ok (.if_icmp .eq 5, 3) := by decide +kernel
theorem dL_law_1001 : decode cL_law 1001 = .ok (.iconst 0, 1) := by decide +kernel
theorem dL_law_1002 : decode cL_law 1002 = .ok (.ireturn, 1) := by decide +kernel
theorem dL_law_1003 : decode cL_law 1003 = .ok (.iload 5, 2) := by decide +kernel
theorem dL_law_1005 : decode cL_law 1005 = .ok (.ifCond .ne 15, 3) := by decide +kernel
theorem dL_law_1008 : decode cL_law 1008 = .ok (.aload_n 3, 1) := by decide +kernel
theorem dL_law_1009 : decode cL_law 1009 = .ok (.iconst 0, 1) := by decide +kernel
theorem dL_law_1010 : decode cL_law 1010 = .ok (.laload, 1) := by decide +kernel
theorem dL_law_1011 : decode cL_law 1011 = .ok (.iload 6, 2) := by decide +kernel
theorem dL_law_1013 : decode cL_law 1013 = .ok (.i2l, 1) := by decide +kernel
theorem dL_law_1014 : decode cL_law 1014 = .ok (.lcmp, 1) := by decide +kernel
theorem dL_law_1015 : decode cL_law 1015 = .ok (.ifCond .eq 5, 3) := by decide +kernel
theorem dL_law_1018 : decode cL_law 1018 = .ok (.iconst 0, 1) := by decide +kernel
theorem dL_law_1019 : decode cL_law 1019 = .ok (.ireturn, 1) := by decide +kernel
theorem dL_law_1020 : decode cL_law 1020 = .ok (.goto 391, 3) := by decide +kernel
theorem dL_law_1023 : decode cL_law 1023 = .ok (.aload_n 1, 1) := by decide +kernel
theorem dL_law_1024 : decode cL_law 1024 = .ok (.aload_n 0, 1) := by decide +kernel
theorem dL_law_1025 : decode cL_law 1025 = .ok (.iload 4, 2) := by decide +kernel
theorem dL_law_1027 : decode cL_law 1027 = .ok (.iconst 1, 1) := by decide +kernel
theorem dL_law_1028 : decode cL_law 1028 = .ok (.iadd, 1) := by decide +kernel
theorem dL_law_1029 : decode cL_law 1029 = .ok (.iaload, 1) := by decide +kernel
theorem dL_law_1030 : decode cL_law 1030 = .ok (.aload_n 0, 1) := by decide +kernel
theorem dL_law_1031 : decode cL_law 1031 = .ok (.iload 4, 2) := by decide +kernel
theorem dL_law_1033 : decode cL_law 1033 = .ok (.iconst 2, 1) := by decide +kernel
theorem dL_law_1034 : decode cL_law 1034 = .ok (.iadd, 1) := by decide +kernel
theorem dL_law_1035 : decode cL_law 1035 = .ok (.iaload, 1) := by decide +kernel
theorem dL_law_1036 : decode cL_law 1036 = .ok (.aload_n 0, 1) := by decide +kernel
theorem dL_law_1037 : decode cL_law 1037 = .ok (.iload 4, 2) := by decide +kernel
theorem dL_law_1039 : decode cL_law 1039 = .ok (.iconst 3, 1) := by decide +kernel
theorem dL_law_1040 : decode cL_law 1040 = .ok (.iadd, 1) := by decide +kernel
theorem dL_law_1041 : decode cL_law 1041 = .ok (.iaload, 1) := by decide +kernel
theorem dL_law_1042 : decode cL_law 1042 = .ok (.aload_n 3, 1) := by decide +kernel
theorem dL_law_1043 : decode cL_law 1043 = .ok (.invokestatic 135, 3) := by decide +kernel
theorem dL_law_1046 : decode cL_law 1046 = .ok (.istore 5, 2) := by decide +kernel
theorem dL_law_1048 : decode cL_law 1048 = .ok (.aload_n 2, 1) := by decide +kernel
theorem dL_law_1049 : decode cL_law 1049 = .ok (.aload_n 0, 1) := by decide +kernel
theorem dL_law_1050 : decode cL_law 1050 = .ok (.iload 4, 2) := by decide +kernel
theorem dL_law_1052 : decode cL_law 1052 = .ok (.iconst 1, 1) := by decide +kernel
theorem dL_law_1053 : decode cL_law 1053 = .ok (.iadd, 1) := by decide +kernel
theorem dL_law_1054 : decode cL_law 1054 = .ok (.iaload, 1) := by decide +kernel
theorem dL_law_1055 : decode cL_law 1055 = .ok (.aload_n 0, 1) := by decide +kernel
theorem dL_law_1056 : decode cL_law 1056 = .ok (.iload 4, 2) := by decide +kernel
theorem dL_law_1058 : decode cL_law 1058 = .ok (.iconst 2, 1) := by decide +kernel
theorem dL_law_1059 : decode cL_law 1059 = .ok (.iadd, 1) := by decide +kernel
theorem dL_law_1060 : decode cL_law 1060 = .ok (.iaload, 1) := by decide +kernel
theorem dL_law_1061 : decode cL_law 1061 = .ok (.aload_n 0, 1) := by decide +kernel
theorem dL_law_1062 : decode cL_law 1062 = .ok (.iload 4, 2) := by decide +kernel
theorem dL_law_1064 : decode cL_law 1064 = .ok (.iconst 3, 1) := by decide +kernel
theorem dL_law_1065 : decode cL_law 1065 = .ok (.iadd, 1) := by decide +kernel
theorem dL_law_1066 : decode cL_law 1066 = .ok (.iaload, 1) := by decide +kernel
theorem dL_law_1067 : decode cL_law 1067 = .ok (.invokevirtual 138, 3) := by decide +kernel
theorem dL_law_1070 : decode cL_law 1070 = .ok (.istore 6, 2) := by decide +kernel
theorem dL_law_1072 : decode cL_law 1072 = .ok (.aload_n 2, 1) := by decide +kernel
theorem dL_law_1073 : decode cL_law 1073 = .ok (.invokevirtual 84, 3) := by decide +kernel
theorem dL_law_1076 : decode cL_law 1076 = .ok (.iload 5, 2) := by decide +kernel
theorem dL_law_1078 : decode cL_law 1078 = .ok (.if_icmp .eq 5, 3) := by decide +kernel
theorem dL_law_1081 : decode cL_law 1081 = .ok (.iconst 0, 1) := by decide +kernel
theorem dL_law_1082 : decode cL_law 1082 = .ok (.ireturn, 1) := by decide +kernel
theorem dL_law_1083 : decode cL_law 1083 = .ok (.iload 5, 2) := by decide +kernel
theorem dL_law_1085 : decode cL_law 1085 = .ok (.ifCond .ne 15, 3) := by decide +kernel
theorem dL_law_1088 : decode cL_law 1088 = .ok (.aload_n 3, 1) := by decide +kernel
theorem dL_law_1089 : decode cL_law 1089 = .ok (.iconst 0, 1) := by decide +kernel
theorem dL_law_1090 : decode cL_law 1090 = .ok (.laload, 1) := by decide +kernel
theorem dL_law_1091 : decode cL_law 1091 = .ok (.iload 6, 2) := by decide +kernel
theorem dL_law_1093 : decode cL_law 1093 = .ok (.i2l, 1) := by decide +kernel
theorem dL_law_1094 : decode cL_law 1094 = .ok (.lcmp, 1) := by decide +kernel
theorem dL_law_1095 : decode cL_law 1095 = .ok (.ifCond .eq 5, 3) := by decide +kernel
theorem dL_law_1098 : decode cL_law 1098 = .ok (.iconst 0, 1) := by decide +kernel
theorem dL_law_1099 : decode cL_law 1099 = .ok (.ireturn, 1) := by decide +kernel
theorem dL_law_1100 : decode cL_law 1100 = .ok (.goto 311, 3) := by decide +kernel
theorem dL_law_1103 : decode cL_law 1103 = .ok (.aload_n 1, 1) := by decide +kernel
theorem dL_law_1104 : decode cL_law 1104 = .ok (.aload_n 0, 1) := by decide +kernel
theorem dL_law_1105 : decode cL_law 1105 = .ok (.iload 4, 2) := by decide +kernel
theorem dL_law_1107 : decode cL_law 1107 = .ok (.iconst 1, 1) := by decide +kernel
theorem dL_law_1108 : decode cL_law 1108 = .ok (.iadd, 1) := by decide +kernel
theorem dL_law_1109 : decode cL_law 1109 = .ok (.iaload, 1) := by decide +kernel
theorem dL_law_1110 : decode cL_law 1110 = .ok (.aload_n 0, 1) := by decide +kernel
theorem dL_law_1111 : decode cL_law 1111 = .ok (.iload 4, 2) := by decide +kernel
theorem dL_law_1113 : decode cL_law 1113 = .ok (.iconst 2, 1) := by decide +kernel
theorem dL_law_1114 : decode cL_law 1114 = .ok (.iadd, 1) := by decide +kernel
theorem dL_law_1115 : decode cL_law 1115 = .ok (.iaload, 1) := by decide +kernel
theorem dL_law_1116 : decode cL_law 1116 = .ok (.aload_n 0, 1) := by decide +kernel
theorem dL_law_1117 : decode cL_law 1117 = .ok (.iload 4, 2) := by decide +kernel
theorem dL_law_1119 : decode cL_law 1119 = .ok (.iconst 3, 1) := by decide +kernel
theorem dL_law_1120 : decode cL_law 1120 = .ok (.iadd, 1) := by decide +kernel
theorem dL_law_1121 : decode cL_law 1121 = .ok (.iaload, 1) := by decide +kernel
theorem dL_law_1122 : decode cL_law 1122 = .ok (.aload_n 0, 1) := by decide +kernel
theorem dL_law_1123 : decode cL_law 1123 = .ok (.iload 4, 2) := by decide +kernel
theorem dL_law_1125 : decode cL_law 1125 = .ok (.iconst 4, 1) := by decide +kernel
theorem dL_law_1126 : decode cL_law 1126 = .ok (.iadd, 1) := by decide +kernel
theorem dL_law_1127 : decode cL_law 1127 = .ok (.iaload, 1) := by decide +kernel
theorem dL_law_1128 : decode cL_law 1128 = .ok (.aload_n 3, 1) := by decide +kernel
theorem dL_law_1129 : decode cL_law 1129 = .ok (.invokestatic 139, 3) := by decide +kernel
theorem dL_law_1132 : decode cL_law 1132 = .ok (.istore 5, 2) := by decide +kernel
theorem dL_law_1134 : decode cL_law 1134 = .ok (.aload_n 2, 1) := by decide +kernel
theorem dL_law_1135 : decode cL_law 1135 = .ok (.aload_n 0, 1) := by decide +kernel
theorem dL_law_1136 : decode cL_law 1136 = .ok (.iload 4, 2) := by decide +kernel
theorem dL_law_1138 : decode cL_law 1138 = .ok (.iconst 1, 1) := by decide +kernel
theorem dL_law_1139 : decode cL_law 1139 = .ok (.iadd, 1) := by decide +kernel
theorem dL_law_1140 : decode cL_law 1140 = .ok (.iaload, 1) := by decide +kernel
theorem dL_law_1141 : decode cL_law 1141 = .ok (.aload_n 0, 1) := by decide +kernel
theorem dL_law_1142 : decode cL_law 1142 = .ok (.iload 4, 2) := by decide +kernel
theorem dL_law_1144 : decode cL_law 1144 = .ok (.iconst 2, 1) := by decide +kernel
theorem dL_law_1145 : decode cL_law 1145 = .ok (.iadd, 1) := by decide +kernel
theorem dL_law_1146 : decode cL_law 1146 = .ok (.iaload, 1) := by decide +kernel
theorem dL_law_1147 : decode cL_law 1147 = .ok (.aload_n 0, 1) := by decide +kernel
theorem dL_law_1148 : decode cL_law 1148 = .ok (.iload 4, 2) := by decide +kernel
theorem dL_law_1150 : decode cL_law 1150 = .ok (.iconst 3, 1) := by decide +kernel
theorem dL_law_1151 : decode cL_law 1151 = .ok (.iadd, 1) := by decide +kernel
theorem dL_law_1152 : decode cL_law 1152 = .ok (.iaload, 1) := by decide +kernel
theorem dL_law_1153 : decode cL_law 1153 = .ok (.aload_n 0, 1) := by decide +kernel
theorem dL_law_1154 : decode cL_law 1154 = .ok (.iload 4, 2) := by decide +kernel
theorem dL_law_1156 : decode cL_law 1156 = .ok (.iconst 4, 1) := by decide +kernel
theorem dL_law_1157 : decode cL_law 1157 = .ok (.iadd, 1) := by decide +kernel
theorem dL_law_1158 : decode cL_law 1158 = .ok (.iaload, 1) := by decide +kernel
theorem dL_law_1159 : decode cL_law 1159 = .ok (.invokevirtual 141, 3) := by decide +kernel
theorem dL_law_1162 : decode cL_law 1162 = .ok (.istore 6, 2) := by decide +kernel
theorem dL_law_1164 : decode cL_law 1164 = .ok (.aload_n 2, 1) := by decide +kernel
theorem dL_law_1165 : decode cL_law 1165 = .ok (.invokevirtual 84, 3) := by decide +kernel
theorem dL_law_1168 : decode cL_law 1168 = .ok (.iload 5, 2) := by decide +kernel
theorem dL_law_1170 : decode cL_law 1170 = .ok (.if_icmp .eq 5, 3) := by decide +kernel
theorem dL_law_1173 : decode cL_law 1173 = .ok (.iconst 0, 1) := by decide +kernel
theorem dL_law_1174 : decode cL_law 1174 = .ok (.ireturn, 1) := by decide +kernel
theorem dL_law_1175 : decode cL_law 1175 = .ok (.iload 5, 2) := by decide +kernel
theorem dL_law_1177 : decode cL_law 1177 = .ok (.ifCond .ne 15, 3) := by decide +kernel
theorem dL_law_1180 : decode cL_law 1180 = .ok (.aload_n 3, 1) := by decide +kernel
theorem dL_law_1181 : decode cL_law 1181 = .ok (.iconst 0, 1) := by decide +kernel
theorem dL_law_1182 : decode cL_law 1182 = .ok (.laload, 1) := by decide +kernel
theorem dL_law_1183 : decode cL_law 1183 = .ok (.iload 6, 2) := by decide +kernel
theorem dL_law_1185 : decode cL_law 1185 = .ok (.i2l, 1) := by decide +kernel
theorem dL_law_1186 : decode cL_law 1186 = .ok (.lcmp, 1) := by decide +kernel
theorem dL_law_1187 : decode cL_law 1187 = .ok (.ifCond .eq 5, 3) := by decide +kernel
theorem dL_law_1190 : decode cL_law 1190 = .ok (.iconst 0, 1) := by decide +kernel
theorem dL_law_1191 : decode cL_law 1191 = .ok (.ireturn, 1) := by decide +kernel
theorem dL_law_1192 : decode cL_law 1192 = .ok (.goto 219, 3) := by decide +kernel
theorem dL_law_1195 : decode cL_law 1195 = .ok (.aload_n 1, 1) := by decide +kernel
theorem dL_law_1196 : decode cL_law 1196 = .ok (.aload_n 0, 1) := by decide +kernel
theorem dL_law_1197 : decode cL_law 1197 = .ok (.iload 4, 2) := by decide +kernel
theorem dL_law_1199 : decode cL_law 1199 = .ok (.iconst 1, 1) := by decide +kernel
theorem dL_law_1200 : decode cL_law 1200 = .ok (.iadd, 1) := by decide +kernel
theorem dL_law_1201 : decode cL_law 1201 = .ok (.iaload, 1) := by decide +kernel
theorem dL_law_1202 : decode cL_law 1202 = .ok (.aload_n 0, 1) := by decide +kernel
theorem dL_law_1203 : decode cL_law 1203 = .ok (.iload 4, 2) := by decide +kernel
theorem dL_law_1205 : decode cL_law 1205 = .ok (.iconst 2, 1) := by decide +kernel
theorem dL_law_1206 : decode cL_law 1206 = .ok (.iadd, 1) := by decide +kernel
theorem dL_law_1207 : decode cL_law 1207 = .ok (.iaload, 1) := by decide +kernel
theorem dL_law_1208 : decode cL_law 1208 = .ok (.aload_n 0, 1) := by decide +kernel
theorem dL_law_1209 : decode cL_law 1209 = .ok (.iload 4, 2) := by decide +kernel
theorem dL_law_1211 : decode cL_law 1211 = .ok (.iconst 3, 1) := by decide +kernel
theorem dL_law_1212 : decode cL_law 1212 = .ok (.iadd, 1) := by decide +kernel
theorem dL_law_1213 : decode cL_law 1213 = .ok (.iaload, 1) := by decide +kernel
theorem dL_law_1214 : decode cL_law 1214 = .ok (.aload_n 0, 1) := by decide +kernel
theorem dL_law_1215 : decode cL_law 1215 = .ok (.iload 4, 2) := by decide +kernel
theorem dL_law_1217 : decode cL_law 1217 = .ok (.iconst 4, 1) := by decide +kernel
theorem dL_law_1218 : decode cL_law 1218 = .ok (.iadd, 1) := by decide +kernel
theorem dL_law_1219 : decode cL_law 1219 = .ok (.iaload, 1) := by decide +kernel
theorem dL_law_1220 : decode cL_law 1220 = .ok (.aload_n 3, 1) := by decide +kernel
theorem dL_law_1221 : decode cL_law 1221 = .ok (.invokestatic 142, 3) := by decide +kernel
theorem dL_law_1224 : decode cL_law 1224 = .ok (.istore 5, 2) := by decide +kernel
theorem dL_law_1226 : decode cL_law 1226 = .ok (.aload_n 2, 1) := by decide +kernel
theorem dL_law_1227 : decode cL_law 1227 = .ok (.aload_n 0, 1) := by decide +kernel
theorem dL_law_1228 : decode cL_law 1228 = .ok (.iload 4, 2) := by decide +kernel
theorem dL_law_1230 : decode cL_law 1230 = .ok (.iconst 1, 1) := by decide +kernel
theorem dL_law_1231 : decode cL_law 1231 = .ok (.iadd, 1) := by decide +kernel
theorem dL_law_1232 : decode cL_law 1232 = .ok (.iaload, 1) := by decide +kernel
theorem dL_law_1233 : decode cL_law 1233 = .ok (.aload_n 0, 1) := by decide +kernel
theorem dL_law_1234 : decode cL_law 1234 = .ok (.iload 4, 2) := by decide +kernel
theorem dL_law_1236 : decode cL_law 1236 = .ok (.iconst 2, 1) := by decide +kernel
theorem dL_law_1237 : decode cL_law 1237 = .ok (.iadd, 1) := by decide +kernel
theorem dL_law_1238 : decode cL_law 1238 = .ok (.iaload, 1) := by decide +kernel
theorem dL_law_1239 : decode cL_law 1239 = .ok (.aload_n 0, 1) := by decide +kernel
theorem dL_law_1240 : decode cL_law 1240 = .ok (.iload 4, 2) := by decide +kernel
theorem dL_law_1242 : decode cL_law 1242 = .ok (.iconst 3, 1) := by decide +kernel
theorem dL_law_1243 : decode cL_law 1243 = .ok (.iadd, 1) := by decide +kernel
theorem dL_law_1244 : decode cL_law 1244 = .ok (.iaload, 1) := by decide +kernel
theorem dL_law_1245 : decode cL_law 1245 = .ok (.aload_n 0, 1) := by decide +kernel
theorem dL_law_1246 : decode cL_law 1246 = .ok (.iload 4, 2) := by decide +kernel
theorem dL_law_1248 : decode cL_law 1248 = .ok (.iconst 4, 1) := by decide +kernel
theorem dL_law_1249 : decode cL_law 1249 = .ok (.iadd, 1) := by decide +kernel
theorem dL_law_1250 : decode cL_law 1250 = .ok (.iaload, 1) := by decide +kernel
theorem dL_law_1251 : decode cL_law 1251 = .ok (.invokevirtual 144, 3) := by decide +kernel
theorem dL_law_1254 : decode cL_law 1254 = .ok (.istore 6, 2) := by decide +kernel
theorem dL_law_1256 : decode cL_law 1256 = .ok (.aload_n 2, 1) := by decide +kernel
theorem dL_law_1257 : decode cL_law 1257 = .ok (.invokevirtual 84, 3) := by decide +kernel
theorem dL_law_1260 : decode cL_law 1260 = .ok (.iload 5, 2) := by decide +kernel
theorem dL_law_1262 : decode cL_law 1262 = .ok (.if_icmp .eq 5, 3) := by decide +kernel
theorem dL_law_1265 : decode cL_law 1265 = .ok (.iconst 0, 1) := by decide +kernel
theorem dL_law_1266 : decode cL_law 1266 = .ok (.ireturn, 1) := by decide +kernel
theorem dL_law_1267 : decode cL_law 1267 = .ok (.iload 5, 2) := by decide +kernel
theorem dL_law_1269 : decode cL_law 1269 = .ok (.ifCond .ne 15, 3) := by decide +kernel
theorem dL_law_1272 : decode cL_law 1272 = .ok (.aload_n 3, 1) := by decide +kernel
theorem dL_law_1273 : decode cL_law 1273 = .ok (.iconst 0, 1) := by decide +kernel
theorem dL_law_1274 : decode cL_law 1274 = .ok (.laload, 1) := by decide +kernel
theorem dL_law_1275 : decode cL_law 1275 = .ok (.iload 6, 2) := by decide +kernel
theorem dL_law_1277 : decode cL_law 1277 = .ok (.i2l, 1) := by decide +kernel
theorem dL_law_1278 : decode cL_law 1278 = .ok (.lcmp, 1) := by decide +kernel
theorem dL_law_1279 : decode cL_law 1279 = .ok (.ifCond .eq 5, 3) := by decide +kernel
theorem dL_law_1282 : decode cL_law 1282 = .ok (.iconst 0, 1) := by decide +kernel
theorem dL_law_1283 : decode cL_law 1283 = .ok (.ireturn, 1) := by decide +kernel
theorem dL_law_1284 : decode cL_law 1284 = .ok (.goto 127, 3) := by decide +kernel
theorem dL_law_1287 : decode cL_law 1287 = .ok (.aload_n 1, 1) := by decide +kernel
theorem dL_law_1288 : decode cL_law 1288 = .ok (.aload_n 0, 1) := by decide +kernel
theorem dL_law_1289 : decode cL_law 1289 = .ok (.iload 4, 2) := by decide +kernel
theorem dL_law_1291 : decode cL_law 1291 = .ok (.iconst 1, 1) := by decide +kernel
theorem dL_law_1292 : decode cL_law 1292 = .ok (.iadd, 1) := by decide +kernel
theorem dL_law_1293 : decode cL_law 1293 = .ok (.iaload, 1) := by decide +kernel
theorem dL_law_1294 : decode cL_law 1294 = .ok (.aload_n 3, 1) := by decide +kernel
theorem dL_law_1295 : decode cL_law 1295 = .ok (.invokestatic 145, 3) := by decide +kernel
theorem dL_law_1298 : decode cL_law 1298 = .ok (.istore 5, 2) := by decide +kernel
theorem dL_law_1300 : decode cL_law 1300 = .ok (.aload_n 2, 1) := by decide +kernel
theorem dL_law_1301 : decode cL_law 1301 = .ok (.aload_n 0, 1) := by decide +kernel
theorem dL_law_1302 : decode cL_law 1302 = .ok (.iload 4, 2) := by decide +kernel
theorem dL_law_1304 : decode cL_law 1304 = .ok (.iconst 1, 1) := by decide +kernel
theorem dL_law_1305 : decode cL_law 1305 = .ok (.iadd, 1) := by decide +kernel
theorem dL_law_1306 : decode cL_law 1306 = .ok (.iaload, 1) := by decide +kernel
theorem dL_law_1307 : decode cL_law 1307 = .ok (.invokevirtual 147, 3) := by decide +kernel
theorem dL_law_1310 : decode cL_law 1310 = .ok (.istore 6, 2) := by decide +kernel
theorem dL_law_1312 : decode cL_law 1312 = .ok (.aload_n 2, 1) := by decide +kernel
theorem dL_law_1313 : decode cL_law 1313 = .ok (.invokevirtual 84, 3) := by decide +kernel
theorem dL_law_1316 : decode cL_law 1316 = .ok (.iload 5, 2) := by decide +kernel
theorem dL_law_1318 : decode cL_law 1318 = .ok (.if_icmp .eq 5, 3) := by decide +kernel
theorem dL_law_1321 : decode cL_law 1321 = .ok (.iconst 0, 1) := by decide +kernel
theorem dL_law_1322 : decode cL_law 1322 = .ok (.ireturn, 1) := by decide +kernel
theorem dL_law_1323 : decode cL_law 1323 = .ok (.iload 5, 2) := by decide +kernel
theorem dL_law_1325 : decode cL_law 1325 = .ok (.ifCond .ne 15, 3) := by decide +kernel
theorem dL_law_1328 : decode cL_law 1328 = .ok (.aload_n 3, 1) := by decide +kernel
theorem dL_law_1329 : decode cL_law 1329 = .ok (.iconst 0, 1) := by decide +kernel
theorem dL_law_1330 : decode cL_law 1330 = .ok (.laload, 1) := by decide +kernel
theorem dL_law_1331 : decode cL_law 1331 = .ok (.iload 6, 2) := by decide +kernel
theorem dL_law_1333 : decode cL_law 1333 = .ok (.i2l, 1) := by decide +kernel
theorem dL_law_1334 : decode cL_law 1334 = .ok (.lcmp, 1) := by decide +kernel
theorem dL_law_1335 : decode cL_law 1335 = .ok (.ifCond .eq 5, 3) := by decide +kernel
theorem dL_law_1338 : decode cL_law 1338 = .ok (.iconst 0, 1) := by decide +kernel
theorem dL_law_1339 : decode cL_law 1339 = .ok (.ireturn, 1) := by decide +kernel
theorem dL_law_1340 : decode cL_law 1340 = .ok (.goto 71, 3) := by decide +kernel
theorem dL_law_1343 : decode cL_law 1343 = .ok (.aload_n 1, 1) := by decide +kernel
theorem dL_law_1344 : decode cL_law 1344 = .ok (.aload_n 0, 1) := by decide +kernel
theorem dL_law_1345 : decode cL_law 1345 = .ok (.iload 4, 2) := by decide +kernel
theorem dL_law_1347 : decode cL_law 1347 = .ok (.iconst 1, 1) := by decide +kernel
theorem dL_law_1348 : decode cL_law 1348 = .ok (.iadd, 1) := by decide +kernel
theorem dL_law_1349 : decode cL_law 1349 = .ok (.iaload, 1) := by decide +kernel
theorem dL_law_1350 : decode cL_law 1350 = .ok (.aload_n 0, 1) := by decide +kernel
theorem dL_law_1351 : decode cL_law 1351 = .ok (.iload 4, 2) := by decide +kernel
theorem dL_law_1353 : decode cL_law 1353 = .ok (.iconst 2, 1) := by decide +kernel
theorem dL_law_1354 : decode cL_law 1354 = .ok (.iadd, 1) := by decide +kernel
theorem dL_law_1355 : decode cL_law 1355 = .ok (.iaload, 1) := by decide +kernel
theorem dL_law_1356 : decode cL_law 1356 = .ok (.aload_n 3, 1) := by decide +kernel
theorem dL_law_1357 : decode cL_law 1357 = .ok (.invokestatic 148, 3) := by decide +kernel
theorem dL_law_1360 : decode cL_law 1360 = .ok (.istore 5, 2) := by decide +kernel
theorem dL_law_1362 : decode cL_law 1362 = .ok (.aload_n 2, 1) := by decide +kernel
theorem dL_law_1363 : decode cL_law 1363 = .ok (.aload_n 0, 1) := by decide +kernel
theorem dL_law_1364 : decode cL_law 1364 = .ok (.iload 4, 2) := by decide +kernel
theorem dL_law_1366 : decode cL_law 1366 = .ok (.iconst 1, 1) := by decide +kernel
theorem dL_law_1367 : decode cL_law 1367 = .ok (.iadd, 1) := by decide +kernel
theorem dL_law_1368 : decode cL_law 1368 = .ok (.iaload, 1) := by decide +kernel
theorem dL_law_1369 : decode cL_law 1369 = .ok (.aload_n 0, 1) := by decide +kernel
theorem dL_law_1370 : decode cL_law 1370 = .ok (.iload 4, 2) := by decide +kernel
theorem dL_law_1372 : decode cL_law 1372 = .ok (.iconst 2, 1) := by decide +kernel
theorem dL_law_1373 : decode cL_law 1373 = .ok (.iadd, 1) := by decide +kernel
theorem dL_law_1374 : decode cL_law 1374 = .ok (.iaload, 1) := by decide +kernel
theorem dL_law_1375 : decode cL_law 1375 = .ok (.invokevirtual 150, 3) := by decide +kernel
theorem dL_law_1378 : decode cL_law 1378 = .ok (.istore 6, 2) := by decide +kernel
theorem dL_law_1380 : decode cL_law 1380 = .ok (.aload_n 2, 1) := by decide +kernel
theorem dL_law_1381 : decode cL_law 1381 = .ok (.invokevirtual 84, 3) := by decide +kernel
theorem dL_law_1384 : decode cL_law 1384 = .ok (.iload 5, 2) := by decide +kernel
theorem dL_law_1386 : decode cL_law 1386 = .ok (.if_icmp .eq 5, 3) := by decide +kernel
theorem dL_law_1389 : decode cL_law 1389 = .ok (.iconst 0, 1) := by decide +kernel
theorem dL_law_1390 : decode cL_law 1390 = .ok (.ireturn, 1) := by decide +kernel
theorem dL_law_1391 : decode cL_law 1391 = .ok (.iload 5, 2) := by decide +kernel
theorem dL_law_1393 : decode cL_law 1393 = .ok (.ifCond .ne 15, 3) := by decide +kernel
theorem dL_law_1396 : decode cL_law 1396 = .ok (.aload_n 3, 1) := by decide +kernel
theorem dL_law_1397 : decode cL_law 1397 = .ok (.iconst 0, 1) := by decide +kernel
theorem dL_law_1398 : decode cL_law 1398 = .ok (.laload, 1) := by decide +kernel
theorem dL_law_1399 : decode cL_law 1399 = .ok (.iload 6, 2) := by decide +kernel
theorem dL_law_1401 : decode cL_law 1401 = .ok (.i2l, 1) := by decide +kernel
theorem dL_law_1402 : decode cL_law 1402 = .ok (.lcmp, 1) := by decide +kernel
theorem dL_law_1403 : decode cL_law 1403 = .ok (.ifCond .eq 5, 3) := by decide +kernel
theorem dL_law_1406 : decode cL_law 1406 = .ok (.iconst 0, 1) := by decide +kernel
theorem dL_law_1407 : decode cL_law 1407 = .ok (.ireturn, 1) := by decide +kernel
theorem dL_law_1408 : decode cL_law 1408 = .ok (.goto 3, 3) := by decide +kernel
theorem dL_law_1411 : decode cL_law 1411 = .ok (.iinc 4 7, 3) := by decide +kernel
theorem dL_law_1414 : decode cL_law 1414 = .ok (.goto (-1391), 3) := by decide +kernel
theorem dL_law_1417 : decode cL_law 1417 = .ok (.iconst 1, 1) := by decide +kernel
theorem dL_law_1418 : decode cL_law 1418 = .ok (.ireturn, 1) := by decide +kernel

