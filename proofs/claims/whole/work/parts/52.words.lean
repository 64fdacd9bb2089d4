def uW : List Cond := lw_tbl.filter goodWord
theorem uW_code {w : Cond} (h : w ∈ uW) : GoodIn uW (w :: uW) := by
  intro v hv
  have hm : v ∈ uW := by
    rcases List.mem_cons.mp hv with rfl | hv
    · exact h
    · exact hv
  exact ⟨hm, good_of_word (List.mem_filter.mp hm).2⟩
theorem uW_t {w : Cond} (i : Nat) (h : tables_1[i]? = some w) (hg : goodWord w = true) : w ∈ uW := List.mem_filter.mpr ⟨List.mem_append_right _ (List.mem_of_getElem? h), hg⟩
theorem uW_s {w : Cond} (i : Nat) (h : (k2_sels lw_privs)[i]? = some w) (hg : goodWord w = true) : w ∈ uW := List.mem_filter.mpr ⟨List.mem_append_left _ (List.mem_of_getElem? h), hg⟩
theorem uW_t1 {w : Cond} (i : Nat) (h : tables_1_1[i]? = some w) (hg : goodWord w = true) : w ∈ uW := by
  have hm : w ∈ tables_1_1 := List.mem_of_getElem? h
  have h2 : w ∈ tables_1 := List.mem_append_left _ hm
  exact List.mem_filter.mpr ⟨List.mem_append_right _ h2, hg⟩
theorem uW_t2 {w : Cond} (i : Nat) (h : tables_1_2[i]? = some w) (hg : goodWord w = true) : w ∈ uW := by
  have hm : w ∈ tables_1_2 := List.mem_of_getElem? h
  have h2 : w ∈ tables_1 := List.mem_append_right _ (List.mem_append_left _ hm)
  exact List.mem_filter.mpr ⟨List.mem_append_right _ h2, hg⟩
theorem uW_t3 {w : Cond} (i : Nat) (h : tables_1_3[i]? = some w) (hg : goodWord w = true) : w ∈ uW := by
  have hm : w ∈ tables_1_3 := List.mem_of_getElem? h
  have h2 : w ∈ tables_1 := List.mem_append_right _ (List.mem_append_right _ (List.mem_append_left _ hm))
  exact List.mem_filter.mpr ⟨List.mem_append_right _ h2, hg⟩
theorem uW_t4 {w : Cond} (i : Nat) (h : tables_1_4[i]? = some w) (hg : goodWord w = true) : w ∈ uW := by
  have hm : w ∈ tables_1_4 := List.mem_of_getElem? h
  have h2 : w ∈ tables_1 := List.mem_append_right _ (List.mem_append_right _ (List.mem_append_right _ (List.mem_append_left _ hm)))
  exact List.mem_filter.mpr ⟨List.mem_append_right _ h2, hg⟩
theorem uW_t5 {w : Cond} (i : Nat) (h : tables_1_5[i]? = some w) (hg : goodWord w = true) : w ∈ uW := by
  have hm : w ∈ tables_1_5 := List.mem_of_getElem? h
  have h2 : w ∈ tables_1 := List.mem_append_right _ (List.mem_append_right _ (List.mem_append_right _ (List.mem_append_right _ (List.mem_append_left _ hm))))
  exact List.mem_filter.mpr ⟨List.mem_append_right _ h2, hg⟩
theorem uW_t6 {w : Cond} (i : Nat) (h : tables_1_6[i]? = some w) (hg : goodWord w = true) : w ∈ uW := by
  have hm : w ∈ tables_1_6 := List.mem_of_getElem? h
  have h2 : w ∈ tables_1 := List.mem_append_right _ (List.mem_append_right _ (List.mem_append_right _ (List.mem_append_right _ (List.mem_append_right _ (List.mem_append_left _ hm)))))
  exact List.mem_filter.mpr ⟨List.mem_append_right _ h2, hg⟩
theorem uW_t7 {w : Cond} (i : Nat) (h : tables_1_7[i]? = some w) (hg : goodWord w = true) : w ∈ uW := by
  have hm : w ∈ tables_1_7 := List.mem_of_getElem? h
  have h2 : w ∈ tables_1 := List.mem_append_right _ (List.mem_append_right _ (List.mem_append_right _ (List.mem_append_right _ (List.mem_append_right _ (List.mem_append_right _ (List.mem_append_left _ hm))))))
  exact List.mem_filter.mpr ⟨List.mem_append_right _ h2, hg⟩
theorem uW_t8 {w : Cond} (i : Nat) (h : tables_1_8[i]? = some w) (hg : goodWord w = true) : w ∈ uW := by
  have hm : w ∈ tables_1_8 := List.mem_of_getElem? h
  have h2 : w ∈ tables_1 := List.mem_append_right _ (List.mem_append_right _ (List.mem_append_right _ (List.mem_append_right _ (List.mem_append_right _ (List.mem_append_right _ (List.mem_append_right _ (List.mem_append_left _ hm)))))))
  exact List.mem_filter.mpr ⟨List.mem_append_right _ h2, hg⟩
theorem uW_t9 {w : Cond} (i : Nat) (h : tables_1_9[i]? = some w) (hg : goodWord w = true) : w ∈ uW := by
  have hm : w ∈ tables_1_9 := List.mem_of_getElem? h
  have h2 : w ∈ tables_1 := List.mem_append_right _ (List.mem_append_right _ (List.mem_append_right _ (List.mem_append_right _ (List.mem_append_right _ (List.mem_append_right _ (List.mem_append_right _ (List.mem_append_right _ (hm))))))))
  exact List.mem_filter.mpr ⟨List.mem_append_right _ h2, hg⟩
theorem uW_list (ws : List Cond) (ps : List Nat) (h : ws = ps.filterMap (fun i => tables_1[i]?)) (hg : ws.all goodWord = true) : ∀ w ∈ ws, w ∈ uW := by
  intro w hw
  have h1 := List.all_eq_true.mp hg w hw
  rw [h] at hw
  obtain ⟨i, -, hi⟩ := List.mem_filterMap.mp hw
  exact uW_t i hi h1/-- a field's place, for getfield: class ci of vwCl, slot k -/
def Lk (own : String) (index ci k : Nat) : Prop := ∃ (N : String) (T : u_T) (n : Nat), vwCl[ci]? = some (N, T, n) ∧ (∀ w ∈ u_ws N T n, w ∈ uW) ∧ k < n ∧ Cond.fieldLink own index (T k).1 (T k).2.1 (T k).2.2.1 ∈ uW
def Lkp (own : String) (index ci k : Nat) (ty : FieldType) : Prop := ∃ (N : String) (T : u_T) (n : Nat) (ty0 : Nat → FieldType), vwCl[ci]? = some (N, T, n) ∧ (∀ w ∈ u_ws N T n, w ∈ uW) ∧ k < n ∧ Cond.fieldLink own index (T k).1 (T k).2.1 (T k).2.2.1 ∈ uW ∧ (∀ k, k < n → parseFieldDescriptor (T k).2.2.1 = some (ty0 k)) ∧ (∀ a, a < n → ∀ b, b < n → a ≠ b → (T a).2.1 ≠ (T b).2.1) ∧ (T k).2.2.2 = false ∧ parseFieldDescriptor (T k).2.2.1 = some ty
/-- what the tables say of a call: of a static method, of an instance method of the class of number ci -/
def CwS (own : String) (index : Nat) (y : MethodName) (bytes : ByteArray) (maxL : Nat) (ret : Option FieldType) (n : Nat) : Prop := Cond.methodLink own index y ∈ uW ∧ Cond.static y ∈ uW ∧ Cond.initialized y.cls ∈ uW ∧ Cond.code y bytes maxL ret ∈ uW ∧ (y.cls ≠ "java/lang/invoke/MethodHandle" ∧ y.cls ≠ "java/lang/invoke/VarHandle" ∧ (parseMethodDescriptor y.desc).map (fun d => d.parameters.length) = some n)
def CwV (own : String) (index ci : Nat) (y : MethodName) (bytes : ByteArray) (maxL : Nat) (ret : Option FieldType) (n : Nat) : Prop := (vwCl[ci]?).map (fun z => z.1) = some y.cls ∧ Cond.methodLink own index y ∈ uW ∧ Cond.instanceMethod y ∈ uW ∧ Cond.selects y.cls y y ∈ uW ∧ Cond.initialized y.cls ∈ uW ∧ Cond.code y bytes maxL ret ∈ uW ∧ (y.cls ≠ "java/lang/invoke/MethodHandle" ∧ y.cls ≠ "java/lang/invoke/VarHandle" ∧ (parseMethodDescriptor y.desc).map (fun d => d.parameters.length) = some n)
def CwT (own : String) (index : Nat) (y : MethodName) (bytes : ByteArray) (maxL : Nat) (ret : Option FieldType) (n : Nat) : Prop := y.cls = "java/lang/String" ∧ Cond.methodLink own index y ∈ uW ∧ Cond.instanceMethod y ∈ uW ∧ Cond.selects y.cls y y ∈ uW ∧ Cond.initialized y.cls ∈ uW ∧ Cond.code y bytes maxL ret ∈ uW ∧ (y.cls ≠ "java/lang/invoke/MethodHandle" ∧ y.cls ≠ "java/lang/invoke/VarHandle" ∧ (parseMethodDescriptor y.desc).map (fun d => d.parameters.length) = some n)

theorem inX0 : ∀ w ∈ u_ws RX0 TX0 4, w ∈ uW := uW_list _ [159, 161, 163, 165] (by decide +kernel) (by decide +kernel)
theorem inX1 : ∀ w ∈ u_ws RX1 TX1 4, w ∈ uW := uW_list _ [304, 306, 308, 310] (by decide +kernel) (by decide +kernel)
theorem inX2 : ∀ w ∈ u_ws RX2 TX2 11, w ∈ uW := uW_list _ [424, 426, 428, 430, 432, 434, 436, 438, 440, 442, 444] (by decide +kernel) (by decide +kernel)
theorem inX3 : ∀ w ∈ u_ws RX3 TX3 14, w ∈ uW := uW_list _ [264, 266, 268, 270, 272, 274, 276, 278, 280, 282, 284, 286, 288, 290] (by decide +kernel) (by decide +kernel)
theorem inX4 : ∀ w ∈ u_ws RX4 TX4 15, w ∈ uW := uW_list _ [113, 115, 117, 119, 121, 123, 125, 127, 129, 131, 133, 135, 137, 139, 141] (by decide +kernel) (by decide +kernel)
theorem inX5 : ∀ w ∈ u_ws RX5 TX5 8, w ∈ uW := uW_list _ [55, 57, 59, 61, 63, 65, 67, 69] (by decide +kernel) (by decide +kernel)
theorem inX6 : ∀ w ∈ u_ws RX6 TX6 6, w ∈ uW := uW_list _ [365, 367, 369, 371, 373, 375] (by decide +kernel) (by decide +kernel)
theorem inX7 : ∀ w ∈ u_ws RX7 TX7 7, w ∈ uW := uW_list _ [392, 394, 396, 398, 400, 402, 404] (by decide +kernel) (by decide +kernel)
theorem inX8 : ∀ w ∈ u_ws RX8 TX8 11, w ∈ uW := uW_list _ [214, 216, 218, 220, 222, 224, 226, 228, 230, 232, 234] (by decide +kernel) (by decide +kernel)
theorem inX9 : ∀ w ∈ u_ws RX9 TX9 4, w ∈ uW := uW_list _ [185, 187, 189, 191] (by decide +kernel) (by decide +kernel)
theorem inX10 : ∀ w ∈ u_ws RX10 TX10 11, w ∈ uW := uW_list _ [330, 332, 334, 336, 338, 340, 342, 344, 346, 348, 350] (by decide +kernel) (by decide +kernel)
theorem inX11 : ∀ w ∈ u_ws RX11 TX11 13, w ∈ uW := uW_list _ [467, 469, 471, 473, 475, 477, 479, 481, 483, 485, 487, 489, 491] (by decide +kernel) (by decide +kernel)
theorem inX12 : ∀ w ∈ u_ws RX12 TX12 64, w ∈ uW := uW_list _ [1338, 1340, 1342, 1344, 1346, 1348, 1350, 1352, 1354, 1356, 1358, 1360, 1362, 1364, 1366, 1368, 1370, 1372, 1374, 1376, 1378, 1380, 1382, 1384, 1386, 1388, 1390, 1392, 1394, 1396, 1398, 1400, 1402, 1404, 1406, 1408, 1410, 1412, 1414, 1416, 1418, 1420, 1422, 1424, 1426, 1428, 1430, 1432, 1434, 1436, 1438, 1440, 1442, 1444, 1446, 1448, 1450, 1452, 1454, 1456, 1458, 1460, 1462, 1464] (by decide +kernel) (by decide +kernel)
