theorem go_puti {X : XT} {G : GT} {cc : ByteArray} {own : String} {pc : Nat} {lv : List (Nat × Value)} {st : List Value} {σ : St} (C : Cx X G cc own) {q index ci k : Nat} {fs : CS → List Value} {v : Int32} (hs : ∀ x, wcc G q x = .inr (ci, fs x)) (hq : q < NC) (L : Lkp own index ci k .int) (hl : k < (fs (σ q)).length) (hx : (fs (σ q)).set k (.int v) = fs (upd (σ q).1 k v, (σ q).2)) (hd : decode cc pc = .ok (.putfield index, 3)) (kk : Go X G (pc + 3) lv st (sI σ q k v)) : Go X G pc lv (.int v :: .ref (G.2.2.1 q) :: st) σ := go_put C (upd (σ q).1 k v, (σ q).2) hs hq L rfl rfl hl hx hd kk
theorem go_putz {X : XT} {G : GT} {cc : ByteArray} {own : String} {pc : Nat} {lv : List (Nat × Value)} {st : List Value} {σ : St} (C : Cx X G cc own) {q index ci k : Nat} {fs : CS → List Value} {v : Int32} (hs : ∀ x, wcc G q x = .inr (ci, fs x)) (hq : q < NC) (L : Lkp own index ci k .boolean) (hb : v = 0 ∨ v = 1) (hl : k < (fs (σ q)).length) (hx : (fs (σ q)).set k (.int v) = fs (upd (σ q).1 k v, (σ q).2)) (hd : decode cc pc = .ok (.putfield index, 3)) (kk : Go X G (pc + 3) lv st (sI σ q k v)) : Go X G pc lv (.int v :: .ref (G.2.2.1 q) :: st) σ := go_put C (upd (σ q).1 k v, (σ q).2) hs hq L (bool_nar hb) (bool_fit hb) hl hx hd kk
theorem go_putl {X : XT} {G : GT} {cc : ByteArray} {own : String} {pc : Nat} {lv : List (Nat × Value)} {st : List Value} {σ : St} (C : Cx X G cc own) {q index ci k : Nat} {fs : CS → List Value} {v : Int64} (hs : ∀ x, wcc G q x = .inr (ci, fs x)) (hq : q < NC) (L : Lkp own index ci k .long) (hl : k < (fs (σ q)).length) (hx : (fs (σ q)).set k (.long v) = fs ((σ q).1, vp_updL (σ q).2.1 k v, (σ q).2.2)) (hd : decode cc pc = .ok (.putfield index, 3)) (kk : Go X G (pc + 3) lv st (sL σ q k v)) : Go X G pc lv (.long v :: .ref (G.2.2.1 q) :: st) σ := go_put C ((σ q).1, vp_updL (σ q).2.1 k v, (σ q).2.2) hs hq L rfl rfl hl hx hd kk
theorem go_putr {X : XT} {G : GT} {cc : ByteArray} {own : String} {pc : Nat} {lv : List (Nat × Value)} {st : List Value} {σ : St} (C : Cx X G cc own) {q index ci k : Nat} {fs : CS → List Value} {N : String} {a : Nat} (hs : ∀ x, wcc G q x = .inr (ci, fs x)) (hq : q < NC) (L : Lkp own index ci k (.object N)) (hl : k < (fs (σ q)).length) (hx : (fs (σ q)).set k (.ref (G.2.2.1 a)) = fs ((σ q).1, (σ q).2.1, va_up (σ q).2.2 k (some a))) (hd : decode cc pc = .ok (.putfield index, 3)) (kk : Go X G (pc + 3) lv st (sR σ q k (some a))) : Go X G pc lv (.ref (G.2.2.1 a) :: .ref (G.2.2.1 q) :: st) σ := go_put C ((σ q).1, (σ q).2.1, va_up (σ q).2.2 k (some a)) hs hq L rfl rfl hl hx hd kk
theorem go_nm {X : XT} {G : GT} {pc : Nat} {lv : List (Nat × Value)} {st : List Value} {σ : St} (k : ∀ τ : St, τ = σ → Go X G pc lv st τ) : Go X G pc lv st σ := k σ rfl
theorem vp_in_lt {i : Int32} {n : Nat} (h : vp_in i n) : i.toNatClampNeg < n := Nat.not_le.mp fun q => h (Or.inr q)
theorem uW_list (ws : List Cond) (ps : List Nat) (h : ws = ps.filterMap (fun i => tables_1[i]?)) (hg : ws.all goodWord = true) : ∀ w ∈ ws, w ∈ uW := by
  intro w hw
  have h1 := List.all_eq_true.mp hg w hw
  rw [h] at hw
  obtain ⟨i, -, hi⟩ := List.mem_filterMap.mp hw
  exact uW_t i hi h1
theorem inX0 : ∀ w ∈ u_ws RX0 TX0 4, w ∈ uW := uW_list _ [159, 161, 163, 165] (by decide +kernel) (by decide +kernel)
theorem inX1 : ∀ w ∈ u_ws RX1 TX1 4, w ∈ uW := uW_list _ [304, 306, 308, 310] (by decide +kernel) (by decide +kernel)
theorem inX2 : ∀ w ∈ u_ws RX2 TX2 11, w ∈ uW := uW_list _ [424, 426, 428, 430, 432, 434, 436, 438, 440, 442, 444] (by decide +kernel) (by decide +kernel)
theorem inX3 : ∀ w ∈ u_ws RX3 TX3 14, w ∈ uW := uW_list _ [264, 266, 268, 270, 272, 274, 276, 278, 280, 282, 284, 286, 288, 290] (by decide +kernel) (by decide +kernel)
theorem inX4 : ∀ w ∈ u_ws RX4 TX4 15, w ∈ uW := uW_list _ [113, 115, 117, 119, 121, 123, 125, 127, 129, 131, 133, 135, 137, 139, 141] (by decide +kernel) (by decide +kernel)
theorem inX5 : ∀ w ∈ u_ws RX5 TX5 8, w ∈ uW := uW_list _ [55, 57, 59, 61, 63, 65, 67, 69] (by decide +kernel) (by decide +kernel)
theorem inX6 : ∀ w ∈ u_ws RX6 TX6 6, w ∈ uW := uW_list _ [365, 367, 369, 371, 373, 375] (by decide +kernel) (by decide +kernel)
theorem inX7 : ∀ w ∈ u_ws RX7 TX7 7, w ∈ uW := uW_list _ [392, 394, 396, 398, 400, 402, 404] (by decide +kernel) (by decide +kernel)
theorem inX8 : ∀ w ∈ u_ws RX8 TX8 11, w ∈ uW := uW_list _ [214, 216, 218, 220, 222, 224, 226, 228, 230, 232, 234] (by decide +kernel) (by decide +kernel)
theorem inX9 : ∀ w ∈ u_ws RX9 TX9 4, w ∈ uW := uW_list _ [185, 187, 189, 191] (by decide +kernel) (by decide +kernel)
theorem inX10 : ∀ w ∈ u_ws RX10 TX10 11, w ∈ uW := uW_list _ [330, 332, 334, 336, 338, 340, 342, 344, 346, 348, 350] (by decide +kernel) (by decide +kernel)
theorem inX11 : ∀ w ∈ u_ws RX11 TX11 13, w ∈ uW := uW_list _ [467, 469, 471, 473, 475, 477, 479, 481, 483, 485, 487, 489, 491] (by decide +kernel) (by decide +kernel)
theorem inX12 : ∀ w ∈ u_ws RX12 TX12 64, w ∈ uW := uW_list _ [1337, 1339, 1341, 1343, 1345, 1347, 1349, 1351, 1353, 1355, 1357, 1359, 1361, 1363, 1365, 1367, 1369, 1371, 1373, 1375, 1377, 1379, 1381, 1383, 1385, 1387, 1389, 1391, 1393, 1395, 1397, 1399, 1401, 1403, 1405, 1407, 1409, 1411, 1413, 1415, 1417, 1419, 1421, 1423, 1425, 1427, 1429, 1431, 1433, 1435, 1437, 1439, 1441, 1443, 1445, 1447, 1449, 1451, 1453, 1455, 1457, 1459, 1461, 1463] (by decide +kernel) (by decide +kernel)
theorem shX0 (G : GT) {k : Nat} (hk : k < 2) (x : CS) : wcc G (21 + 4 * k) x = .inr (0, fsX0 G k x) := by
  match k, hk with
  | 0, _ => rfl
  | 1, _ => rfl
theorem ltX0 {k : Nat} (hk : k < 2) : 21 + 4 * k < NC := by unfold NC; omega
theorem saX0_rows (G : GT) {k : Nat} (hk : k < 2) (x : CS) : wcc G (21 + 4 * k + 1) x = .inl (G.2.1 1, 732, .inr (.inl x.2.1)) := by
  match k, hk with
  | 0, _ => rfl
  | 1, _ => rfl
theorem laX0_rows {k : Nat} (hk : k < 2) : 21 + 4 * k + 1 < NC := by unfold NC; omega
theorem saX0_sums (G : GT) {k : Nat} (hk : k < 2) (x : CS) : wcc G (21 + 4 * k + 2) x = .inl (G.2.1 0, 11424, .inl x.1) := by
  match k, hk with
  | 0, _ => rfl
  | 1, _ => rfl
theorem laX0_sums {k : Nat} (hk : k < 2) : 21 + 4 * k + 2 < NC := by unfold NC; omega
theorem saX0_latest (G : GT) {k : Nat} (hk : k < 2) (x : CS) : wcc G (21 + 4 * k + 3) x = .inl (G.2.1 0, 16, .inl x.1) := by
  match k, hk with
  | 0, _ => rfl
  | 1, _ => rfl
theorem laX0_latest {k : Nat} (hk : k < 2) : 21 + 4 * k + 3 < NC := by unfold NC; omega
theorem shX1 (G : GT) (x : CS) : wcc G 51 x = .inr (1, fsX1 G x) := rfl
theorem ltX1 : 51 < NC := by decide
theorem shX2 (G : GT) (x : CS) : wcc G 70 x = .inr (2, fsX2 G x) := rfl
theorem ltX2 : 70 < NC := by decide
theorem saX2_cradles (G : GT) (x : CS) : wcc G 71 x = .inl (G.2.1 0, 12, .inl x.1) := rfl
theorem laX2_cradles : 71 < NC := by decide
theorem saX2_held (G : GT) (x : CS) : wcc G 72 x = .inl (G.2.1 0, 2, .inl x.1) := rfl
theorem laX2_held : 72 < NC := by decide
theorem saX2_told (G : GT) (x : CS) : wcc G 73 x = .inl (G.2.1 0, 7680, .inl x.1) := rfl
theorem laX2_told : 73 < NC := by decide
theorem saX2_toldSums (G : GT) (x : CS) : wcc G 74 x = .inl (G.2.1 0, 4592, .inl x.1) := rfl
theorem laX2_toldSums : 74 < NC := by decide
theorem shX3 (G : GT) (x : CS) : wcc G 47 x = .inr (3, fsX3 G x) := rfl
theorem ltX3 : 47 < NC := by decide
theorem saX3_stack (G : GT) (x : CS) : wcc G 48 x = .inl (G.2.1 0, 64, .inl x.1) := rfl
theorem laX3_stack : 48 < NC := by decide
theorem saX3_worths (G : GT) (x : CS) : wcc G 49 x = .inl (G.2.1 0, 16, .inl x.1) := rfl
theorem laX3_worths : 49 < NC := by decide
theorem saX3_mays (G : GT) (x : CS) : wcc G 50 x = .inl (G.2.1 3, 16, .inl x.1) := rfl
theorem laX3_mays : 50 < NC := by decide
theorem shX4 (G : GT) (x : CS) : wcc G 9 x = .inr (4, fsX4 G x) := rfl
theorem ltX4 : 9 < NC := by decide
theorem saX4_told (G : GT) (x : CS) : wcc G 10 x = .inl (G.2.1 0, 7680, .inl x.1) := rfl
theorem laX4_told : 10 < NC := by decide
theorem saX4_cradlesNow (G : GT) (x : CS) : wcc G 11 x = .inl (G.2.1 0, 12, .inl x.1) := rfl
theorem laX4_cradlesNow : 11 < NC := by decide
theorem saX4_cradlesThen (G : GT) (x : CS) : wcc G 12 x = .inl (G.2.1 0, 732, .inl x.1) := rfl
theorem laX4_cradlesThen : 12 < NC := by decide
theorem saX4_heldNow (G : GT) (x : CS) : wcc G 13 x = .inl (G.2.1 0, 2, .inl x.1) := rfl
theorem laX4_heldNow : 13 < NC := by decide
theorem saX4_heldThen (G : GT) (x : CS) : wcc G 14 x = .inl (G.2.1 0, 122, .inl x.1) := rfl
theorem laX4_heldThen : 14 < NC := by decide
theorem saX4_unnamedThen (G : GT) (x : CS) : wcc G 15 x = .inl (G.2.1 0, 61, .inl x.1) := rfl
theorem laX4_unnamedThen : 15 < NC := by decide
theorem saX4_listFrom (G : GT) (x : CS) : wcc G 16 x = .inl (G.2.1 0, 8, .inl x.1) := rfl
theorem laX4_listFrom : 16 < NC := by decide
theorem saX4_listNames (G : GT) (x : CS) : wcc G 17 x = .inl (G.2.1 0, 8, .inl x.1) := rfl
theorem laX4_listNames : 17 < NC := by decide
theorem saX4_filmName (G : GT) (x : CS) : wcc G 18 x = .inl (G.2.1 0, 8, .inl x.1) := rfl
theorem laX4_filmName : 18 < NC := by decide
theorem saX4_filmYear (G : GT) (x : CS) : wcc G 19 x = .inl (G.2.1 0, 8, .inl x.1) := rfl
theorem laX4_filmYear : 19 < NC := by decide
theorem saX4_filmPoints (G : GT) (x : CS) : wcc G 20 x = .inl (G.2.1 0, 8, .inl x.1) := rfl
theorem laX4_filmPoints : 20 < NC := by decide
theorem shX5 (G : GT) (x : CS) : wcc G 1 x = .inr (5, fsX5 G x) := rfl
theorem ltX5 : 1 < NC := by decide
theorem saX5_letters (G : GT) (x : CS) : wcc G 2 x = .inl (G.2.1 1, 16, .inr (.inl x.2.1)) := rfl
theorem laX5_letters : 2 < NC := by decide
theorem saX5_lengths (G : GT) (x : CS) : wcc G 3 x = .inl (G.2.1 0, 16, .inl x.1) := rfl
theorem laX5_lengths : 3 < NC := by decide
theorem saX5_sexes (G : GT) (x : CS) : wcc G 4 x = .inl (G.2.1 0, 16, .inl x.1) := rfl
theorem laX5_sexes : 4 < NC := by decide
theorem saX5_toldIn (G : GT) (x : CS) : wcc G 5 x = .inl (G.2.1 0, 16, .inl x.1) := rfl
theorem laX5_toldIn : 5 < NC := by decide
theorem saX5_endings (G : GT) (x : CS) : wcc G 6 x = .inl (G.2.1 1, 16, .inr (.inl x.2.1)) := rfl
theorem laX5_endings : 6 < NC := by decide
theorem saX5_sounds (G : GT) (x : CS) : wcc G 7 x = .inl (G.2.1 0, 160, .inl x.1) := rfl
theorem laX5_sounds : 7 < NC := by decide
theorem saX5_soundCounts (G : GT) (x : CS) : wcc G 8 x = .inl (G.2.1 0, 16, .inl x.1) := rfl
theorem laX5_soundCounts : 8 < NC := by decide
theorem shX6 (G : GT) (x : CS) : wcc G 60 x = .inr (6, fsX6 G x) := rfl
theorem ltX6 : 60 < NC := by decide
theorem saX6_term (G : GT) (x : CS) : wcc G 61 x = .inl (G.2.1 0, 24, .inl x.1) := rfl
theorem laX6_term : 61 < NC := by decide
theorem saX6_sum (G : GT) (x : CS) : wcc G 62 x = .inl (G.2.1 0, 24, .inl x.1) := rfl
theorem laX6_sum : 62 < NC := by decide
theorem saX6_whole (G : GT) (x : CS) : wcc G 63 x = .inl (G.2.1 0, 24, .inl x.1) := rfl
theorem laX6_whole : 63 < NC := by decide
theorem shX7 (G : GT) (x : CS) : wcc G 64 x = .inr (7, fsX7 G x) := rfl
theorem ltX7 : 64 < NC := by decide
theorem saX7_ofYear (G : GT) (x : CS) : wcc G 65 x = .inl (G.2.1 0, 150, .inl x.1) := rfl
theorem laX7_ofYear : 65 < NC := by decide
theorem saX7_ofSpot (G : GT) (x : CS) : wcc G 66 x = .inl (G.2.1 0, 150, .inl x.1) := rfl
theorem laX7_ofSpot : 66 < NC := by decide
theorem saX7_numbers (G : GT) (x : CS) : wcc G 67 x = .inl (G.2.1 0, 150, .inl x.1) := rfl
theorem laX7_numbers : 67 < NC := by decide
theorem saX7_toldAt (G : GT) (x : CS) : wcc G 68 x = .inl (G.2.1 0, 150, .inl x.1) := rfl
theorem laX7_toldAt : 68 < NC := by decide
theorem saX7_runs (G : GT) (x : CS) : wcc G 69 x = .inl (G.2.1 1, 2196, .inr (.inl x.2.1)) := rfl
theorem laX7_runs : 69 < NC := by decide
theorem shX8 (G : GT) (x : CS) : wcc G 42 x = .inr (8, fsX8 G x) := rfl
theorem ltX8 : 42 < NC := by decide
theorem saX8_bytes (G : GT) (x : CS) : wcc G 43 x = .inl (G.2.1 0, 300, .inl x.1) := rfl
theorem laX8_bytes : 43 < NC := by decide
theorem saX8_kinds (G : GT) (x : CS) : wcc G 44 x = .inl (G.2.1 0, 301, .inl x.1) := rfl
theorem laX8_kinds : 44 < NC := by decide
theorem saX8_starts (G : GT) (x : CS) : wcc G 45 x = .inl (G.2.1 0, 301, .inl x.1) := rfl
theorem laX8_starts : 45 < NC := by decide
theorem saX8_numbers (G : GT) (x : CS) : wcc G 46 x = .inl (G.2.1 0, 301, .inl x.1) := rfl
theorem laX8_numbers : 46 < NC := by decide
theorem shX9 (G : GT) {k : Nat} (hk : k < 6) (x : CS) : wcc G (30 + 2 * k) x = .inr (9, fsX9 G k x) := by
  match k, hk with
  | 0, _ => rfl
  | 1, _ => rfl
  | 2, _ => rfl
  | 3, _ => rfl
  | 4, _ => rfl
  | 5, _ => rfl
theorem ltX9 {k : Nat} (hk : k < 6) : 30 + 2 * k < NC := by unfold NC; omega
theorem saX9_code (G : GT) {k : Nat} (hk : k < 6) (x : CS) : wcc G (30 + 2 * k + 1) x = .inl (G.2.1 0, 300, .inl x.1) := by
  match k, hk with
  | 0, _ => rfl
  | 1, _ => rfl
  | 2, _ => rfl
  | 3, _ => rfl
  | 4, _ => rfl
  | 5, _ => rfl
theorem laX9_code {k : Nat} (hk : k < 6) : 30 + 2 * k + 1 < NC := by unfold NC; omega
theorem shX10 (G : GT) (x : CS) : wcc G 52 x = .inr (10, fsX10 G x) := rfl
theorem ltX10 : 52 < NC := by decide
theorem saX10_rises (G : GT) (x : CS) : wcc G 53 x = .inl (G.2.1 0, 16, .inl x.1) := rfl
theorem laX10_rises : 53 < NC := by decide
theorem saX10_falls (G : GT) (x : CS) : wcc G 54 x = .inl (G.2.1 0, 16, .inl x.1) := rfl
theorem laX10_falls : 54 < NC := by decide
theorem saX10_upper (G : GT) (x : CS) : wcc G 55 x = .inl (G.2.1 0, 976, .inl x.1) := rfl
theorem laX10_upper : 55 < NC := by decide
theorem saX10_lower (G : GT) (x : CS) : wcc G 56 x = .inl (G.2.1 0, 976, .inl x.1) := rfl
theorem laX10_lower : 56 < NC := by decide
theorem saX10_who (G : GT) (x : CS) : wcc G 57 x = .inl (G.2.1 0, 16, .inl x.1) := rfl
theorem laX10_who : 57 < NC := by decide
theorem saX10_counts (G : GT) (x : CS) : wcc G 58 x = .inl (G.2.1 0, 16, .inl x.1) := rfl
theorem laX10_counts : 58 < NC := by decide
theorem saX10_kin (G : GT) (x : CS) : wcc G 59 x = .inl (G.2.1 0, 16, .inl x.1) := rfl
theorem laX10_kin : 59 < NC := by decide
theorem shX11 (G : GT) (x : CS) : wcc G 0 x = .inr (11, fsX11 G x) := rfl
theorem ltX11 : 0 < NC := by decide
theorem shX12 (G : GT) (x : CS) : wcc G 75 x = .inr (12, fsX12 G x) := rfl
theorem ltX12 : 75 < NC := by decide
theorem saX12_a (G : GT) (x : CS) : wcc G 76 x = .inl (G.2.1 0, 9680, .inl x.1) := rfl
theorem laX12_a : 76 < NC := by decide
theorem saX12_image (G : GT) (x : CS) : wcc G 77 x = .inl (G.2.1 0, 9680, .inl x.1) := rfl
theorem laX12_image : 77 < NC := by decide
theorem saX12_letters (G : GT) (x : CS) : wcc G 78 x = .inl (G.2.1 1, 16, .inr (.inl x.2.1)) := rfl
theorem laX12_letters : 78 < NC := by decide
theorem saX12_tape (G : GT) (x : CS) : wcc G 79 x = .inl (G.2.1 2, 300, .inl x.1) := rfl
theorem laX12_tape : 79 < NC := by decide
theorem saX12_clauses (G : GT) (x : CS) : wcc G 80 x = .inl (G.2.1 0, 6, .inl x.1) := rfl
theorem laX12_clauses : 80 < NC := by decide
theorem saX12_clauseWord (G : GT) (x : CS) : wcc G 81 x = .inl (G.2.1 0, 72, .inl x.1) := rfl
theorem laX12_clauseWord : 81 < NC := by decide
theorem saX12_clauseAt (G : GT) (x : CS) : wcc G 82 x = .inl (G.2.1 0, 72, .inl x.1) := rfl
theorem laX12_clauseAt : 82 < NC := by decide
theorem saX12_nearYears (G : GT) (x : CS) : wcc G 83 x = .inl (G.2.1 0, 6, .inl x.1) := rfl
theorem laX12_nearYears : 83 < NC := by decide
theorem saX12_pastYears (G : GT) (x : CS) : wcc G 84 x = .inl (G.2.1 0, 6, .inl x.1) := rfl
theorem laX12_pastYears : 84 < NC := by decide
theorem saX12_order (G : GT) (x : CS) : wcc G 85 x = .inl (G.2.1 0, 2400, .inl x.1) := rfl
theorem laX12_order : 85 < NC := by decide
theorem saX12_value (G : GT) (x : CS) : wcc G 86 x = .inl (G.2.1 0, 2400, .inl x.1) := rfl
theorem laX12_value : 86 < NC := by decide
theorem saX12_frame (G : GT) (x : CS) : wcc G 87 x = .inl (G.2.1 0, 40, .inl x.1) := rfl
theorem laX12_frame : 87 < NC := by decide
theorem saX12_minOrMax (G : GT) (x : CS) : wcc G 88 x = .inl (G.2.1 0, 41, .inl x.1) := rfl
theorem laX12_minOrMax : 88 < NC := by decide
theorem saX12_compare (G : GT) (x : CS) : wcc G 89 x = .inl (G.2.1 0, 41, .inl x.1) := rfl
theorem laX12_compare : 89 < NC := by decide
theorem saX12_wait (G : GT) (x : CS) : wcc G 90 x = .inl (G.2.1 0, 80, .inl x.1) := rfl
theorem laX12_wait : 90 < NC := by decide
theorem saX12_waitFrame (G : GT) (x : CS) : wcc G 91 x = .inl (G.2.1 0, 80, .inl x.1) := rfl
theorem laX12_waitFrame : 91 < NC := by decide
theorem saX12_newWord (G : GT) (x : CS) : wcc G 92 x = .inl (G.2.1 0, 12, .inl x.1) := rfl
theorem laX12_newWord : 92 < NC := by decide
theorem saX12_newAt (G : GT) (x : CS) : wcc G 93 x = .inl (G.2.1 0, 12, .inl x.1) := rfl
theorem laX12_newAt : 93 < NC := by decide
theorem saX12_newOrder (G : GT) (x : CS) : wcc G 94 x = .inl (G.2.1 0, 400, .inl x.1) := rfl
theorem laX12_newOrder : 94 < NC := by decide
theorem saX12_newValue (G : GT) (x : CS) : wcc G 95 x = .inl (G.2.1 0, 400, .inl x.1) := rfl
theorem laX12_newValue : 95 < NC := by decide
theorem saX12_name (G : GT) (x : CS) : wcc G 96 x = .inl (G.2.1 1, 14, .inr (.inl x.2.1)) := rfl
theorem laX12_name : 96 < NC := by decide
theorem saX12_pile (G : GT) (x : CS) : wcc G 97 x = .inl (G.2.1 1, 200, .inr (.inl x.2.1)) := rfl
theorem laX12_pile : 97 < NC := by decide
theorem saX12_given (G : GT) (x : CS) : wcc G 98 x = .inl (G.2.1 0, 19392, .inl x.1) := rfl
theorem laX12_given : 98 < NC := by decide
theorem saX12_together (G : GT) (x : CS) : wcc G 99 x = .inl (G.2.1 0, 1616, .inl x.1) := rfl
theorem laX12_together : 99 < NC := by decide
theorem saX12_inPlace (G : GT) (x : CS) : wcc G 100 x = .inl (G.2.1 0, 4848, .inl x.1) := rfl
theorem laX12_inPlace : 100 < NC := by decide
theorem saX12_inStanding (G : GT) (x : CS) : wcc G 101 x = .inl (G.2.1 0, 3232, .inl x.1) := rfl
theorem laX12_inStanding : 101 < NC := by decide
theorem saX12_inSex (G : GT) (x : CS) : wcc G 102 x = .inl (G.2.1 0, 3232, .inl x.1) := rfl
theorem laX12_inSex : 102 < NC := by decide
theorem saX12_nameless (G : GT) (x : CS) : wcc G 103 x = .inl (G.2.1 0, 61, .inl x.1) := rfl
theorem laX12_nameless : 103 < NC := by decide
theorem saX12_tasteOf (G : GT) (x : CS) : wcc G 104 x = .inl (G.2.1 0, 2, .inl x.1) := rfl
theorem laX12_tasteOf : 104 < NC := by decide
theorem saX12_nearAhead (G : GT) (x : CS) : wcc G 105 x = .inl (G.2.1 0, 96, .inl x.1) := rfl
theorem laX12_nearAhead : 105 < NC := by decide
theorem saX12_standingAhead (G : GT) (x : CS) : wcc G 106 x = .inl (G.2.1 0, 64, .inl x.1) := rfl
theorem laX12_standingAhead : 106 < NC := by decide
theorem saX12_oldOnes (G : GT) (x : CS) : wcc G 107 x = .inl (G.2.1 0, 32, .inl x.1) := rfl
theorem laX12_oldOnes : 107 < NC := by decide
theorem saX12_sexAhead (G : GT) (x : CS) : wcc G 108 x = .inl (G.2.1 0, 32, .inl x.1) := rfl
theorem laX12_sexAhead : 108 < NC := by decide
theorem saX12_goneFor (G : GT) (x : CS) : wcc G 109 x = .inl (G.2.1 0, 16, .inl x.1) := rfl
theorem laX12_goneFor : 109 < NC := by decide
theorem saX12_rises (G : GT) (x : CS) : wcc G 110 x = .inl (G.2.1 0, 16, .inl x.1) := rfl
theorem laX12_rises : 110 < NC := by decide
theorem saX12_soundsNow (G : GT) (x : CS) : wcc G 111 x = .inl (G.2.1 0, 16, .inl x.1) := rfl
theorem laX12_soundsNow : 111 < NC := by decide
theorem saX12_filmNow (G : GT) (x : CS) : wcc G 112 x = .inl (G.2.1 0, 16, .inl x.1) := rfl
theorem laX12_filmNow : 112 < NC := by decide
theorem saX12_child (G : GT) (x : CS) : wcc G 113 x = .inl (G.2.1 0, 16, .inl x.1) := rfl
theorem laX12_child : 113 < NC := by decide
theorem saX12_ways (G : GT) (x : CS) : wcc G 114 x = .inl (G.2.1 1, 2400, .inr (.inl x.2.1)) := rfl
theorem laX12_ways : 114 < NC := by decide
theorem saX12_sum (G : GT) (x : CS) : wcc G 115 x = .inl (G.2.1 1, 30, .inr (.inl x.2.1)) := rfl
theorem laX12_sum : 115 < NC := by decide
theorem saX12_rows (G : GT) (x : CS) : wcc G 116 x = .inl (G.2.1 1, 30, .inr (.inl x.2.1)) := rfl
theorem laX12_rows : 116 < NC := by decide
theorem saX12_lowest (G : GT) (x : CS) : wcc G 117 x = .inl (G.2.1 0, 96, .inl x.1) := rfl
theorem laX12_lowest : 117 < NC := by decide
theorem saX12_highest (G : GT) (x : CS) : wcc G 118 x = .inl (G.2.1 0, 96, .inl x.1) := rfl
theorem laX12_highest : 118 < NC := by decide
theorem pxX0_3 (G : GT) (k : Nat) (x : CS) (v : Int32) : (fsX0 G k x).set 3 (.int v) = fsX0 G k (upd x.1 3 v, x.2) := rfl
theorem pxX2_0 (G : GT) (x : CS) (v : Int32) : (fsX2 G x).set 0 (.int v) = fsX2 G (upd x.1 0 v, x.2) := rfl
theorem pxX2_1 (G : GT) (x : CS) (v : Int32) : (fsX2 G x).set 1 (.int v) = fsX2 G (upd x.1 1 v, x.2) := rfl
theorem pxX2_2 (G : GT) (x : CS) (v : Int32) : (fsX2 G x).set 2 (.int v) = fsX2 G (upd x.1 2 v, x.2) := rfl
theorem pxX2_3 (G : GT) (x : CS) (v : Int32) : (fsX2 G x).set 3 (.int v) = fsX2 G (upd x.1 3 v, x.2) := rfl
theorem pxX2_4 (G : GT) (x : CS) (v : Int32) : (fsX2 G x).set 4 (.int v) = fsX2 G (upd x.1 4 v, x.2) := rfl
theorem pxX2_5 (G : GT) (x : CS) (v : Int32) : (fsX2 G x).set 5 (.int v) = fsX2 G (upd x.1 5 v, x.2) := rfl
theorem pxX2_6 (G : GT) (x : CS) (v : Int32) : (fsX2 G x).set 6 (.int v) = fsX2 G (upd x.1 6 v, x.2) := rfl
theorem pxX3_5 (G : GT) (x : CS) (a : Nat) : (fsX3 G x).set 5 (.ref (G.2.2.1 a)) = fsX3 G (x.1, x.2.1, va_up x.2.2 5 (some a)) := rfl
theorem pxX3_6 (G : GT) (x : CS) (v : Int32) : (fsX3 G x).set 6 (.int v) = fsX3 G (upd x.1 6 v, x.2) := rfl
theorem pxX3_7 (G : GT) (x : CS) (v : Int32) : (fsX3 G x).set 7 (.int v) = fsX3 G (upd x.1 7 v, x.2) := rfl
theorem pxX3_8 (G : GT) (x : CS) (a : Nat) : (fsX3 G x).set 8 (.ref (G.2.2.1 a)) = fsX3 G (x.1, x.2.1, va_up x.2.2 8 (some a)) := rfl
theorem pxX3_9 (G : GT) (x : CS) (v : Int32) : (fsX3 G x).set 9 (.int v) = fsX3 G (upd x.1 9 v, x.2) := rfl
theorem pxX3_10 (G : GT) (x : CS) (v : Int32) : (fsX3 G x).set 10 (.int v) = fsX3 G (upd x.1 10 v, x.2) := rfl
theorem pxX3_11 (G : GT) (x : CS) (v : Int32) : (fsX3 G x).set 11 (.int v) = fsX3 G (upd x.1 11 v, x.2) := rfl
theorem pxX3_12 (G : GT) (x : CS) (v : Int32) : (fsX3 G x).set 12 (.int v) = fsX3 G (upd x.1 12 v, x.2) := rfl
theorem pxX3_13 (G : GT) (x : CS) (v : Int32) : (fsX3 G x).set 13 (.int v) = fsX3 G (upd x.1 13 v, x.2) := rfl
theorem pxX4_0 (G : GT) (x : CS) (v : Int32) : (fsX4 G x).set 0 (.int v) = fsX4 G (upd x.1 0 v, x.2) := rfl
theorem pxX4_1 (G : GT) (x : CS) (v : Int32) : (fsX4 G x).set 1 (.int v) = fsX4 G (upd x.1 1 v, x.2) := rfl
theorem pxX4_8 (G : GT) (x : CS) (v : Int32) : (fsX4 G x).set 8 (.int v) = fsX4 G (upd x.1 8 v, x.2) := rfl
theorem pxX4_11 (G : GT) (x : CS) (v : Int32) : (fsX4 G x).set 11 (.int v) = fsX4 G (upd x.1 11 v, x.2) := rfl
theorem pxX5_0 (G : GT) (x : CS) (v : Int32) : (fsX5 G x).set 0 (.int v) = fsX5 G (upd x.1 0 v, x.2) := rfl
theorem pxX6_3 (G : GT) (x : CS) (v : Int32) : (fsX6 G x).set 3 (.int v) = fsX6 G (upd x.1 3 v, x.2) := rfl
theorem pxX6_4 (G : GT) (x : CS) (v : Int32) : (fsX6 G x).set 4 (.int v) = fsX6 G (upd x.1 4 v, x.2) := rfl
theorem pxX6_5 (G : GT) (x : CS) (v : Int32) : (fsX6 G x).set 5 (.int v) = fsX6 G (upd x.1 5 v, x.2) := rfl
theorem pxX7_0 (G : GT) (x : CS) (v : Int32) : (fsX7 G x).set 0 (.int v) = fsX7 G (upd x.1 0 v, x.2) := rfl
theorem pxX7_6 (G : GT) (x : CS) (v : Int32) : (fsX7 G x).set 6 (.int v) = fsX7 G (upd x.1 6 v, x.2) := rfl
theorem pxX8_1 (G : GT) (x : CS) (v : Int32) : (fsX8 G x).set 1 (.int v) = fsX8 G (upd x.1 1 v, x.2) := rfl
theorem pxX8_2 (G : GT) (x : CS) (v : Int32) : (fsX8 G x).set 2 (.int v) = fsX8 G (upd x.1 2 v, x.2) := rfl
theorem pxX8_3 (G : GT) (x : CS) (v : Int32) : (fsX8 G x).set 3 (.int v) = fsX8 G (upd x.1 3 v, x.2) := rfl
theorem pxX8_7 (G : GT) (x : CS) (v : Int32) : (fsX8 G x).set 7 (.int v) = fsX8 G (upd x.1 7 v, x.2) := rfl
theorem pxX8_8 (G : GT) (x : CS) (v : Int32) : (fsX8 G x).set 8 (.int v) = fsX8 G (upd x.1 8 v, x.2) := rfl
theorem pxX8_9 (G : GT) (x : CS) (a : Nat) : (fsX8 G x).set 9 (.ref (G.2.2.1 a)) = fsX8 G (x.1, x.2.1, va_up x.2.2 9 (some a)) := rfl
theorem pxX8_10 (G : GT) (x : CS) (v : Int32) : (fsX8 G x).set 10 (.int v) = fsX8 G (upd x.1 10 v, x.2) := rfl
theorem pxX9_1 (G : GT) (k : Nat) (x : CS) (v : Int32) : (fsX9 G k x).set 1 (.int v) = fsX9 G k (upd x.1 1 v, x.2) := rfl
theorem pxX9_2 (G : GT) (k : Nat) (x : CS) (v : Int32) : (fsX9 G k x).set 2 (.int v) = fsX9 G k (upd x.1 2 v, x.2) := rfl
theorem pxX9_3 (G : GT) (k : Nat) (x : CS) (v : Int32) : (fsX9 G k x).set 3 (.int v) = fsX9 G k (upd x.1 3 v, x.2) := rfl
theorem pxX10_10 (G : GT) (x : CS) (v : Int32) : (fsX10 G x).set 10 (.int v) = fsX10 G (upd x.1 10 v, x.2) := rfl
theorem pxX11_5 (G : GT) (x : CS) (v : Int32) : (fsX11 G x).set 5 (.int v) = fsX11 G (upd x.1 5 v, x.2) := rfl
theorem pxX12_4 (G : GT) (x : CS) (v : Int32) : (fsX12 G x).set 4 (.int v) = fsX12 G (upd x.1 4 v, x.2) := rfl
theorem pxX12_5 (G : GT) (x : CS) (v : Int32) : (fsX12 G x).set 5 (.int v) = fsX12 G (upd x.1 5 v, x.2) := rfl
theorem pxX12_6 (G : GT) (x : CS) (v : Int32) : (fsX12 G x).set 6 (.int v) = fsX12 G (upd x.1 6 v, x.2) := rfl
theorem pxX12_14 (G : GT) (x : CS) (v : Int32) : (fsX12 G x).set 14 (.int v) = fsX12 G (upd x.1 14 v, x.2) := rfl
theorem pxX12_15 (G : GT) (x : CS) (v : Int32) : (fsX12 G x).set 15 (.int v) = fsX12 G (upd x.1 15 v, x.2) := rfl
theorem pxX12_16 (G : GT) (x : CS) (v : Int32) : (fsX12 G x).set 16 (.int v) = fsX12 G (upd x.1 16 v, x.2) := rfl
theorem pxX12_17 (G : GT) (x : CS) (v : Int32) : (fsX12 G x).set 17 (.int v) = fsX12 G (upd x.1 17 v, x.2) := rfl
theorem pxX12_18 (G : GT) (x : CS) (v : Int32) : (fsX12 G x).set 18 (.int v) = fsX12 G (upd x.1 18 v, x.2) := rfl
theorem pxX12_19 (G : GT) (x : CS) (v : Int32) : (fsX12 G x).set 19 (.int v) = fsX12 G (upd x.1 19 v, x.2) := rfl
theorem pxX12_20 (G : GT) (x : CS) (v : Int32) : (fsX12 G x).set 20 (.int v) = fsX12 G (upd x.1 20 v, x.2) := rfl
theorem pxX12_21 (G : GT) (x : CS) (v : Int32) : (fsX12 G x).set 21 (.int v) = fsX12 G (upd x.1 21 v, x.2) := rfl
theorem pxX12_22 (G : GT) (x : CS) (v : Int32) : (fsX12 G x).set 22 (.int v) = fsX12 G (upd x.1 22 v, x.2) := rfl
theorem pxX12_26 (G : GT) (x : CS) (v : Int32) : (fsX12 G x).set 26 (.int v) = fsX12 G (upd x.1 26 v, x.2) := rfl
theorem pxX12_29 (G : GT) (x : CS) (v : Int32) : (fsX12 G x).set 29 (.int v) = fsX12 G (upd x.1 29 v, x.2) := rfl
theorem pxX12_30 (G : GT) (x : CS) (v : Int32) : (fsX12 G x).set 30 (.int v) = fsX12 G (upd x.1 30 v, x.2) := rfl
theorem pxX12_31 (G : GT) (x : CS) (v : Int32) : (fsX12 G x).set 31 (.int v) = fsX12 G (upd x.1 31 v, x.2) := rfl
theorem pxX12_32 (G : GT) (x : CS) (v : Int32) : (fsX12 G x).set 32 (.int v) = fsX12 G (upd x.1 32 v, x.2) := rfl
theorem pxX12_35 (G : GT) (x : CS) (v : Int32) : (fsX12 G x).set 35 (.int v) = fsX12 G (upd x.1 35 v, x.2) := rfl
theorem pxX12_55 (G : GT) (x : CS) (v : Int32) : (fsX12 G x).set 55 (.int v) = fsX12 G (upd x.1 55 v, x.2) := rfl
theorem pxX12_56 (G : GT) (x : CS) (v : Int32) : (fsX12 G x).set 56 (.int v) = fsX12 G (upd x.1 56 v, x.2) := rfl
theorem pxX12_57 (G : GT) (x : CS) (v : Int64) : (fsX12 G x).set 57 (.long v) = fsX12 G (x.1, vp_updL x.2.1 57 v, x.2.2) := rfl
