theorem go_puti {X : XT} {G : GT} {cc : ByteArray} {own : String} {pc : Nat} {lv : List (Nat × Value)} {st : List Value} {σ : St} (C : Cx X G cc own) {q index ci k : Nat} {fs : CS → List Value} {v : Int32} (hs : ∀ x, wcc G q x = .inr (ci, fs x)) (hq : q < G.2.2.2.2.2) (L : Lkp own index ci k .int) (hl : k < (fs (σ q)).length) (hx : (fs (σ q)).set k (.int v) = fs (upd (σ q).1 k v, (σ q).2)) (hd : decode cc pc = .ok (.putfield index, 3)) (kk : Go X G (pc + 3) lv st (sI σ q k v)) : Go X G pc lv (.int v :: .ref (G.2.2.1 q) :: st) σ := go_put C (upd (σ q).1 k v, (σ q).2) hs hq L rfl rfl hl hx hd kk
theorem go_putz {X : XT} {G : GT} {cc : ByteArray} {own : String} {pc : Nat} {lv : List (Nat × Value)} {st : List Value} {σ : St} (C : Cx X G cc own) {q index ci k : Nat} {fs : CS → List Value} {v : Int32} (hs : ∀ x, wcc G q x = .inr (ci, fs x)) (hq : q < G.2.2.2.2.2) (L : Lkp own index ci k .boolean) (hb : v = 0 ∨ v = 1) (hl : k < (fs (σ q)).length) (hx : (fs (σ q)).set k (.int v) = fs (upd (σ q).1 k v, (σ q).2)) (hd : decode cc pc = .ok (.putfield index, 3)) (kk : Go X G (pc + 3) lv st (sI σ q k v)) : Go X G pc lv (.int v :: .ref (G.2.2.1 q) :: st) σ := go_put C (upd (σ q).1 k v, (σ q).2) hs hq L (bool_nar hb) (bool_fit hb) hl hx hd kk
theorem go_putl {X : XT} {G : GT} {cc : ByteArray} {own : String} {pc : Nat} {lv : List (Nat × Value)} {st : List Value} {σ : St} (C : Cx X G cc own) {q index ci k : Nat} {fs : CS → List Value} {v : Int64} (hs : ∀ x, wcc G q x = .inr (ci, fs x)) (hq : q < G.2.2.2.2.2) (L : Lkp own index ci k .long) (hl : k < (fs (σ q)).length) (hx : (fs (σ q)).set k (.long v) = fs ((σ q).1, vp_updL (σ q).2.1 k v, (σ q).2.2)) (hd : decode cc pc = .ok (.putfield index, 3)) (kk : Go X G (pc + 3) lv st (sL σ q k v)) : Go X G pc lv (.long v :: .ref (G.2.2.1 q) :: st) σ := go_put C ((σ q).1, vp_updL (σ q).2.1 k v, (σ q).2.2) hs hq L rfl rfl hl hx hd kk
theorem go_putr {X : XT} {G : GT} {cc : ByteArray} {own : String} {pc : Nat} {lv : List (Nat × Value)} {st : List Value} {σ : St} (C : Cx X G cc own) {q index ci k : Nat} {fs : CS → List Value} {N : String} {a : Nat} (hs : ∀ x, wcc G q x = .inr (ci, fs x)) (hq : q < G.2.2.2.2.2) (L : Lkp own index ci k (.object N)) (hl : k < (fs (σ q)).length) (hx : (fs (σ q)).set k (.ref (G.2.2.1 a)) = fs ((σ q).1, (σ q).2.1, va_up (σ q).2.2 k (some a))) (hd : decode cc pc = .ok (.putfield index, 3)) (kk : Go X G (pc + 3) lv st (sR σ q k (some a))) : Go X G pc lv (.ref (G.2.2.1 a) :: .ref (G.2.2.1 q) :: st) σ := go_put C ((σ q).1, (σ q).2.1, va_up (σ q).2.2 k (some a)) hs hq L rfl rfl hl hx hd kk
theorem go_nm {X : XT} {G : GT} {pc : Nat} {lv : List (Nat × Value)} {st : List Value} {σ : St} (k : ∀ τ : St, τ = σ → Go X G pc lv st τ) : Go X G pc lv st σ := k σ rfl
theorem vp_in_lt {i : Int32} {n : Nat} (h : vp_in i n) : i.toNatClampNeg < n := Nat.not_le.mp fun q => h (Or.inr q)

theorem shX0 (G : GT) {k : Nat} (hk : k < 2) (x : CS) : wcc G (21 + 4 * k) x = .inr (0, fsX0 G k x) := by
  match k, hk with
  | 0, _ => rfl
  | 1, _ => rfl
theorem ltX0 {G : GT} (hN : 75 ≤ G.2.2.2.2.2) {k : Nat} (hk : k < 2) : 21 + 4 * k < G.2.2.2.2.2 := by omega
theorem saX0_rows (G : GT) {k : Nat} (hk : k < 2) (x : CS) : wcc G (21 + 4 * k + 1) x = .inl (G.2.1 1, 732, .inr (.inl x.2.1)) := by
  match k, hk with
  | 0, _ => rfl
  | 1, _ => rfl
theorem laX0_rows {G : GT} (hN : 75 ≤ G.2.2.2.2.2) {k : Nat} (hk : k < 2) : 21 + 4 * k + 1 < G.2.2.2.2.2 := by omega
theorem saX0_sums (G : GT) {k : Nat} (hk : k < 2) (x : CS) : wcc G (21 + 4 * k + 2) x = .inl (G.2.1 0, 11424, .inl x.1) := by
  match k, hk with
  | 0, _ => rfl
  | 1, _ => rfl
theorem laX0_sums {G : GT} (hN : 75 ≤ G.2.2.2.2.2) {k : Nat} (hk : k < 2) : 21 + 4 * k + 2 < G.2.2.2.2.2 := by omega
theorem saX0_latest (G : GT) {k : Nat} (hk : k < 2) (x : CS) : wcc G (21 + 4 * k + 3) x = .inl (G.2.1 0, 16, .inl x.1) := by
  match k, hk with
  | 0, _ => rfl
  | 1, _ => rfl
theorem laX0_latest {G : GT} (hN : 75 ≤ G.2.2.2.2.2) {k : Nat} (hk : k < 2) : 21 + 4 * k + 3 < G.2.2.2.2.2 := by omega
theorem shX1 (G : GT) (x : CS) : wcc G 51 x = .inr (1, fsX1 G x) := rfl
theorem ltX1 {G : GT} (hN : 75 ≤ G.2.2.2.2.2) : 51 < G.2.2.2.2.2 := by omega
theorem shX2 (G : GT) (x : CS) : wcc G 70 x = .inr (2, fsX2 G x) := rfl
theorem ltX2 {G : GT} (hN : 75 ≤ G.2.2.2.2.2) : 70 < G.2.2.2.2.2 := by omega
theorem saX2_cradles (G : GT) (x : CS) : wcc G 71 x = .inl (G.2.1 0, 12, .inl x.1) := rfl
theorem laX2_cradles {G : GT} (hN : 75 ≤ G.2.2.2.2.2) : 71 < G.2.2.2.2.2 := by omega
theorem saX2_held (G : GT) (x : CS) : wcc G 72 x = .inl (G.2.1 0, 2, .inl x.1) := rfl
theorem laX2_held {G : GT} (hN : 75 ≤ G.2.2.2.2.2) : 72 < G.2.2.2.2.2 := by omega
theorem saX2_told (G : GT) (x : CS) : wcc G 73 x = .inl (G.2.1 0, 7680, .inl x.1) := rfl
theorem laX2_told {G : GT} (hN : 75 ≤ G.2.2.2.2.2) : 73 < G.2.2.2.2.2 := by omega
theorem saX2_toldSums (G : GT) (x : CS) : wcc G 74 x = .inl (G.2.1 0, 4592, .inl x.1) := rfl
theorem laX2_toldSums {G : GT} (hN : 75 ≤ G.2.2.2.2.2) : 74 < G.2.2.2.2.2 := by omega
theorem shX3 (G : GT) (x : CS) : wcc G 47 x = .inr (3, fsX3 G x) := rfl
theorem ltX3 {G : GT} (hN : 75 ≤ G.2.2.2.2.2) : 47 < G.2.2.2.2.2 := by omega
theorem saX3_stack (G : GT) (x : CS) : wcc G 48 x = .inl (G.2.1 0, 64, .inl x.1) := rfl
theorem laX3_stack {G : GT} (hN : 75 ≤ G.2.2.2.2.2) : 48 < G.2.2.2.2.2 := by omega
theorem saX3_worths (G : GT) (x : CS) : wcc G 49 x = .inl (G.2.1 0, 16, .inl x.1) := rfl
theorem laX3_worths {G : GT} (hN : 75 ≤ G.2.2.2.2.2) : 49 < G.2.2.2.2.2 := by omega
theorem saX3_mays (G : GT) (x : CS) : wcc G 50 x = .inl (G.2.1 3, 16, .inl x.1) := rfl
theorem laX3_mays {G : GT} (hN : 75 ≤ G.2.2.2.2.2) : 50 < G.2.2.2.2.2 := by omega
theorem shX4 (G : GT) (x : CS) : wcc G 9 x = .inr (4, fsX4 G x) := rfl
theorem ltX4 {G : GT} (hN : 75 ≤ G.2.2.2.2.2) : 9 < G.2.2.2.2.2 := by omega
theorem saX4_told (G : GT) (x : CS) : wcc G 10 x = .inl (G.2.1 0, 7680, .inl x.1) := rfl
theorem laX4_told {G : GT} (hN : 75 ≤ G.2.2.2.2.2) : 10 < G.2.2.2.2.2 := by omega
theorem saX4_cradlesNow (G : GT) (x : CS) : wcc G 11 x = .inl (G.2.1 0, 12, .inl x.1) := rfl
theorem laX4_cradlesNow {G : GT} (hN : 75 ≤ G.2.2.2.2.2) : 11 < G.2.2.2.2.2 := by omega
theorem saX4_cradlesThen (G : GT) (x : CS) : wcc G 12 x = .inl (G.2.1 0, 732, .inl x.1) := rfl
theorem laX4_cradlesThen {G : GT} (hN : 75 ≤ G.2.2.2.2.2) : 12 < G.2.2.2.2.2 := by omega
theorem saX4_heldNow (G : GT) (x : CS) : wcc G 13 x = .inl (G.2.1 0, 2, .inl x.1) := rfl
theorem laX4_heldNow {G : GT} (hN : 75 ≤ G.2.2.2.2.2) : 13 < G.2.2.2.2.2 := by omega
theorem saX4_heldThen (G : GT) (x : CS) : wcc G 14 x = .inl (G.2.1 0, 122, .inl x.1) := rfl
theorem laX4_heldThen {G : GT} (hN : 75 ≤ G.2.2.2.2.2) : 14 < G.2.2.2.2.2 := by omega
theorem saX4_unnamedThen (G : GT) (x : CS) : wcc G 15 x = .inl (G.2.1 0, 61, .inl x.1) := rfl
theorem laX4_unnamedThen {G : GT} (hN : 75 ≤ G.2.2.2.2.2) : 15 < G.2.2.2.2.2 := by omega
theorem saX4_listFrom (G : GT) (x : CS) : wcc G 16 x = .inl (G.2.1 0, 8, .inl x.1) := rfl
theorem laX4_listFrom {G : GT} (hN : 75 ≤ G.2.2.2.2.2) : 16 < G.2.2.2.2.2 := by omega
theorem saX4_listNames (G : GT) (x : CS) : wcc G 17 x = .inl (G.2.1 0, 8, .inl x.1) := rfl
theorem laX4_listNames {G : GT} (hN : 75 ≤ G.2.2.2.2.2) : 17 < G.2.2.2.2.2 := by omega
theorem saX4_filmName (G : GT) (x : CS) : wcc G 18 x = .inl (G.2.1 0, 8, .inl x.1) := rfl
theorem laX4_filmName {G : GT} (hN : 75 ≤ G.2.2.2.2.2) : 18 < G.2.2.2.2.2 := by omega
theorem saX4_filmYear (G : GT) (x : CS) : wcc G 19 x = .inl (G.2.1 0, 8, .inl x.1) := rfl
theorem laX4_filmYear {G : GT} (hN : 75 ≤ G.2.2.2.2.2) : 19 < G.2.2.2.2.2 := by omega
theorem saX4_filmPoints (G : GT) (x : CS) : wcc G 20 x = .inl (G.2.1 0, 8, .inl x.1) := rfl
theorem laX4_filmPoints {G : GT} (hN : 75 ≤ G.2.2.2.2.2) : 20 < G.2.2.2.2.2 := by omega
theorem shX5 (G : GT) (x : CS) : wcc G 1 x = .inr (5, fsX5 G x) := rfl
theorem ltX5 {G : GT} (hN : 75 ≤ G.2.2.2.2.2) : 1 < G.2.2.2.2.2 := by omega
theorem saX5_letters (G : GT) (x : CS) : wcc G 2 x = .inl (G.2.1 1, 16, .inr (.inl x.2.1)) := rfl
theorem laX5_letters {G : GT} (hN : 75 ≤ G.2.2.2.2.2) : 2 < G.2.2.2.2.2 := by omega
theorem saX5_lengths (G : GT) (x : CS) : wcc G 3 x = .inl (G.2.1 0, 16, .inl x.1) := rfl
theorem laX5_lengths {G : GT} (hN : 75 ≤ G.2.2.2.2.2) : 3 < G.2.2.2.2.2 := by omega
theorem saX5_sexes (G : GT) (x : CS) : wcc G 4 x = .inl (G.2.1 0, 16, .inl x.1) := rfl
theorem laX5_sexes {G : GT} (hN : 75 ≤ G.2.2.2.2.2) : 4 < G.2.2.2.2.2 := by omega
theorem saX5_toldIn (G : GT) (x : CS) : wcc G 5 x = .inl (G.2.1 0, 16, .inl x.1) := rfl
theorem laX5_toldIn {G : GT} (hN : 75 ≤ G.2.2.2.2.2) : 5 < G.2.2.2.2.2 := by omega
theorem saX5_endings (G : GT) (x : CS) : wcc G 6 x = .inl (G.2.1 1, 16, .inr (.inl x.2.1)) := rfl
theorem laX5_endings {G : GT} (hN : 75 ≤ G.2.2.2.2.2) : 6 < G.2.2.2.2.2 := by omega
theorem saX5_sounds (G : GT) (x : CS) : wcc G 7 x = .inl (G.2.1 0, 160, .inl x.1) := rfl
theorem laX5_sounds {G : GT} (hN : 75 ≤ G.2.2.2.2.2) : 7 < G.2.2.2.2.2 := by omega
theorem saX5_soundCounts (G : GT) (x : CS) : wcc G 8 x = .inl (G.2.1 0, 16, .inl x.1) := rfl
theorem laX5_soundCounts {G : GT} (hN : 75 ≤ G.2.2.2.2.2) : 8 < G.2.2.2.2.2 := by omega
theorem shX6 (G : GT) (x : CS) : wcc G 60 x = .inr (6, fsX6 G x) := rfl
theorem ltX6 {G : GT} (hN : 75 ≤ G.2.2.2.2.2) : 60 < G.2.2.2.2.2 := by omega
theorem saX6_term (G : GT) (x : CS) : wcc G 61 x = .inl (G.2.1 0, 24, .inl x.1) := rfl
theorem laX6_term {G : GT} (hN : 75 ≤ G.2.2.2.2.2) : 61 < G.2.2.2.2.2 := by omega
theorem saX6_sum (G : GT) (x : CS) : wcc G 62 x = .inl (G.2.1 0, 24, .inl x.1) := rfl
theorem laX6_sum {G : GT} (hN : 75 ≤ G.2.2.2.2.2) : 62 < G.2.2.2.2.2 := by omega
theorem saX6_whole (G : GT) (x : CS) : wcc G 63 x = .inl (G.2.1 0, 24, .inl x.1) := rfl
theorem laX6_whole {G : GT} (hN : 75 ≤ G.2.2.2.2.2) : 63 < G.2.2.2.2.2 := by omega
theorem shX7 (G : GT) (x : CS) : wcc G 64 x = .inr (7, fsX7 G x) := rfl
theorem ltX7 {G : GT} (hN : 75 ≤ G.2.2.2.2.2) : 64 < G.2.2.2.2.2 := by omega
theorem saX7_ofYear (G : GT) (x : CS) : wcc G 65 x = .inl (G.2.1 0, 150, .inl x.1) := rfl
theorem laX7_ofYear {G : GT} (hN : 75 ≤ G.2.2.2.2.2) : 65 < G.2.2.2.2.2 := by omega
theorem saX7_ofSpot (G : GT) (x : CS) : wcc G 66 x = .inl (G.2.1 0, 150, .inl x.1) := rfl
theorem laX7_ofSpot {G : GT} (hN : 75 ≤ G.2.2.2.2.2) : 66 < G.2.2.2.2.2 := by omega
theorem saX7_numbers (G : GT) (x : CS) : wcc G 67 x = .inl (G.2.1 0, 150, .inl x.1) := rfl
theorem laX7_numbers {G : GT} (hN : 75 ≤ G.2.2.2.2.2) : 67 < G.2.2.2.2.2 := by omega
theorem saX7_toldAt (G : GT) (x : CS) : wcc G 68 x = .inl (G.2.1 0, 150, .inl x.1) := rfl
theorem laX7_toldAt {G : GT} (hN : 75 ≤ G.2.2.2.2.2) : 68 < G.2.2.2.2.2 := by omega
theorem saX7_runs (G : GT) (x : CS) : wcc G 69 x = .inl (G.2.1 1, 2196, .inr (.inl x.2.1)) := rfl
theorem laX7_runs {G : GT} (hN : 75 ≤ G.2.2.2.2.2) : 69 < G.2.2.2.2.2 := by omega
theorem shX8 (G : GT) (x : CS) : wcc G 42 x = .inr (8, fsX8 G x) := rfl
theorem ltX8 {G : GT} (hN : 75 ≤ G.2.2.2.2.2) : 42 < G.2.2.2.2.2 := by omega
theorem saX8_bytes (G : GT) (x : CS) : wcc G 43 x = .inl (G.2.1 0, 300, .inl x.1) := rfl
theorem laX8_bytes {G : GT} (hN : 75 ≤ G.2.2.2.2.2) : 43 < G.2.2.2.2.2 := by omega
theorem saX8_kinds (G : GT) (x : CS) : wcc G 44 x = .inl (G.2.1 0, 301, .inl x.1) := rfl
theorem laX8_kinds {G : GT} (hN : 75 ≤ G.2.2.2.2.2) : 44 < G.2.2.2.2.2 := by omega
theorem saX8_starts (G : GT) (x : CS) : wcc G 45 x = .inl (G.2.1 0, 301, .inl x.1) := rfl
theorem laX8_starts {G : GT} (hN : 75 ≤ G.2.2.2.2.2) : 45 < G.2.2.2.2.2 := by omega
theorem saX8_numbers (G : GT) (x : CS) : wcc G 46 x = .inl (G.2.1 0, 301, .inl x.1) := rfl
theorem laX8_numbers {G : GT} (hN : 75 ≤ G.2.2.2.2.2) : 46 < G.2.2.2.2.2 := by omega
theorem shX9 (G : GT) {k : Nat} (hk : k < 6) (x : CS) : wcc G (30 + 2 * k) x = .inr (9, fsX9 G k x) := by
  match k, hk with
  | 0, _ => rfl
  | 1, _ => rfl
  | 2, _ => rfl
  | 3, _ => rfl
  | 4, _ => rfl
  | 5, _ => rfl
theorem ltX9 {G : GT} (hN : 75 ≤ G.2.2.2.2.2) {k : Nat} (hk : k < 6) : 30 + 2 * k < G.2.2.2.2.2 := by omega
theorem saX9_code (G : GT) {k : Nat} (hk : k < 6) (x : CS) : wcc G (30 + 2 * k + 1) x = .inl (G.2.1 0, 300, .inl x.1) := by
  match k, hk with
  | 0, _ => rfl
  | 1, _ => rfl
  | 2, _ => rfl
  | 3, _ => rfl
  | 4, _ => rfl
  | 5, _ => rfl
theorem laX9_code {G : GT} (hN : 75 ≤ G.2.2.2.2.2) {k : Nat} (hk : k < 6) : 30 + 2 * k + 1 < G.2.2.2.2.2 := by omega
theorem shX10 (G : GT) (x : CS) : wcc G 52 x = .inr (10, fsX10 G x) := rfl
theorem ltX10 {G : GT} (hN : 75 ≤ G.2.2.2.2.2) : 52 < G.2.2.2.2.2 := by omega
theorem saX10_rises (G : GT) (x : CS) : wcc G 53 x = .inl (G.2.1 0, 16, .inl x.1) := rfl
theorem laX10_rises {G : GT} (hN : 75 ≤ G.2.2.2.2.2) : 53 < G.2.2.2.2.2 := by omega
theorem saX10_falls (G : GT) (x : CS) : wcc G 54 x = .inl (G.2.1 0, 16, .inl x.1) := rfl
theorem laX10_falls {G : GT} (hN : 75 ≤ G.2.2.2.2.2) : 54 < G.2.2.2.2.2 := by omega
theorem saX10_upper (G : GT) (x : CS) : wcc G 55 x = .inl (G.2.1 0, 976, .inl x.1) := rfl
theorem laX10_upper {G : GT} (hN : 75 ≤ G.2.2.2.2.2) : 55 < G.2.2.2.2.2 := by omega
theorem saX10_lower (G : GT) (x : CS) : wcc G 56 x = .inl (G.2.1 0, 976, .inl x.1) := rfl
theorem laX10_lower {G : GT} (hN : 75 ≤ G.2.2.2.2.2) : 56 < G.2.2.2.2.2 := by omega
theorem saX10_who (G : GT) (x : CS) : wcc G 57 x = .inl (G.2.1 0, 16, .inl x.1) := rfl
theorem laX10_who {G : GT} (hN : 75 ≤ G.2.2.2.2.2) : 57 < G.2.2.2.2.2 := by omega
theorem saX10_counts (G : GT) (x : CS) : wcc G 58 x = .inl (G.2.1 0, 16, .inl x.1) := rfl
theorem laX10_counts {G : GT} (hN : 75 ≤ G.2.2.2.2.2) : 58 < G.2.2.2.2.2 := by omega
theorem saX10_kin (G : GT) (x : CS) : wcc G 59 x = .inl (G.2.1 0, 16, .inl x.1) := rfl
theorem laX10_kin {G : GT} (hN : 75 ≤ G.2.2.2.2.2) : 59 < G.2.2.2.2.2 := by omega
theorem shX11 (G : GT) (x : CS) : wcc G 0 x = .inr (11, fsX11 G x) := rfl
theorem ltX11 {G : GT} (hN : 75 ≤ G.2.2.2.2.2) : 0 < G.2.2.2.2.2 := by omega
theorem shX12 (G : GT) (x : CS) : wcc G 75 x = .inr (12, fsX12 G x) := rfl
theorem ltX12 {G : GT} (hN : 119 ≤ G.2.2.2.2.2) : 75 < G.2.2.2.2.2 := by omega
theorem saX12_a (G : GT) (x : CS) : wcc G 76 x = .inl (G.2.1 0, 9680, .inl x.1) := rfl
theorem laX12_a {G : GT} (hN : 119 ≤ G.2.2.2.2.2) : 76 < G.2.2.2.2.2 := by omega
theorem saX12_image (G : GT) (x : CS) : wcc G 77 x = .inl (G.2.1 0, 9680, .inl x.1) := rfl
theorem laX12_image {G : GT} (hN : 119 ≤ G.2.2.2.2.2) : 77 < G.2.2.2.2.2 := by omega
theorem saX12_letters (G : GT) (x : CS) : wcc G 78 x = .inl (G.2.1 1, 16, .inr (.inl x.2.1)) := rfl
theorem laX12_letters {G : GT} (hN : 119 ≤ G.2.2.2.2.2) : 78 < G.2.2.2.2.2 := by omega
theorem saX12_tape (G : GT) (x : CS) : wcc G 79 x = .inl (G.2.1 2, 300, .inl x.1) := rfl
theorem laX12_tape {G : GT} (hN : 119 ≤ G.2.2.2.2.2) : 79 < G.2.2.2.2.2 := by omega
theorem saX12_clauses (G : GT) (x : CS) : wcc G 80 x = .inl (G.2.1 0, 6, .inl x.1) := rfl
theorem laX12_clauses {G : GT} (hN : 119 ≤ G.2.2.2.2.2) : 80 < G.2.2.2.2.2 := by omega
theorem saX12_clauseWord (G : GT) (x : CS) : wcc G 81 x = .inl (G.2.1 0, 72, .inl x.1) := rfl
theorem laX12_clauseWord {G : GT} (hN : 119 ≤ G.2.2.2.2.2) : 81 < G.2.2.2.2.2 := by omega
theorem saX12_clauseAt (G : GT) (x : CS) : wcc G 82 x = .inl (G.2.1 0, 72, .inl x.1) := rfl
theorem laX12_clauseAt {G : GT} (hN : 119 ≤ G.2.2.2.2.2) : 82 < G.2.2.2.2.2 := by omega
theorem saX12_nearYears (G : GT) (x : CS) : wcc G 83 x = .inl (G.2.1 0, 6, .inl x.1) := rfl
theorem laX12_nearYears {G : GT} (hN : 119 ≤ G.2.2.2.2.2) : 83 < G.2.2.2.2.2 := by omega
theorem saX12_pastYears (G : GT) (x : CS) : wcc G 84 x = .inl (G.2.1 0, 6, .inl x.1) := rfl
theorem laX12_pastYears {G : GT} (hN : 119 ≤ G.2.2.2.2.2) : 84 < G.2.2.2.2.2 := by omega
theorem saX12_order (G : GT) (x : CS) : wcc G 85 x = .inl (G.2.1 0, 2400, .inl x.1) := rfl
theorem laX12_order {G : GT} (hN : 119 ≤ G.2.2.2.2.2) : 85 < G.2.2.2.2.2 := by omega
theorem saX12_value (G : GT) (x : CS) : wcc G 86 x = .inl (G.2.1 0, 2400, .inl x.1) := rfl
theorem laX12_value {G : GT} (hN : 119 ≤ G.2.2.2.2.2) : 86 < G.2.2.2.2.2 := by omega
theorem saX12_frame (G : GT) (x : CS) : wcc G 87 x = .inl (G.2.1 0, 40, .inl x.1) := rfl
theorem laX12_frame {G : GT} (hN : 119 ≤ G.2.2.2.2.2) : 87 < G.2.2.2.2.2 := by omega
theorem saX12_minOrMax (G : GT) (x : CS) : wcc G 88 x = .inl (G.2.1 0, 41, .inl x.1) := rfl
theorem laX12_minOrMax {G : GT} (hN : 119 ≤ G.2.2.2.2.2) : 88 < G.2.2.2.2.2 := by omega
theorem saX12_compare (G : GT) (x : CS) : wcc G 89 x = .inl (G.2.1 0, 41, .inl x.1) := rfl
theorem laX12_compare {G : GT} (hN : 119 ≤ G.2.2.2.2.2) : 89 < G.2.2.2.2.2 := by omega
theorem saX12_wait (G : GT) (x : CS) : wcc G 90 x = .inl (G.2.1 0, 80, .inl x.1) := rfl
theorem laX12_wait {G : GT} (hN : 119 ≤ G.2.2.2.2.2) : 90 < G.2.2.2.2.2 := by omega
theorem saX12_waitFrame (G : GT) (x : CS) : wcc G 91 x = .inl (G.2.1 0, 80, .inl x.1) := rfl
theorem laX12_waitFrame {G : GT} (hN : 119 ≤ G.2.2.2.2.2) : 91 < G.2.2.2.2.2 := by omega
theorem saX12_newWord (G : GT) (x : CS) : wcc G 92 x = .inl (G.2.1 0, 12, .inl x.1) := rfl
theorem laX12_newWord {G : GT} (hN : 119 ≤ G.2.2.2.2.2) : 92 < G.2.2.2.2.2 := by omega
theorem saX12_newAt (G : GT) (x : CS) : wcc G 93 x = .inl (G.2.1 0, 12, .inl x.1) := rfl
theorem laX12_newAt {G : GT} (hN : 119 ≤ G.2.2.2.2.2) : 93 < G.2.2.2.2.2 := by omega
theorem saX12_newOrder (G : GT) (x : CS) : wcc G 94 x = .inl (G.2.1 0, 400, .inl x.1) := rfl
theorem laX12_newOrder {G : GT} (hN : 119 ≤ G.2.2.2.2.2) : 94 < G.2.2.2.2.2 := by omega
theorem saX12_newValue (G : GT) (x : CS) : wcc G 95 x = .inl (G.2.1 0, 400, .inl x.1) := rfl
theorem laX12_newValue {G : GT} (hN : 119 ≤ G.2.2.2.2.2) : 95 < G.2.2.2.2.2 := by omega
theorem saX12_name (G : GT) (x : CS) : wcc G 96 x = .inl (G.2.1 1, 14, .inr (.inl x.2.1)) := rfl
theorem laX12_name {G : GT} (hN : 119 ≤ G.2.2.2.2.2) : 96 < G.2.2.2.2.2 := by omega
theorem saX12_pile (G : GT) (x : CS) : wcc G 97 x = .inl (G.2.1 1, 200, .inr (.inl x.2.1)) := rfl
theorem laX12_pile {G : GT} (hN : 119 ≤ G.2.2.2.2.2) : 97 < G.2.2.2.2.2 := by omega
theorem saX12_given (G : GT) (x : CS) : wcc G 98 x = .inl (G.2.1 0, 19392, .inl x.1) := rfl
theorem laX12_given {G : GT} (hN : 119 ≤ G.2.2.2.2.2) : 98 < G.2.2.2.2.2 := by omega
theorem saX12_together (G : GT) (x : CS) : wcc G 99 x = .inl (G.2.1 0, 1616, .inl x.1) := rfl
theorem laX12_together {G : GT} (hN : 119 ≤ G.2.2.2.2.2) : 99 < G.2.2.2.2.2 := by omega
theorem saX12_inPlace (G : GT) (x : CS) : wcc G 100 x = .inl (G.2.1 0, 4848, .inl x.1) := rfl
theorem laX12_inPlace {G : GT} (hN : 119 ≤ G.2.2.2.2.2) : 100 < G.2.2.2.2.2 := by omega
theorem saX12_inStanding (G : GT) (x : CS) : wcc G 101 x = .inl (G.2.1 0, 3232, .inl x.1) := rfl
theorem laX12_inStanding {G : GT} (hN : 119 ≤ G.2.2.2.2.2) : 101 < G.2.2.2.2.2 := by omega
theorem saX12_inSex (G : GT) (x : CS) : wcc G 102 x = .inl (G.2.1 0, 3232, .inl x.1) := rfl
theorem laX12_inSex {G : GT} (hN : 119 ≤ G.2.2.2.2.2) : 102 < G.2.2.2.2.2 := by omega
theorem saX12_nameless (G : GT) (x : CS) : wcc G 103 x = .inl (G.2.1 0, 61, .inl x.1) := rfl
theorem laX12_nameless {G : GT} (hN : 119 ≤ G.2.2.2.2.2) : 103 < G.2.2.2.2.2 := by omega
theorem saX12_tasteOf (G : GT) (x : CS) : wcc G 104 x = .inl (G.2.1 0, 2, .inl x.1) := rfl
theorem laX12_tasteOf {G : GT} (hN : 119 ≤ G.2.2.2.2.2) : 104 < G.2.2.2.2.2 := by omega
theorem saX12_nearAhead (G : GT) (x : CS) : wcc G 105 x = .inl (G.2.1 0, 96, .inl x.1) := rfl
theorem laX12_nearAhead {G : GT} (hN : 119 ≤ G.2.2.2.2.2) : 105 < G.2.2.2.2.2 := by omega
theorem saX12_standingAhead (G : GT) (x : CS) : wcc G 106 x = .inl (G.2.1 0, 64, .inl x.1) := rfl
theorem laX12_standingAhead {G : GT} (hN : 119 ≤ G.2.2.2.2.2) : 106 < G.2.2.2.2.2 := by omega
theorem saX12_oldOnes (G : GT) (x : CS) : wcc G 107 x = .inl (G.2.1 0, 32, .inl x.1) := rfl
theorem laX12_oldOnes {G : GT} (hN : 119 ≤ G.2.2.2.2.2) : 107 < G.2.2.2.2.2 := by omega
theorem saX12_sexAhead (G : GT) (x : CS) : wcc G 108 x = .inl (G.2.1 0, 32, .inl x.1) := rfl
theorem laX12_sexAhead {G : GT} (hN : 119 ≤ G.2.2.2.2.2) : 108 < G.2.2.2.2.2 := by omega
theorem saX12_goneFor (G : GT) (x : CS) : wcc G 109 x = .inl (G.2.1 0, 16, .inl x.1) := rfl
theorem laX12_goneFor {G : GT} (hN : 119 ≤ G.2.2.2.2.2) : 109 < G.2.2.2.2.2 := by omega
theorem saX12_rises (G : GT) (x : CS) : wcc G 110 x = .inl (G.2.1 0, 16, .inl x.1) := rfl
theorem laX12_rises {G : GT} (hN : 119 ≤ G.2.2.2.2.2) : 110 < G.2.2.2.2.2 := by omega
theorem saX12_soundsNow (G : GT) (x : CS) : wcc G 111 x = .inl (G.2.1 0, 16, .inl x.1) := rfl
theorem laX12_soundsNow {G : GT} (hN : 119 ≤ G.2.2.2.2.2) : 111 < G.2.2.2.2.2 := by omega
theorem saX12_filmNow (G : GT) (x : CS) : wcc G 112 x = .inl (G.2.1 0, 16, .inl x.1) := rfl
theorem laX12_filmNow {G : GT} (hN : 119 ≤ G.2.2.2.2.2) : 112 < G.2.2.2.2.2 := by omega
theorem saX12_child (G : GT) (x : CS) : wcc G 113 x = .inl (G.2.1 0, 16, .inl x.1) := rfl
theorem laX12_child {G : GT} (hN : 119 ≤ G.2.2.2.2.2) : 113 < G.2.2.2.2.2 := by omega
theorem saX12_ways (G : GT) (x : CS) : wcc G 114 x = .inl (G.2.1 1, 2400, .inr (.inl x.2.1)) := rfl
theorem laX12_ways {G : GT} (hN : 119 ≤ G.2.2.2.2.2) : 114 < G.2.2.2.2.2 := by omega
theorem saX12_sum (G : GT) (x : CS) : wcc G 115 x = .inl (G.2.1 1, 30, .inr (.inl x.2.1)) := rfl
theorem laX12_sum {G : GT} (hN : 119 ≤ G.2.2.2.2.2) : 115 < G.2.2.2.2.2 := by omega
theorem saX12_rows (G : GT) (x : CS) : wcc G 116 x = .inl (G.2.1 1, 30, .inr (.inl x.2.1)) := rfl
theorem laX12_rows {G : GT} (hN : 119 ≤ G.2.2.2.2.2) : 116 < G.2.2.2.2.2 := by omega
theorem saX12_lowest (G : GT) (x : CS) : wcc G 117 x = .inl (G.2.1 0, 96, .inl x.1) := rfl
theorem laX12_lowest {G : GT} (hN : 119 ≤ G.2.2.2.2.2) : 117 < G.2.2.2.2.2 := by omega
theorem saX12_highest (G : GT) (x : CS) : wcc G 118 x = .inl (G.2.1 0, 96, .inl x.1) := rfl
theorem laX12_highest {G : GT} (hN : 119 ≤ G.2.2.2.2.2) : 118 < G.2.2.2.2.2 := by omega
theorem pxX0_3 (G : GT) (k : Nat) (x : CS) (v : Int32) : (fsX0 G k x).set 3 (.int v) = fsX0 G k (upd x.1 3 v, x.2) := rfl
theorem pxX2_0 (G : GT) (x : CS) (v : Int32) : (fsX2 G x).set 0 (.int v) = fsX2 G (upd x.1 0 v, x.2) := rfl
theorem pxX2_1 (G : GT) (x : CS) (v : Int32) : (fsX2 G x).set 1 (.int v) = fsX2 G (upd x.1 1 v, x.2) := rfl
theorem pxX2_2 (G : GT) (x : CS) (v : Int32) : (fsX2 G x).set 2 (.int v) = fsX2 G (upd x.1 2 v, x.2) := rfl
theorem pxX2_3 (G : GT) (x : CS) (v : Int32) : (fsX2 G x).set 3 (.int v) = fsX2 G (upd x.1 3 v, x.2) := rfl
theorem pxX2_4 (G : GT) (x : CS) (v : Int32) : (fsX2 G x).set 4 (.int v) = fsX2 G (upd x.1 4 v, x.2) := rfl
theorem pxX2_5 (G : GT) (x : CS) (v : Int32) : (fsX2 G x).set 5 (.int v) = fsX2 G (upd x.1 5 v, x.2) := rfl
theorem pxX2_6 (G : GT) (x : CS) (v : Int32) : (fsX2 G x).set 6 (.int v) = fsX2 G (upd x.1 6 v, x.2) := rfl
theorem pxX3_5 (G : GT) (x : CS) (a : Nat) : (fsX3 G x).set 5 (.ref (G.2.2.1 a)) = fsX3 G (x.1, x.2.1, va_up x.2.2 5 (some a)) := rfl
theorem pxX3_6 (G : GT) (x : CS) (v : Int32) : (fsX3 G x).set 6 (.int v) = fsX3 G (upd x.1 6 v, x.2) := rfl
theorem pxX3_7 (G : GT) (x : CS) (v : Int32) : (fsX3 G x).set 7 (.int v) = fsX3 G (upd x.1 7 v, x.2) := rfl
theorem pxX3_8 (G : GT) (x : CS) (a : Nat) : (fsX3 G x).set 8 (.ref (G.2.2.1 a)) = fsX3 G (x.1, x.2.1, va_up x.2.2 8 (some a)) := rfl
theorem pxX3_9 (G : GT) (x : CS) (v : Int32) : (fsX3 G x).set 9 (.int v) = fsX3 G (upd x.1 9 v, x.2) := rfl
theorem pxX3_10 (G : GT) (x : CS) (v : Int32) : (fsX3 G x).set 10 (.int v) = fsX3 G (upd x.1 10 v, x.2) := rfl
theorem pxX3_11 (G : GT) (x : CS) (v : Int32) : (fsX3 G x).set 11 (.int v) = fsX3 G (upd x.1 11 v, x.2) := rfl
theorem pxX3_12 (G : GT) (x : CS) (v : Int32) : (fsX3 G x).set 12 (.int v) = fsX3 G (upd x.1 12 v, x.2) := rfl
theorem pxX3_13 (G : GT) (x : CS) (v : Int32) : (fsX3 G x).set 13 (.int v) = fsX3 G (upd x.1 13 v, x.2) := rfl
theorem pxX4_0 (G : GT) (x : CS) (v : Int32) : (fsX4 G x).set 0 (.int v) = fsX4 G (upd x.1 0 v, x.2) := rfl
theorem pxX4_1 (G : GT) (x : CS) (v : Int32) : (fsX4 G x).set 1 (.int v) = fsX4 G (upd x.1 1 v, x.2) := rfl
theorem pxX4_8 (G : GT) (x : CS) (v : Int32) : (fsX4 G x).set 8 (.int v) = fsX4 G (upd x.1 8 v, x.2) := rfl
theorem pxX4_11 (G : GT) (x : CS) (v : Int32) : (fsX4 G x).set 11 (.int v) = fsX4 G (upd x.1 11 v, x.2) := rfl
theorem pxX5_0 (G : GT) (x : CS) (v : Int32) : (fsX5 G x).set 0 (.int v) = fsX5 G (upd x.1 0 v, x.2) := rfl
theorem pxX6_3 (G : GT) (x : CS) (v : Int32) : (fsX6 G x).set 3 (.int v) = fsX6 G (upd x.1 3 v, x.2) := rfl
theorem pxX6_4 (G : GT) (x : CS) (v : Int32) : (fsX6 G x).set 4 (.int v) = fsX6 G (upd x.1 4 v, x.2) := rfl
theorem pxX6_5 (G : GT) (x : CS) (v : Int32) : (fsX6 G x).set 5 (.int v) = fsX6 G (upd x.1 5 v, x.2) := rfl
theorem pxX7_0 (G : GT) (x : CS) (v : Int32) : (fsX7 G x).set 0 (.int v) = fsX7 G (upd x.1 0 v, x.2) := rfl
theorem pxX7_6 (G : GT) (x : CS) (v : Int32) : (fsX7 G x).set 6 (.int v) = fsX7 G (upd x.1 6 v, x.2) := rfl
theorem pxX8_1 (G : GT) (x : CS) (v : Int32) : (fsX8 G x).set 1 (.int v) = fsX8 G (upd x.1 1 v, x.2) := rfl
theorem pxX8_2 (G : GT) (x : CS) (v : Int32) : (fsX8 G x).set 2 (.int v) = fsX8 G (upd x.1 2 v, x.2) := rfl
theorem pxX8_3 (G : GT) (x : CS) (v : Int32) : (fsX8 G x).set 3 (.int v) = fsX8 G (upd x.1 3 v, x.2) := rfl
theorem pxX8_7 (G : GT) (x : CS) (v : Int32) : (fsX8 G x).set 7 (.int v) = fsX8 G (upd x.1 7 v, x.2) := rfl
theorem pxX8_8 (G : GT) (x : CS) (v : Int32) : (fsX8 G x).set 8 (.int v) = fsX8 G (upd x.1 8 v, x.2) := rfl
theorem pxX8_9 (G : GT) (x : CS) (a : Nat) : (fsX8 G x).set 9 (.ref (G.2.2.1 a)) = fsX8 G (x.1, x.2.1, va_up x.2.2 9 (some a)) := rfl
theorem pxX8_10 (G : GT) (x : CS) (v : Int32) : (fsX8 G x).set 10 (.int v) = fsX8 G (upd x.1 10 v, x.2) := rfl
theorem pxX9_1 (G : GT) (k : Nat) (x : CS) (v : Int32) : (fsX9 G k x).set 1 (.int v) = fsX9 G k (upd x.1 1 v, x.2) := rfl
theorem pxX9_2 (G : GT) (k : Nat) (x : CS) (v : Int32) : (fsX9 G k x).set 2 (.int v) = fsX9 G k (upd x.1 2 v, x.2) := rfl
theorem pxX9_3 (G : GT) (k : Nat) (x : CS) (v : Int32) : (fsX9 G k x).set 3 (.int v) = fsX9 G k (upd x.1 3 v, x.2) := rfl
theorem pxX10_10 (G : GT) (x : CS) (v : Int32) : (fsX10 G x).set 10 (.int v) = fsX10 G (upd x.1 10 v, x.2) := rfl
theorem pxX11_5 (G : GT) (x : CS) (v : Int32) : (fsX11 G x).set 5 (.int v) = fsX11 G (upd x.1 5 v, x.2) := rfl
theorem pxX12_4 (G : GT) (x : CS) (v : Int32) : (fsX12 G x).set 4 (.int v) = fsX12 G (upd x.1 4 v, x.2) := rfl
theorem pxX12_5 (G : GT) (x : CS) (v : Int32) : (fsX12 G x).set 5 (.int v) = fsX12 G (upd x.1 5 v, x.2) := rfl
theorem pxX12_6 (G : GT) (x : CS) (v : Int32) : (fsX12 G x).set 6 (.int v) = fsX12 G (upd x.1 6 v, x.2) := rfl
theorem pxX12_14 (G : GT) (x : CS) (v : Int32) : (fsX12 G x).set 14 (.int v) = fsX12 G (upd x.1 14 v, x.2) := rfl
theorem pxX12_15 (G : GT) (x : CS) (v : Int32) : (fsX12 G x).set 15 (.int v) = fsX12 G (upd x.1 15 v, x.2) := rfl
theorem pxX12_16 (G : GT) (x : CS) (v : Int32) : (fsX12 G x).set 16 (.int v) = fsX12 G (upd x.1 16 v, x.2) := rfl
theorem pxX12_17 (G : GT) (x : CS) (v : Int32) : (fsX12 G x).set 17 (.int v) = fsX12 G (upd x.1 17 v, x.2) := rfl
theorem pxX12_18 (G : GT) (x : CS) (v : Int32) : (fsX12 G x).set 18 (.int v) = fsX12 G (upd x.1 18 v, x.2) := rfl
theorem pxX12_19 (G : GT) (x : CS) (v : Int32) : (fsX12 G x).set 19 (.int v) = fsX12 G (upd x.1 19 v, x.2) := rfl
theorem pxX12_20 (G : GT) (x : CS) (v : Int32) : (fsX12 G x).set 20 (.int v) = fsX12 G (upd x.1 20 v, x.2) := rfl
theorem pxX12_21 (G : GT) (x : CS) (v : Int32) : (fsX12 G x).set 21 (.int v) = fsX12 G (upd x.1 21 v, x.2) := rfl
theorem pxX12_22 (G : GT) (x : CS) (v : Int32) : (fsX12 G x).set 22 (.int v) = fsX12 G (upd x.1 22 v, x.2) := rfl
theorem pxX12_26 (G : GT) (x : CS) (v : Int32) : (fsX12 G x).set 26 (.int v) = fsX12 G (upd x.1 26 v, x.2) := rfl
theorem pxX12_29 (G : GT) (x : CS) (v : Int32) : (fsX12 G x).set 29 (.int v) = fsX12 G (upd x.1 29 v, x.2) := rfl
theorem pxX12_30 (G : GT) (x : CS) (v : Int32) : (fsX12 G x).set 30 (.int v) = fsX12 G (upd x.1 30 v, x.2) := rfl
theorem pxX12_31 (G : GT) (x : CS) (v : Int32) : (fsX12 G x).set 31 (.int v) = fsX12 G (upd x.1 31 v, x.2) := rfl
theorem pxX12_32 (G : GT) (x : CS) (v : Int32) : (fsX12 G x).set 32 (.int v) = fsX12 G (upd x.1 32 v, x.2) := rfl
theorem pxX12_35 (G : GT) (x : CS) (v : Int32) : (fsX12 G x).set 35 (.int v) = fsX12 G (upd x.1 35 v, x.2) := rfl
theorem pxX12_55 (G : GT) (x : CS) (v : Int32) : (fsX12 G x).set 55 (.int v) = fsX12 G (upd x.1 55 v, x.2) := rfl
theorem pxX12_56 (G : GT) (x : CS) (v : Int32) : (fsX12 G x).set 56 (.int v) = fsX12 G (upd x.1 56 v, x.2) := rfl
theorem pxX12_57 (G : GT) (x : CS) (v : Int64) : (fsX12 G x).set 57 (.long v) = fsX12 G (x.1, vp_updL x.2.1 57 v, x.2.2) := rfl
