/-! what the law's entry gives: the classes, the array classes, the strings, the statics -/
theorem ent_arr {s : State} {args : Array Value} {ty : FieldType} (h : (Cond.arrayClass ty).before args s = true) : ∃ cA : ClassId, ArrOfT s cA ty ∧ s.vm.findClass ("[" ++ ty.toString) = some cA := by
  obtain ⟨c, k, comp, h1, h2, h3⟩ := Cond.arrayClass_spec h
  exact ⟨c, fun n z => ⟨fun k h => (by cases h), k, h2, comp, h3⟩, h1⟩
theorem ent_cl {s : State} {args : Array Value} (hts : ∀ w ∈ uW, w.before args s = true) : ∃ D : va_G, ∀ (c : Nat) (q : vw_C), vwCl[c]? = some q → u_Kn s q.1 q.2.1 q.2.2 (D.1 c) (D.2 c) := by
  obtain ⟨a0, b0, k0⟩ := u_known (C := RX0) (T := TX0) (N := 4) (n := 4) hts inX0 (hts _ in_X0)
  obtain ⟨a1, b1, k1⟩ := u_known (C := RX1) (T := TX1) (N := 4) (n := 4) hts inX1 (hts _ in_X1)
  obtain ⟨a2, b2, k2⟩ := u_known (C := RX2) (T := TX2) (N := 11) (n := 11) hts inX2 (hts _ in_X2)
  obtain ⟨a3, b3, k3⟩ := u_known (C := RX3) (T := TX3) (N := 14) (n := 14) hts inX3 (hts _ in_X3)
  obtain ⟨a4, b4, k4⟩ := u_known (C := RX4) (T := TX4) (N := 15) (n := 15) hts inX4 (hts _ in_X4)
  obtain ⟨a5, b5, k5⟩ := u_known (C := RX5) (T := TX5) (N := 8) (n := 8) hts inX5 (hts _ in_X5)
  obtain ⟨a6, b6, k6⟩ := u_known (C := RX6) (T := TX6) (N := 6) (n := 6) hts inX6 (hts _ in_X6)
  obtain ⟨a7, b7, k7⟩ := u_known (C := RX7) (T := TX7) (N := 7) (n := 7) hts inX7 (hts _ in_X7)
  obtain ⟨a8, b8, k8⟩ := u_known (C := RX8) (T := TX8) (N := 11) (n := 11) hts inX8 (hts _ in_X8)
  obtain ⟨a9, b9, k9⟩ := u_known (C := RX9) (T := TX9) (N := 4) (n := 4) hts inX9 (hts _ in_X9)
  obtain ⟨a10, b10, k10⟩ := u_known (C := RX10) (T := TX10) (N := 11) (n := 11) hts inX10 (hts _ in_X10)
  obtain ⟨a11, b11, k11⟩ := u_known (C := RX11) (T := TX11) (N := 13) (n := 13) hts inX11 (hts _ in_X11)
  obtain ⟨a12, b12, k12⟩ := u_known (C := RX12) (T := TX12) (N := 64) (n := 64) hts inX12 (hts _ in_X12)
  have h : ∀ c : Nat, ∃ d : ClassId × (Nat → Nat), ∀ q : vw_C, vwCl[c]? = some q → u_Kn s q.1 q.2.1 q.2.2 d.1 d.2 := by
    intro c
    match c with
    | 0 => exact ⟨(a0, b0), fun q hq => by cases hq; exact k0⟩
    | 1 => exact ⟨(a1, b1), fun q hq => by cases hq; exact k1⟩
    | 2 => exact ⟨(a2, b2), fun q hq => by cases hq; exact k2⟩
    | 3 => exact ⟨(a3, b3), fun q hq => by cases hq; exact k3⟩
    | 4 => exact ⟨(a4, b4), fun q hq => by cases hq; exact k4⟩
    | 5 => exact ⟨(a5, b5), fun q hq => by cases hq; exact k5⟩
    | 6 => exact ⟨(a6, b6), fun q hq => by cases hq; exact k6⟩
    | 7 => exact ⟨(a7, b7), fun q hq => by cases hq; exact k7⟩
    | 8 => exact ⟨(a8, b8), fun q hq => by cases hq; exact k8⟩
    | 9 => exact ⟨(a9, b9), fun q hq => by cases hq; exact k9⟩
    | 10 => exact ⟨(a10, b10), fun q hq => by cases hq; exact k10⟩
    | 11 => exact ⟨(a11, b11), fun q hq => by cases hq; exact k11⟩
    | 12 => exact ⟨(a12, b12), fun q hq => by cases hq; exact k12⟩
    | c + 13 => exact ⟨(a0, b0), fun q hq => by simp at hq⟩
  exact ⟨(fun c => (Classical.choose (h c)).1, fun c => (Classical.choose (h c)).2), fun c q hq => Classical.choose_spec (h c) q hq⟩
theorem ent_K {s : State} {args : Array Value} (hts : ∀ w ∈ uW, w.before args s = true) (hAO : va_AO "CradleNames$Taste" s) : ∃ (D : va_G) (a : Nat → ClassId), va_K D vwCl [(a 0, .int), (a 1, .long), (a 2, .byte), (a 3, .boolean), (a 4, .object "CradleNames$Taste")] s := by
  obtain ⟨D, hD⟩ := ent_cl hts
  obtain ⟨c0, x0, y0⟩ := ent_arr (hts _ ac_int)
  obtain ⟨c1, x1, y1⟩ := ent_arr (hts _ ac_long)
  obtain ⟨c2, x2, y2⟩ := ent_arr (hts _ ac_byte)
  obtain ⟨c3, x3, y3⟩ := ent_arr (hts _ ac_boolean)
  obtain ⟨comp, c4, k4, h1, h2, h3, h4, h5⟩ := Cond.arrayOver_spec hAO
  refine ⟨D, fun k => if k = 0 then c0 else if k = 1 then c1 else if k = 2 then c2 else if k = 3 then c3 else c4, hD, fun k q hq => ?_⟩
  match k, hq with
  | 0, hq => cases hq; exact ⟨x0, y0⟩
  | 1, hq => cases hq; exact ⟨x1, y1⟩
  | 2, hq => cases hq; exact ⟨x2, y2⟩
  | 3, hq => cases hq; exact ⟨x3, y3⟩
  | 4, hq => cases hq; exact ⟨fun n z => ⟨fun k h => (by cases h), k4, h3, comp, h4⟩, k4, comp, h3, h4, h1, h5⟩
  | k + 5, hq => simp at hq
theorem ent_t {w : Cond} (i : Nat) (h : tables_1[i]? = some w) : w ∈ lw_tbl := List.mem_append_right _ (List.mem_of_getElem? h)
def ent_F : List Cond := flatC (Jvm.Cond.and given_1 narrow_1)
theorem ent_n {w : Cond} (i : Nat) (h : ent_F[i]? = some w) : w ∈ ent_F := List.mem_of_getElem? h
theorem ent_el {n b : Nat} {f : Nat → Cond} (h : (ent_F.drop b).take n = (List.range n).map f) : ∀ j, j < n → f j ∈ ent_F := fun j hj =>
  List.mem_of_mem_drop (List.mem_of_mem_take (h ▸ List.mem_map.mpr ⟨j, List.mem_range.mpr hj, rfl⟩))
def ent_tm (i : Nat) : Term := if i = 0 then .string "CradleNames$Names" 50 else if i = 1 then .string "CradleNames$Names" 62 else if i = 2 then .string "CradleNames$Reader" 86 else .string "CradleNames$Reader" 78
theorem ent_4 {P : Nat → Prop} (h0 : P 0) (h1 : P 1) (h2 : P 2) (h3 : P 3) : ∀ i, i < 4 → P i
  | 0, _ => h0
  | 1, _ => h1
  | 2, _ => h2
  | 3, _ => h3
  | n + 4, hn => absurd hn (by omega)
theorem ent_ex0 : Cond.exactly (ent_tm 0) "java/lang/String" ∈ ent_F := ent_n 9 (by decide +kernel)
theorem ent_co0 : Cond.eq (.field (ent_tm 0) "java/lang/String" "coder" "B") (.int 0) ∈ ent_F := ent_n 10 (by decide +kernel)
theorem ent_ar0 : Cond.arrayOf (.field (ent_tm 0) "java/lang/String" "value" "[B") .byte ∈ ent_F := ent_n 11 (by decide +kernel)
theorem ent_le0 : Cond.eq (.length (.field (ent_tm 0) "java/lang/String" "value" "[B")) (.int (Int32.ofNat (sLen.getD 0 0))) ∈ ent_F := ent_n 12 (by decide +kernel)
theorem ent_by0 : ∀ j, j < sLen.getD 0 0 → Cond.eq (.elem (.field (ent_tm 0) "java/lang/String" "value" "[B") (.int (Int32.ofNat j))) (.int ((sByt.getD 0 []).getD j 0)) ∈ ent_F := ent_el (n := 6) (b := 13) (f := fun j => Cond.eq (.elem (.field (ent_tm 0) "java/lang/String" "value" "[B") (.int (Int32.ofNat j))) (.int ((sByt.getD 0 []).getD j 0))) (by decide +kernel)
theorem ent_ex1 : Cond.exactly (ent_tm 1) "java/lang/String" ∈ ent_F := ent_n 19 (by decide +kernel)
theorem ent_co1 : Cond.eq (.field (ent_tm 1) "java/lang/String" "coder" "B") (.int 0) ∈ ent_F := ent_n 20 (by decide +kernel)
theorem ent_ar1 : Cond.arrayOf (.field (ent_tm 1) "java/lang/String" "value" "[B") .byte ∈ ent_F := ent_n 21 (by decide +kernel)
theorem ent_le1 : Cond.eq (.length (.field (ent_tm 1) "java/lang/String" "value" "[B")) (.int (Int32.ofNat (sLen.getD 1 0))) ∈ ent_F := ent_n 22 (by decide +kernel)
theorem ent_by1 : ∀ j, j < sLen.getD 1 0 → Cond.eq (.elem (.field (ent_tm 1) "java/lang/String" "value" "[B") (.int (Int32.ofNat j))) (.int ((sByt.getD 1 []).getD j 0)) ∈ ent_F := ent_el (n := 26) (b := 23) (f := fun j => Cond.eq (.elem (.field (ent_tm 1) "java/lang/String" "value" "[B") (.int (Int32.ofNat j))) (.int ((sByt.getD 1 []).getD j 0))) (by decide +kernel)
theorem ent_ex2 : Cond.exactly (ent_tm 2) "java/lang/String" ∈ ent_F := ent_n 50 (by decide +kernel)
theorem ent_co2 : Cond.eq (.field (ent_tm 2) "java/lang/String" "coder" "B") (.int 0) ∈ ent_F := ent_n 51 (by decide +kernel)
theorem ent_ar2 : Cond.arrayOf (.field (ent_tm 2) "java/lang/String" "value" "[B") .byte ∈ ent_F := ent_n 52 (by decide +kernel)
theorem ent_le2 : Cond.eq (.length (.field (ent_tm 2) "java/lang/String" "value" "[B")) (.int (Int32.ofNat (sLen.getD 2 0))) ∈ ent_F := ent_n 53 (by decide +kernel)
theorem ent_by2 : ∀ j, j < sLen.getD 2 0 → Cond.eq (.elem (.field (ent_tm 2) "java/lang/String" "value" "[B") (.int (Int32.ofNat j))) (.int ((sByt.getD 2 []).getD j 0)) ∈ ent_F := ent_el (n := 110) (b := 54) (f := fun j => Cond.eq (.elem (.field (ent_tm 2) "java/lang/String" "value" "[B") (.int (Int32.ofNat j))) (.int ((sByt.getD 2 []).getD j 0))) (by decide +kernel)
theorem ent_ex3 : Cond.exactly (ent_tm 3) "java/lang/String" ∈ ent_F := ent_n 166 (by decide +kernel)
theorem ent_co3 : Cond.eq (.field (ent_tm 3) "java/lang/String" "coder" "B") (.int 0) ∈ ent_F := ent_n 167 (by decide +kernel)
theorem ent_ar3 : Cond.arrayOf (.field (ent_tm 3) "java/lang/String" "value" "[B") .byte ∈ ent_F := ent_n 168 (by decide +kernel)
theorem ent_le3 : Cond.eq (.length (.field (ent_tm 3) "java/lang/String" "value" "[B")) (.int (Int32.ofNat (sLen.getD 3 0))) ∈ ent_F := ent_n 169 (by decide +kernel)
theorem ent_by3 : ∀ j, j < sLen.getD 3 0 → Cond.eq (.elem (.field (ent_tm 3) "java/lang/String" "value" "[B") (.int (Int32.ofNat j))) (.int ((sByt.getD 3 []).getD j 0)) ∈ ent_F := ent_el (n := 10) (b := 170) (f := fun j => Cond.eq (.elem (.field (ent_tm 3) "java/lang/String" "value" "[B") (.int (Int32.ofNat j))) (.int ((sByt.getD 3 []).getD j 0))) (by decide +kernel)
theorem ent_ne01 : Cond.not (Cond.eq (ent_tm 0) (ent_tm 1)) ∈ ent_F := ent_n 49 (by decide +kernel)
theorem ent_ne02 : Cond.not (Cond.eq (ent_tm 0) (ent_tm 2)) ∈ ent_F := ent_n 164 (by decide +kernel)
theorem ent_ne03 : Cond.not (Cond.eq (ent_tm 0) (ent_tm 3)) ∈ ent_F := ent_n 180 (by decide +kernel)
theorem ent_ne12 : Cond.not (Cond.eq (ent_tm 1) (ent_tm 2)) ∈ ent_F := ent_n 165 (by decide +kernel)
theorem ent_ne13 : Cond.not (Cond.eq (ent_tm 1) (ent_tm 3)) ∈ ent_F := ent_n 181 (by decide +kernel)
theorem ent_ne23 : Cond.not (Cond.eq (ent_tm 2) (ent_tm 3)) ∈ ent_F := ent_n 182 (by decide +kernel)
theorem ent_cs : Cond.eq (.static "java/lang/String" "COMPACT_STRINGS" "Z") (.int 1) ∈ ent_F := ent_n 4 (by decide +kernel)
theorem ent_sf : Cond.isRef (.static "jdk/internal/util/Preconditions" "SIOOBE_FORMATTER" "Ljava/util/function/BiFunction;") ∈ ent_F := ent_n 5 (by decide +kernel)
theorem ent_ls1 : Cond.laysStatic "java/lang/String" "COMPACT_STRINGS" "Z" ∈ lw_tbl := ent_t 538 (by decide +kernel)
theorem ent_ls2 : Cond.laysStatic "jdk/internal/util/Preconditions" "SIOOBE_FORMATTER" "Ljava/util/function/BiFunction;" ∈ lw_tbl := ent_t 581 (by decide +kernel)
theorem ent_in1 : Cond.initialized "java/lang/String" ∈ lw_tbl := ent_t 16 (by decide +kernel)
theorem ent_in2 : Cond.initialized "jdk/internal/util/Preconditions" ∈ lw_tbl := ent_t 20 (by decide +kernel)
theorem ent_ao : Cond.arrayOver (.object "CradleNames$Taste") ∈ lw_tbl := ent_t 169 (by decide +kernel)
theorem ent_sr0 : Cond.stringRef "CradleNames$Names" 50 "aeiouy" ∈ lw_tbl := ent_t 521 (by decide +kernel)
theorem ent_sr1 : Cond.stringRef "CradleNames$Names" 62 "abgdibghijglmmobgrsdobosis" ∈ lw_tbl := ent_t 615 (by decide +kernel)
theorem ent_sr2 : Cond.stringRef "CradleNames$Reader" 86 "near far  up   same girlsboys old  all  gone rise soundfilm long year worthbar  past or   and  not  min  max  " ∈ lw_tbl := ent_t 757 (by decide +kernel)
theorem ent_sr3 : Cond.stringRef "CradleNames$Reader" 78 "=#+-*/(),;" ∈ lw_tbl := ent_t 763 (by decide +kernel)
theorem ent_ne {s : State} {args : Array Value} (hn : ∀ c ∈ ent_F, c.before args s = true) (i j : Nat) (hi : i < 4) (hj : j < 4) (hij : i ≠ j) : (Cond.not (Cond.eq (ent_tm i) (ent_tm j))).before args s = true ∨ (Cond.not (Cond.eq (ent_tm j) (ent_tm i))).before args s = true := by
  rcases (show i = 0 ∨ i = 1 ∨ i = 2 ∨ i = 3 by omega) with e | e | e | e <;> rcases (show j = 0 ∨ j = 1 ∨ j = 2 ∨ j = 3 by omega) with e2 | e2 | e2 | e2 <;> subst e <;> subst e2
  · exact absurd rfl hij
  · exact Or.inl (hn _ ent_ne01)
  · exact Or.inl (hn _ ent_ne02)
  · exact Or.inl (hn _ ent_ne03)
  · exact Or.inr (hn _ ent_ne01)
  · exact absurd rfl hij
  · exact Or.inl (hn _ ent_ne12)
  · exact Or.inl (hn _ ent_ne13)
  · exact Or.inr (hn _ ent_ne02)
  · exact Or.inr (hn _ ent_ne12)
  · exact absurd rfl hij
  · exact Or.inl (hn _ ent_ne23)
  · exact Or.inr (hn _ ent_ne03)
  · exact Or.inr (hn _ ent_ne13)
  · exact Or.inr (hn _ ent_ne23)
  · exact absurd rfl hij
theorem ent_Ex {s : State} {args : Array Value} {A : Nat → Prop} (hts : ∀ w ∈ lw_tbl, w.before args s = true) (hgv : (Jvm.Cond.and given_1 narrow_1).before args s = true) (hA : ∀ a : Nat, a < s.heap.size → ¬ A a) : ∃ adK adV : Nat → Nat, ∀ (D : va_G) (a : Nat → ClassId), Ex (gB (D, a, adK, adV) (fun q => q) 0) A s s.heap := by
  have hn : ∀ c ∈ ent_F, c.before args s = true := flat_of_before _ hgv
  obtain ⟨adK, adV, hS, hE⟩ := vk_Sof (args := args) (s := s) (N := 4) (tm := ent_tm) (len := sLen) (byt := sByt) (A := A) (ent_4 (by decide) (by decide) (by decide) (by decide))
    (ent_4 (hn _ ent_ex0) (hn _ ent_ex1) (hn _ ent_ex2) (hn _ ent_ex3)) (ent_4 (hn _ ent_co0) (hn _ ent_co1) (hn _ ent_co2) (hn _ ent_co3)) (ent_4 (hn _ ent_ar0) (hn _ ent_ar1) (hn _ ent_ar2) (hn _ ent_ar3)) (ent_4 (hn _ ent_le0) (hn _ ent_le1) (hn _ ent_le2) (hn _ ent_le3))
    (ent_4 (fun j hj => hn _ (ent_by0 j hj)) (fun j hj => hn _ (ent_by1 j hj)) (fun j hj => hn _ (ent_by2 j hj)) (fun j hj => hn _ (ent_by3 j hj)))
    (ent_ne hn) hA
  refine ⟨adK, adV, fun D a => ⟨hS, va_Zof (hts _ ent_ls1) (hts _ ent_in1) (va_eqt (hn _ ent_cs)) hA, va_Zqof (hts _ ent_ls2) (hts _ ent_in2) (hn _ ent_sf) hA, ?_, ?_, ?_, ?_⟩⟩
  · exact vk_R.of (hts _ ent_sr0) (hE 0 (by decide))
  · exact vk_R.of (hts _ ent_sr1) (hE 1 (by decide))
  · exact vk_R.of (hts _ ent_sr2) (hE 2 (by decide))
  · exact vk_R.of (hts _ ent_sr3) (hE 3 (by decide))
