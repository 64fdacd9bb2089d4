theorem rm_le {X : XT} {l : Launch} {d d' : Nat} (h : Rm X l d) (hd : d' ≤ d) : Rm X l d' := by
  obtain ⟨p, l, e, R, s, m, args, below, meth, c, nL, A, Q, kc, ks⟩ := X
  obtain ⟨h1, h2, h3, h4, h5⟩ := h
  exact ⟨h1, by omega, by omega, h4, h5⟩
theorem go_sval {X : XT} {G : GT} {cc : ByteArray} {own : String} {pc : Nat} {lv : List (Nat × Value)} {st : List Value} {σ : St} (C : Cx X G cc own) {j index : Nat} (hj : j < 4) (hw : Cond.fieldLink own index "java/lang/String" "value" "[B" ∈ uW) (hd : decode cc pc = .ok (.getfield index, 3)) (kk : Go X G (pc + 3) lv (.ref (G.2.2.2.2.1 j) :: st) σ) : Go X G pc lv (.ref (G.2.2.2.1 j) :: st) σ := by
  obtain ⟨p, l, e, R, s, m, args, below, meth, c, nL, A, Q, kc, ks⟩ := X
  exact fun H locs ls hP hS hl => vk_getf C.1 C.2.1 (C.2.2.2.2.2.2.2.2.2.1.1 j hj).2.2.1 hS C.2.2.2.1 (C.2.2.2.2.1 _ hw) (fun _ h => h) hd (kk H locs ls hP hS hl)
theorem go_scod {X : XT} {G : GT} {cc : ByteArray} {own : String} {pc : Nat} {lv : List (Nat × Value)} {st : List Value} {σ : St} (C : Cx X G cc own) {j index : Nat} (hj : j < 4) (hw : Cond.fieldLink own index "java/lang/String" "coder" "B" ∈ uW) (hd : decode cc pc = .ok (.getfield index, 3)) (kk : Go X G (pc + 3) lv (.int 0 :: st) σ) : Go X G pc lv (.ref (G.2.2.2.1 j) :: st) σ := by
  obtain ⟨p, l, e, R, s, m, args, below, meth, c, nL, A, Q, kc, ks⟩ := X
  exact fun H locs ls hP hS hl => vk_getf C.1 C.2.1 (C.2.2.2.2.2.2.2.2.2.1.1 j hj).2.1 hS C.2.2.2.1 (C.2.2.2.2.1 _ hw) (fun _ h => h) hd (kk H locs ls hP hS hl)
theorem go_scmp {X : XT} {G : GT} {cc : ByteArray} {own : String} {pc : Nat} {lv : List (Nat × Value)} {st : List Value} {σ : St} (C : Cx X G cc own) {index : Nat} (hw : Cond.fieldLink own index "java/lang/String" "COMPACT_STRINGS" "Z" ∈ uW) (hd : decode cc pc = .ok (.getstatic index, 3)) (kk : Go X G (pc + 3) lv (.int 1 :: st) σ) : Go X G pc lv st σ := by
  obtain ⟨p, l, e, R, s, m, args, below, meth, c, nL, A, Q, kc, ks⟩ := X
  exact fun H locs ls hP hS hl => va_gets C.1 C.2.1 C.2.2.2.2.2.2.2.2.2.2.1 hS C.2.2.2.1 (C.2.2.2.2.1 _ hw) (fun _ h => h) hd (kk H locs ls hP hS hl)
theorem go_sfmt {X : XT} {G : GT} {cc : ByteArray} {own : String} {pc : Nat} {lv : List (Nat × Value)} {st : List Value} {σ : St} (C : Cx X G cc own) {index : Nat} (hw : Cond.fieldLink own index "jdk/internal/util/Preconditions" "SIOOBE_FORMATTER" "Ljava/util/function/BiFunction;" ∈ uW) (hd : decode cc pc = .ok (.getstatic index, 3)) (kn : Go X G (pc + 3) lv (.null :: st) σ) (kr : ∀ t, Go X G (pc + 3) lv (.ref t :: st) σ) : Go X G pc lv st σ := by
  obtain ⟨p, l, e, R, s, m, args, below, meth, c, nL, A, Q, kc, ks⟩ := X
  refine fun H locs ls hP hS hl => ?_
  rcases C.2.2.2.2.2.2.2.2.2.2.2.1 with h | ⟨t, h⟩
  · exact va_gets C.1 C.2.1 h hS C.2.2.2.1 (C.2.2.2.2.1 _ hw) (fun _ h => h) hd (kn H locs ls hP hS hl)
  · exact va_gets C.1 C.2.1 h hS C.2.2.2.1 (C.2.2.2.2.1 _ hw) (fun _ h => h) hd (kr t H locs ls hP hS hl)
theorem go_sbald {X : XT} {G : GT} {cc : ByteArray} {own : String} {pc : Nat} {lv : List (Nat × Value)} {st : List Value} {σ : St} (C : Cx X G cc own) {j : Nat} {i : Int32} (hj : j < 4) (hin : vp_in i (sLen.getD j 0)) (hd : decode cc pc = .ok (.baload, 1)) (kk : Go X G (pc + 1) lv (.int ((sByt.getD j []).getD i.toNatClampNeg 0) :: st) σ) : Go X G pc lv (.int i :: .ref (G.2.2.2.2.1 j) :: st) σ := by
  obtain ⟨p, l, e, R, s, m, args, below, meth, c, nL, A, Q, kc, ks⟩ := X
  exact fun H locs ls hP hS hl => va_tb C.1 C.2.1 (C.2.2.2.2.2.2.2.2.2.1.1 j hj).2.2.2 hS hin rfl hd (kk H locs ls hP hS hl)
theorem go_sblen {X : XT} {G : GT} {cc : ByteArray} {own : String} {pc : Nat} {lv : List (Nat × Value)} {st : List Value} {σ : St} (C : Cx X G cc own) {j : Nat} (hj : j < 4) (hd : decode cc pc = .ok (.arraylength, 1)) (kk : Go X G (pc + 1) lv (.int (Int32.ofNat (sLen.getD j 0)) :: st) σ) : Go X G pc lv (.ref (G.2.2.2.2.1 j) :: st) σ := by
  obtain ⟨p, l, e, R, s, m, args, below, meth, c, nL, A, Q, kc, ks⟩ := X
  exact fun H locs ls hP hS hl => va_tlen C.1 C.2.1 (C.2.2.2.2.2.2.2.2.2.1.1 j hj).2.2.2 hS rfl hd (kk H locs ls hP hS hl)
theorem go_lds0 {X : XT} {G : GT} {cc : ByteArray} {pc : Nat} {lv : List (Nat × Value)} {st : List Value} {σ : St} (C : Cx X G cc "CradleNames$Names") (hd : decode cc pc = .ok (.ldc 50, 2)) (kk : Go X G (pc + 2) lv (.ref (G.2.2.2.1 0) :: st) σ) : Go X G pc lv st σ := by
  obtain ⟨p, l, e, R, s, m, args, below, meth, c, nL, A, Q, kc, ks⟩ := X
  exact fun H locs ls hP hS hl => va_ldcS C.1 C.2.1 C.2.2.2.1 (C.2.2.2.2.2.2.2.2.2.2.2.2.1) hd (kk H locs ls hP hS hl)
theorem go_lds1 {X : XT} {G : GT} {cc : ByteArray} {pc : Nat} {lv : List (Nat × Value)} {st : List Value} {σ : St} (C : Cx X G cc "CradleNames$Names") (hd : decode cc pc = .ok (.ldc 62, 2)) (kk : Go X G (pc + 2) lv (.ref (G.2.2.2.1 1) :: st) σ) : Go X G pc lv st σ := by
  obtain ⟨p, l, e, R, s, m, args, below, meth, c, nL, A, Q, kc, ks⟩ := X
  exact fun H locs ls hP hS hl => va_ldcS C.1 C.2.1 C.2.2.2.1 (C.2.2.2.2.2.2.2.2.2.2.2.2.2.1) hd (kk H locs ls hP hS hl)
theorem go_lds2 {X : XT} {G : GT} {cc : ByteArray} {pc : Nat} {lv : List (Nat × Value)} {st : List Value} {σ : St} (C : Cx X G cc "CradleNames$Reader") (hd : decode cc pc = .ok (.ldc 86, 2)) (kk : Go X G (pc + 2) lv (.ref (G.2.2.2.1 2) :: st) σ) : Go X G pc lv st σ := by
  obtain ⟨p, l, e, R, s, m, args, below, meth, c, nL, A, Q, kc, ks⟩ := X
  exact fun H locs ls hP hS hl => va_ldcS C.1 C.2.1 C.2.2.2.1 (C.2.2.2.2.2.2.2.2.2.2.2.2.2.2.1) hd (kk H locs ls hP hS hl)
theorem go_lds3 {X : XT} {G : GT} {cc : ByteArray} {pc : Nat} {lv : List (Nat × Value)} {st : List Value} {σ : St} (C : Cx X G cc "CradleNames$Reader") (hd : decode cc pc = .ok (.ldc 78, 2)) (kk : Go X G (pc + 2) lv (.ref (G.2.2.2.1 3) :: st) σ) : Go X G pc lv st σ := by
  obtain ⟨p, l, e, R, s, m, args, below, meth, c, nL, A, Q, kc, ks⟩ := X
  exact fun H locs ls hP hS hl => va_ldcS C.1 C.2.1 C.2.2.2.1 (C.2.2.2.2.2.2.2.2.2.2.2.2.2.2.2) hd (kk H locs ls hP hS hl)
theorem go_callT {X : XT} {G : GT} {cc : ByteArray} {own : String} {pc : Nat} {lv : List (Nat × Value)} {st stk : List Value} {σ : St} (C : Cx X G cc own) {l0 : Launch} {d d' index maxL n j : Nat} {y : MethodName} {bytes : ByteArray} {ret : Option FieldType} {as : List Value} {post : Option Value → St → Prop}
    (hR : Rm X l0 d) (hj : j < 4) (w : CwT own index y bytes maxL ret n) (hdd : d' + 1 ≤ d) (hmx : Nat.ble maxL 81 = true) (hn : as.length = n) (hstk : stk = as.reverse ++ .ref (G.2.2.2.1 j) :: st) (hst : (st.map fun v => v.category).sum ≤ 8) (hd : decode cc pc = .ok (.invokevirtual index, 3)) (M : Sp l0 G d' y bytes maxL ret (.ref (G.2.2.2.1 j) :: as) σ post) (kk : ∀ v τ, post v τ → Go X G (pc + 3) lv (v.toList ++ st) τ) : Go X G pc lv stk σ := by
  obtain ⟨p, l, e, R, s, m, args, below, meth, c, nL, A, Q, kc, ks⟩ := X
  obtain ⟨rfl, r1, r2, r3, r4⟩ := hR
  have hmx := Nat.le_of_ble_eq_true hmx
  obtain ⟨w0, w1, w2, w6, w3, w4, w5⟩ := w
  intro H locs ls hP hS hl
  obtain ⟨hF, hU⟩ := sp_pre C hP hS
  have hrc := vk_recv C.2.2.2.2.2.2.2.2.2.1 hj hS
  rw [← w0] at hrc
  exact w_call (A1 := va_A (wl G σ) H.size) (va_runV (C := y.cls) (As := as) (rest := st) ⟨C.1, C.2.1, C.2.2.1, C.2.2.2.1, C.2.2.2.2.1⟩ (M H.size) ⟨callB_of n C.2.2.2.2.1 (uW_code w4) rfl rfl rfl (C.2.2.2.2.1 _ w3) (C.2.2.2.2.1 _ w1) w5 ⟨by show d' + 1 ≤ R.frames; omega, by show 8 + (maxL + 11) + 100 * d' ≤ R.locals; omega⟩, C.2.2.2.2.1 _ w2, C.2.2.2.2.1 _ w6⟩ ⟨sp_blind, hrc, fun U h1 h2 => ⟨rfl, hU U h1 h2⟩⟩ rfl hn hl.1 hstk (lv_room hst) hd ⟨by omega, by omega⟩) hS (fun q _ h => hF q h) hF fun v τ H1 locs1 hp hP1 hS1 => kk v τ hp H1 locs1 ls hP1 hS1 hl
theorem cwX5_56 : CwT RX5 56 yJ0_indexOf_0f7a4 cJ0_indexOf_0f7a4 2 (some .int) 1 := ⟨rfl, uW_t3 45 (by decide +kernel) rfl, uW_t3 46 (by decide +kernel) rfl, uW_t3 47 (by decide +kernel) rfl, uW_t1 16 (by decide +kernel) rfl, uW_t3 48 (by decide +kernel) rfl, ⟨by decide, by decide, by decide +kernel⟩⟩
theorem cwX5_64 : CwT RX5 64 yJ0_length_8abf5 cJ0_length_8abf5 1 (some .int) 0 := ⟨rfl, uW_t3 136 (by decide +kernel) rfl, uW_t3 60 (by decide +kernel) rfl, uW_t3 61 (by decide +kernel) rfl, uW_t1 16 (by decide +kernel) rfl, uW_t3 62 (by decide +kernel) rfl, ⟨by decide, by decide, by decide +kernel⟩⟩
theorem cwX5_68 : CwT RX5 68 yJ0_charAt_5068e cJ0_charAt_5068e 2 (some .char) 1 := ⟨rfl, uW_t3 137 (by decide +kernel) rfl, uW_t3 138 (by decide +kernel) rfl, uW_t3 139 (by decide +kernel) rfl, uW_t1 16 (by decide +kernel) rfl, uW_t3 140 (by decide +kernel) rfl, ⟨by decide, by decide, by decide +kernel⟩⟩
theorem cwX8_80 : CwT RX8 80 yJ0_indexOf_0f7a4 cJ0_indexOf_0f7a4 2 (some .int) 1 := ⟨rfl, uW_t4 44 (by decide +kernel) rfl, uW_t3 46 (by decide +kernel) rfl, uW_t3 47 (by decide +kernel) rfl, uW_t1 16 (by decide +kernel) rfl, uW_t3 48 (by decide +kernel) rfl, ⟨by decide, by decide, by decide +kernel⟩⟩
theorem cwX8_88 : CwT RX8 88 yJ0_charAt_5068e cJ0_charAt_5068e 2 (some .char) 1 := ⟨rfl, uW_t4 38 (by decide +kernel) rfl, uW_t3 138 (by decide +kernel) rfl, uW_t3 139 (by decide +kernel) rfl, uW_t1 16 (by decide +kernel) rfl, uW_t3 140 (by decide +kernel) rfl, ⟨by decide, by decide, by decide +kernel⟩⟩
theorem cwJ0_335 : CwT RJ0 335 yJ0_coder_7d493 cJ0_coder_7d493 1 (some .byte) 0 := ⟨rfl, uW_t3 63 (by decide +kernel) rfl, uW_t3 64 (by decide +kernel) rfl, uW_t3 65 (by decide +kernel) rfl, uW_t1 16 (by decide +kernel) rfl, uW_t3 66 (by decide +kernel) rfl, ⟨by decide, by decide, by decide +kernel⟩⟩
theorem cwJ0_492 : CwT RJ0 492 yJ0_isLatin1_aae02 cJ0_isLatin1_aae02 1 (some .boolean) 0 := ⟨rfl, uW_t3 53 (by decide +kernel) rfl, uW_t3 54 (by decide +kernel) rfl, uW_t3 55 (by decide +kernel) rfl, uW_t1 16 (by decide +kernel) rfl, uW_t3 56 (by decide +kernel) rfl, ⟨by decide, by decide, by decide +kernel⟩⟩
theorem cwJ0_505 : CwT RJ0 505 yJ0_length_8abf5 cJ0_length_8abf5 1 (some .int) 0 := ⟨rfl, uW_t3 59 (by decide +kernel) rfl, uW_t3 60 (by decide +kernel) rfl, uW_t3 61 (by decide +kernel) rfl, uW_t1 16 (by decide +kernel) rfl, uW_t3 62 (by decide +kernel) rfl, ⟨by decide, by decide, by decide +kernel⟩⟩
theorem cwJ0_633 : CwT RJ0 633 yJ0_indexOf_7cf53 cJ0_indexOf_7cf53 3 (some .int) 2 := ⟨rfl, uW_t3 49 (by decide +kernel) rfl, uW_t3 50 (by decide +kernel) rfl, uW_t3 51 (by decide +kernel) rfl, uW_t1 16 (by decide +kernel) rfl, uW_t3 52 (by decide +kernel) rfl, ⟨by decide, by decide, by decide +kernel⟩⟩
theorem ls_value : Cond.fieldLink RJ0 9 "java/lang/String" "value" "[B" ∈ uW := uW_t9 33 (by decide +kernel) rfl
theorem ls_coder : Cond.fieldLink RJ0 15 "java/lang/String" "coder" "B" ∈ uW := uW_t9 32 (by decide +kernel) rfl
theorem ls_COMPACT_STRINGS : Cond.fieldLink RJ0 38 "java/lang/String" "COMPACT_STRINGS" "Z" ∈ uW := uW_t3 57 (by decide +kernel) rfl
theorem ls_fmt : Cond.fieldLink RJ0 1053 "jdk/internal/util/Preconditions" "SIOOBE_FORMATTER" "Ljava/util/function/BiFunction;" ∈ uW := uW_t3 100 (by decide +kernel) rfl
theorem ma_i : Cond.initialized "java/lang/Math" ∈ uW := uW_t1 18 (by decide +kernel) rfl
theorem ma_max_s : Cond.static Lib.Math.max.name ∈ uW := uW_t3 74 (by decide +kernel) rfl
theorem ma_max_c : Cond.code Lib.Math.max.name Lib.Math.max.code 2 (some .int) ∈ uW := uW_t3 75 (by decide +kernel) rfl
theorem go_mmax {X : XT} {G : GT} {cc : ByteArray} {own : String} {pc : Nat} {lv : List (Nat × Value)} {st : List Value} {σ : St} (C : Cx X G cc own) {x y : Int32} {index d : Nat} {l0 : Launch} (hR : Rm X l0 (d + 1)) (hw : Cond.methodLink own index Lib.Math.max.name ∈ uW) (hst : (st.map fun v => v.category).sum ≤ 8) (hd : decode cc pc = .ok (.invokestatic index, 3)) (kk : Go X G (pc + 3) lv (.int (if x < y then y else x) :: st) σ) : Go X G pc lv (.int y :: .int x :: st) σ := by
  obtain ⟨p, l, e, R, s, m, args, below, meth, c, nL, A, Q, kc, ks⟩ := X
  exact fun H locs ls hP hS hl => va_mmax C.1 C.2.1 (C.2.2.1.trans hl.1.symm) C.2.2.2.1 (C.2.2.2.2.1 _ hw) (C.2.2.2.2.1 _ ma_max_s) (C.2.2.2.2.1 _ ma_i) (C.2.2.2.2.1 _ ma_max_c) (by have := hR.2.1; omega) (by have := hR.2.2.1; omega) hR.2.2.2.1 hR.2.2.2.2 hd (kk H locs ls hP hS hl)
theorem ma_min_s : Cond.static Lib.Math.min.name ∈ uW := uW_t3 77 (by decide +kernel) rfl
theorem ma_min_c : Cond.code Lib.Math.min.name Lib.Math.min.code 2 (some .int) ∈ uW := uW_t3 78 (by decide +kernel) rfl
theorem go_mmin {X : XT} {G : GT} {cc : ByteArray} {own : String} {pc : Nat} {lv : List (Nat × Value)} {st : List Value} {σ : St} (C : Cx X G cc own) {x y : Int32} {index d : Nat} {l0 : Launch} (hR : Rm X l0 (d + 1)) (hw : Cond.methodLink own index Lib.Math.min.name ∈ uW) (hst : (st.map fun v => v.category).sum ≤ 8) (hd : decode cc pc = .ok (.invokestatic index, 3)) (kk : Go X G (pc + 3) lv (.int (if y < x then y else x) :: st) σ) : Go X G pc lv (.int y :: .int x :: st) σ := by
  obtain ⟨p, l, e, R, s, m, args, below, meth, c, nL, A, Q, kc, ks⟩ := X
  exact fun H locs ls hP hS hl => va_mmin C.1 C.2.1 (C.2.2.1.trans hl.1.symm) C.2.2.2.1 (C.2.2.2.2.1 _ hw) (C.2.2.2.2.1 _ ma_min_s) (C.2.2.2.2.1 _ ma_i) (C.2.2.2.2.1 _ ma_min_c) (by have := hR.2.1; omega) (by have := hR.2.2.1; omega) hR.2.2.2.1 hR.2.2.2.2 hd (kk H locs ls hP hS hl)
theorem ma_abs_s : Cond.static Lib.Math.abs.name ∈ uW := uW_t5 48 (by decide +kernel) rfl
theorem ma_abs_c : Cond.code Lib.Math.abs.name Lib.Math.abs.code 1 (some .int) ∈ uW := uW_t5 49 (by decide +kernel) rfl
theorem go_mabs {X : XT} {G : GT} {cc : ByteArray} {own : String} {pc : Nat} {lv : List (Nat × Value)} {st : List Value} {σ : St} (C : Cx X G cc own) {x : Int32} {index d : Nat} {l0 : Launch} (hR : Rm X l0 (d + 1)) (hw : Cond.methodLink own index Lib.Math.abs.name ∈ uW) (hst : (st.map fun v => v.category).sum ≤ 8) (hd : decode cc pc = .ok (.invokestatic index, 3)) (kk : Go X G (pc + 3) lv (.int (if 0 ≤ x then x else 0 - x) :: st) σ) : Go X G pc lv (.int x :: st) σ := by
  obtain ⟨p, l, e, R, s, m, args, below, meth, c, nL, A, Q, kc, ks⟩ := X
  exact fun H locs ls hP hS hl => va_mabs C.1 C.2.1 (C.2.2.1.trans hl.1.symm) C.2.2.2.1 (C.2.2.2.2.1 _ hw) (C.2.2.2.2.1 _ ma_abs_s) (C.2.2.2.2.1 _ ma_i) (C.2.2.2.2.1 _ ma_abs_c) (by have := hR.2.1; omega) (by have := hR.2.2.1; omega) hR.2.2.2.1 hR.2.2.2.2 hd (kk H locs ls hP hS hl)
theorem mlX0_48 : Cond.methodLink RX0 48 Lib.Math.max.name ∈ uW := uW_t3 209 (by decide +kernel) rfl
theorem mlX0_58 : Cond.methodLink RX0 58 Lib.Math.min.name ∈ uW := uW_t4 165 (by decide +kernel) rfl
theorem mlX3_104 : Cond.methodLink RX3 104 Lib.Math.min.name ∈ uW := uW_t4 185 (by decide +kernel) rfl
theorem mlX3_109 : Cond.methodLink RX3 109 Lib.Math.max.name ∈ uW := uW_t4 186 (by decide +kernel) rfl
theorem mlX5_76 : Cond.methodLink RX5 76 Lib.Math.min.name ∈ uW := uW_t3 190 (by decide +kernel) rfl
theorem mlX5_82 : Cond.methodLink RX5 82 Lib.Math.max.name ∈ uW := uW_t3 191 (by decide +kernel) rfl
theorem mlX8_73 : Cond.methodLink RX8 73 Lib.Math.min.name ∈ uW := uW_t4 42 (by decide +kernel) rfl
theorem mlX10_89 : Cond.methodLink RX10 89 Lib.Math.abs.name ∈ uW := uW_t5 47 (by decide +kernel) rfl
theorem mlX10_122 : Cond.methodLink RX10 122 Lib.Math.max.name ∈ uW := uW_t5 153 (by decide +kernel) rfl
theorem mlJ1_38 : Cond.methodLink RJ1 38 Lib.Math.min.name ∈ uW := uW_t3 76 (by decide +kernel) rfl
theorem mlJ1_92 : Cond.methodLink RJ1 92 Lib.Math.max.name ∈ uW := uW_t3 73 (by decide +kernel) rfl
theorem mlJ2_183 : Cond.methodLink RJ2 183 Lib.Math.min.name ∈ uW := uW_t3 86 (by decide +kernel) rfl
theorem mlJ2_224 : Cond.methodLink RJ2 224 Lib.Math.max.name ∈ uW := uW_t3 85 (by decide +kernel) rfl
theorem spJ3_checkIndex_8e157n {l : Launch} {G : GT} {d : Nat} {a1 a2 : Int32} {σ : St} {post : Int32 → St → Prop} (h1 : ¬ a1 < 0) (h2 : a1 < a2) (hw : post a1 σ) : Sp l G d yJ3_checkIndex_8e157 cJ3_checkIndex_8e157 3 (some .int) [.int a1, .int a2, .null] σ (fun v τ => ∃ r : Int32, v = some (.int r) ∧ post r τ) := by
  refine Sp.of (by decide) (Nat.le_of_ble_eq_true rfl) fun X C hr hR hnl => ?_
  show Go X G 0 [(0, .int a1), (1, .int a2), (2, .null)] [] σ
  refine go_iload_n C 0 rfl rfl dJ3_checkIndex_8e157_0 ?_
  refine go_if_lt C 9 rfl dJ3_checkIndex_8e157_1 (fun hc => absurd hc h1) (fun _ => ?_)
  refine go_iload_n C 0 rfl rfl dJ3_checkIndex_8e157_4 ?_
  refine go_iload_n C 1 rfl rfl dJ3_checkIndex_8e157_5 ?_
  refine go_icmp_lt C 16 rfl dJ3_checkIndex_8e157_6 (fun _ => ?_) (fun hc => absurd h2 hc)
  refine go_iload_n C 0 rfl rfl dJ3_checkIndex_8e157_16 ?_
  exact go_iret C hr ⟨_, rfl, hw⟩ dJ3_checkIndex_8e157_17
theorem spJ3_checkIndex_8e157r {l : Launch} {G : GT} {d : Nat} {a1 a2 : Int32} {t : Nat} {σ : St} {post : Int32 → St → Prop} (h1 : ¬ a1 < 0) (h2 : a1 < a2) (hw : post a1 σ) : Sp l G d yJ3_checkIndex_8e157 cJ3_checkIndex_8e157 3 (some .int) [.int a1, .int a2, .ref t] σ (fun v τ => ∃ r : Int32, v = some (.int r) ∧ post r τ) := by
  refine Sp.of (by decide) (Nat.le_of_ble_eq_true rfl) fun X C hr hR hnl => ?_
  show Go X G 0 [(0, .int a1), (1, .int a2), (2, .ref t)] [] σ
  refine go_iload_n C 0 rfl rfl dJ3_checkIndex_8e157_0 ?_
  refine go_if_lt C 9 rfl dJ3_checkIndex_8e157_1 (fun hc => absurd hc h1) (fun _ => ?_)
  refine go_iload_n C 0 rfl rfl dJ3_checkIndex_8e157_4 ?_
  refine go_iload_n C 1 rfl rfl dJ3_checkIndex_8e157_5 ?_
  refine go_icmp_lt C 16 rfl dJ3_checkIndex_8e157_6 (fun _ => ?_) (fun hc => absurd h2 hc)
  refine go_iload_n C 0 rfl rfl dJ3_checkIndex_8e157_16 ?_
  exact go_iret C hr ⟨_, rfl, hw⟩ dJ3_checkIndex_8e157_17
theorem spJ0_checkIndex_df160 {l : Launch} {G : GT} {d : Nat} (hd : 2 ≤ d) {a1 a2 : Int32} {σ : St} {post : St → Prop} (hw : wpJ0_checkIndex_df160 a1 a2 σ post) : Sp l G d yJ0_checkIndex_df160 cJ0_checkIndex_df160 2 none [.int a1, .int a2] σ (fun v τ => v = none ∧ post τ) := by
  refine Sp.of (by decide) (Nat.le_of_ble_eq_true rfl) fun X C hr hR hnl => ?_
  show Go X G 0 [(0, .int a1), (1, .int a2)] [] σ
  refine go_iload_n C 0 rfl rfl dJ0_checkIndex_df160_0 ?_
  refine go_iload_n C 1 rfl rfl dJ0_checkIndex_df160_1 ?_
  refine go_sfmt C ls_fmt dJ0_checkIndex_df160_2 ?_ (fun t => ?_)
  · refine go_callS (as := [.int a1, .int a2, .null]) (d' := 1) C hR cwJ0_1059 (by omega) (by decide) rfl rfl (by decide) dJ0_checkIndex_df160_5 (spJ3_checkIndex_8e157n (post := fun _ τ => post τ) hw.1 hw.2.1 hw.2.2) (fun v_ τ_ hw => ?_)
    obtain ⟨r, rfl, hw⟩ := hw
    refine go_pop C rfl dJ0_checkIndex_df160_8 ?_
    exact go_vret C hr ⟨rfl, hw⟩ dJ0_checkIndex_df160_9
  · refine go_callS (as := [.int a1, .int a2, .ref t]) (d' := 1) C hR cwJ0_1059 (by omega) (by decide) rfl rfl (by decide) dJ0_checkIndex_df160_5 (spJ3_checkIndex_8e157r (post := fun _ τ => post τ) hw.1 hw.2.1 hw.2.2) (fun v_ τ_ hw => ?_)
    obtain ⟨r, rfl, hw⟩ := hw
    refine go_pop C rfl dJ0_checkIndex_df160_8 ?_
    exact go_vret C hr ⟨rfl, hw⟩ dJ0_checkIndex_df160_9
