theorem gz_sub {Y : YT} {B : BT} {ad : Nat → Nat} {N kc ks pc : Nat} {h : Nat → va_E} {lv lv2 : List (Nat × Value)} {st : List Value} (js : List Nat) (hl : lv_pick lv js = lv2) (k : Gr Y B ad N h kc ks pc lv2 st) : Gr Y B ad N h kc ks pc lv st := by
  obtain ⟨p, l, e, R, s, m, args, below, meth, c, nL, A, Q⟩ := Y
  exact fun H locs ls hP hD hS hv => k H locs ls hP hD hS (lv_sub hv js hl)
theorem ex_lt {ad qs : Nat → Nat} {N q : Nat} (h : q < N) : va_ext ad N qs q = ad q := if_pos h
theorem ex_ge {ad qs : Nat → Nat} {N q : Nat} (h : ¬ q < N) : va_ext ad N qs q = qs q := if_neg h
theorem vu_ne {ad : Nat → Nat} {k v q : Nat} (h : ¬ q = k) : va_up ad k v q = ad q := if_neg h
theorem i_in0 (i n : Nat) (h : i < n) (hn : n < 2 ^ 31) : vp_in (nI i) n := vp_in_nI h hn
theorem ry_le {Y : YT} {l : Launch} {d d' mc ms : Nat} (h : Ry Y l d mc ms) (hd : d' ≤ d) : Ry Y l d' mc ms := by
  obtain ⟨p, l, e, R, s, m, args, below, meth, c, nL, A, Q⟩ := Y
  obtain ⟨h1, h2, h3, h4, h5⟩ := h
  exact ⟨h1, by omega, by omega, h4, h5⟩
theorem gz_aald {Y : YT} {B : BT} {cc : ByteArray} {own : String} {ad : Nat → Nat} {N kc ks pc : Nat} {h : Nat → va_E} {lv : List (Nat × Value)} {st : List Value} (C : CyR Y B cc own) {q n a b : Nat} {f : Nat → Option Nat} {i : Int32} (hh : h q = .inl (B.2.1 4, n, .inr (.inr (.inr (.inr f))))) (ha : a = ad q) (hq : q < N) (hb : f i.toNatClampNeg = some b) (hin : vp_in i n) (hd : decode cc pc = .ok (.aaload, 1)) (kk : Gr Y B ad N h kc ks (pc + 1) lv (.ref b :: st)) : Gr Y B ad N h kc ks pc lv (.int i :: .ref a :: st) := by
  obtain ⟨p, l, e, R, s, m, args, below, meth, c, nL, A, Q⟩ := Y
  subst ha
  refine fun H locs ls hP hD hS hl => va_aldq C.1 C.2.1 C.2.2.2.2.2.2.1 hP q 4 (f := f) (by rw [wr_get hq, hh]) rfl hin hd ?_
  rw [hb]
  exact kk H locs ls hP hD hS hl
theorem oi_1 : Cond.instanceMethod Lib.objectInit ∈ uW := uW_t1 29 (by decide +kernel) rfl
theorem oi_2 : Cond.code Lib.objectInit ⟨#[0xb1]⟩ 1 none ∈ uW := uW_t1 30 (by decide +kernel) rfl
theorem ac_int : Cond.arrayClass .int ∈ uW := uW_t1 73 (by decide +kernel) rfl
theorem ac_long : Cond.arrayClass .long ∈ uW := uW_t1 72 (by decide +kernel) rfl
theorem ac_byte : Cond.arrayClass .byte ∈ uW := uW_t3 157 (by decide +kernel) rfl
theorem ac_boolean : Cond.arrayClass .boolean ∈ uW := uW_t2 53 (by decide +kernel) rfl
theorem in_X0 : Cond.instantiable RX0 4 ∈ uW := uW_t1 145 (by decide +kernel) rfl
theorem iz_X0 : Cond.initialized RX0 ∈ uW := uW_t1 4 (by decide +kernel) rfl
theorem in_X1 : Cond.instantiable RX1 4 ∈ uW := uW_t2 55 (by decide +kernel) rfl
theorem iz_X1 : Cond.initialized RX1 ∈ uW := uW_t1 9 (by decide +kernel) rfl
theorem in_X2 : Cond.instantiable RX2 11 ∈ uW := uW_t2 168 (by decide +kernel) rfl
theorem iz_X2 : Cond.initialized RX2 ∈ uW := uW_t1 13 (by decide +kernel) rfl
theorem in_X3 : Cond.instantiable RX3 14 ∈ uW := uW_t1 238 (by decide +kernel) rfl
theorem iz_X3 : Cond.initialized RX3 ∈ uW := uW_t1 8 (by decide +kernel) rfl
theorem in_X4 : Cond.instantiable RX4 15 ∈ uW := uW_t1 75 (by decide +kernel) rfl
theorem iz_X4 : Cond.initialized RX4 ∈ uW := uW_t1 3 (by decide +kernel) rfl
theorem in_X5 : Cond.instantiable RX5 8 ∈ uW := uW_t1 32 (by decide +kernel) rfl
theorem iz_X5 : Cond.initialized RX5 ∈ uW := uW_t1 2 (by decide +kernel) rfl
theorem in_X6 : Cond.instantiable RX6 6 ∈ uW := uW_t2 114 (by decide +kernel) rfl
theorem iz_X6 : Cond.initialized RX6 ∈ uW := uW_t1 11 (by decide +kernel) rfl
theorem in_X7 : Cond.instantiable RX7 7 ∈ uW := uW_t2 139 (by decide +kernel) rfl
theorem iz_X7 : Cond.initialized RX7 ∈ uW := uW_t1 12 (by decide +kernel) rfl
theorem in_X8 : Cond.instantiable RX8 11 ∈ uW := uW_t1 195 (by decide +kernel) rfl
theorem iz_X8 : Cond.initialized RX8 ∈ uW := uW_t1 7 (by decide +kernel) rfl
theorem in_X9 : Cond.instantiable RX9 4 ∈ uW := uW_t1 170 (by decide +kernel) rfl
theorem iz_X9 : Cond.initialized RX9 ∈ uW := uW_t1 6 (by decide +kernel) rfl
theorem in_X10 : Cond.instantiable RX10 11 ∈ uW := uW_t2 74 (by decide +kernel) rfl
theorem iz_X10 : Cond.initialized RX10 ∈ uW := uW_t1 10 (by decide +kernel) rfl
theorem in_X11 : Cond.instantiable RX11 13 ∈ uW := uW_t1 24 (by decide +kernel) rfl
theorem iz_X11 : Cond.initialized RX11 ∈ uW := uW_t1 1 (by decide +kernel) rfl
theorem in_X12 : Cond.instantiable RX12 64 ∈ uW := uW_t6 65 (by decide +kernel) rfl
theorem iz_X12 : Cond.initialized RX12 ∈ uW := uW_t1 15 (by decide +kernel) rfl
theorem clX11_7 : Cond.classLink RX11 7 "CradleNames$Names" ∈ uW := uW_t1 31 (by decide +kernel) rfl
theorem clX11_16 : Cond.classLink RX11 16 "CradleNames$Land" ∈ uW := uW_t1 74 (by decide +kernel) rfl
theorem clX11_23 : Cond.classLink RX11 23 "CradleNames$Book" ∈ uW := uW_t1 144 (by decide +kernel) rfl
theorem clX11_33 : Cond.classLink RX11 33 "CradleNames$Taste" ∈ uW := uW_t1 168 (by decide +kernel) rfl
theorem clX11_40 : Cond.classLink RX11 40 "CradleNames$Reader" ∈ uW := uW_t1 194 (by decide +kernel) rfl
theorem clX11_49 : Cond.classLink RX11 49 "CradleNames$Judge" ∈ uW := uW_t1 237 (by decide +kernel) rfl
theorem clX11_58 : Cond.classLink RX11 58 "CradleNames$Course" ∈ uW := uW_t2 54 (by decide +kernel) rfl
theorem clX11_67 : Cond.classLink RX11 67 "CradleNames$Trails" ∈ uW := uW_t2 73 (by decide +kernel) rfl
theorem clX11_76 : Cond.classLink RX11 76 "CradleNames$Odds" ∈ uW := uW_t2 113 (by decide +kernel) rfl
theorem clX11_83 : Cond.classLink RX11 83 "CradleNames$Press" ∈ uW := uW_t2 138 (by decide +kernel) rfl
theorem clX11_90 : Cond.classLink RX11 90 "CradleNames$Image" ∈ uW := uW_t2 167 (by decide +kernel) rfl
theorem clL_7 : Cond.classLink RLw 7 "CradleNames" ∈ uW := uW_t1 23 (by decide +kernel) rfl
theorem clL_10 : Cond.classLink RLw 10 "CradleNamesModel" ∈ uW := uW_t6 64 (by decide +kernel) rfl
theorem oiX11_1 : Cond.methodLink RX11 1 Lib.objectInit ∈ uW := uW_t1 28 (by decide +kernel) rfl
theorem cwX11_9 : CwI RX11 9 yX5_init cX5_init 1 0 := ⟨uW_t1 33 (by decide +kernel) rfl, uW_t1 34 (by decide +kernel) rfl, uW_t1 2 (by decide +kernel) rfl, uW_t1 35 (by decide +kernel) rfl, ⟨by decide, by decide, by decide +kernel⟩, rfl⟩
theorem cwX11_18 : CwI RX11 18 yX4_init cX4_init 1 0 := ⟨uW_t1 76 (by decide +kernel) rfl, uW_t1 77 (by decide +kernel) rfl, uW_t1 3 (by decide +kernel) rfl, uW_t1 78 (by decide +kernel) rfl, ⟨by decide, by decide, by decide +kernel⟩, rfl⟩
theorem cwX11_25 : CwI RX11 25 yX0_init cX0_init 1 0 := ⟨uW_t1 146 (by decide +kernel) rfl, uW_t1 147 (by decide +kernel) rfl, uW_t1 4 (by decide +kernel) rfl, uW_t1 148 (by decide +kernel) rfl, ⟨by decide, by decide, by decide +kernel⟩, rfl⟩
theorem cwX11_39 : CwI RX11 39 yX9_init cX9_init 1 0 := ⟨uW_t1 171 (by decide +kernel) rfl, uW_t1 172 (by decide +kernel) rfl, uW_t1 6 (by decide +kernel) rfl, uW_t1 173 (by decide +kernel) rfl, ⟨by decide, by decide, by decide +kernel⟩, rfl⟩
theorem cwX11_42 : CwI RX11 42 yX8_init cX8_init 2 1 := ⟨uW_t1 196 (by decide +kernel) rfl, uW_t1 197 (by decide +kernel) rfl, uW_t1 7 (by decide +kernel) rfl, uW_t1 198 (by decide +kernel) rfl, ⟨by decide, by decide, by decide +kernel⟩, rfl⟩
theorem cwX11_51 : CwI RX11 51 yX3_init cX3_init 5 4 := ⟨uW_t1 239 (by decide +kernel) rfl, uW_t2 0 (by decide +kernel) rfl, uW_t1 8 (by decide +kernel) rfl, uW_t2 1 (by decide +kernel) rfl, ⟨by decide, by decide, by decide +kernel⟩, rfl⟩
theorem cwX11_60 : CwI RX11 60 yX1_init cX1_init 5 4 := ⟨uW_t2 56 (by decide +kernel) rfl, uW_t2 57 (by decide +kernel) rfl, uW_t1 9 (by decide +kernel) rfl, uW_t2 58 (by decide +kernel) rfl, ⟨by decide, by decide, by decide +kernel⟩, rfl⟩
theorem cwX11_69 : CwI RX11 69 yX10_init cX10_init 4 3 := ⟨uW_t2 75 (by decide +kernel) rfl, uW_t2 76 (by decide +kernel) rfl, uW_t1 10 (by decide +kernel) rfl, uW_t2 77 (by decide +kernel) rfl, ⟨by decide, by decide, by decide +kernel⟩, rfl⟩
theorem cwX11_78 : CwI RX11 78 yX6_init cX6_init 1 0 := ⟨uW_t2 115 (by decide +kernel) rfl, uW_t2 116 (by decide +kernel) rfl, uW_t1 11 (by decide +kernel) rfl, uW_t2 117 (by decide +kernel) rfl, ⟨by decide, by decide, by decide +kernel⟩, rfl⟩
theorem cwX11_85 : CwI RX11 85 yX7_init cX7_init 1 0 := ⟨uW_t2 140 (by decide +kernel) rfl, uW_t2 141 (by decide +kernel) rfl, uW_t1 12 (by decide +kernel) rfl, uW_t2 142 (by decide +kernel) rfl, ⟨by decide, by decide, by decide +kernel⟩, rfl⟩
theorem cwX11_92 : CwI RX11 92 yX2_init cX2_init 1 0 := ⟨uW_t2 169 (by decide +kernel) rfl, uW_t2 170 (by decide +kernel) rfl, uW_t1 13 (by decide +kernel) rfl, uW_t2 171 (by decide +kernel) rfl, ⟨by decide, by decide, by decide +kernel⟩, rfl⟩
theorem oiX0_3 : Cond.methodLink RX0 3 Lib.objectInit ∈ uW := uW_t1 149 (by decide +kernel) rfl
theorem oiX1_3 : Cond.methodLink RX1 3 Lib.objectInit ∈ uW := uW_t2 59 (by decide +kernel) rfl
theorem oiX2_3 : Cond.methodLink RX2 3 Lib.objectInit ∈ uW := uW_t2 172 (by decide +kernel) rfl
theorem oiX3_3 : Cond.methodLink RX3 3 Lib.objectInit ∈ uW := uW_t2 2 (by decide +kernel) rfl
theorem oiX4_3 : Cond.methodLink RX4 3 Lib.objectInit ∈ uW := uW_t1 79 (by decide +kernel) rfl
theorem oiX5_3 : Cond.methodLink RX5 3 Lib.objectInit ∈ uW := uW_t1 36 (by decide +kernel) rfl
theorem oiX6_3 : Cond.methodLink RX6 3 Lib.objectInit ∈ uW := uW_t2 118 (by decide +kernel) rfl
theorem oiX7_3 : Cond.methodLink RX7 3 Lib.objectInit ∈ uW := uW_t2 143 (by decide +kernel) rfl
theorem oiX8_3 : Cond.methodLink RX8 3 Lib.objectInit ∈ uW := uW_t1 199 (by decide +kernel) rfl
theorem oiX9_1 : Cond.methodLink RX9 1 Lib.objectInit ∈ uW := uW_t1 174 (by decide +kernel) rfl
theorem oiX10_3 : Cond.methodLink RX10 3 Lib.objectInit ∈ uW := uW_t2 78 (by decide +kernel) rfl
theorem cwL_9 : CwI RLw 9 yX11_init cX11_init 2 0 := ⟨uW_t1 25 (by decide +kernel) rfl, uW_t1 26 (by decide +kernel) rfl, uW_t1 1 (by decide +kernel) rfl, uW_t1 27 (by decide +kernel) rfl, ⟨by decide, by decide, by decide +kernel⟩, rfl⟩
theorem cwL_12 : CwI RLw 12 yX12_init cX12_init 1 0 := ⟨uW_t6 66 (by decide +kernel) rfl, uW_t6 67 (by decide +kernel) rfl, uW_t1 15 (by decide +kernel) rfl, uW_t6 68 (by decide +kernel) rfl, ⟨by decide, by decide, by decide +kernel⟩, rfl⟩
theorem oiX12_1 : Cond.methodLink RX12 1 Lib.objectInit ∈ uW := uW_t6 69 (by decide +kernel) rfl
theorem lfX11_10 : Lkf RX11 10 11 0 (.object "CradleNames$Names") := ⟨RX11, TX11, 13, tyX11, rfl, inX11, by decide, uW_t2 214 (by decide +kernel) rfl, tyX11_ok, nmX11, rfl, rfl, by decide +kernel⟩
theorem lfX11_19 : Lkf RX11 19 11 1 (.object "CradleNames$Land") := ⟨RX11, TX11, 13, tyX11, rfl, inX11, by decide, uW_t2 215 (by decide +kernel) rfl, tyX11_ok, nmX11, rfl, rfl, by decide +kernel⟩
theorem lfX11_26 : Lkf RX11 26 11 2 (.object "CradleNames$Book") := ⟨RX11, TX11, 13, tyX11, rfl, inX11, by decide, uW_t2 216 (by decide +kernel) rfl, tyX11_ok, nmX11, rfl, rfl, by decide +kernel⟩
theorem lfX11_30 : Lkf RX11 30 11 3 (.object "CradleNames$Book") := ⟨RX11, TX11, 13, tyX11, rfl, inX11, by decide, uW_t2 217 (by decide +kernel) rfl, tyX11_ok, nmX11, rfl, rfl, by decide +kernel⟩
theorem lfX11_35 : Lkf RX11 35 11 4 (.array (.object "CradleNames$Taste")) := ⟨RX11, TX11, 13, tyX11, rfl, inX11, by decide, uW_t2 218 (by decide +kernel) rfl, tyX11_ok, nmX11, rfl, rfl, by decide +kernel⟩
theorem lfX11_45 : Lkf RX11 45 11 6 (.object "CradleNames$Reader") := ⟨RX11, TX11, 13, tyX11, rfl, inX11, by decide, uW_t2 220 (by decide +kernel) rfl, tyX11_ok, nmX11, rfl, rfl, by decide +kernel⟩
theorem lfX11_54 : Lkf RX11 54 11 7 (.object "CradleNames$Judge") := ⟨RX11, TX11, 13, tyX11, rfl, inX11, by decide, uW_t2 221 (by decide +kernel) rfl, tyX11_ok, nmX11, rfl, rfl, by decide +kernel⟩
theorem lfX11_63 : Lkf RX11 63 11 8 (.object "CradleNames$Course") := ⟨RX11, TX11, 13, tyX11, rfl, inX11, by decide, uW_t2 222 (by decide +kernel) rfl, tyX11_ok, nmX11, rfl, rfl, by decide +kernel⟩
theorem lfX11_72 : Lkf RX11 72 11 9 (.object "CradleNames$Trails") := ⟨RX11, TX11, 13, tyX11, rfl, inX11, by decide, uW_t2 223 (by decide +kernel) rfl, tyX11_ok, nmX11, rfl, rfl, by decide +kernel⟩
theorem lfX11_79 : Lkf RX11 79 11 10 (.object "CradleNames$Odds") := ⟨RX11, TX11, 13, tyX11, rfl, inX11, by decide, uW_t2 224 (by decide +kernel) rfl, tyX11_ok, nmX11, rfl, rfl, by decide +kernel⟩
theorem lfX11_86 : Lkf RX11 86 11 11 (.object "CradleNames$Press") := ⟨RX11, TX11, 13, tyX11, rfl, inX11, by decide, uW_t2 225 (by decide +kernel) rfl, tyX11_ok, nmX11, rfl, rfl, by decide +kernel⟩
theorem lfX11_93 : Lkf RX11 93 11 12 (.object "CradleNames$Image") := ⟨RX11, TX11, 13, tyX11, rfl, inX11, by decide, uW_t2 226 (by decide +kernel) rfl, tyX11_ok, nmX11, rfl, rfl, by decide +kernel⟩
theorem lfX0_9 : Lkf RX0 9 0 0 (.array .long) := ⟨RX0, TX0, 4, tyX0, rfl, inX0, by decide, uW_t1 153 (by decide +kernel) rfl, tyX0_ok, nmX0, rfl, rfl, by decide +kernel⟩
theorem lfX0_15 : Lkf RX0 15 0 1 (.array .int) := ⟨RX0, TX0, 4, tyX0, rfl, inX0, by decide, uW_t1 155 (by decide +kernel) rfl, tyX0_ok, nmX0, rfl, rfl, by decide +kernel⟩
theorem lfX0_19 : Lkf RX0 19 0 2 (.array .int) := ⟨RX0, TX0, 4, tyX0, rfl, inX0, by decide, uW_t1 157 (by decide +kernel) rfl, tyX0_ok, nmX0, rfl, rfl, by decide +kernel⟩
theorem lfX1_9 : Lkf RX1 9 1 0 (.object "CradleNames$Names") := ⟨RX1, TX1, 4, tyX1, rfl, inX1, by decide, uW_t2 60 (by decide +kernel) rfl, tyX1_ok, nmX1, rfl, rfl, by decide +kernel⟩
theorem lfX1_15 : Lkf RX1 15 1 1 (.object "CradleNames$Land") := ⟨RX1, TX1, 4, tyX1, rfl, inX1, by decide, uW_t2 61 (by decide +kernel) rfl, tyX1_ok, nmX1, rfl, rfl, by decide +kernel⟩
theorem lfX1_19 : Lkf RX1 19 1 2 (.array (.object "CradleNames$Taste")) := ⟨RX1, TX1, 4, tyX1, rfl, inX1, by decide, uW_t2 62 (by decide +kernel) rfl, tyX1_ok, nmX1, rfl, rfl, by decide +kernel⟩
theorem lfX1_23 : Lkf RX1 23 1 3 (.object "CradleNames$Judge") := ⟨RX1, TX1, 4, tyX1, rfl, inX1, by decide, uW_t2 63 (by decide +kernel) rfl, tyX1_ok, nmX1, rfl, rfl, by decide +kernel⟩
theorem lfX2_9 : Lkf RX2 9 2 7 (.array .int) := ⟨RX2, TX2, 11, tyX2, rfl, inX2, by decide, uW_t2 180 (by decide +kernel) rfl, tyX2_ok, nmX2, rfl, rfl, by decide +kernel⟩
theorem lfX2_15 : Lkf RX2 15 2 8 (.array .int) := ⟨RX2, TX2, 11, tyX2, rfl, inX2, by decide, uW_t2 181 (by decide +kernel) rfl, tyX2_ok, nmX2, rfl, rfl, by decide +kernel⟩
theorem lfX2_18 : Lkf RX2 18 2 9 (.array .int) := ⟨RX2, TX2, 11, tyX2, rfl, inX2, by decide, uW_t2 182 (by decide +kernel) rfl, tyX2_ok, nmX2, rfl, rfl, by decide +kernel⟩
theorem lfX2_21 : Lkf RX2 21 2 10 (.array .int) := ⟨RX2, TX2, 11, tyX2, rfl, inX2, by decide, uW_t2 183 (by decide +kernel) rfl, tyX2_ok, nmX2, rfl, rfl, by decide +kernel⟩
theorem lfX3_11 : Lkf RX3 11 3 2 (.array .int) := ⟨RX3, TX3, 14, tyX3, rfl, inX3, by decide, uW_t2 5 (by decide +kernel) rfl, tyX3_ok, nmX3, rfl, rfl, by decide +kernel⟩
theorem lfX3_15 : Lkf RX3 15 3 3 (.array .int) := ⟨RX3, TX3, 14, tyX3, rfl, inX3, by decide, uW_t2 6 (by decide +kernel) rfl, tyX3_ok, nmX3, rfl, rfl, by decide +kernel⟩
theorem lfX3_18 : Lkf RX3 18 3 4 (.array .boolean) := ⟨RX3, TX3, 14, tyX3, rfl, inX3, by decide, uW_t2 8 (by decide +kernel) rfl, tyX3_ok, nmX3, rfl, rfl, by decide +kernel⟩
theorem lfX3_26 : Lkf RX3 26 3 0 (.object "CradleNames$Names") := ⟨RX3, TX3, 14, tyX3, rfl, inX3, by decide, uW_t2 3 (by decide +kernel) rfl, tyX3_ok, nmX3, rfl, rfl, by decide +kernel⟩
theorem lfX3_30 : Lkf RX3 30 3 1 (.object "CradleNames$Land") := ⟨RX3, TX3, 14, tyX3, rfl, inX3, by decide, uW_t2 4 (by decide +kernel) rfl, tyX3_ok, nmX3, rfl, rfl, by decide +kernel⟩
theorem lfX4_15 : Lkf RX4 15 4 2 (.array .int) := ⟨RX4, TX4, 15, tyX4, rfl, inX4, by decide, uW_t1 89 (by decide +kernel) rfl, tyX4_ok, nmX4, rfl, rfl, by decide +kernel⟩
theorem lfX4_19 : Lkf RX4 19 4 3 (.array .int) := ⟨RX4, TX4, 15, tyX4, rfl, inX4, by decide, uW_t1 92 (by decide +kernel) rfl, tyX4_ok, nmX4, rfl, rfl, by decide +kernel⟩
theorem lfX4_22 : Lkf RX4 22 4 4 (.array .int) := ⟨RX4, TX4, 15, tyX4, rfl, inX4, by decide, uW_t1 95 (by decide +kernel) rfl, tyX4_ok, nmX4, rfl, rfl, by decide +kernel⟩
theorem lfX4_25 : Lkf RX4 25 4 5 (.array .int) := ⟨RX4, TX4, 15, tyX4, rfl, inX4, by decide, uW_t1 96 (by decide +kernel) rfl, tyX4_ok, nmX4, rfl, rfl, by decide +kernel⟩
theorem lfX4_28 : Lkf RX4 28 4 6 (.array .int) := ⟨RX4, TX4, 15, tyX4, rfl, inX4, by decide, uW_t1 99 (by decide +kernel) rfl, tyX4_ok, nmX4, rfl, rfl, by decide +kernel⟩
theorem lfX4_31 : Lkf RX4 31 4 7 (.array .int) := ⟨RX4, TX4, 15, tyX4, rfl, inX4, by decide, uW_t1 100 (by decide +kernel) rfl, tyX4_ok, nmX4, rfl, rfl, by decide +kernel⟩
theorem lfX4_34 : Lkf RX4 34 4 9 (.array .int) := ⟨RX4, TX4, 15, tyX4, rfl, inX4, by decide, uW_t1 105 (by decide +kernel) rfl, tyX4_ok, nmX4, rfl, rfl, by decide +kernel⟩
theorem lfX4_37 : Lkf RX4 37 4 10 (.array .int) := ⟨RX4, TX4, 15, tyX4, rfl, inX4, by decide, uW_t1 106 (by decide +kernel) rfl, tyX4_ok, nmX4, rfl, rfl, by decide +kernel⟩
theorem lfX4_40 : Lkf RX4 40 4 12 (.array .int) := ⟨RX4, TX4, 15, tyX4, rfl, inX4, by decide, uW_t1 110 (by decide +kernel) rfl, tyX4_ok, nmX4, rfl, rfl, by decide +kernel⟩
theorem lfX4_43 : Lkf RX4 43 4 13 (.array .int) := ⟨RX4, TX4, 15, tyX4, rfl, inX4, by decide, uW_t1 111 (by decide +kernel) rfl, tyX4_ok, nmX4, rfl, rfl, by decide +kernel⟩
theorem lfX4_46 : Lkf RX4 46 4 14 (.array .int) := ⟨RX4, TX4, 15, tyX4, rfl, inX4, by decide, uW_t1 112 (by decide +kernel) rfl, tyX4_ok, nmX4, rfl, rfl, by decide +kernel⟩
theorem lfX5_9 : Lkf RX5 9 5 1 (.array .long) := ⟨RX5, TX5, 8, tyX5, rfl, inX5, by decide, uW_t1 42 (by decide +kernel) rfl, tyX5_ok, nmX5, rfl, rfl, by decide +kernel⟩
theorem lfX5_15 : Lkf RX5 15 5 2 (.array .int) := ⟨RX5, TX5, 8, tyX5, rfl, inX5, by decide, uW_t1 43 (by decide +kernel) rfl, tyX5_ok, nmX5, rfl, rfl, by decide +kernel⟩
theorem lfX5_19 : Lkf RX5 19 5 3 (.array .int) := ⟨RX5, TX5, 8, tyX5, rfl, inX5, by decide, uW_t1 46 (by decide +kernel) rfl, tyX5_ok, nmX5, rfl, rfl, by decide +kernel⟩
theorem lfX5_22 : Lkf RX5 22 5 4 (.array .int) := ⟨RX5, TX5, 8, tyX5, rfl, inX5, by decide, uW_t1 49 (by decide +kernel) rfl, tyX5_ok, nmX5, rfl, rfl, by decide +kernel⟩
theorem lfX5_25 : Lkf RX5 25 5 5 (.array .long) := ⟨RX5, TX5, 8, tyX5, rfl, inX5, by decide, uW_t1 51 (by decide +kernel) rfl, tyX5_ok, nmX5, rfl, rfl, by decide +kernel⟩
theorem lfX5_28 : Lkf RX5 28 5 6 (.array .int) := ⟨RX5, TX5, 8, tyX5, rfl, inX5, by decide, uW_t1 52 (by decide +kernel) rfl, tyX5_ok, nmX5, rfl, rfl, by decide +kernel⟩
theorem lfX5_31 : Lkf RX5 31 5 7 (.array .int) := ⟨RX5, TX5, 8, tyX5, rfl, inX5, by decide, uW_t1 53 (by decide +kernel) rfl, tyX5_ok, nmX5, rfl, rfl, by decide +kernel⟩
theorem lfX6_9 : Lkf RX6 9 6 0 (.array .int) := ⟨RX6, TX6, 6, tyX6, rfl, inX6, by decide, uW_t2 119 (by decide +kernel) rfl, tyX6_ok, nmX6, rfl, rfl, by decide +kernel⟩
theorem lfX6_13 : Lkf RX6 13 6 1 (.array .int) := ⟨RX6, TX6, 6, tyX6, rfl, inX6, by decide, uW_t2 120 (by decide +kernel) rfl, tyX6_ok, nmX6, rfl, rfl, by decide +kernel⟩
theorem lfX6_16 : Lkf RX6 16 6 2 (.array .int) := ⟨RX6, TX6, 6, tyX6, rfl, inX6, by decide, uW_t2 121 (by decide +kernel) rfl, tyX6_ok, nmX6, rfl, rfl, by decide +kernel⟩
theorem lfX7_9 : Lkf RX7 9 7 1 (.array .int) := ⟨RX7, TX7, 7, tyX7, rfl, inX7, by decide, uW_t2 146 (by decide +kernel) rfl, tyX7_ok, nmX7, rfl, rfl, by decide +kernel⟩
theorem lfX7_15 : Lkf RX7 15 7 2 (.array .int) := ⟨RX7, TX7, 7, tyX7, rfl, inX7, by decide, uW_t2 147 (by decide +kernel) rfl, tyX7_ok, nmX7, rfl, rfl, by decide +kernel⟩
theorem lfX7_18 : Lkf RX7 18 7 3 (.array .int) := ⟨RX7, TX7, 7, tyX7, rfl, inX7, by decide, uW_t2 148 (by decide +kernel) rfl, tyX7_ok, nmX7, rfl, rfl, by decide +kernel⟩
theorem lfX7_21 : Lkf RX7 21 7 4 (.array .int) := ⟨RX7, TX7, 7, tyX7, rfl, inX7, by decide, uW_t2 149 (by decide +kernel) rfl, tyX7_ok, nmX7, rfl, rfl, by decide +kernel⟩
theorem lfX7_24 : Lkf RX7 24 7 5 (.array .long) := ⟨RX7, TX7, 7, tyX7, rfl, inX7, by decide, uW_t2 150 (by decide +kernel) rfl, tyX7_ok, nmX7, rfl, rfl, by decide +kernel⟩
theorem lfX8_11 : Lkf RX8 11 8 0 (.array .int) := ⟨RX8, TX8, 11, tyX8, rfl, inX8, by decide, uW_t1 200 (by decide +kernel) rfl, tyX8_ok, nmX8, rfl, rfl, by decide +kernel⟩
theorem lfX8_22 : Lkf RX8 22 8 4 (.array .int) := ⟨RX8, TX8, 11, tyX8, rfl, inX8, by decide, uW_t1 207 (by decide +kernel) rfl, tyX8_ok, nmX8, rfl, rfl, by decide +kernel⟩
theorem lfX8_25 : Lkf RX8 25 8 5 (.array .int) := ⟨RX8, TX8, 11, tyX8, rfl, inX8, by decide, uW_t1 208 (by decide +kernel) rfl, tyX8_ok, nmX8, rfl, rfl, by decide +kernel⟩
theorem lfX8_28 : Lkf RX8 28 8 6 (.array .int) := ⟨RX8, TX8, 11, tyX8, rfl, inX8, by decide, uW_t1 209 (by decide +kernel) rfl, tyX8_ok, nmX8, rfl, rfl, by decide +kernel⟩
theorem lfX9_9 : Lkf RX9 9 9 0 (.array .int) := ⟨RX9, TX9, 4, tyX9, rfl, inX9, by decide, uW_t1 175 (by decide +kernel) rfl, tyX9_ok, nmX9, rfl, rfl, by decide +kernel⟩
theorem lfX10_9 : Lkf RX10 9 10 3 (.array .int) := ⟨RX10, TX10, 11, tyX10, rfl, inX10, by decide, uW_t2 82 (by decide +kernel) rfl, tyX10_ok, nmX10, rfl, rfl, by decide +kernel⟩
theorem lfX10_15 : Lkf RX10 15 10 4 (.array .int) := ⟨RX10, TX10, 11, tyX10, rfl, inX10, by decide, uW_t2 83 (by decide +kernel) rfl, tyX10_ok, nmX10, rfl, rfl, by decide +kernel⟩
theorem lfX10_18 : Lkf RX10 18 10 5 (.array .int) := ⟨RX10, TX10, 11, tyX10, rfl, inX10, by decide, uW_t2 84 (by decide +kernel) rfl, tyX10_ok, nmX10, rfl, rfl, by decide +kernel⟩
theorem lfX10_21 : Lkf RX10 21 10 6 (.array .int) := ⟨RX10, TX10, 11, tyX10, rfl, inX10, by decide, uW_t2 85 (by decide +kernel) rfl, tyX10_ok, nmX10, rfl, rfl, by decide +kernel⟩
theorem lfX10_24 : Lkf RX10 24 10 7 (.array .int) := ⟨RX10, TX10, 11, tyX10, rfl, inX10, by decide, uW_t2 86 (by decide +kernel) rfl, tyX10_ok, nmX10, rfl, rfl, by decide +kernel⟩
theorem lfX10_27 : Lkf RX10 27 10 8 (.array .int) := ⟨RX10, TX10, 11, tyX10, rfl, inX10, by decide, uW_t2 87 (by decide +kernel) rfl, tyX10_ok, nmX10, rfl, rfl, by decide +kernel⟩
theorem lfX10_30 : Lkf RX10 30 10 9 (.array .int) := ⟨RX10, TX10, 11, tyX10, rfl, inX10, by decide, uW_t2 88 (by decide +kernel) rfl, tyX10_ok, nmX10, rfl, rfl, by decide +kernel⟩
theorem lfX10_33 : Lkf RX10 33 10 0 (.object "CradleNames$Names") := ⟨RX10, TX10, 11, tyX10, rfl, inX10, by decide, uW_t2 79 (by decide +kernel) rfl, tyX10_ok, nmX10, rfl, rfl, by decide +kernel⟩
theorem lfX10_37 : Lkf RX10 37 10 1 (.object "CradleNames$Land") := ⟨RX10, TX10, 11, tyX10, rfl, inX10, by decide, uW_t2 80 (by decide +kernel) rfl, tyX10_ok, nmX10, rfl, rfl, by decide +kernel⟩
theorem lfX10_41 : Lkf RX10 41 10 2 (.object "CradleNames$Book") := ⟨RX10, TX10, 11, tyX10, rfl, inX10, by decide, uW_t2 81 (by decide +kernel) rfl, tyX10_ok, nmX10, rfl, rfl, by decide +kernel⟩
theorem lfX12_7 : Lkf RX12 7 12 0 (.array .int) := ⟨RX12, TX12, 64, tyX12, rfl, inX12, by decide, uW_t6 74 (by decide +kernel) rfl, tyX12_ok, nmX12, rfl, rfl, by decide +kernel⟩
theorem lfX12_13 : Lkf RX12 13 12 1 (.array .int) := ⟨RX12, TX12, 64, tyX12, rfl, inX12, by decide, uW_t6 75 (by decide +kernel) rfl, tyX12_ok, nmX12, rfl, rfl, by decide +kernel⟩
theorem lfX12_16 : Lkf RX12 16 12 2 (.array .long) := ⟨RX12, TX12, 64, tyX12, rfl, inX12, by decide, uW_t6 76 (by decide +kernel) rfl, tyX12_ok, nmX12, rfl, rfl, by decide +kernel⟩
theorem lfX12_20 : Lkf RX12 20 12 3 (.array .byte) := ⟨RX12, TX12, 64, tyX12, rfl, inX12, by decide, uW_t6 77 (by decide +kernel) rfl, tyX12_ok, nmX12, rfl, rfl, by decide +kernel⟩
theorem lfX12_31 : Lkf RX12 31 12 7 (.array .int) := ⟨RX12, TX12, 64, tyX12, rfl, inX12, by decide, uW_t6 81 (by decide +kernel) rfl, tyX12_ok, nmX12, rfl, rfl, by decide +kernel⟩
theorem lfX12_34 : Lkf RX12 34 12 8 (.array .int) := ⟨RX12, TX12, 64, tyX12, rfl, inX12, by decide, uW_t6 82 (by decide +kernel) rfl, tyX12_ok, nmX12, rfl, rfl, by decide +kernel⟩
theorem lfX12_37 : Lkf RX12 37 12 9 (.array .int) := ⟨RX12, TX12, 64, tyX12, rfl, inX12, by decide, uW_t6 83 (by decide +kernel) rfl, tyX12_ok, nmX12, rfl, rfl, by decide +kernel⟩
theorem lfX12_40 : Lkf RX12 40 12 10 (.array .int) := ⟨RX12, TX12, 64, tyX12, rfl, inX12, by decide, uW_t6 84 (by decide +kernel) rfl, tyX12_ok, nmX12, rfl, rfl, by decide +kernel⟩
theorem lfX12_43 : Lkf RX12 43 12 11 (.array .int) := ⟨RX12, TX12, 64, tyX12, rfl, inX12, by decide, uW_t6 85 (by decide +kernel) rfl, tyX12_ok, nmX12, rfl, rfl, by decide +kernel⟩
theorem lfX12_46 : Lkf RX12 46 12 12 (.array .int) := ⟨RX12, TX12, 64, tyX12, rfl, inX12, by decide, uW_t6 86 (by decide +kernel) rfl, tyX12_ok, nmX12, rfl, rfl, by decide +kernel⟩
theorem lfX12_49 : Lkf RX12 49 12 13 (.array .int) := ⟨RX12, TX12, 64, tyX12, rfl, inX12, by decide, uW_t6 87 (by decide +kernel) rfl, tyX12_ok, nmX12, rfl, rfl, by decide +kernel⟩
theorem lfX12_52 : Lkf RX12 52 12 23 (.array .int) := ⟨RX12, TX12, 64, tyX12, rfl, inX12, by decide, uW_t6 97 (by decide +kernel) rfl, tyX12_ok, nmX12, rfl, rfl, by decide +kernel⟩
theorem lfX12_55 : Lkf RX12 55 12 24 (.array .int) := ⟨RX12, TX12, 64, tyX12, rfl, inX12, by decide, uW_t6 98 (by decide +kernel) rfl, tyX12_ok, nmX12, rfl, rfl, by decide +kernel⟩
theorem lfX12_58 : Lkf RX12 58 12 25 (.array .int) := ⟨RX12, TX12, 64, tyX12, rfl, inX12, by decide, uW_t6 99 (by decide +kernel) rfl, tyX12_ok, nmX12, rfl, rfl, by decide +kernel⟩
theorem lfX12_61 : Lkf RX12 61 12 27 (.array .int) := ⟨RX12, TX12, 64, tyX12, rfl, inX12, by decide, uW_t6 101 (by decide +kernel) rfl, tyX12_ok, nmX12, rfl, rfl, by decide +kernel⟩
theorem lfX12_64 : Lkf RX12 64 12 28 (.array .int) := ⟨RX12, TX12, 64, tyX12, rfl, inX12, by decide, uW_t6 102 (by decide +kernel) rfl, tyX12_ok, nmX12, rfl, rfl, by decide +kernel⟩
theorem lfX12_67 : Lkf RX12 67 12 33 (.array .int) := ⟨RX12, TX12, 64, tyX12, rfl, inX12, by decide, uW_t6 107 (by decide +kernel) rfl, tyX12_ok, nmX12, rfl, rfl, by decide +kernel⟩
theorem lfX12_70 : Lkf RX12 70 12 34 (.array .int) := ⟨RX12, TX12, 64, tyX12, rfl, inX12, by decide, uW_t6 108 (by decide +kernel) rfl, tyX12_ok, nmX12, rfl, rfl, by decide +kernel⟩
theorem lfX12_73 : Lkf RX12 73 12 36 (.array .int) := ⟨RX12, TX12, 64, tyX12, rfl, inX12, by decide, uW_t6 110 (by decide +kernel) rfl, tyX12_ok, nmX12, rfl, rfl, by decide +kernel⟩
theorem lfX12_76 : Lkf RX12 76 12 37 (.array .int) := ⟨RX12, TX12, 64, tyX12, rfl, inX12, by decide, uW_t6 111 (by decide +kernel) rfl, tyX12_ok, nmX12, rfl, rfl, by decide +kernel⟩
theorem lfX12_79 : Lkf RX12 79 12 38 (.array .long) := ⟨RX12, TX12, 64, tyX12, rfl, inX12, by decide, uW_t6 112 (by decide +kernel) rfl, tyX12_ok, nmX12, rfl, rfl, by decide +kernel⟩
theorem lfX12_82 : Lkf RX12 82 12 39 (.array .long) := ⟨RX12, TX12, 64, tyX12, rfl, inX12, by decide, uW_t6 113 (by decide +kernel) rfl, tyX12_ok, nmX12, rfl, rfl, by decide +kernel⟩
theorem lfX12_85 : Lkf RX12 85 12 40 (.array .int) := ⟨RX12, TX12, 64, tyX12, rfl, inX12, by decide, uW_t6 114 (by decide +kernel) rfl, tyX12_ok, nmX12, rfl, rfl, by decide +kernel⟩
theorem lfX12_88 : Lkf RX12 88 12 41 (.array .int) := ⟨RX12, TX12, 64, tyX12, rfl, inX12, by decide, uW_t6 115 (by decide +kernel) rfl, tyX12_ok, nmX12, rfl, rfl, by decide +kernel⟩
theorem lfX12_91 : Lkf RX12 91 12 42 (.array .int) := ⟨RX12, TX12, 64, tyX12, rfl, inX12, by decide, uW_t6 116 (by decide +kernel) rfl, tyX12_ok, nmX12, rfl, rfl, by decide +kernel⟩
theorem lfX12_94 : Lkf RX12 94 12 43 (.array .int) := ⟨RX12, TX12, 64, tyX12, rfl, inX12, by decide, uW_t6 117 (by decide +kernel) rfl, tyX12_ok, nmX12, rfl, rfl, by decide +kernel⟩
theorem lfX12_97 : Lkf RX12 97 12 44 (.array .int) := ⟨RX12, TX12, 64, tyX12, rfl, inX12, by decide, uW_t6 118 (by decide +kernel) rfl, tyX12_ok, nmX12, rfl, rfl, by decide +kernel⟩
theorem lfX12_100 : Lkf RX12 100 12 45 (.array .int) := ⟨RX12, TX12, 64, tyX12, rfl, inX12, by decide, uW_t6 119 (by decide +kernel) rfl, tyX12_ok, nmX12, rfl, rfl, by decide +kernel⟩
theorem lfX12_103 : Lkf RX12 103 12 46 (.array .int) := ⟨RX12, TX12, 64, tyX12, rfl, inX12, by decide, uW_t6 120 (by decide +kernel) rfl, tyX12_ok, nmX12, rfl, rfl, by decide +kernel⟩
theorem lfX12_106 : Lkf RX12 106 12 47 (.array .int) := ⟨RX12, TX12, 64, tyX12, rfl, inX12, by decide, uW_t6 121 (by decide +kernel) rfl, tyX12_ok, nmX12, rfl, rfl, by decide +kernel⟩
theorem lfX12_109 : Lkf RX12 109 12 48 (.array .int) := ⟨RX12, TX12, 64, tyX12, rfl, inX12, by decide, uW_t6 122 (by decide +kernel) rfl, tyX12_ok, nmX12, rfl, rfl, by decide +kernel⟩
theorem lfX12_112 : Lkf RX12 112 12 49 (.array .int) := ⟨RX12, TX12, 64, tyX12, rfl, inX12, by decide, uW_t6 123 (by decide +kernel) rfl, tyX12_ok, nmX12, rfl, rfl, by decide +kernel⟩
theorem lfX12_115 : Lkf RX12 115 12 50 (.array .int) := ⟨RX12, TX12, 64, tyX12, rfl, inX12, by decide, uW_t6 124 (by decide +kernel) rfl, tyX12_ok, nmX12, rfl, rfl, by decide +kernel⟩
theorem lfX12_118 : Lkf RX12 118 12 51 (.array .int) := ⟨RX12, TX12, 64, tyX12, rfl, inX12, by decide, uW_t6 125 (by decide +kernel) rfl, tyX12_ok, nmX12, rfl, rfl, by decide +kernel⟩
theorem lfX12_121 : Lkf RX12 121 12 52 (.array .int) := ⟨RX12, TX12, 64, tyX12, rfl, inX12, by decide, uW_t6 126 (by decide +kernel) rfl, tyX12_ok, nmX12, rfl, rfl, by decide +kernel⟩
theorem lfX12_124 : Lkf RX12 124 12 53 (.array .int) := ⟨RX12, TX12, 64, tyX12, rfl, inX12, by decide, uW_t6 127 (by decide +kernel) rfl, tyX12_ok, nmX12, rfl, rfl, by decide +kernel⟩
theorem lfX12_127 : Lkf RX12 127 12 54 (.array .int) := ⟨RX12, TX12, 64, tyX12, rfl, inX12, by decide, uW_t6 128 (by decide +kernel) rfl, tyX12_ok, nmX12, rfl, rfl, by decide +kernel⟩
theorem lfX12_130 : Lkf RX12 130 12 58 (.array .int) := ⟨RX12, TX12, 64, tyX12, rfl, inX12, by decide, uW_t6 132 (by decide +kernel) rfl, tyX12_ok, nmX12, rfl, rfl, by decide +kernel⟩
theorem lfX12_133 : Lkf RX12 133 12 59 (.array .long) := ⟨RX12, TX12, 64, tyX12, rfl, inX12, by decide, uW_t6 133 (by decide +kernel) rfl, tyX12_ok, nmX12, rfl, rfl, by decide +kernel⟩
theorem lfX12_136 : Lkf RX12 136 12 60 (.array .long) := ⟨RX12, TX12, 64, tyX12, rfl, inX12, by decide, uW_t6 134 (by decide +kernel) rfl, tyX12_ok, nmX12, rfl, rfl, by decide +kernel⟩
theorem lfX12_139 : Lkf RX12 139 12 61 (.array .long) := ⟨RX12, TX12, 64, tyX12, rfl, inX12, by decide, uW_t6 135 (by decide +kernel) rfl, tyX12_ok, nmX12, rfl, rfl, by decide +kernel⟩
theorem lfX12_142 : Lkf RX12 142 12 62 (.array .int) := ⟨RX12, TX12, 64, tyX12, rfl, inX12, by decide, uW_t6 136 (by decide +kernel) rfl, tyX12_ok, nmX12, rfl, rfl, by decide +kernel⟩
theorem lfX12_145 : Lkf RX12 145 12 63 (.array .int) := ⟨RX12, TX12, 64, tyX12, rfl, inX12, by decide, uW_t6 137 (by decide +kernel) rfl, tyX12_ok, nmX12, rfl, rfl, by decide +kernel⟩
theorem sf_fill {l : Launch} {B : BT} {ad : Nat → Nat} {N : Nat} {h : Nat → va_E} {q n : Nat} {f : Nat → Int32} {v : Int32} (hh : h q = .inl (B.2.1 0, n, .inl f)) (hq : q < N) (hn : n < 2 ^ 31) : Sc l B 1 0 0 yJ7_fill_53178 cJ7_fill_53178 4 [.ref (ad q), .int v] ad N h N (fun _ h1 => h1 = va_up h q (.inl (B.2.1 0, n, .inl (fun k => if k < n then v else f k)))) := by
  refine Sc.of (by decide) (Nat.le_of_ble_eq_true rfl) fun Y C T0 hR hnl hnm => ?_
  show Gr Y B ad N h 0 0 0 [(0, .ref (ad q)), (1, .int v)] []
  refine gz_iconst (v := 0) C rfl dJ7_fill_53178_0 ?_
  refine gz_istore_n (lv2 := [(2, .int 0), (0, .ref (ad q)), (1, .int v)]) C rfl (by rw [hnl]; decide) rfl dJ7_fill_53178_1 ?_
  refine gz_aload_n C 1 rfl rfl dJ7_fill_53178_2 ?_
  refine gz_alen C hh rfl hq rfl dJ7_fill_53178_3 ?_
  refine gz_istore_n (lv2 := [(3, .int (Int32.ofNat n)), (2, .int 0), (0, .ref (ad q)), (1, .int v)]) C rfl (by rw [hnl]; decide) rfl dJ7_fill_53178_4 ?_
  have key : ∀ (m i : Nat) (g : Nat → va_E), i ≤ n → n + 1 ≤ i + m → g = va_up h q (.inl (B.2.1 0, n, .inl (fun k => if k < i then v else f k))) → ∀ lv : List (Nat × Value), lv = [(3, .int (Int32.ofNat n)), (2, .int (nI i)), (0, .ref (ad q)), (1, .int v)] → Gr Y B ad N g 0 0 5 lv [] := by
    intro m
    induction m with
    | zero => intro i g h1 h2; omega
    | succ m ih =>
      intro i g h1 h2 hg lv hlv
      subst hg; subst hlv
      refine gz_iload_n C 1 rfl rfl dJ7_fill_53178_5 ?_
      refine gz_iload_n C 0 rfl rfl dJ7_fill_53178_6 ?_
      refine gz_icmp_ge C 20 rfl dJ7_fill_53178_7 (fun hc => ?_) (fun hc => ?_)
      · have e : i = n := by
          have := (nI_leI (a := n) (b := i) hn (by omega)).mp hc
          omega
        subst e
        exact gz_vret (qs := ad) C T0 (fun j hj => by unfold va_ext; rw [if_pos hj]) rfl dJ7_fill_53178_20
      · have e : i < n := by
          rcases Nat.lt_or_ge i n with z | z
          · exact z
          · exact absurd ((nI_leI (a := n) (b := i) hn (by omega)).mpr z) hc
        refine gz_aload_n C 2 rfl rfl dJ7_fill_53178_10 ?_
        refine gz_iload_n C 1 rfl rfl dJ7_fill_53178_11 ?_
        refine gz_iload_n C 3 rfl rfl dJ7_fill_53178_12 ?_
        refine gz_iast (q := q) C (by simp [va_up]; rfl) rfl hq (vp_in_nI e hn) dJ7_fill_53178_13 ?_
        refine gz_iinc (v := nI (i + 1)) (lv2 := [(2, .int (nI (i + 1))), (3, .int (Int32.ofNat n)), (0, .ref (ad q)), (1, .int v)]) C 1 rfl (show nI i + Int32.ofInt 1 = nI (i + 1) from nI_1 i) (by rw [hnl]; decide) rfl dJ7_fill_53178_14 ?_
        refine gz_goto C 5 rfl dJ7_fill_53178_17 ?_
        refine gz_sub [1, 0, 2, 3] rfl ?_
        refine ih (i + 1) _ e (by omega) ?_ _ rfl
        rw [nI_clamp (by omega)]
        funext j
        by_cases hj : j = q
        · subst hj
          simp only [va_up, if_true]
          refine congrArg (fun z => Sum.inl (B.2.1 0, n, Sum.inl z)) (funext fun k => ?_)
          unfold upd
          by_cases a : k = i
          · subst a; simp
          · by_cases b : k < i
            · have : k < i + 1 := by omega
              simp [a, b, this]
            · have : ¬ k < i + 1 := by omega
              simp [a, b, this]
        · simp [va_up, hj]
  refine key (n + 1) 0 h (Nat.zero_le _) (by omega) ?_ _ rfl
  funext j
  by_cases hj : j = q
  · subst hj
    simp [va_up, hh]
  · simp [va_up, hj]
set_option maxRecDepth 100000 in
set_option maxHeartbeats 8000000 in
theorem ci_X5_1 {l : Launch} {B : BT} {ad : Nat → Nat} {h : Nat → va_E} (hh : h 1 = .inr (5, [.int 0, .null, .null, .null, .null, .null, .null, .null])) : Sc l B 1 7 256 yX5_init cX5_init 1 [.ref (ad 1)] ad 2 h 9 (fun ad1 h1 => h1 = (va_up (va_up (va_up (va_up (va_up (va_up (va_up (va_up (va_up (va_up (va_up (va_up (va_up (va_up h 2 (.inl (B.2.1 1, 16, .inr (.inl fun _ => 0)))) 1 (.inr (5, [.int 0, .ref (ad1 2), .null, .null, .null, .null, .null, .null]))) 3 (.inl (B.2.1 0, 16, .inl fun _ => 0))) 1 (.inr (5, [.int 0, .ref (ad1 2), .ref (ad1 3), .null, .null, .null, .null, .null]))) 4 (.inl (B.2.1 0, 16, .inl fun _ => 0))) 1 (.inr (5, [.int 0, .ref (ad1 2), .ref (ad1 3), .ref (ad1 4), .null, .null, .null, .null]))) 5 (.inl (B.2.1 0, 16, .inl fun _ => 0))) 1 (.inr (5, [.int 0, .ref (ad1 2), .ref (ad1 3), .ref (ad1 4), .ref (ad1 5), .null, .null, .null]))) 6 (.inl (B.2.1 1, 16, .inr (.inl fun _ => 0)))) 1 (.inr (5, [.int 0, .ref (ad1 2), .ref (ad1 3), .ref (ad1 4), .ref (ad1 5), .ref (ad1 6), .null, .null]))) 7 (.inl (B.2.1 0, 160, .inl fun _ => 0))) 1 (.inr (5, [.int 0, .ref (ad1 2), .ref (ad1 3), .ref (ad1 4), .ref (ad1 5), .ref (ad1 6), .ref (ad1 7), .null]))) 8 (.inl (B.2.1 0, 16, .inl fun _ => 0))) 1 (.inr (5, [.int 0, .ref (ad1 2), .ref (ad1 3), .ref (ad1 4), .ref (ad1 5), .ref (ad1 6), .ref (ad1 7), .ref (ad1 8)])))) := by
  refine Sc.of (by decide) (Nat.le_of_ble_eq_true rfl) fun Y C T0 hR hnl hnm => ?_
  show Gr Y B ad 2 h 0 0 0 [(0, .ref (ad 1))] []
  refine gz_aload_n C 0 rfl rfl dX5_init_0 ?_
  refine gz_objinit C oiX5_3 oi_1 oi_2 (d := 1 - 1) (ry_le hR (by decide)) (Nat.le_of_ble_eq_true rfl) dX5_init_1 ?_
  refine gz_aload_n C 0 rfl rfl dX5_init_4 ?_
  refine gz_bipush (v := 16) C rfl dX5_init_5 ?_
  refine gz_newl (n := 16) C hR ac_long (by decide) (by decide) (by decide) (by decide) (by decide) dX5_init_7 (fun a2 => ?_)
  refine gz_putF (q := 1) (fs := [.int 0, .null, .null, .null, .null, .null, .null, .null]) C hnm hh rfl (by decide) lfX5_9 rfl rfl (Nat.le_of_ble_eq_true rfl) dX5_init_9 ?_
  refine gz_aload_n C 0 rfl rfl dX5_init_12 ?_
  refine gz_bipush (v := 16) C rfl dX5_init_13 ?_
  refine gz_newi (n := 16) C hR ac_int (by decide) (by decide) (by decide) (by decide) (by decide) dX5_init_15 (fun a3 => ?_)
  refine gz_putF (q := 1) (fs := [.int 0, .ref (a2), .null, .null, .null, .null, .null, .null]) C hnm rfl rfl (by decide) lfX5_15 rfl rfl (Nat.le_of_ble_eq_true rfl) dX5_init_17 ?_
  refine gz_aload_n C 0 rfl rfl dX5_init_20 ?_
  refine gz_bipush (v := 16) C rfl dX5_init_21 ?_
  refine gz_newi (n := 16) C hR ac_int (by decide) (by decide) (by decide) (by decide) (by decide) dX5_init_23 (fun a4 => ?_)
  refine gz_putF (q := 1) (fs := [.int 0, .ref (a2), .ref (a3), .null, .null, .null, .null, .null]) C hnm rfl rfl (by decide) lfX5_19 rfl rfl (Nat.le_of_ble_eq_true rfl) dX5_init_25 ?_
  refine gz_aload_n C 0 rfl rfl dX5_init_28 ?_
  refine gz_bipush (v := 16) C rfl dX5_init_29 ?_
  refine gz_newi (n := 16) C hR ac_int (by decide) (by decide) (by decide) (by decide) (by decide) dX5_init_31 (fun a5 => ?_)
  refine gz_putF (q := 1) (fs := [.int 0, .ref (a2), .ref (a3), .ref (a4), .null, .null, .null, .null]) C hnm rfl rfl (by decide) lfX5_22 rfl rfl (Nat.le_of_ble_eq_true rfl) dX5_init_33 ?_
  refine gz_aload_n C 0 rfl rfl dX5_init_36 ?_
  refine gz_bipush (v := 16) C rfl dX5_init_37 ?_
  refine gz_newl (n := 16) C hR ac_long (by decide) (by decide) (by decide) (by decide) (by decide) dX5_init_39 (fun a6 => ?_)
  refine gz_putF (q := 1) (fs := [.int 0, .ref (a2), .ref (a3), .ref (a4), .ref (a5), .null, .null, .null]) C hnm rfl rfl (by decide) lfX5_25 rfl rfl (Nat.le_of_ble_eq_true rfl) dX5_init_41 ?_
  refine gz_aload_n C 0 rfl rfl dX5_init_44 ?_
  refine gz_sipush (v := 160) C rfl dX5_init_45 ?_
  refine gz_newi (n := 160) C hR ac_int (by decide) (by decide) (by decide) (by decide) (by decide) dX5_init_48 (fun a7 => ?_)
  refine gz_putF (q := 1) (fs := [.int 0, .ref (a2), .ref (a3), .ref (a4), .ref (a5), .ref (a6), .null, .null]) C hnm rfl rfl (by decide) lfX5_28 rfl rfl (Nat.le_of_ble_eq_true rfl) dX5_init_50 ?_
  refine gz_aload_n C 0 rfl rfl dX5_init_53 ?_
  refine gz_bipush (v := 16) C rfl dX5_init_54 ?_
  refine gz_newi (n := 16) C hR ac_int (by decide) (by decide) (by decide) (by decide) (by decide) dX5_init_56 (fun a8 => ?_)
  refine gz_putF (q := 1) (fs := [.int 0, .ref (a2), .ref (a3), .ref (a4), .ref (a5), .ref (a6), .ref (a7), .null]) C hnm rfl rfl (by decide) lfX5_31 rfl rfl (Nat.le_of_ble_eq_true rfl) dX5_init_58 ?_
  refine gz_vret (qs := (va_up (va_up (va_up (va_up (va_up (va_up (va_up ad 2 a2) 3 a3) 4 a4) 5 a5) 6 a6) 7 a7) 8 a8)) C T0 (fun q hq => ?_) rfl dX5_init_61
  by_cases hc : q < 2
  · rw [ex_lt hc]
    first | done | rfl | simp (disch := omega) only [vu_ne, ex_lt]
  · rw [ex_ge hc]
set_option maxRecDepth 100000 in
set_option maxHeartbeats 8000000 in
theorem ci_X4_9 {l : Launch} {B : BT} {ad : Nat → Nat} {h : Nat → va_E} (hh : h 9 = .inr (4, [.int 0, .int 0, .null, .null, .null, .null, .null, .null, .int 0, .null, .null, .int 0, .null, .null, .null])) : Sc l B 1 11 8649 yX4_init cX4_init 1 [.ref (ad 9)] ad 10 h 21 (fun ad1 h1 => h1 = (va_up (va_up (va_up (va_up (va_up (va_up (va_up (va_up (va_up (va_up (va_up (va_up (va_up (va_up (va_up (va_up (va_up (va_up (va_up (va_up (va_up (va_up (va_up (va_up (va_up h 9 (.inr (4, [.int 0, .int 60, .null, .null, .null, .null, .null, .null, .int 0, .null, .null, .int 0, .null, .null, .null]))) 10 (.inl (B.2.1 0, 7680, .inl fun _ => 0))) 9 (.inr (4, [.int 0, .int 60, .ref (ad1 10), .null, .null, .null, .null, .null, .int 0, .null, .null, .int 0, .null, .null, .null]))) 11 (.inl (B.2.1 0, 12, .inl fun _ => 0))) 9 (.inr (4, [.int 0, .int 60, .ref (ad1 10), .ref (ad1 11), .null, .null, .null, .null, .int 0, .null, .null, .int 0, .null, .null, .null]))) 12 (.inl (B.2.1 0, 732, .inl fun _ => 0))) 9 (.inr (4, [.int 0, .int 60, .ref (ad1 10), .ref (ad1 11), .ref (ad1 12), .null, .null, .null, .int 0, .null, .null, .int 0, .null, .null, .null]))) 13 (.inl (B.2.1 0, 2, .inl fun _ => 0))) 13 (.inl (B.2.1 0, 2, .inl (upd (fun _ => 0) (0 : Int32).toNatClampNeg (-1))))) 13 (.inl (B.2.1 0, 2, .inl (upd ((upd (fun _ => 0) (0 : Int32).toNatClampNeg (-1))) (1 : Int32).toNatClampNeg (-1))))) 9 (.inr (4, [.int 0, .int 60, .ref (ad1 10), .ref (ad1 11), .ref (ad1 12), .ref (ad1 13), .null, .null, .int 0, .null, .null, .int 0, .null, .null, .null]))) 14 (.inl (B.2.1 0, 122, .inl fun _ => 0))) 9 (.inr (4, [.int 0, .int 60, .ref (ad1 10), .ref (ad1 11), .ref (ad1 12), .ref (ad1 13), .ref (ad1 14), .null, .int 0, .null, .null, .int 0, .null, .null, .null]))) 15 (.inl (B.2.1 0, 61, .inl fun _ => 0))) 9 (.inr (4, [.int 0, .int 60, .ref (ad1 10), .ref (ad1 11), .ref (ad1 12), .ref (ad1 13), .ref (ad1 14), .ref (ad1 15), .int 0, .null, .null, .int 0, .null, .null, .null]))) 16 (.inl (B.2.1 0, 8, .inl fun _ => 0))) 9 (.inr (4, [.int 0, .int 60, .ref (ad1 10), .ref (ad1 11), .ref (ad1 12), .ref (ad1 13), .ref (ad1 14), .ref (ad1 15), .int 0, .ref (ad1 16), .null, .int 0, .null, .null, .null]))) 17 (.inl (B.2.1 0, 8, .inl fun _ => 0))) 9 (.inr (4, [.int 0, .int 60, .ref (ad1 10), .ref (ad1 11), .ref (ad1 12), .ref (ad1 13), .ref (ad1 14), .ref (ad1 15), .int 0, .ref (ad1 16), .ref (ad1 17), .int 0, .null, .null, .null]))) 18 (.inl (B.2.1 0, 8, .inl fun _ => 0))) 9 (.inr (4, [.int 0, .int 60, .ref (ad1 10), .ref (ad1 11), .ref (ad1 12), .ref (ad1 13), .ref (ad1 14), .ref (ad1 15), .int 0, .ref (ad1 16), .ref (ad1 17), .int 0, .ref (ad1 18), .null, .null]))) 19 (.inl (B.2.1 0, 8, .inl fun _ => 0))) 9 (.inr (4, [.int 0, .int 60, .ref (ad1 10), .ref (ad1 11), .ref (ad1 12), .ref (ad1 13), .ref (ad1 14), .ref (ad1 15), .int 0, .ref (ad1 16), .ref (ad1 17), .int 0, .ref (ad1 18), .ref (ad1 19), .null]))) 20 (.inl (B.2.1 0, 8, .inl fun _ => 0))) 9 (.inr (4, [.int 0, .int 60, .ref (ad1 10), .ref (ad1 11), .ref (ad1 12), .ref (ad1 13), .ref (ad1 14), .ref (ad1 15), .int 0, .ref (ad1 16), .ref (ad1 17), .int 0, .ref (ad1 18), .ref (ad1 19), .ref (ad1 20)])))) := by
  refine Sc.of (by decide) (Nat.le_of_ble_eq_true rfl) fun Y C T0 hR hnl hnm => ?_
  show Gr Y B ad 10 h 0 0 0 [(0, .ref (ad 9))] []
  refine gz_aload_n C 0 rfl rfl dX4_init_0 ?_
  refine gz_objinit C oiX4_3 oi_1 oi_2 (d := 1 - 1) (ry_le hR (by decide)) (Nat.le_of_ble_eq_true rfl) dX4_init_1 ?_
  refine gz_aload_n C 0 rfl rfl dX4_init_4 ?_
  refine gz_bipush (v := 60) C rfl dX4_init_5 ?_
  refine gz_put (q := 9) (fs := [.int 0, .int 0, .null, .null, .null, .null, .null, .null, .int 0, .null, .null, .int 0, .null, .null, .null]) C hh rfl (by decide) lpX4_9 rfl rfl (Nat.le_of_ble_eq_true rfl) dX4_init_7 ?_
  refine gz_aload_n C 0 rfl rfl dX4_init_10 ?_
  refine gz_sipush (v := 7680) C rfl dX4_init_11 ?_
  refine gz_newi (n := 7680) C hR ac_int (by decide) (by decide) (by decide) (by decide) (by decide) dX4_init_14 (fun a10 => ?_)
  refine gz_putF (q := 9) (fs := [.int 0, .int 60, .null, .null, .null, .null, .null, .null, .int 0, .null, .null, .int 0, .null, .null, .null]) C hnm rfl rfl (by decide) lfX4_15 rfl rfl (Nat.le_of_ble_eq_true rfl) dX4_init_16 ?_
  refine gz_aload_n C 0 rfl rfl dX4_init_19 ?_
  refine gz_bipush (v := 12) C rfl dX4_init_20 ?_
  refine gz_newi (n := 12) C hR ac_int (by decide) (by decide) (by decide) (by decide) (by decide) dX4_init_22 (fun a11 => ?_)
  refine gz_putF (q := 9) (fs := [.int 0, .int 60, .ref (a10), .null, .null, .null, .null, .null, .int 0, .null, .null, .int 0, .null, .null, .null]) C hnm rfl rfl (by decide) lfX4_19 rfl rfl (Nat.le_of_ble_eq_true rfl) dX4_init_24 ?_
  refine gz_aload_n C 0 rfl rfl dX4_init_27 ?_
  refine gz_sipush (v := 732) C rfl dX4_init_28 ?_
  refine gz_newi (n := 732) C hR ac_int (by decide) (by decide) (by decide) (by decide) (by decide) dX4_init_31 (fun a12 => ?_)
  refine gz_putF (q := 9) (fs := [.int 0, .int 60, .ref (a10), .ref (a11), .null, .null, .null, .null, .int 0, .null, .null, .int 0, .null, .null, .null]) C hnm rfl rfl (by decide) lfX4_22 rfl rfl (Nat.le_of_ble_eq_true rfl) dX4_init_33 ?_
  refine gz_aload_n C 0 rfl rfl dX4_init_36 ?_
  refine gz_iconst (v := 2) C rfl dX4_init_37 ?_
  refine gz_newi (n := 2) C hR ac_int (by decide) (by decide) (by decide) (by decide) (by decide) dX4_init_38 (fun a13 => ?_)
  refine gz_dup C rfl dX4_init_40 ?_
  refine gz_iconst (v := 0) C rfl dX4_init_41 ?_
  refine gz_iconst (v := (-1)) C rfl dX4_init_42 ?_
  refine gz_iast (q := 13) (f := fun _ => 0) C rfl rfl (by decide) (i_in0 0 2 (by decide) (by decide)) dX4_init_43 ?_
  refine gz_dup C rfl dX4_init_44 ?_
  refine gz_iconst (v := 1) C rfl dX4_init_45 ?_
  refine gz_iconst (v := (-1)) C rfl dX4_init_46 ?_
  refine gz_iast (q := 13) (f := (upd (fun _ => 0) (0 : Int32).toNatClampNeg (-1))) C rfl rfl (by decide) (i_in0 1 2 (by decide) (by decide)) dX4_init_47 ?_
  refine gz_putF (q := 9) (fs := [.int 0, .int 60, .ref (a10), .ref (a11), .ref (a12), .null, .null, .null, .int 0, .null, .null, .int 0, .null, .null, .null]) C hnm rfl rfl (by decide) lfX4_25 rfl rfl (Nat.le_of_ble_eq_true rfl) dX4_init_48 ?_
  refine gz_aload_n C 0 rfl rfl dX4_init_51 ?_
  refine gz_bipush (v := 122) C rfl dX4_init_52 ?_
  refine gz_newi (n := 122) C hR ac_int (by decide) (by decide) (by decide) (by decide) (by decide) dX4_init_54 (fun a14 => ?_)
  refine gz_putF (q := 9) (fs := [.int 0, .int 60, .ref (a10), .ref (a11), .ref (a12), .ref (a13), .null, .null, .int 0, .null, .null, .int 0, .null, .null, .null]) C hnm rfl rfl (by decide) lfX4_28 rfl rfl (Nat.le_of_ble_eq_true rfl) dX4_init_56 ?_
  refine gz_aload_n C 0 rfl rfl dX4_init_59 ?_
  refine gz_bipush (v := 61) C rfl dX4_init_60 ?_
  refine gz_newi (n := 61) C hR ac_int (by decide) (by decide) (by decide) (by decide) (by decide) dX4_init_62 (fun a15 => ?_)
  refine gz_putF (q := 9) (fs := [.int 0, .int 60, .ref (a10), .ref (a11), .ref (a12), .ref (a13), .ref (a14), .null, .int 0, .null, .null, .int 0, .null, .null, .null]) C hnm rfl rfl (by decide) lfX4_31 rfl rfl (Nat.le_of_ble_eq_true rfl) dX4_init_64 ?_
  refine gz_aload_n C 0 rfl rfl dX4_init_67 ?_
  refine gz_bipush (v := 8) C rfl dX4_init_68 ?_
  refine gz_newi (n := 8) C hR ac_int (by decide) (by decide) (by decide) (by decide) (by decide) dX4_init_70 (fun a16 => ?_)
  refine gz_putF (q := 9) (fs := [.int 0, .int 60, .ref (a10), .ref (a11), .ref (a12), .ref (a13), .ref (a14), .ref (a15), .int 0, .null, .null, .int 0, .null, .null, .null]) C hnm rfl rfl (by decide) lfX4_34 rfl rfl (Nat.le_of_ble_eq_true rfl) dX4_init_72 ?_
  refine gz_aload_n C 0 rfl rfl dX4_init_75 ?_
  refine gz_bipush (v := 8) C rfl dX4_init_76 ?_
  refine gz_newi (n := 8) C hR ac_int (by decide) (by decide) (by decide) (by decide) (by decide) dX4_init_78 (fun a17 => ?_)
  refine gz_putF (q := 9) (fs := [.int 0, .int 60, .ref (a10), .ref (a11), .ref (a12), .ref (a13), .ref (a14), .ref (a15), .int 0, .ref (a16), .null, .int 0, .null, .null, .null]) C hnm rfl rfl (by decide) lfX4_37 rfl rfl (Nat.le_of_ble_eq_true rfl) dX4_init_80 ?_
  refine gz_aload_n C 0 rfl rfl dX4_init_83 ?_
  refine gz_bipush (v := 8) C rfl dX4_init_84 ?_
  refine gz_newi (n := 8) C hR ac_int (by decide) (by decide) (by decide) (by decide) (by decide) dX4_init_86 (fun a18 => ?_)
  refine gz_putF (q := 9) (fs := [.int 0, .int 60, .ref (a10), .ref (a11), .ref (a12), .ref (a13), .ref (a14), .ref (a15), .int 0, .ref (a16), .ref (a17), .int 0, .null, .null, .null]) C hnm rfl rfl (by decide) lfX4_40 rfl rfl (Nat.le_of_ble_eq_true rfl) dX4_init_88 ?_
  refine gz_aload_n C 0 rfl rfl dX4_init_91 ?_
  refine gz_bipush (v := 8) C rfl dX4_init_92 ?_
  refine gz_newi (n := 8) C hR ac_int (by decide) (by decide) (by decide) (by decide) (by decide) dX4_init_94 (fun a19 => ?_)
  refine gz_putF (q := 9) (fs := [.int 0, .int 60, .ref (a10), .ref (a11), .ref (a12), .ref (a13), .ref (a14), .ref (a15), .int 0, .ref (a16), .ref (a17), .int 0, .ref (a18), .null, .null]) C hnm rfl rfl (by decide) lfX4_43 rfl rfl (Nat.le_of_ble_eq_true rfl) dX4_init_96 ?_
  refine gz_aload_n C 0 rfl rfl dX4_init_99 ?_
  refine gz_bipush (v := 8) C rfl dX4_init_100 ?_
  refine gz_newi (n := 8) C hR ac_int (by decide) (by decide) (by decide) (by decide) (by decide) dX4_init_102 (fun a20 => ?_)
  refine gz_putF (q := 9) (fs := [.int 0, .int 60, .ref (a10), .ref (a11), .ref (a12), .ref (a13), .ref (a14), .ref (a15), .int 0, .ref (a16), .ref (a17), .int 0, .ref (a18), .ref (a19), .null]) C hnm rfl rfl (by decide) lfX4_46 rfl rfl (Nat.le_of_ble_eq_true rfl) dX4_init_104 ?_
  refine gz_vret (qs := (va_up (va_up (va_up (va_up (va_up (va_up (va_up (va_up (va_up (va_up (va_up ad 10 a10) 11 a11) 12 a12) 13 a13) 14 a14) 15 a15) 16 a16) 17 a17) 18 a18) 19 a19) 20 a20)) C T0 (fun q hq => ?_) rfl dX4_init_107
  by_cases hc : q < 10
  · rw [ex_lt hc]
    first | done | rfl | simp (disch := omega) only [vu_ne, ex_lt]
  · rw [ex_ge hc]
set_option maxRecDepth 100000 in
set_option maxHeartbeats 8000000 in
theorem ci_X0_21 {l : Launch} {B : BT} {ad : Nat → Nat} {h : Nat → va_E} (hh : h 21 = .inr (0, [.null, .null, .null, .int 0])) : Sc l B 2 3 12172 yX0_init cX0_init 1 [.ref (ad 21)] ad 22 h 25 (fun ad1 h1 => h1 = (va_up (va_up (va_up (va_up (va_up (va_up (va_up h 22 (.inl (B.2.1 1, 732, .inr (.inl fun _ => 0)))) 21 (.inr (0, [.ref (ad1 22), .null, .null, .int 0]))) 23 (.inl (B.2.1 0, 11424, .inl fun _ => 0))) 21 (.inr (0, [.ref (ad1 22), .ref (ad1 23), .null, .int 0]))) 24 (.inl (B.2.1 0, 16, .inl fun _ => 0))) 21 (.inr (0, [.ref (ad1 22), .ref (ad1 23), .ref (ad1 24), .int 0]))) 24 (.inl (B.2.1 0, 16, .inl (fun k => if k < 16 then (-1000) else (fun _ => 0) k))))) := by
  refine Sc.of (by decide) (Nat.le_of_ble_eq_true rfl) fun Y C T0 hR hnl hnm => ?_
  show Gr Y B ad 22 h 0 0 0 [(0, .ref (ad 21))] []
  refine gz_aload_n C 0 rfl rfl dX0_init_0 ?_
  refine gz_objinit C oiX0_3 oi_1 oi_2 (d := 2 - 1) (ry_le hR (by decide)) (Nat.le_of_ble_eq_true rfl) dX0_init_1 ?_
  refine gz_aload_n C 0 rfl rfl dX0_init_4 ?_
  refine gz_sipush (v := 732) C rfl dX0_init_5 ?_
  refine gz_newl (n := 732) C hR ac_long (by decide) (by decide) (by decide) (by decide) (by decide) dX0_init_8 (fun a22 => ?_)
  refine gz_putF (q := 21) (fs := [.null, .null, .null, .int 0]) C hnm hh rfl (by decide) lfX0_9 rfl rfl (Nat.le_of_ble_eq_true rfl) dX0_init_10 ?_
  refine gz_aload_n C 0 rfl rfl dX0_init_13 ?_
  refine gz_sipush (v := 11424) C rfl dX0_init_14 ?_
  refine gz_newi (n := 11424) C hR ac_int (by decide) (by decide) (by decide) (by decide) (by decide) dX0_init_17 (fun a23 => ?_)
  refine gz_putF (q := 21) (fs := [.ref (a22), .null, .null, .int 0]) C hnm rfl rfl (by decide) lfX0_15 rfl rfl (Nat.le_of_ble_eq_true rfl) dX0_init_19 ?_
  refine gz_aload_n C 0 rfl rfl dX0_init_22 ?_
  refine gz_bipush (v := 16) C rfl dX0_init_23 ?_
  refine gz_newi (n := 16) C hR ac_int (by decide) (by decide) (by decide) (by decide) (by decide) dX0_init_25 (fun a24 => ?_)
  refine gz_putF (q := 21) (fs := [.ref (a22), .ref (a23), .null, .int 0]) C hnm rfl rfl (by decide) lfX0_19 rfl rfl (Nat.le_of_ble_eq_true rfl) dX0_init_27 ?_
  refine gz_aload_n C 0 rfl rfl dX0_init_30 ?_
  refine gz_get (q := 21) (fs := [.ref (a22), .ref (a23), .ref (a24), .int 0]) (v := .ref (a24)) C rfl rfl (by decide) lkX0_19 rfl dX0_init_31 ?_
  refine gz_sipush (v := (-1000)) C rfl dX0_init_34 ?_
  refine gz_callS (d' := 1) (mc := 0) (ms := 0) (as := [.ref (a24), .int (-1000)]) C hR cwX0_22 (by decide) (by decide) (by decide) (by decide) rfl rfl (Nat.le_of_ble_eq_true rfl) dX0_init_37 (sf_fill (ad := (va_up (va_up (va_up ad 22 a22) 23 a23) 24 a24)) (N := 25) (q := 24) (n := 16) (f := fun _ => 0) rfl (by decide) (by decide)) (fun qsf hf hp => ?_)
  subst hp
  refine gz_vret (qs := (va_ext (va_up (va_up (va_up ad 22 a22) 23 a23) 24 a24) 25 qsf)) C T0 (fun q hq => ?_) rfl dX0_init_40
  by_cases hc : q < 22
  · rw [ex_lt hc]
    first | done | rfl | simp (disch := omega) only [vu_ne, ex_lt]
  · rw [ex_ge hc]
set_option maxRecDepth 100000 in
set_option maxHeartbeats 8000000 in
theorem ci_X0_25 {l : Launch} {B : BT} {ad : Nat → Nat} {h : Nat → va_E} (hh : h 25 = .inr (0, [.null, .null, .null, .int 0])) : Sc l B 2 3 12172 yX0_init cX0_init 1 [.ref (ad 25)] ad 26 h 29 (fun ad1 h1 => h1 = (va_up (va_up (va_up (va_up (va_up (va_up (va_up h 26 (.inl (B.2.1 1, 732, .inr (.inl fun _ => 0)))) 25 (.inr (0, [.ref (ad1 26), .null, .null, .int 0]))) 27 (.inl (B.2.1 0, 11424, .inl fun _ => 0))) 25 (.inr (0, [.ref (ad1 26), .ref (ad1 27), .null, .int 0]))) 28 (.inl (B.2.1 0, 16, .inl fun _ => 0))) 25 (.inr (0, [.ref (ad1 26), .ref (ad1 27), .ref (ad1 28), .int 0]))) 28 (.inl (B.2.1 0, 16, .inl (fun k => if k < 16 then (-1000) else (fun _ => 0) k))))) := by
  refine Sc.of (by decide) (Nat.le_of_ble_eq_true rfl) fun Y C T0 hR hnl hnm => ?_
  show Gr Y B ad 26 h 0 0 0 [(0, .ref (ad 25))] []
  refine gz_aload_n C 0 rfl rfl dX0_init_0 ?_
  refine gz_objinit C oiX0_3 oi_1 oi_2 (d := 2 - 1) (ry_le hR (by decide)) (Nat.le_of_ble_eq_true rfl) dX0_init_1 ?_
  refine gz_aload_n C 0 rfl rfl dX0_init_4 ?_
  refine gz_sipush (v := 732) C rfl dX0_init_5 ?_
  refine gz_newl (n := 732) C hR ac_long (by decide) (by decide) (by decide) (by decide) (by decide) dX0_init_8 (fun a26 => ?_)
  refine gz_putF (q := 25) (fs := [.null, .null, .null, .int 0]) C hnm hh rfl (by decide) lfX0_9 rfl rfl (Nat.le_of_ble_eq_true rfl) dX0_init_10 ?_
  refine gz_aload_n C 0 rfl rfl dX0_init_13 ?_
  refine gz_sipush (v := 11424) C rfl dX0_init_14 ?_
  refine gz_newi (n := 11424) C hR ac_int (by decide) (by decide) (by decide) (by decide) (by decide) dX0_init_17 (fun a27 => ?_)
  refine gz_putF (q := 25) (fs := [.ref (a26), .null, .null, .int 0]) C hnm rfl rfl (by decide) lfX0_15 rfl rfl (Nat.le_of_ble_eq_true rfl) dX0_init_19 ?_
  refine gz_aload_n C 0 rfl rfl dX0_init_22 ?_
  refine gz_bipush (v := 16) C rfl dX0_init_23 ?_
  refine gz_newi (n := 16) C hR ac_int (by decide) (by decide) (by decide) (by decide) (by decide) dX0_init_25 (fun a28 => ?_)
  refine gz_putF (q := 25) (fs := [.ref (a26), .ref (a27), .null, .int 0]) C hnm rfl rfl (by decide) lfX0_19 rfl rfl (Nat.le_of_ble_eq_true rfl) dX0_init_27 ?_
  refine gz_aload_n C 0 rfl rfl dX0_init_30 ?_
  refine gz_get (q := 25) (fs := [.ref (a26), .ref (a27), .ref (a28), .int 0]) (v := .ref (a28)) C rfl rfl (by decide) lkX0_19 rfl dX0_init_31 ?_
  refine gz_sipush (v := (-1000)) C rfl dX0_init_34 ?_
  refine gz_callS (d' := 1) (mc := 0) (ms := 0) (as := [.ref (a28), .int (-1000)]) C hR cwX0_22 (by decide) (by decide) (by decide) (by decide) rfl rfl (Nat.le_of_ble_eq_true rfl) dX0_init_37 (sf_fill (ad := (va_up (va_up (va_up ad 26 a26) 27 a27) 28 a28)) (N := 29) (q := 28) (n := 16) (f := fun _ => 0) rfl (by decide) (by decide)) (fun qsf hf hp => ?_)
  subst hp
  refine gz_vret (qs := (va_ext (va_up (va_up (va_up ad 26 a26) 27 a27) 28 a28) 29 qsf)) C T0 (fun q hq => ?_) rfl dX0_init_40
  by_cases hc : q < 26
  · rw [ex_lt hc]
    first | done | rfl | simp (disch := omega) only [vu_ne, ex_lt]
  · rw [ex_ge hc]
set_option maxRecDepth 100000 in
set_option maxHeartbeats 8000000 in
theorem ci_X9_30 {l : Launch} {B : BT} {ad : Nat → Nat} {h : Nat → va_E} (hh : h 30 = .inr (9, [.null, .int 0, .int 0, .int 0])) : Sc l B 1 1 300 yX9_init cX9_init 1 [.ref (ad 30)] ad 31 h 32 (fun ad1 h1 => h1 = (va_up (va_up h 31 (.inl (B.2.1 0, 300, .inl fun _ => 0))) 30 (.inr (9, [.ref (ad1 31), .int 0, .int 0, .int 0])))) := by
  refine Sc.of (by decide) (Nat.le_of_ble_eq_true rfl) fun Y C T0 hR hnl hnm => ?_
  show Gr Y B ad 31 h 0 0 0 [(0, .ref (ad 30))] []
  refine gz_aload_n C 0 rfl rfl dX9_init_0 ?_
  refine gz_objinit C oiX9_1 oi_1 oi_2 (d := 1 - 1) (ry_le hR (by decide)) (Nat.le_of_ble_eq_true rfl) dX9_init_1 ?_
  refine gz_aload_n C 0 rfl rfl dX9_init_4 ?_
  refine gz_sipush (v := 300) C rfl dX9_init_5 ?_
  refine gz_newi (n := 300) C hR ac_int (by decide) (by decide) (by decide) (by decide) (by decide) dX9_init_8 (fun a31 => ?_)
  refine gz_putF (q := 30) (fs := [.null, .int 0, .int 0, .int 0]) C hnm hh rfl (by decide) lfX9_9 rfl rfl (Nat.le_of_ble_eq_true rfl) dX9_init_10 ?_
  refine gz_vret (qs := (va_up ad 31 a31)) C T0 (fun q hq => ?_) rfl dX9_init_13
  by_cases hc : q < 31
  · rw [ex_lt hc]
    first | done | rfl | simp (disch := omega) only [vu_ne, ex_lt]
  · rw [ex_ge hc]
set_option maxRecDepth 100000 in
set_option maxHeartbeats 8000000 in
theorem ci_X9_32 {l : Launch} {B : BT} {ad : Nat → Nat} {h : Nat → va_E} (hh : h 32 = .inr (9, [.null, .int 0, .int 0, .int 0])) : Sc l B 1 1 300 yX9_init cX9_init 1 [.ref (ad 32)] ad 33 h 34 (fun ad1 h1 => h1 = (va_up (va_up h 33 (.inl (B.2.1 0, 300, .inl fun _ => 0))) 32 (.inr (9, [.ref (ad1 33), .int 0, .int 0, .int 0])))) := by
  refine Sc.of (by decide) (Nat.le_of_ble_eq_true rfl) fun Y C T0 hR hnl hnm => ?_
  show Gr Y B ad 33 h 0 0 0 [(0, .ref (ad 32))] []
  refine gz_aload_n C 0 rfl rfl dX9_init_0 ?_
  refine gz_objinit C oiX9_1 oi_1 oi_2 (d := 1 - 1) (ry_le hR (by decide)) (Nat.le_of_ble_eq_true rfl) dX9_init_1 ?_
  refine gz_aload_n C 0 rfl rfl dX9_init_4 ?_
  refine gz_sipush (v := 300) C rfl dX9_init_5 ?_
  refine gz_newi (n := 300) C hR ac_int (by decide) (by decide) (by decide) (by decide) (by decide) dX9_init_8 (fun a33 => ?_)
  refine gz_putF (q := 32) (fs := [.null, .int 0, .int 0, .int 0]) C hnm hh rfl (by decide) lfX9_9 rfl rfl (Nat.le_of_ble_eq_true rfl) dX9_init_10 ?_
  refine gz_vret (qs := (va_up ad 33 a33)) C T0 (fun q hq => ?_) rfl dX9_init_13
  by_cases hc : q < 33
  · rw [ex_lt hc]
    first | done | rfl | simp (disch := omega) only [vu_ne, ex_lt]
  · rw [ex_ge hc]
set_option maxRecDepth 100000 in
set_option maxHeartbeats 8000000 in
theorem ci_X9_34 {l : Launch} {B : BT} {ad : Nat → Nat} {h : Nat → va_E} (hh : h 34 = .inr (9, [.null, .int 0, .int 0, .int 0])) : Sc l B 1 1 300 yX9_init cX9_init 1 [.ref (ad 34)] ad 35 h 36 (fun ad1 h1 => h1 = (va_up (va_up h 35 (.inl (B.2.1 0, 300, .inl fun _ => 0))) 34 (.inr (9, [.ref (ad1 35), .int 0, .int 0, .int 0])))) := by
  refine Sc.of (by decide) (Nat.le_of_ble_eq_true rfl) fun Y C T0 hR hnl hnm => ?_
  show Gr Y B ad 35 h 0 0 0 [(0, .ref (ad 34))] []
  refine gz_aload_n C 0 rfl rfl dX9_init_0 ?_
  refine gz_objinit C oiX9_1 oi_1 oi_2 (d := 1 - 1) (ry_le hR (by decide)) (Nat.le_of_ble_eq_true rfl) dX9_init_1 ?_
  refine gz_aload_n C 0 rfl rfl dX9_init_4 ?_
  refine gz_sipush (v := 300) C rfl dX9_init_5 ?_
  refine gz_newi (n := 300) C hR ac_int (by decide) (by decide) (by decide) (by decide) (by decide) dX9_init_8 (fun a35 => ?_)
  refine gz_putF (q := 34) (fs := [.null, .int 0, .int 0, .int 0]) C hnm hh rfl (by decide) lfX9_9 rfl rfl (Nat.le_of_ble_eq_true rfl) dX9_init_10 ?_
  refine gz_vret (qs := (va_up ad 35 a35)) C T0 (fun q hq => ?_) rfl dX9_init_13
  by_cases hc : q < 35
  · rw [ex_lt hc]
    first | done | rfl | simp (disch := omega) only [vu_ne, ex_lt]
  · rw [ex_ge hc]
set_option maxRecDepth 100000 in
set_option maxHeartbeats 8000000 in
theorem ci_X9_36 {l : Launch} {B : BT} {ad : Nat → Nat} {h : Nat → va_E} (hh : h 36 = .inr (9, [.null, .int 0, .int 0, .int 0])) : Sc l B 1 1 300 yX9_init cX9_init 1 [.ref (ad 36)] ad 37 h 38 (fun ad1 h1 => h1 = (va_up (va_up h 37 (.inl (B.2.1 0, 300, .inl fun _ => 0))) 36 (.inr (9, [.ref (ad1 37), .int 0, .int 0, .int 0])))) := by
  refine Sc.of (by decide) (Nat.le_of_ble_eq_true rfl) fun Y C T0 hR hnl hnm => ?_
  show Gr Y B ad 37 h 0 0 0 [(0, .ref (ad 36))] []
  refine gz_aload_n C 0 rfl rfl dX9_init_0 ?_
  refine gz_objinit C oiX9_1 oi_1 oi_2 (d := 1 - 1) (ry_le hR (by decide)) (Nat.le_of_ble_eq_true rfl) dX9_init_1 ?_
  refine gz_aload_n C 0 rfl rfl dX9_init_4 ?_
  refine gz_sipush (v := 300) C rfl dX9_init_5 ?_
  refine gz_newi (n := 300) C hR ac_int (by decide) (by decide) (by decide) (by decide) (by decide) dX9_init_8 (fun a37 => ?_)
  refine gz_putF (q := 36) (fs := [.null, .int 0, .int 0, .int 0]) C hnm hh rfl (by decide) lfX9_9 rfl rfl (Nat.le_of_ble_eq_true rfl) dX9_init_10 ?_
  refine gz_vret (qs := (va_up ad 37 a37)) C T0 (fun q hq => ?_) rfl dX9_init_13
  by_cases hc : q < 37
  · rw [ex_lt hc]
    first | done | rfl | simp (disch := omega) only [vu_ne, ex_lt]
  · rw [ex_ge hc]
set_option maxRecDepth 100000 in
set_option maxHeartbeats 8000000 in
theorem ci_X9_38 {l : Launch} {B : BT} {ad : Nat → Nat} {h : Nat → va_E} (hh : h 38 = .inr (9, [.null, .int 0, .int 0, .int 0])) : Sc l B 1 1 300 yX9_init cX9_init 1 [.ref (ad 38)] ad 39 h 40 (fun ad1 h1 => h1 = (va_up (va_up h 39 (.inl (B.2.1 0, 300, .inl fun _ => 0))) 38 (.inr (9, [.ref (ad1 39), .int 0, .int 0, .int 0])))) := by
  refine Sc.of (by decide) (Nat.le_of_ble_eq_true rfl) fun Y C T0 hR hnl hnm => ?_
  show Gr Y B ad 39 h 0 0 0 [(0, .ref (ad 38))] []
  refine gz_aload_n C 0 rfl rfl dX9_init_0 ?_
  refine gz_objinit C oiX9_1 oi_1 oi_2 (d := 1 - 1) (ry_le hR (by decide)) (Nat.le_of_ble_eq_true rfl) dX9_init_1 ?_
  refine gz_aload_n C 0 rfl rfl dX9_init_4 ?_
  refine gz_sipush (v := 300) C rfl dX9_init_5 ?_
  refine gz_newi (n := 300) C hR ac_int (by decide) (by decide) (by decide) (by decide) (by decide) dX9_init_8 (fun a39 => ?_)
  refine gz_putF (q := 38) (fs := [.null, .int 0, .int 0, .int 0]) C hnm hh rfl (by decide) lfX9_9 rfl rfl (Nat.le_of_ble_eq_true rfl) dX9_init_10 ?_
  refine gz_vret (qs := (va_up ad 39 a39)) C T0 (fun q hq => ?_) rfl dX9_init_13
  by_cases hc : q < 39
  · rw [ex_lt hc]
    first | done | rfl | simp (disch := omega) only [vu_ne, ex_lt]
  · rw [ex_ge hc]
set_option maxRecDepth 100000 in
set_option maxHeartbeats 8000000 in
theorem ci_X9_40 {l : Launch} {B : BT} {ad : Nat → Nat} {h : Nat → va_E} (hh : h 40 = .inr (9, [.null, .int 0, .int 0, .int 0])) : Sc l B 1 1 300 yX9_init cX9_init 1 [.ref (ad 40)] ad 41 h 42 (fun ad1 h1 => h1 = (va_up (va_up h 41 (.inl (B.2.1 0, 300, .inl fun _ => 0))) 40 (.inr (9, [.ref (ad1 41), .int 0, .int 0, .int 0])))) := by
  refine Sc.of (by decide) (Nat.le_of_ble_eq_true rfl) fun Y C T0 hR hnl hnm => ?_
  show Gr Y B ad 41 h 0 0 0 [(0, .ref (ad 40))] []
  refine gz_aload_n C 0 rfl rfl dX9_init_0 ?_
  refine gz_objinit C oiX9_1 oi_1 oi_2 (d := 1 - 1) (ry_le hR (by decide)) (Nat.le_of_ble_eq_true rfl) dX9_init_1 ?_
  refine gz_aload_n C 0 rfl rfl dX9_init_4 ?_
  refine gz_sipush (v := 300) C rfl dX9_init_5 ?_
  refine gz_newi (n := 300) C hR ac_int (by decide) (by decide) (by decide) (by decide) (by decide) dX9_init_8 (fun a41 => ?_)
  refine gz_putF (q := 40) (fs := [.null, .int 0, .int 0, .int 0]) C hnm hh rfl (by decide) lfX9_9 rfl rfl (Nat.le_of_ble_eq_true rfl) dX9_init_10 ?_
  refine gz_vret (qs := (va_up ad 41 a41)) C T0 (fun q hq => ?_) rfl dX9_init_13
  by_cases hc : q < 41
  · rw [ex_lt hc]
    first | done | rfl | simp (disch := omega) only [vu_ne, ex_lt]
  · rw [ex_ge hc]
set_option maxRecDepth 100000 in
set_option maxHeartbeats 8000000 in
theorem ci_X8_42 {l : Launch} {B : BT} {ad : Nat → Nat} {h : Nat → va_E} (hh : h 42 = .inr (8, [.null, .int 0, .int 0, .int 0, .null, .null, .null, .int 0, .int 0, .null, .int 0])) : Sc l B 1 4 1203 yX8_init cX8_init 2 [.ref (ad 42), .ref (ad 30)] ad 43 h 47 (fun ad1 h1 => h1 = (va_up (va_up (va_up (va_up (va_up (va_up (va_up (va_up (va_up (va_up (va_up h 43 (.inl (B.2.1 0, 300, .inl fun _ => 0))) 42 (.inr (8, [.ref (ad1 43), .int 0, .int 0, .int 0, .null, .null, .null, .int 0, .int 0, .null, .int 0]))) 42 (.inr (8, [.ref (ad1 43), .int 0, .int (-1), .int 0, .null, .null, .null, .int 0, .int 0, .null, .int 0]))) 42 (.inr (8, [.ref (ad1 43), .int 0, .int (-1), .int (-1), .null, .null, .null, .int 0, .int 0, .null, .int 0]))) 44 (.inl (B.2.1 0, 301, .inl fun _ => 0))) 42 (.inr (8, [.ref (ad1 43), .int 0, .int (-1), .int (-1), .ref (ad1 44), .null, .null, .int 0, .int 0, .null, .int 0]))) 45 (.inl (B.2.1 0, 301, .inl fun _ => 0))) 42 (.inr (8, [.ref (ad1 43), .int 0, .int (-1), .int (-1), .ref (ad1 44), .ref (ad1 45), .null, .int 0, .int 0, .null, .int 0]))) 46 (.inl (B.2.1 0, 301, .inl fun _ => 0))) 42 (.inr (8, [.ref (ad1 43), .int 0, .int (-1), .int (-1), .ref (ad1 44), .ref (ad1 45), .ref (ad1 46), .int 0, .int 0, .null, .int 0]))) 42 (.inr (8, [.ref (ad1 43), .int 0, .int (-1), .int (-1), .ref (ad1 44), .ref (ad1 45), .ref (ad1 46), .int 0, .int 0, .ref (ad1 30), .int 0])))) := by
  refine Sc.of (by decide) (Nat.le_of_ble_eq_true rfl) fun Y C T0 hR hnl hnm => ?_
  show Gr Y B ad 43 h 0 0 0 [(0, .ref (ad 42)), (1, .ref (ad 30))] []
  refine gz_aload_n C 0 rfl rfl dX8_init_0 ?_
  refine gz_objinit C oiX8_3 oi_1 oi_2 (d := 1 - 1) (ry_le hR (by decide)) (Nat.le_of_ble_eq_true rfl) dX8_init_1 ?_
  refine gz_aload_n C 0 rfl rfl dX8_init_4 ?_
  refine gz_sipush (v := 300) C rfl dX8_init_5 ?_
  refine gz_newi (n := 300) C hR ac_int (by decide) (by decide) (by decide) (by decide) (by decide) dX8_init_8 (fun a43 => ?_)
  refine gz_putF (q := 42) (fs := [.null, .int 0, .int 0, .int 0, .null, .null, .null, .int 0, .int 0, .null, .int 0]) C hnm hh rfl (by decide) lfX8_11 rfl rfl (Nat.le_of_ble_eq_true rfl) dX8_init_10 ?_
  refine gz_aload_n C 0 rfl rfl dX8_init_13 ?_
  refine gz_iconst (v := (-1)) C rfl dX8_init_14 ?_
  refine gz_put (q := 42) (fs := [.ref (a43), .int 0, .int 0, .int 0, .null, .null, .null, .int 0, .int 0, .null, .int 0]) C rfl rfl (by decide) lpX8_15 rfl rfl (Nat.le_of_ble_eq_true rfl) dX8_init_15 ?_
  refine gz_aload_n C 0 rfl rfl dX8_init_18 ?_
  refine gz_iconst (v := (-1)) C rfl dX8_init_19 ?_
  refine gz_put (q := 42) (fs := [.ref (a43), .int 0, .int (-1), .int 0, .null, .null, .null, .int 0, .int 0, .null, .int 0]) C rfl rfl (by decide) lpX8_19 rfl rfl (Nat.le_of_ble_eq_true rfl) dX8_init_20 ?_
  refine gz_aload_n C 0 rfl rfl dX8_init_23 ?_
  refine gz_sipush (v := 301) C rfl dX8_init_24 ?_
  refine gz_newi (n := 301) C hR ac_int (by decide) (by decide) (by decide) (by decide) (by decide) dX8_init_27 (fun a44 => ?_)
  refine gz_putF (q := 42) (fs := [.ref (a43), .int 0, .int (-1), .int (-1), .null, .null, .null, .int 0, .int 0, .null, .int 0]) C hnm rfl rfl (by decide) lfX8_22 rfl rfl (Nat.le_of_ble_eq_true rfl) dX8_init_29 ?_
  refine gz_aload_n C 0 rfl rfl dX8_init_32 ?_
  refine gz_sipush (v := 301) C rfl dX8_init_33 ?_
  refine gz_newi (n := 301) C hR ac_int (by decide) (by decide) (by decide) (by decide) (by decide) dX8_init_36 (fun a45 => ?_)
  refine gz_putF (q := 42) (fs := [.ref (a43), .int 0, .int (-1), .int (-1), .ref (a44), .null, .null, .int 0, .int 0, .null, .int 0]) C hnm rfl rfl (by decide) lfX8_25 rfl rfl (Nat.le_of_ble_eq_true rfl) dX8_init_38 ?_
  refine gz_aload_n C 0 rfl rfl dX8_init_41 ?_
  refine gz_sipush (v := 301) C rfl dX8_init_42 ?_
  refine gz_newi (n := 301) C hR ac_int (by decide) (by decide) (by decide) (by decide) (by decide) dX8_init_45 (fun a46 => ?_)
  refine gz_putF (q := 42) (fs := [.ref (a43), .int 0, .int (-1), .int (-1), .ref (a44), .ref (a45), .null, .int 0, .int 0, .null, .int 0]) C hnm rfl rfl (by decide) lfX8_28 rfl rfl (Nat.le_of_ble_eq_true rfl) dX8_init_47 ?_
  refine gz_aload_n C 0 rfl rfl dX8_init_50 ?_
  refine gz_aload_n C 1 rfl rfl dX8_init_51 ?_
  refine gz_put (q := 42) (fs := [.ref (a43), .int 0, .int (-1), .int (-1), .ref (a44), .ref (a45), .ref (a46), .int 0, .int 0, .null, .int 0]) C rfl rfl (by decide) lpX8_31 rfl rfl (Nat.le_of_ble_eq_true rfl) dX8_init_52 ?_
  refine gz_vret (qs := (va_up (va_up (va_up (va_up ad 43 a43) 44 a44) 45 a45) 46 a46)) C T0 (fun q hq => ?_) rfl dX8_init_55
  by_cases hc : q < 43
  · rw [ex_lt hc]
    first | done | rfl | simp (disch := omega) only [vu_ne, ex_lt]
  · rw [ex_ge hc]
set_option maxRecDepth 100000 in
set_option maxHeartbeats 8000000 in
theorem ci_X3_47 {l : Launch} {B : BT} {ad : Nat → Nat} {h : Nat → va_E} (hh : h 47 = .inr (3, [.null, .null, .null, .null, .null, .null, .int 0, .int 0, .null, .int 0, .int 0, .int 0, .int 0, .int 0])) : Sc l B 1 3 96 yX3_init cX3_init 5 [.ref (ad 47), .ref (ad 1), .ref (ad 9), .ref (ad 21), .ref (ad 30)] ad 48 h 51 (fun ad1 h1 => h1 = (va_up (va_up (va_up (va_up (va_up (va_up (va_up (va_up (va_up (va_up (va_up h 48 (.inl (B.2.1 0, 64, .inl fun _ => 0))) 47 (.inr (3, [.null, .null, .ref (ad1 48), .null, .null, .null, .int 0, .int 0, .null, .int 0, .int 0, .int 0, .int 0, .int 0]))) 49 (.inl (B.2.1 0, 16, .inl fun _ => 0))) 47 (.inr (3, [.null, .null, .ref (ad1 48), .ref (ad1 49), .null, .null, .int 0, .int 0, .null, .int 0, .int 0, .int 0, .int 0, .int 0]))) 50 (.inl (B.2.1 3, 16, .inl fun _ => 0))) 47 (.inr (3, [.null, .null, .ref (ad1 48), .ref (ad1 49), .ref (ad1 50), .null, .int 0, .int 0, .null, .int 0, .int 0, .int 0, .int 0, .int 0]))) 47 (.inr (3, [.null, .null, .ref (ad1 48), .ref (ad1 49), .ref (ad1 50), .null, .int (-1), .int 0, .null, .int 0, .int 0, .int 0, .int 0, .int 0]))) 47 (.inr (3, [.ref (ad1 1), .null, .ref (ad1 48), .ref (ad1 49), .ref (ad1 50), .null, .int (-1), .int 0, .null, .int 0, .int 0, .int 0, .int 0, .int 0]))) 47 (.inr (3, [.ref (ad1 1), .ref (ad1 9), .ref (ad1 48), .ref (ad1 49), .ref (ad1 50), .null, .int (-1), .int 0, .null, .int 0, .int 0, .int 0, .int 0, .int 0]))) 47 (.inr (3, [.ref (ad1 1), .ref (ad1 9), .ref (ad1 48), .ref (ad1 49), .ref (ad1 50), .null, .int (-1), .int 0, .ref (ad1 21), .int 0, .int 0, .int 0, .int 0, .int 0]))) 47 (.inr (3, [.ref (ad1 1), .ref (ad1 9), .ref (ad1 48), .ref (ad1 49), .ref (ad1 50), .ref (ad1 30), .int (-1), .int 0, .ref (ad1 21), .int 0, .int 0, .int 0, .int 0, .int 0])))) := by
  refine Sc.of (by decide) (Nat.le_of_ble_eq_true rfl) fun Y C T0 hR hnl hnm => ?_
  show Gr Y B ad 48 h 0 0 0 [(0, .ref (ad 47)), (1, .ref (ad 1)), (2, .ref (ad 9)), (3, .ref (ad 21)), (4, .ref (ad 30))] []
  refine gz_aload_n C 0 rfl rfl dX3_init_0 ?_
  refine gz_objinit C oiX3_3 oi_1 oi_2 (d := 1 - 1) (ry_le hR (by decide)) (Nat.le_of_ble_eq_true rfl) dX3_init_1 ?_
  refine gz_aload_n C 0 rfl rfl dX3_init_4 ?_
  refine gz_bipush (v := 64) C rfl dX3_init_5 ?_
  refine gz_newi (n := 64) C hR ac_int (by decide) (by decide) (by decide) (by decide) (by decide) dX3_init_7 (fun a48 => ?_)
  refine gz_putF (q := 47) (fs := [.null, .null, .null, .null, .null, .null, .int 0, .int 0, .null, .int 0, .int 0, .int 0, .int 0, .int 0]) C hnm hh rfl (by decide) lfX3_11 rfl rfl (Nat.le_of_ble_eq_true rfl) dX3_init_9 ?_
  refine gz_aload_n C 0 rfl rfl dX3_init_12 ?_
  refine gz_bipush (v := 16) C rfl dX3_init_13 ?_
  refine gz_newi (n := 16) C hR ac_int (by decide) (by decide) (by decide) (by decide) (by decide) dX3_init_15 (fun a49 => ?_)
  refine gz_putF (q := 47) (fs := [.null, .null, .ref (a48), .null, .null, .null, .int 0, .int 0, .null, .int 0, .int 0, .int 0, .int 0, .int 0]) C hnm rfl rfl (by decide) lfX3_15 rfl rfl (Nat.le_of_ble_eq_true rfl) dX3_init_17 ?_
  refine gz_aload_n C 0 rfl rfl dX3_init_20 ?_
  refine gz_bipush (v := 16) C rfl dX3_init_21 ?_
  refine gz_newz (n := 16) C hR ac_boolean (by decide) (by decide) (by decide) (by decide) (by decide) dX3_init_23 (fun a50 => ?_)
  refine gz_putF (q := 47) (fs := [.null, .null, .ref (a48), .ref (a49), .null, .null, .int 0, .int 0, .null, .int 0, .int 0, .int 0, .int 0, .int 0]) C hnm rfl rfl (by decide) lfX3_18 rfl rfl (Nat.le_of_ble_eq_true rfl) dX3_init_25 ?_
  refine gz_aload_n C 0 rfl rfl dX3_init_28 ?_
  refine gz_iconst (v := (-1)) C rfl dX3_init_29 ?_
  refine gz_put (q := 47) (fs := [.null, .null, .ref (a48), .ref (a49), .ref (a50), .null, .int 0, .int 0, .null, .int 0, .int 0, .int 0, .int 0, .int 0]) C rfl rfl (by decide) lpX3_22 rfl rfl (Nat.le_of_ble_eq_true rfl) dX3_init_30 ?_
  refine gz_aload_n C 0 rfl rfl dX3_init_33 ?_
  refine gz_aload_n C 1 rfl rfl dX3_init_34 ?_
  refine gz_putF (q := 47) (fs := [.null, .null, .ref (a48), .ref (a49), .ref (a50), .null, .int (-1), .int 0, .null, .int 0, .int 0, .int 0, .int 0, .int 0]) C hnm rfl rfl (by decide) lfX3_26 rfl rfl (Nat.le_of_ble_eq_true rfl) dX3_init_35 ?_
  refine gz_aload_n C 0 rfl rfl dX3_init_38 ?_
  refine gz_aload_n C 2 rfl rfl dX3_init_39 ?_
  refine gz_putF (q := 47) (fs := [.ref (ad 1), .null, .ref (a48), .ref (a49), .ref (a50), .null, .int (-1), .int 0, .null, .int 0, .int 0, .int 0, .int 0, .int 0]) C hnm rfl rfl (by decide) lfX3_30 rfl rfl (Nat.le_of_ble_eq_true rfl) dX3_init_40 ?_
  refine gz_aload_n C 0 rfl rfl dX3_init_43 ?_
  refine gz_aload_n C 3 rfl rfl dX3_init_44 ?_
  refine gz_put (q := 47) (fs := [.ref (ad 1), .ref (ad 9), .ref (a48), .ref (a49), .ref (a50), .null, .int (-1), .int 0, .null, .int 0, .int 0, .int 0, .int 0, .int 0]) C rfl rfl (by decide) lpX3_34 rfl rfl (Nat.le_of_ble_eq_true rfl) dX3_init_45 ?_
  refine gz_aload_n C 0 rfl rfl dX3_init_48 ?_
  refine gz_aload C 4 rfl dX3_init_49 ?_
  refine gz_put (q := 47) (fs := [.ref (ad 1), .ref (ad 9), .ref (a48), .ref (a49), .ref (a50), .null, .int (-1), .int 0, .ref (ad 21), .int 0, .int 0, .int 0, .int 0, .int 0]) C rfl rfl (by decide) lpX3_38 rfl rfl (Nat.le_of_ble_eq_true rfl) dX3_init_51 ?_
  refine gz_vret (qs := (va_up (va_up (va_up ad 48 a48) 49 a49) 50 a50)) C T0 (fun q hq => ?_) rfl dX3_init_54
  by_cases hc : q < 48
  · rw [ex_lt hc]
    first | done | rfl | simp (disch := omega) only [vu_ne, ex_lt]
  · rw [ex_ge hc]
set_option maxRecDepth 100000 in
set_option maxHeartbeats 8000000 in
theorem ci_X1_51 {l : Launch} {B : BT} {ad : Nat → Nat} {h : Nat → va_E} (hh : h 51 = .inr (1, [.null, .null, .null, .null])) : Sc l B 1 0 0 yX1_init cX1_init 5 [.ref (ad 51), .ref (ad 1), .ref (ad 9), .ref (ad 29), .ref (ad 47)] ad 52 h 52 (fun ad1 h1 => h1 = (va_up (va_up (va_up (va_up h 51 (.inr (1, [.ref (ad1 1), .null, .null, .null]))) 51 (.inr (1, [.ref (ad1 1), .ref (ad1 9), .null, .null]))) 51 (.inr (1, [.ref (ad1 1), .ref (ad1 9), .ref (ad1 29), .null]))) 51 (.inr (1, [.ref (ad1 1), .ref (ad1 9), .ref (ad1 29), .ref (ad1 47)])))) := by
  refine Sc.of (by decide) (Nat.le_of_ble_eq_true rfl) fun Y C T0 hR hnl hnm => ?_
  show Gr Y B ad 52 h 0 0 0 [(0, .ref (ad 51)), (1, .ref (ad 1)), (2, .ref (ad 9)), (3, .ref (ad 29)), (4, .ref (ad 47))] []
  refine gz_aload_n C 0 rfl rfl dX1_init_0 ?_
  refine gz_objinit C oiX1_3 oi_1 oi_2 (d := 1 - 1) (ry_le hR (by decide)) (Nat.le_of_ble_eq_true rfl) dX1_init_1 ?_
  refine gz_aload_n C 0 rfl rfl dX1_init_4 ?_
  refine gz_aload_n C 1 rfl rfl dX1_init_5 ?_
  refine gz_putF (q := 51) (fs := [.null, .null, .null, .null]) C hnm hh rfl (by decide) lfX1_9 rfl rfl (Nat.le_of_ble_eq_true rfl) dX1_init_6 ?_
  refine gz_aload_n C 0 rfl rfl dX1_init_9 ?_
  refine gz_aload_n C 2 rfl rfl dX1_init_10 ?_
  refine gz_putF (q := 51) (fs := [.ref (ad 1), .null, .null, .null]) C hnm rfl rfl (by decide) lfX1_15 rfl rfl (Nat.le_of_ble_eq_true rfl) dX1_init_11 ?_
  refine gz_aload_n C 0 rfl rfl dX1_init_14 ?_
  refine gz_aload_n C 3 rfl rfl dX1_init_15 ?_
  refine gz_putF (q := 51) (fs := [.ref (ad 1), .ref (ad 9), .null, .null]) C hnm rfl rfl (by decide) lfX1_19 rfl rfl (Nat.le_of_ble_eq_true rfl) dX1_init_16 ?_
  refine gz_aload_n C 0 rfl rfl dX1_init_19 ?_
  refine gz_aload C 4 rfl dX1_init_20 ?_
  refine gz_putF (q := 51) (fs := [.ref (ad 1), .ref (ad 9), .ref (ad 29), .null]) C hnm rfl rfl (by decide) lfX1_23 rfl rfl (Nat.le_of_ble_eq_true rfl) dX1_init_22 ?_
  refine gz_vret (qs := ad) C T0 (fun q hq => ?_) rfl dX1_init_25
  by_cases hc : q < 52
  · rw [ex_lt hc]
    first | done | rfl | simp (disch := omega) only [vu_ne, ex_lt]
  · rw [ex_ge hc]
set_option maxRecDepth 100000 in
set_option maxHeartbeats 8000000 in
theorem ci_X10_52 {l : Launch} {B : BT} {ad : Nat → Nat} {h : Nat → va_E} (hh : h 52 = .inr (10, [.null, .null, .null, .null, .null, .null, .null, .null, .null, .null, .int 0])) : Sc l B 1 7 2032 yX10_init cX10_init 4 [.ref (ad 52), .ref (ad 1), .ref (ad 9), .ref (ad 21)] ad 53 h 60 (fun ad1 h1 => h1 = (va_up (va_up (va_up (va_up (va_up (va_up (va_up (va_up (va_up (va_up (va_up (va_up (va_up (va_up (va_up (va_up (va_up h 53 (.inl (B.2.1 0, 16, .inl fun _ => 0))) 52 (.inr (10, [.null, .null, .null, .ref (ad1 53), .null, .null, .null, .null, .null, .null, .int 0]))) 54 (.inl (B.2.1 0, 16, .inl fun _ => 0))) 52 (.inr (10, [.null, .null, .null, .ref (ad1 53), .ref (ad1 54), .null, .null, .null, .null, .null, .int 0]))) 55 (.inl (B.2.1 0, 976, .inl fun _ => 0))) 52 (.inr (10, [.null, .null, .null, .ref (ad1 53), .ref (ad1 54), .ref (ad1 55), .null, .null, .null, .null, .int 0]))) 56 (.inl (B.2.1 0, 976, .inl fun _ => 0))) 52 (.inr (10, [.null, .null, .null, .ref (ad1 53), .ref (ad1 54), .ref (ad1 55), .ref (ad1 56), .null, .null, .null, .int 0]))) 57 (.inl (B.2.1 0, 16, .inl fun _ => 0))) 52 (.inr (10, [.null, .null, .null, .ref (ad1 53), .ref (ad1 54), .ref (ad1 55), .ref (ad1 56), .ref (ad1 57), .null, .null, .int 0]))) 58 (.inl (B.2.1 0, 16, .inl fun _ => 0))) 52 (.inr (10, [.null, .null, .null, .ref (ad1 53), .ref (ad1 54), .ref (ad1 55), .ref (ad1 56), .ref (ad1 57), .ref (ad1 58), .null, .int 0]))) 59 (.inl (B.2.1 0, 16, .inl fun _ => 0))) 52 (.inr (10, [.null, .null, .null, .ref (ad1 53), .ref (ad1 54), .ref (ad1 55), .ref (ad1 56), .ref (ad1 57), .ref (ad1 58), .ref (ad1 59), .int 0]))) 52 (.inr (10, [.ref (ad1 1), .null, .null, .ref (ad1 53), .ref (ad1 54), .ref (ad1 55), .ref (ad1 56), .ref (ad1 57), .ref (ad1 58), .ref (ad1 59), .int 0]))) 52 (.inr (10, [.ref (ad1 1), .ref (ad1 9), .null, .ref (ad1 53), .ref (ad1 54), .ref (ad1 55), .ref (ad1 56), .ref (ad1 57), .ref (ad1 58), .ref (ad1 59), .int 0]))) 52 (.inr (10, [.ref (ad1 1), .ref (ad1 9), .ref (ad1 21), .ref (ad1 53), .ref (ad1 54), .ref (ad1 55), .ref (ad1 56), .ref (ad1 57), .ref (ad1 58), .ref (ad1 59), .int 0])))) := by
  refine Sc.of (by decide) (Nat.le_of_ble_eq_true rfl) fun Y C T0 hR hnl hnm => ?_
  show Gr Y B ad 53 h 0 0 0 [(0, .ref (ad 52)), (1, .ref (ad 1)), (2, .ref (ad 9)), (3, .ref (ad 21))] []
  refine gz_aload_n C 0 rfl rfl dX10_init_0 ?_
  refine gz_objinit C oiX10_3 oi_1 oi_2 (d := 1 - 1) (ry_le hR (by decide)) (Nat.le_of_ble_eq_true rfl) dX10_init_1 ?_
  refine gz_aload_n C 0 rfl rfl dX10_init_4 ?_
  refine gz_bipush (v := 16) C rfl dX10_init_5 ?_
  refine gz_newi (n := 16) C hR ac_int (by decide) (by decide) (by decide) (by decide) (by decide) dX10_init_7 (fun a53 => ?_)
  refine gz_putF (q := 52) (fs := [.null, .null, .null, .null, .null, .null, .null, .null, .null, .null, .int 0]) C hnm hh rfl (by decide) lfX10_9 rfl rfl (Nat.le_of_ble_eq_true rfl) dX10_init_9 ?_
  refine gz_aload_n C 0 rfl rfl dX10_init_12 ?_
  refine gz_bipush (v := 16) C rfl dX10_init_13 ?_
  refine gz_newi (n := 16) C hR ac_int (by decide) (by decide) (by decide) (by decide) (by decide) dX10_init_15 (fun a54 => ?_)
  refine gz_putF (q := 52) (fs := [.null, .null, .null, .ref (a53), .null, .null, .null, .null, .null, .null, .int 0]) C hnm rfl rfl (by decide) lfX10_15 rfl rfl (Nat.le_of_ble_eq_true rfl) dX10_init_17 ?_
  refine gz_aload_n C 0 rfl rfl dX10_init_20 ?_
  refine gz_sipush (v := 976) C rfl dX10_init_21 ?_
  refine gz_newi (n := 976) C hR ac_int (by decide) (by decide) (by decide) (by decide) (by decide) dX10_init_24 (fun a55 => ?_)
  refine gz_putF (q := 52) (fs := [.null, .null, .null, .ref (a53), .ref (a54), .null, .null, .null, .null, .null, .int 0]) C hnm rfl rfl (by decide) lfX10_18 rfl rfl (Nat.le_of_ble_eq_true rfl) dX10_init_26 ?_
  refine gz_aload_n C 0 rfl rfl dX10_init_29 ?_
  refine gz_sipush (v := 976) C rfl dX10_init_30 ?_
  refine gz_newi (n := 976) C hR ac_int (by decide) (by decide) (by decide) (by decide) (by decide) dX10_init_33 (fun a56 => ?_)
  refine gz_putF (q := 52) (fs := [.null, .null, .null, .ref (a53), .ref (a54), .ref (a55), .null, .null, .null, .null, .int 0]) C hnm rfl rfl (by decide) lfX10_21 rfl rfl (Nat.le_of_ble_eq_true rfl) dX10_init_35 ?_
  refine gz_aload_n C 0 rfl rfl dX10_init_38 ?_
  refine gz_bipush (v := 16) C rfl dX10_init_39 ?_
  refine gz_newi (n := 16) C hR ac_int (by decide) (by decide) (by decide) (by decide) (by decide) dX10_init_41 (fun a57 => ?_)
  refine gz_putF (q := 52) (fs := [.null, .null, .null, .ref (a53), .ref (a54), .ref (a55), .ref (a56), .null, .null, .null, .int 0]) C hnm rfl rfl (by decide) lfX10_24 rfl rfl (Nat.le_of_ble_eq_true rfl) dX10_init_43 ?_
  refine gz_aload_n C 0 rfl rfl dX10_init_46 ?_
  refine gz_bipush (v := 16) C rfl dX10_init_47 ?_
  refine gz_newi (n := 16) C hR ac_int (by decide) (by decide) (by decide) (by decide) (by decide) dX10_init_49 (fun a58 => ?_)
  refine gz_putF (q := 52) (fs := [.null, .null, .null, .ref (a53), .ref (a54), .ref (a55), .ref (a56), .ref (a57), .null, .null, .int 0]) C hnm rfl rfl (by decide) lfX10_27 rfl rfl (Nat.le_of_ble_eq_true rfl) dX10_init_51 ?_
  refine gz_aload_n C 0 rfl rfl dX10_init_54 ?_
  refine gz_bipush (v := 16) C rfl dX10_init_55 ?_
  refine gz_newi (n := 16) C hR ac_int (by decide) (by decide) (by decide) (by decide) (by decide) dX10_init_57 (fun a59 => ?_)
  refine gz_putF (q := 52) (fs := [.null, .null, .null, .ref (a53), .ref (a54), .ref (a55), .ref (a56), .ref (a57), .ref (a58), .null, .int 0]) C hnm rfl rfl (by decide) lfX10_30 rfl rfl (Nat.le_of_ble_eq_true rfl) dX10_init_59 ?_
  refine gz_aload_n C 0 rfl rfl dX10_init_62 ?_
  refine gz_aload_n C 1 rfl rfl dX10_init_63 ?_
  refine gz_putF (q := 52) (fs := [.null, .null, .null, .ref (a53), .ref (a54), .ref (a55), .ref (a56), .ref (a57), .ref (a58), .ref (a59), .int 0]) C hnm rfl rfl (by decide) lfX10_33 rfl rfl (Nat.le_of_ble_eq_true rfl) dX10_init_64 ?_
  refine gz_aload_n C 0 rfl rfl dX10_init_67 ?_
  refine gz_aload_n C 2 rfl rfl dX10_init_68 ?_
  refine gz_putF (q := 52) (fs := [.ref (ad 1), .null, .null, .ref (a53), .ref (a54), .ref (a55), .ref (a56), .ref (a57), .ref (a58), .ref (a59), .int 0]) C hnm rfl rfl (by decide) lfX10_37 rfl rfl (Nat.le_of_ble_eq_true rfl) dX10_init_69 ?_
  refine gz_aload_n C 0 rfl rfl dX10_init_72 ?_
  refine gz_aload_n C 3 rfl rfl dX10_init_73 ?_
  refine gz_putF (q := 52) (fs := [.ref (ad 1), .ref (ad 9), .null, .ref (a53), .ref (a54), .ref (a55), .ref (a56), .ref (a57), .ref (a58), .ref (a59), .int 0]) C hnm rfl rfl (by decide) lfX10_41 rfl rfl (Nat.le_of_ble_eq_true rfl) dX10_init_74 ?_
  refine gz_vret (qs := (va_up (va_up (va_up (va_up (va_up (va_up (va_up ad 53 a53) 54 a54) 55 a55) 56 a56) 57 a57) 58 a58) 59 a59)) C T0 (fun q hq => ?_) rfl dX10_init_77
  by_cases hc : q < 53
  · rw [ex_lt hc]
    first | done | rfl | simp (disch := omega) only [vu_ne, ex_lt]
  · rw [ex_ge hc]
set_option maxRecDepth 100000 in
set_option maxHeartbeats 8000000 in
theorem ci_X6_60 {l : Launch} {B : BT} {ad : Nat → Nat} {h : Nat → va_E} (hh : h 60 = .inr (6, [.null, .null, .null, .int 0, .int 0, .int 0])) : Sc l B 1 3 72 yX6_init cX6_init 1 [.ref (ad 60)] ad 61 h 64 (fun ad1 h1 => h1 = (va_up (va_up (va_up (va_up (va_up (va_up h 61 (.inl (B.2.1 0, 24, .inl fun _ => 0))) 60 (.inr (6, [.ref (ad1 61), .null, .null, .int 0, .int 0, .int 0]))) 62 (.inl (B.2.1 0, 24, .inl fun _ => 0))) 60 (.inr (6, [.ref (ad1 61), .ref (ad1 62), .null, .int 0, .int 0, .int 0]))) 63 (.inl (B.2.1 0, 24, .inl fun _ => 0))) 60 (.inr (6, [.ref (ad1 61), .ref (ad1 62), .ref (ad1 63), .int 0, .int 0, .int 0])))) := by
  refine Sc.of (by decide) (Nat.le_of_ble_eq_true rfl) fun Y C T0 hR hnl hnm => ?_
  show Gr Y B ad 61 h 0 0 0 [(0, .ref (ad 60))] []
  refine gz_aload_n C 0 rfl rfl dX6_init_0 ?_
  refine gz_objinit C oiX6_3 oi_1 oi_2 (d := 1 - 1) (ry_le hR (by decide)) (Nat.le_of_ble_eq_true rfl) dX6_init_1 ?_
  refine gz_aload_n C 0 rfl rfl dX6_init_4 ?_
  refine gz_bipush (v := 24) C rfl dX6_init_5 ?_
  refine gz_newi (n := 24) C hR ac_int (by decide) (by decide) (by decide) (by decide) (by decide) dX6_init_7 (fun a61 => ?_)
  refine gz_putF (q := 60) (fs := [.null, .null, .null, .int 0, .int 0, .int 0]) C hnm hh rfl (by decide) lfX6_9 rfl rfl (Nat.le_of_ble_eq_true rfl) dX6_init_9 ?_
  refine gz_aload_n C 0 rfl rfl dX6_init_12 ?_
  refine gz_bipush (v := 24) C rfl dX6_init_13 ?_
  refine gz_newi (n := 24) C hR ac_int (by decide) (by decide) (by decide) (by decide) (by decide) dX6_init_15 (fun a62 => ?_)
  refine gz_putF (q := 60) (fs := [.ref (a61), .null, .null, .int 0, .int 0, .int 0]) C hnm rfl rfl (by decide) lfX6_13 rfl rfl (Nat.le_of_ble_eq_true rfl) dX6_init_17 ?_
  refine gz_aload_n C 0 rfl rfl dX6_init_20 ?_
  refine gz_bipush (v := 24) C rfl dX6_init_21 ?_
  refine gz_newi (n := 24) C hR ac_int (by decide) (by decide) (by decide) (by decide) (by decide) dX6_init_23 (fun a63 => ?_)
  refine gz_putF (q := 60) (fs := [.ref (a61), .ref (a62), .null, .int 0, .int 0, .int 0]) C hnm rfl rfl (by decide) lfX6_16 rfl rfl (Nat.le_of_ble_eq_true rfl) dX6_init_25 ?_
  refine gz_vret (qs := (va_up (va_up (va_up ad 61 a61) 62 a62) 63 a63)) C T0 (fun q hq => ?_) rfl dX6_init_28
  by_cases hc : q < 61
  · rw [ex_lt hc]
    first | done | rfl | simp (disch := omega) only [vu_ne, ex_lt]
  · rw [ex_ge hc]
set_option maxRecDepth 100000 in
set_option maxHeartbeats 8000000 in
theorem ci_X7_64 {l : Launch} {B : BT} {ad : Nat → Nat} {h : Nat → va_E} (hh : h 64 = .inr (7, [.int 0, .null, .null, .null, .null, .null, .int 0])) : Sc l B 1 5 2796 yX7_init cX7_init 1 [.ref (ad 64)] ad 65 h 70 (fun ad1 h1 => h1 = (va_up (va_up (va_up (va_up (va_up (va_up (va_up (va_up (va_up (va_up h 65 (.inl (B.2.1 0, 150, .inl fun _ => 0))) 64 (.inr (7, [.int 0, .ref (ad1 65), .null, .null, .null, .null, .int 0]))) 66 (.inl (B.2.1 0, 150, .inl fun _ => 0))) 64 (.inr (7, [.int 0, .ref (ad1 65), .ref (ad1 66), .null, .null, .null, .int 0]))) 67 (.inl (B.2.1 0, 150, .inl fun _ => 0))) 64 (.inr (7, [.int 0, .ref (ad1 65), .ref (ad1 66), .ref (ad1 67), .null, .null, .int 0]))) 68 (.inl (B.2.1 0, 150, .inl fun _ => 0))) 64 (.inr (7, [.int 0, .ref (ad1 65), .ref (ad1 66), .ref (ad1 67), .ref (ad1 68), .null, .int 0]))) 69 (.inl (B.2.1 1, 2196, .inr (.inl fun _ => 0)))) 64 (.inr (7, [.int 0, .ref (ad1 65), .ref (ad1 66), .ref (ad1 67), .ref (ad1 68), .ref (ad1 69), .int 0])))) := by
  refine Sc.of (by decide) (Nat.le_of_ble_eq_true rfl) fun Y C T0 hR hnl hnm => ?_
  show Gr Y B ad 65 h 0 0 0 [(0, .ref (ad 64))] []
  refine gz_aload_n C 0 rfl rfl dX7_init_0 ?_
  refine gz_objinit C oiX7_3 oi_1 oi_2 (d := 1 - 1) (ry_le hR (by decide)) (Nat.le_of_ble_eq_true rfl) dX7_init_1 ?_
  refine gz_aload_n C 0 rfl rfl dX7_init_4 ?_
  refine gz_sipush (v := 150) C rfl dX7_init_5 ?_
  refine gz_newi (n := 150) C hR ac_int (by decide) (by decide) (by decide) (by decide) (by decide) dX7_init_8 (fun a65 => ?_)
  refine gz_putF (q := 64) (fs := [.int 0, .null, .null, .null, .null, .null, .int 0]) C hnm hh rfl (by decide) lfX7_9 rfl rfl (Nat.le_of_ble_eq_true rfl) dX7_init_10 ?_
  refine gz_aload_n C 0 rfl rfl dX7_init_13 ?_
  refine gz_sipush (v := 150) C rfl dX7_init_14 ?_
  refine gz_newi (n := 150) C hR ac_int (by decide) (by decide) (by decide) (by decide) (by decide) dX7_init_17 (fun a66 => ?_)
  refine gz_putF (q := 64) (fs := [.int 0, .ref (a65), .null, .null, .null, .null, .int 0]) C hnm rfl rfl (by decide) lfX7_15 rfl rfl (Nat.le_of_ble_eq_true rfl) dX7_init_19 ?_
  refine gz_aload_n C 0 rfl rfl dX7_init_22 ?_
  refine gz_sipush (v := 150) C rfl dX7_init_23 ?_
  refine gz_newi (n := 150) C hR ac_int (by decide) (by decide) (by decide) (by decide) (by decide) dX7_init_26 (fun a67 => ?_)
  refine gz_putF (q := 64) (fs := [.int 0, .ref (a65), .ref (a66), .null, .null, .null, .int 0]) C hnm rfl rfl (by decide) lfX7_18 rfl rfl (Nat.le_of_ble_eq_true rfl) dX7_init_28 ?_
  refine gz_aload_n C 0 rfl rfl dX7_init_31 ?_
  refine gz_sipush (v := 150) C rfl dX7_init_32 ?_
  refine gz_newi (n := 150) C hR ac_int (by decide) (by decide) (by decide) (by decide) (by decide) dX7_init_35 (fun a68 => ?_)
  refine gz_putF (q := 64) (fs := [.int 0, .ref (a65), .ref (a66), .ref (a67), .null, .null, .int 0]) C hnm rfl rfl (by decide) lfX7_21 rfl rfl (Nat.le_of_ble_eq_true rfl) dX7_init_37 ?_
  refine gz_aload_n C 0 rfl rfl dX7_init_40 ?_
  refine gz_sipush (v := 2196) C rfl dX7_init_41 ?_
  refine gz_newl (n := 2196) C hR ac_long (by decide) (by decide) (by decide) (by decide) (by decide) dX7_init_44 (fun a69 => ?_)
  refine gz_putF (q := 64) (fs := [.int 0, .ref (a65), .ref (a66), .ref (a67), .ref (a68), .null, .int 0]) C hnm rfl rfl (by decide) lfX7_24 rfl rfl (Nat.le_of_ble_eq_true rfl) dX7_init_46 ?_
  refine gz_vret (qs := (va_up (va_up (va_up (va_up (va_up ad 65 a65) 66 a66) 67 a67) 68 a68) 69 a69)) C T0 (fun q hq => ?_) rfl dX7_init_49
  by_cases hc : q < 65
  · rw [ex_lt hc]
    first | done | rfl | simp (disch := omega) only [vu_ne, ex_lt]
  · rw [ex_ge hc]
set_option maxRecDepth 100000 in
set_option maxHeartbeats 8000000 in
theorem ci_X2_70 {l : Launch} {B : BT} {ad : Nat → Nat} {h : Nat → va_E} (hh : h 70 = .inr (2, [.int 0, .int 0, .int 0, .int 0, .int 0, .int 0, .int 0, .null, .null, .null, .null])) : Sc l B 1 4 12286 yX2_init cX2_init 1 [.ref (ad 70)] ad 71 h 75 (fun ad1 h1 => h1 = (va_up (va_up (va_up (va_up (va_up (va_up (va_up (va_up h 71 (.inl (B.2.1 0, 12, .inl fun _ => 0))) 70 (.inr (2, [.int 0, .int 0, .int 0, .int 0, .int 0, .int 0, .int 0, .ref (ad1 71), .null, .null, .null]))) 72 (.inl (B.2.1 0, 2, .inl fun _ => 0))) 70 (.inr (2, [.int 0, .int 0, .int 0, .int 0, .int 0, .int 0, .int 0, .ref (ad1 71), .ref (ad1 72), .null, .null]))) 73 (.inl (B.2.1 0, 7680, .inl fun _ => 0))) 70 (.inr (2, [.int 0, .int 0, .int 0, .int 0, .int 0, .int 0, .int 0, .ref (ad1 71), .ref (ad1 72), .ref (ad1 73), .null]))) 74 (.inl (B.2.1 0, 4592, .inl fun _ => 0))) 70 (.inr (2, [.int 0, .int 0, .int 0, .int 0, .int 0, .int 0, .int 0, .ref (ad1 71), .ref (ad1 72), .ref (ad1 73), .ref (ad1 74)])))) := by
  refine Sc.of (by decide) (Nat.le_of_ble_eq_true rfl) fun Y C T0 hR hnl hnm => ?_
  show Gr Y B ad 71 h 0 0 0 [(0, .ref (ad 70))] []
  refine gz_aload_n C 0 rfl rfl dX2_init_0 ?_
  refine gz_objinit C oiX2_3 oi_1 oi_2 (d := 1 - 1) (ry_le hR (by decide)) (Nat.le_of_ble_eq_true rfl) dX2_init_1 ?_
  refine gz_aload_n C 0 rfl rfl dX2_init_4 ?_
  refine gz_bipush (v := 12) C rfl dX2_init_5 ?_
  refine gz_newi (n := 12) C hR ac_int (by decide) (by decide) (by decide) (by decide) (by decide) dX2_init_7 (fun a71 => ?_)
  refine gz_putF (q := 70) (fs := [.int 0, .int 0, .int 0, .int 0, .int 0, .int 0, .int 0, .null, .null, .null, .null]) C hnm hh rfl (by decide) lfX2_9 rfl rfl (Nat.le_of_ble_eq_true rfl) dX2_init_9 ?_
  refine gz_aload_n C 0 rfl rfl dX2_init_12 ?_
  refine gz_iconst (v := 2) C rfl dX2_init_13 ?_
  refine gz_newi (n := 2) C hR ac_int (by decide) (by decide) (by decide) (by decide) (by decide) dX2_init_14 (fun a72 => ?_)
  refine gz_putF (q := 70) (fs := [.int 0, .int 0, .int 0, .int 0, .int 0, .int 0, .int 0, .ref (a71), .null, .null, .null]) C hnm rfl rfl (by decide) lfX2_15 rfl rfl (Nat.le_of_ble_eq_true rfl) dX2_init_16 ?_
  refine gz_aload_n C 0 rfl rfl dX2_init_19 ?_
  refine gz_sipush (v := 7680) C rfl dX2_init_20 ?_
  refine gz_newi (n := 7680) C hR ac_int (by decide) (by decide) (by decide) (by decide) (by decide) dX2_init_23 (fun a73 => ?_)
  refine gz_putF (q := 70) (fs := [.int 0, .int 0, .int 0, .int 0, .int 0, .int 0, .int 0, .ref (a71), .ref (a72), .null, .null]) C hnm rfl rfl (by decide) lfX2_18 rfl rfl (Nat.le_of_ble_eq_true rfl) dX2_init_25 ?_
  refine gz_aload_n C 0 rfl rfl dX2_init_28 ?_
  refine gz_sipush (v := 4592) C rfl dX2_init_29 ?_
  refine gz_newi (n := 4592) C hR ac_int (by decide) (by decide) (by decide) (by decide) (by decide) dX2_init_32 (fun a74 => ?_)
  refine gz_putF (q := 70) (fs := [.int 0, .int 0, .int 0, .int 0, .int 0, .int 0, .int 0, .ref (a71), .ref (a72), .ref (a73), .null]) C hnm rfl rfl (by decide) lfX2_21 rfl rfl (Nat.le_of_ble_eq_true rfl) dX2_init_34 ?_
  refine gz_vret (qs := (va_up (va_up (va_up (va_up ad 71 a71) 72 a72) 73 a73) 74 a74)) C T0 (fun q hq => ?_) rfl dX2_init_37
  by_cases hc : q < 71
  · rw [ex_lt hc]
    first | done | rfl | simp (disch := omega) only [vu_ne, ex_lt]
  · rw [ex_ge hc]
