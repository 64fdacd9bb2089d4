/-! the two outer constructors -/
theorem c75 {P : Nat → Prop} (h0 : P 0) (h1 : P 1) (h2 : P 2) (h3 : P 3) (h4 : P 4) (h5 : P 5) (h6 : P 6) (h7 : P 7) (h8 : P 8) (h9 : P 9) (h10 : P 10) (h11 : P 11) (h12 : P 12) (h13 : P 13) (h14 : P 14) (h15 : P 15) (h16 : P 16) (h17 : P 17) (h18 : P 18) (h19 : P 19) (h20 : P 20) (h21 : P 21) (h22 : P 22) (h23 : P 23) (h24 : P 24) (h25 : P 25) (h26 : P 26) (h27 : P 27) (h28 : P 28) (h29 : P 29) (h30 : P 30) (h31 : P 31) (h32 : P 32) (h33 : P 33) (h34 : P 34) (h35 : P 35) (h36 : P 36) (h37 : P 37) (h38 : P 38) (h39 : P 39) (h40 : P 40) (h41 : P 41) (h42 : P 42) (h43 : P 43) (h44 : P 44) (h45 : P 45) (h46 : P 46) (h47 : P 47) (h48 : P 48) (h49 : P 49) (h50 : P 50) (h51 : P 51) (h52 : P 52) (h53 : P 53) (h54 : P 54) (h55 : P 55) (h56 : P 56) (h57 : P 57) (h58 : P 58) (h59 : P 59) (h60 : P 60) (h61 : P 61) (h62 : P 62) (h63 : P 63) (h64 : P 64) (h65 : P 65) (h66 : P 66) (h67 : P 67) (h68 : P 68) (h69 : P 69) (h70 : P 70) (h71 : P 71) (h72 : P 72) (h73 : P 73) (h74 : P 74) : ∀ j, j < 75 → P j
  | 0, _ => h0
  | 1, _ => h1
  | 2, _ => h2
  | 3, _ => h3
  | 4, _ => h4
  | 5, _ => h5
  | 6, _ => h6
  | 7, _ => h7
  | 8, _ => h8
  | 9, _ => h9
  | 10, _ => h10
  | 11, _ => h11
  | 12, _ => h12
  | 13, _ => h13
  | 14, _ => h14
  | 15, _ => h15
  | 16, _ => h16
  | 17, _ => h17
  | 18, _ => h18
  | 19, _ => h19
  | 20, _ => h20
  | 21, _ => h21
  | 22, _ => h22
  | 23, _ => h23
  | 24, _ => h24
  | 25, _ => h25
  | 26, _ => h26
  | 27, _ => h27
  | 28, _ => h28
  | 29, _ => h29
  | 30, _ => h30
  | 31, _ => h31
  | 32, _ => h32
  | 33, _ => h33
  | 34, _ => h34
  | 35, _ => h35
  | 36, _ => h36
  | 37, _ => h37
  | 38, _ => h38
  | 39, _ => h39
  | 40, _ => h40
  | 41, _ => h41
  | 42, _ => h42
  | 43, _ => h43
  | 44, _ => h44
  | 45, _ => h45
  | 46, _ => h46
  | 47, _ => h47
  | 48, _ => h48
  | 49, _ => h49
  | 50, _ => h50
  | 51, _ => h51
  | 52, _ => h52
  | 53, _ => h53
  | 54, _ => h54
  | 55, _ => h55
  | 56, _ => h56
  | 57, _ => h57
  | 58, _ => h58
  | 59, _ => h59
  | 60, _ => h60
  | 61, _ => h61
  | 62, _ => h62
  | 63, _ => h63
  | 64, _ => h64
  | 65, _ => h65
  | 66, _ => h66
  | 67, _ => h67
  | 68, _ => h68
  | 69, _ => h69
  | 70, _ => h70
  | 71, _ => h71
  | 72, _ => h72
  | 73, _ => h73
  | 74, _ => h74
  | n + 75, hn => absurd hn (by omega)
theorem c119 {P : Nat → Prop} (h0 : P 0) (h1 : P 1) (h2 : P 2) (h3 : P 3) (h4 : P 4) (h5 : P 5) (h6 : P 6) (h7 : P 7) (h8 : P 8) (h9 : P 9) (h10 : P 10) (h11 : P 11) (h12 : P 12) (h13 : P 13) (h14 : P 14) (h15 : P 15) (h16 : P 16) (h17 : P 17) (h18 : P 18) (h19 : P 19) (h20 : P 20) (h21 : P 21) (h22 : P 22) (h23 : P 23) (h24 : P 24) (h25 : P 25) (h26 : P 26) (h27 : P 27) (h28 : P 28) (h29 : P 29) (h30 : P 30) (h31 : P 31) (h32 : P 32) (h33 : P 33) (h34 : P 34) (h35 : P 35) (h36 : P 36) (h37 : P 37) (h38 : P 38) (h39 : P 39) (h40 : P 40) (h41 : P 41) (h42 : P 42) (h43 : P 43) (h44 : P 44) (h45 : P 45) (h46 : P 46) (h47 : P 47) (h48 : P 48) (h49 : P 49) (h50 : P 50) (h51 : P 51) (h52 : P 52) (h53 : P 53) (h54 : P 54) (h55 : P 55) (h56 : P 56) (h57 : P 57) (h58 : P 58) (h59 : P 59) (h60 : P 60) (h61 : P 61) (h62 : P 62) (h63 : P 63) (h64 : P 64) (h65 : P 65) (h66 : P 66) (h67 : P 67) (h68 : P 68) (h69 : P 69) (h70 : P 70) (h71 : P 71) (h72 : P 72) (h73 : P 73) (h74 : P 74) (h75 : P 75) (h76 : P 76) (h77 : P 77) (h78 : P 78) (h79 : P 79) (h80 : P 80) (h81 : P 81) (h82 : P 82) (h83 : P 83) (h84 : P 84) (h85 : P 85) (h86 : P 86) (h87 : P 87) (h88 : P 88) (h89 : P 89) (h90 : P 90) (h91 : P 91) (h92 : P 92) (h93 : P 93) (h94 : P 94) (h95 : P 95) (h96 : P 96) (h97 : P 97) (h98 : P 98) (h99 : P 99) (h100 : P 100) (h101 : P 101) (h102 : P 102) (h103 : P 103) (h104 : P 104) (h105 : P 105) (h106 : P 106) (h107 : P 107) (h108 : P 108) (h109 : P 109) (h110 : P 110) (h111 : P 111) (h112 : P 112) (h113 : P 113) (h114 : P 114) (h115 : P 115) (h116 : P 116) (h117 : P 117) (h118 : P 118) : ∀ j, j < 119 → P j
  | 0, _ => h0
  | 1, _ => h1
  | 2, _ => h2
  | 3, _ => h3
  | 4, _ => h4
  | 5, _ => h5
  | 6, _ => h6
  | 7, _ => h7
  | 8, _ => h8
  | 9, _ => h9
  | 10, _ => h10
  | 11, _ => h11
  | 12, _ => h12
  | 13, _ => h13
  | 14, _ => h14
  | 15, _ => h15
  | 16, _ => h16
  | 17, _ => h17
  | 18, _ => h18
  | 19, _ => h19
  | 20, _ => h20
  | 21, _ => h21
  | 22, _ => h22
  | 23, _ => h23
  | 24, _ => h24
  | 25, _ => h25
  | 26, _ => h26
  | 27, _ => h27
  | 28, _ => h28
  | 29, _ => h29
  | 30, _ => h30
  | 31, _ => h31
  | 32, _ => h32
  | 33, _ => h33
  | 34, _ => h34
  | 35, _ => h35
  | 36, _ => h36
  | 37, _ => h37
  | 38, _ => h38
  | 39, _ => h39
  | 40, _ => h40
  | 41, _ => h41
  | 42, _ => h42
  | 43, _ => h43
  | 44, _ => h44
  | 45, _ => h45
  | 46, _ => h46
  | 47, _ => h47
  | 48, _ => h48
  | 49, _ => h49
  | 50, _ => h50
  | 51, _ => h51
  | 52, _ => h52
  | 53, _ => h53
  | 54, _ => h54
  | 55, _ => h55
  | 56, _ => h56
  | 57, _ => h57
  | 58, _ => h58
  | 59, _ => h59
  | 60, _ => h60
  | 61, _ => h61
  | 62, _ => h62
  | 63, _ => h63
  | 64, _ => h64
  | 65, _ => h65
  | 66, _ => h66
  | 67, _ => h67
  | 68, _ => h68
  | 69, _ => h69
  | 70, _ => h70
  | 71, _ => h71
  | 72, _ => h72
  | 73, _ => h73
  | 74, _ => h74
  | 75, _ => h75
  | 76, _ => h76
  | 77, _ => h77
  | 78, _ => h78
  | 79, _ => h79
  | 80, _ => h80
  | 81, _ => h81
  | 82, _ => h82
  | 83, _ => h83
  | 84, _ => h84
  | 85, _ => h85
  | 86, _ => h86
  | 87, _ => h87
  | 88, _ => h88
  | 89, _ => h89
  | 90, _ => h90
  | 91, _ => h91
  | 92, _ => h92
  | 93, _ => h93
  | 94, _ => h94
  | 95, _ => h95
  | 96, _ => h96
  | 97, _ => h97
  | 98, _ => h98
  | 99, _ => h99
  | 100, _ => h100
  | 101, _ => h101
  | 102, _ => h102
  | 103, _ => h103
  | 104, _ => h104
  | 105, _ => h105
  | 106, _ => h106
  | 107, _ => h107
  | 108, _ => h108
  | 109, _ => h109
  | 110, _ => h110
  | 111, _ => h111
  | 112, _ => h112
  | 113, _ => h113
  | 114, _ => h114
  | 115, _ => h115
  | 116, _ => h116
  | 117, _ => h117
  | 118, _ => h118
  | n + 119, hn => absurd hn (by omega)
theorem gz_ad {Y : YT} {B : BT} {ad ad' : Nat → Nat} {N kc ks pc : Nat} {h : Nat → va_E} {lv : List (Nat × Value)} {st : List Value} (he : ∀ q, q < N → ad q = ad' q) (k : Gr Y B ad' N h kc ks pc lv st) : Gr Y B ad N h kc ks pc lv st := by
  have e0 : wr ad N h = wr ad' N h := List.map_congr_left (fun q hq => by rw [he q (List.mem_range.mp hq)])
  obtain ⟨p, l, e, R, s, m, args, below, meth, c, nL, A, Q⟩ := Y
  intro H locs ls hP hD hS hv
  rw [e0] at hP hD
  exact k H locs ls hP hD hS hv
theorem gz_arr {Y : YT} {B : BT} {ad : Nat → Nat} {N kc ks pc : Nat} {h : Nat → va_E} {lv : List (Nat × Value)} {st : List Value} {q n : Nat} {cA : ClassId} {f : Nat → Option Nat} (g : Nat → Option Nat) (hq : q < N) (hh : h q = .inl (cA, n, .inr (.inr (.inr (.inr f))))) (hfg : ∀ i, i < n → f i = g i) (k : Gr Y B ad N (va_up h q (.inl (cA, n, .inr (.inr (.inr (.inr g)))))) kc ks pc lv st) : Gr Y B ad N h kc ks pc lv st := by
  have ec : vp_cell cA (n, .inr (.inr (.inr (.inr f)))) = vp_cell cA (n, .inr (.inr (.inr (.inr g)))) := by
    rw [vp_cell_q, vp_cell_q]
    unfold arrV
    have : (fun j : Fin n => va_rf (f j.val)) = (fun j : Fin n => va_rf (g j.val)) := funext fun j => by rw [hfg j.val j.isLt]
    rw [this]
  obtain ⟨p, l, e, R, s, m, args, below, meth, c, nL, A, Q⟩ := Y
  refine fun H locs ls hP hD hS hv => k H locs ls (fun j x hx => ?_) ⟨fun i j a b ha hb hab => ?_, fun j a ha => ?_⟩ hS hv
  · by_cases hj : j < N
    · rw [wr_get hj] at hx
      have hx := Option.some.inj hx
      subst hx
      have h0 := hP j _ (wr_get hj)
      by_cases e : j = q
      · subst e
        rw [hh] at h0
        rw [show va_up h j (.inl (cA, n, .inr (.inr (.inr (.inr g))))) j = .inl (cA, n, .inr (.inr (.inr (.inr g)))) from if_pos rfl]
        show H[ad j]? = some (vp_cell cA (n, .inr (.inr (.inr (.inr g)))))
        rw [← ec]; exact h0
      · rw [show va_up h q (.inl (cA, n, .inr (.inr (.inr (.inr g))))) j = h j from if_neg e]
        exact h0
    · rw [wr_none hj] at hx; cases hx
  · by_cases hi : i < N
    · by_cases hj : j < N
      · rw [wr_get hi] at ha
        rw [wr_get hj] at hb
        have ha := Option.some.inj ha
        have hb := Option.some.inj hb
        subst ha; subst hb
        exact hD.1 i j _ _ (wr_get hi) (wr_get hj) hab
      · rw [wr_none hj] at hb; cases hb
    · rw [wr_none hi] at ha; cases ha
  · by_cases hj : j < N
    · rw [wr_get hj] at ha
      have ha := Option.some.inj ha
      subst ha
      have z := hD.2 j (ad j, h j) (wr_get hj)
      exact z
    · rw [wr_none hj] at ha; cases ha
theorem w_42 {B : BT} {ad ad2 : Nat → Nat} {N N2 : Nat} {x : CS} (h9 : x.2.2 9 = some 30) (e : ∀ q, q < 75 → ad2 q = ad q) : wcc (gB B ad N) 42 x = wcc (gB B ad2 N2) 42 x := by
  show (Sum.inr (8, [.ref (ad 43), .int (x.1 1), .int (x.1 2), .int (x.1 3), .ref (ad 44), .ref (ad 45), .ref (ad 46), .int (x.1 7), .int (x.1 8), va_rf ((x.2.2 9).map ad), .int (x.1 10)]) : va_E) = Sum.inr (8, [.ref (ad2 43), .int (x.1 1), .int (x.1 2), .int (x.1 3), .ref (ad2 44), .ref (ad2 45), .ref (ad2 46), .int (x.1 7), .int (x.1 8), va_rf ((x.2.2 9).map ad2), .int (x.1 10)])
  rw [h9]
  show (Sum.inr (8, [.ref (ad 43), .int (x.1 1), .int (x.1 2), .int (x.1 3), .ref (ad 44), .ref (ad 45), .ref (ad 46), .int (x.1 7), .int (x.1 8), .ref (ad 30), .int (x.1 10)]) : va_E) = Sum.inr (8, [.ref (ad2 43), .int (x.1 1), .int (x.1 2), .int (x.1 3), .ref (ad2 44), .ref (ad2 45), .ref (ad2 46), .int (x.1 7), .int (x.1 8), .ref (ad2 30), .int (x.1 10)])
  rw [e 30 (by decide), e 43 (by decide), e 44 (by decide), e 45 (by decide), e 46 (by decide)]
  first | done | rfl
theorem w_47 {B : BT} {ad ad2 : Nat → Nat} {N N2 : Nat} {x : CS} (h5 : x.2.2 5 = some 30) (h8 : x.2.2 8 = some 21) (e : ∀ q, q < 75 → ad2 q = ad q) : wcc (gB B ad N) 47 x = wcc (gB B ad2 N2) 47 x := by
  show (Sum.inr (3, [.ref (ad 1), .ref (ad 9), .ref (ad 48), .ref (ad 49), .ref (ad 50), va_rf ((x.2.2 5).map ad), .int (x.1 6), .int (x.1 7), va_rf ((x.2.2 8).map ad), .int (x.1 9), .int (x.1 10), .int (x.1 11), .int (x.1 12), .int (x.1 13)]) : va_E) = Sum.inr (3, [.ref (ad2 1), .ref (ad2 9), .ref (ad2 48), .ref (ad2 49), .ref (ad2 50), va_rf ((x.2.2 5).map ad2), .int (x.1 6), .int (x.1 7), va_rf ((x.2.2 8).map ad2), .int (x.1 9), .int (x.1 10), .int (x.1 11), .int (x.1 12), .int (x.1 13)])
  rw [h5, h8]
  show (Sum.inr (3, [.ref (ad 1), .ref (ad 9), .ref (ad 48), .ref (ad 49), .ref (ad 50), .ref (ad 30), .int (x.1 6), .int (x.1 7), .ref (ad 21), .int (x.1 9), .int (x.1 10), .int (x.1 11), .int (x.1 12), .int (x.1 13)]) : va_E) = Sum.inr (3, [.ref (ad2 1), .ref (ad2 9), .ref (ad2 48), .ref (ad2 49), .ref (ad2 50), .ref (ad2 30), .int (x.1 6), .int (x.1 7), .ref (ad2 21), .int (x.1 9), .int (x.1 10), .int (x.1 11), .int (x.1 12), .int (x.1 13)])
  rw [e 1 (by decide), e 9 (by decide), e 21 (by decide), e 30 (by decide), e 48 (by decide), e 49 (by decide), e 50 (by decide)]
  first | done | rfl
set_option maxRecDepth 100000 in
set_option maxHeartbeats 16000000 in
theorem ci_X11_0 {l : Launch} {B : BT} {ad : Nat → Nat} {h : Nat → va_E} {PX : St → Prop} (hk : wpX2_keep 0 s11 PX) (hh : h 0 = .inr (11, [.null, .null, .null, .null, .null, .int 0, .null, .null, .null, .null, .null, .null, .null])) : Sc l B 3 74 53659 yX11_init cX11_init 2 [.ref (ad 0)] ad 1 h 75 (fun ad1 h1 => ∃ τ : St, PX τ ∧ ∀ q, q < 75 → h1 q = wcc (gB B ad1 75) q (τ q)) := by
  refine Sc.of (by decide) (Nat.le_of_ble_eq_true rfl) fun Y C T0 hR hnl hnm => ?_
  show Gr Y B ad 1 h 0 0 0 [(0, .ref (ad 0))] []
  refine gz_aload_n C 0 rfl rfl dX11_init_0 ?_
  refine gz_objinit C oiX11_1 oi_1 oi_2 (d := 3 - 1) (ry_le hR (by decide)) (Nat.le_of_ble_eq_true rfl) dX11_init_1 ?_
  refine gz_aload_n C 0 rfl rfl dX11_init_4 ?_
  refine gz_new (fs := [.int 0, .null, .null, .null, .null, .null, .null, .null]) C hR (ci := 5) rfl inX5 tyX5 tyX5_ok clX11_7 in_X5 iz_X5 (by decide +kernel) (by decide) (by decide) dX11_init_5 (fun a1 => ?_)
  refine gz_dup C rfl dX11_init_8 ?_
  refine gz_callI (d' := 1) (mc := 7) (ms := 256) (as := []) C hR cwX11_9 (by decide) (by decide) (by decide) (by decide) rfl rfl (Nat.le_of_ble_eq_true rfl) dX11_init_9 (ci_X5_1 (ad := (va_up ad 1 a1)) rfl) (fun qs1 h1 hp => ?_)
  subst hp
  refine gz_putF (q := 0) (fs := [.null, .null, .null, .null, .null, .int 0, .null, .null, .null, .null, .null, .null, .null]) C hnm hh rfl (by decide) lfX11_10 rfl rfl (Nat.le_of_ble_eq_true rfl) dX11_init_12 ?_
  refine gz_aload_n C 0 rfl rfl dX11_init_15 ?_
  refine gz_new (fs := [.int 0, .int 0, .null, .null, .null, .null, .null, .null, .int 0, .null, .null, .int 0, .null, .null, .null]) C hR (ci := 4) rfl inX4 tyX4 tyX4_ok clX11_16 in_X4 iz_X4 (by decide +kernel) (by decide) (by decide) dX11_init_16 (fun a9 => ?_)
  refine gz_dup C rfl dX11_init_19 ?_
  refine gz_callI (d' := 1) (mc := 11) (ms := 8649) (as := []) C hR cwX11_18 (by decide) (by decide) (by decide) (by decide) rfl rfl (Nat.le_of_ble_eq_true rfl) dX11_init_20 (ci_X4_9 (ad := (va_up (va_ext (va_up ad 1 a1) 2 qs1) 9 a9)) rfl) (fun qs9 h9 hp => ?_)
  subst hp
  refine gz_putF (q := 0) (fs := [.ref (a1), .null, .null, .null, .null, .int 0, .null, .null, .null, .null, .null, .null, .null]) C hnm rfl rfl (by decide) lfX11_19 rfl rfl (Nat.le_of_ble_eq_true rfl) dX11_init_23 ?_
  refine gz_aload_n C 0 rfl rfl dX11_init_26 ?_
  refine gz_new (fs := [.null, .null, .null, .int 0]) C hR (ci := 0) rfl inX0 tyX0 tyX0_ok clX11_23 in_X0 iz_X0 (by decide +kernel) (by decide) (by decide) dX11_init_27 (fun a21 => ?_)
  refine gz_dup C rfl dX11_init_30 ?_
  refine gz_callI (d' := 2) (mc := 3) (ms := 12172) (as := []) C hR cwX11_25 (by decide) (by decide) (by decide) (by decide) rfl rfl (Nat.le_of_ble_eq_true rfl) dX11_init_31 (ci_X0_21 (ad := (va_up (va_ext (va_up (va_ext (va_up ad 1 a1) 2 qs1) 9 a9) 10 qs9) 21 a21)) rfl) (fun qs21 h21 hp => ?_)
  subst hp
  refine gz_putF (q := 0) (fs := [.ref (a1), .ref (a9), .null, .null, .null, .int 0, .null, .null, .null, .null, .null, .null, .null]) C hnm rfl rfl (by decide) lfX11_26 rfl rfl (Nat.le_of_ble_eq_true rfl) dX11_init_34 ?_
  refine gz_aload_n C 0 rfl rfl dX11_init_37 ?_
  refine gz_new (fs := [.null, .null, .null, .int 0]) C hR (ci := 0) rfl inX0 tyX0 tyX0_ok clX11_23 in_X0 iz_X0 (by decide +kernel) (by decide) (by decide) dX11_init_38 (fun a25 => ?_)
  refine gz_dup C rfl dX11_init_41 ?_
  refine gz_callI (d' := 2) (mc := 3) (ms := 12172) (as := []) C hR cwX11_25 (by decide) (by decide) (by decide) (by decide) rfl rfl (Nat.le_of_ble_eq_true rfl) dX11_init_42 (ci_X0_25 (ad := (va_up (va_ext (va_up (va_ext (va_up (va_ext (va_up ad 1 a1) 2 qs1) 9 a9) 10 qs9) 21 a21) 22 qs21) 25 a25)) rfl) (fun qs25 h25 hp => ?_)
  subst hp
  refine gz_putF (q := 0) (fs := [.ref (a1), .ref (a9), .ref (a21), .null, .null, .int 0, .null, .null, .null, .null, .null, .null, .null]) C hnm rfl rfl (by decide) lfX11_30 rfl rfl (Nat.le_of_ble_eq_true rfl) dX11_init_45 ?_
  refine gz_aload_n C 0 rfl rfl dX11_init_48 ?_
  refine gz_bipush (v := 6) C rfl dX11_init_49 ?_
  refine gz_newq (n := 6) C hR clX11_33 (by decide) (by decide) (by decide) (by decide) (by decide) dX11_init_51 (fun a29 => ?_)
  refine gz_putF (q := 0) (fs := [.ref (a1), .ref (a9), .ref (a21), .ref (a25), .null, .int 0, .null, .null, .null, .null, .null, .null, .null]) C hnm rfl rfl (by decide) lfX11_35 rfl rfl (Nat.le_of_ble_eq_true rfl) dX11_init_54 ?_
  refine gz_iconst (v := 0) C rfl dX11_init_57 ?_
  refine gz_istore_n (lv2 := [(1, .int 0), (0, .ref (ad 0))]) C rfl (by rw [hnl]; decide) rfl dX11_init_58 ?_
  refine gz_iload_n C 0 rfl rfl dX11_init_59 ?_
  refine gz_bipush (v := 6) C rfl dX11_init_60 ?_
  refine gz_icmp_ge C 84 rfl dX11_init_62 (fun hc => absurd hc (by decide)) (fun _ => ?_)
  refine gz_aload_n C 1 rfl rfl dX11_init_65 ?_
  refine gz_get (q := 0) (fs := [.ref (a1), .ref (a9), .ref (a21), .ref (a25), .ref (a29), .int 0, .null, .null, .null, .null, .null, .null, .null]) (v := .ref (a29)) C rfl rfl (by decide) lkX11_35 rfl dX11_init_66 ?_
  refine gz_iload_n C 0 rfl rfl dX11_init_69 ?_
  refine gz_new (fs := [.null, .int 0, .int 0, .int 0]) C hR (ci := 9) rfl inX9 tyX9 tyX9_ok clX11_33 in_X9 iz_X9 (by decide +kernel) (by decide) (by decide) dX11_init_70 (fun a30 => ?_)
  refine gz_dup C rfl dX11_init_73 ?_
  refine gz_callI (d' := 1) (mc := 1) (ms := 300) (as := []) C hR cwX11_39 (by decide) (by decide) (by decide) (by decide) rfl rfl (Nat.le_of_ble_eq_true rfl) dX11_init_74 (ci_X9_30 (ad := (va_up (va_up (va_ext (va_up (va_ext (va_up (va_ext (va_up (va_ext (va_up ad 1 a1) 2 qs1) 9 a9) 10 qs9) 21 a21) 22 qs21) 25 a25) 26 qs25) 29 a29) 30 a30)) rfl) (fun qs30 h30 hp => ?_)
  subst hp
  refine gz_aast (q := 29) (q2 := 30) (fs := [.ref (qs30 31), .int 0, .int 0, .int 0]) (f := fun _ => none) C rfl rfl (by decide) rfl rfl (by decide) (i_in0 0 6 (by decide) (by decide)) dX11_init_77 ?_
  refine gz_iinc (v := 1) (lv2 := [(1, .int 1), (0, .ref (ad 0))]) C 0 rfl (by decide) (by rw [hnl]; decide) rfl dX11_init_78 ?_
  refine gz_goto C 59 rfl dX11_init_81 ?_
  refine gz_iload_n C 0 rfl rfl dX11_init_59 ?_
  refine gz_bipush (v := 6) C rfl dX11_init_60 ?_
  refine gz_icmp_ge C 84 rfl dX11_init_62 (fun hc => absurd hc (by decide)) (fun _ => ?_)
  refine gz_aload_n C 1 rfl rfl dX11_init_65 ?_
  refine gz_get (q := 0) (fs := [.ref (a1), .ref (a9), .ref (a21), .ref (a25), .ref (a29), .int 0, .null, .null, .null, .null, .null, .null, .null]) (v := .ref (a29)) C rfl rfl (by decide) lkX11_35 rfl dX11_init_66 ?_
  refine gz_iload_n C 0 rfl rfl dX11_init_69 ?_
  refine gz_new (fs := [.null, .int 0, .int 0, .int 0]) C hR (ci := 9) rfl inX9 tyX9 tyX9_ok clX11_33 in_X9 iz_X9 (by decide +kernel) (by decide) (by decide) dX11_init_70 (fun a32 => ?_)
  refine gz_dup C rfl dX11_init_73 ?_
  refine gz_callI (d' := 1) (mc := 1) (ms := 300) (as := []) C hR cwX11_39 (by decide) (by decide) (by decide) (by decide) rfl rfl (Nat.le_of_ble_eq_true rfl) dX11_init_74 (ci_X9_32 (ad := (va_up (va_ext (va_up (va_up (va_ext (va_up (va_ext (va_up (va_ext (va_up (va_ext (va_up ad 1 a1) 2 qs1) 9 a9) 10 qs9) 21 a21) 22 qs21) 25 a25) 26 qs25) 29 a29) 30 a30) 31 qs30) 32 a32)) rfl) (fun qs32 h32 hp => ?_)
  subst hp
  refine gz_aast (q := 29) (q2 := 32) (fs := [.ref (qs32 33), .int 0, .int 0, .int 0]) (f := va_up (fun _ => none) (0 : Int32).toNatClampNeg (some (a30))) C rfl rfl (by decide) rfl rfl (by decide) (i_in0 1 6 (by decide) (by decide)) dX11_init_77 ?_
  refine gz_iinc (v := 2) (lv2 := [(1, .int 2), (0, .ref (ad 0))]) C 0 rfl (by decide) (by rw [hnl]; decide) rfl dX11_init_78 ?_
  refine gz_goto C 59 rfl dX11_init_81 ?_
  refine gz_iload_n C 0 rfl rfl dX11_init_59 ?_
  refine gz_bipush (v := 6) C rfl dX11_init_60 ?_
  refine gz_icmp_ge C 84 rfl dX11_init_62 (fun hc => absurd hc (by decide)) (fun _ => ?_)
  refine gz_aload_n C 1 rfl rfl dX11_init_65 ?_
  refine gz_get (q := 0) (fs := [.ref (a1), .ref (a9), .ref (a21), .ref (a25), .ref (a29), .int 0, .null, .null, .null, .null, .null, .null, .null]) (v := .ref (a29)) C rfl rfl (by decide) lkX11_35 rfl dX11_init_66 ?_
  refine gz_iload_n C 0 rfl rfl dX11_init_69 ?_
  refine gz_new (fs := [.null, .int 0, .int 0, .int 0]) C hR (ci := 9) rfl inX9 tyX9 tyX9_ok clX11_33 in_X9 iz_X9 (by decide +kernel) (by decide) (by decide) dX11_init_70 (fun a34 => ?_)
  refine gz_dup C rfl dX11_init_73 ?_
  refine gz_callI (d' := 1) (mc := 1) (ms := 300) (as := []) C hR cwX11_39 (by decide) (by decide) (by decide) (by decide) rfl rfl (Nat.le_of_ble_eq_true rfl) dX11_init_74 (ci_X9_34 (ad := (va_up (va_ext (va_up (va_ext (va_up (va_up (va_ext (va_up (va_ext (va_up (va_ext (va_up (va_ext (va_up ad 1 a1) 2 qs1) 9 a9) 10 qs9) 21 a21) 22 qs21) 25 a25) 26 qs25) 29 a29) 30 a30) 31 qs30) 32 a32) 33 qs32) 34 a34)) rfl) (fun qs34 h34 hp => ?_)
  subst hp
  refine gz_aast (q := 29) (q2 := 34) (fs := [.ref (qs34 35), .int 0, .int 0, .int 0]) (f := va_up (va_up (fun _ => none) (0 : Int32).toNatClampNeg (some (a30))) (1 : Int32).toNatClampNeg (some (a32))) C rfl rfl (by decide) rfl rfl (by decide) (i_in0 2 6 (by decide) (by decide)) dX11_init_77 ?_
  refine gz_iinc (v := 3) (lv2 := [(1, .int 3), (0, .ref (ad 0))]) C 0 rfl (by decide) (by rw [hnl]; decide) rfl dX11_init_78 ?_
  refine gz_goto C 59 rfl dX11_init_81 ?_
  refine gz_iload_n C 0 rfl rfl dX11_init_59 ?_
  refine gz_bipush (v := 6) C rfl dX11_init_60 ?_
  refine gz_icmp_ge C 84 rfl dX11_init_62 (fun hc => absurd hc (by decide)) (fun _ => ?_)
  refine gz_aload_n C 1 rfl rfl dX11_init_65 ?_
  refine gz_get (q := 0) (fs := [.ref (a1), .ref (a9), .ref (a21), .ref (a25), .ref (a29), .int 0, .null, .null, .null, .null, .null, .null, .null]) (v := .ref (a29)) C rfl rfl (by decide) lkX11_35 rfl dX11_init_66 ?_
  refine gz_iload_n C 0 rfl rfl dX11_init_69 ?_
  refine gz_new (fs := [.null, .int 0, .int 0, .int 0]) C hR (ci := 9) rfl inX9 tyX9 tyX9_ok clX11_33 in_X9 iz_X9 (by decide +kernel) (by decide) (by decide) dX11_init_70 (fun a36 => ?_)
  refine gz_dup C rfl dX11_init_73 ?_
  refine gz_callI (d' := 1) (mc := 1) (ms := 300) (as := []) C hR cwX11_39 (by decide) (by decide) (by decide) (by decide) rfl rfl (Nat.le_of_ble_eq_true rfl) dX11_init_74 (ci_X9_36 (ad := (va_up (va_ext (va_up (va_ext (va_up (va_ext (va_up (va_up (va_ext (va_up (va_ext (va_up (va_ext (va_up (va_ext (va_up ad 1 a1) 2 qs1) 9 a9) 10 qs9) 21 a21) 22 qs21) 25 a25) 26 qs25) 29 a29) 30 a30) 31 qs30) 32 a32) 33 qs32) 34 a34) 35 qs34) 36 a36)) rfl) (fun qs36 h36 hp => ?_)
  subst hp
  refine gz_aast (q := 29) (q2 := 36) (fs := [.ref (qs36 37), .int 0, .int 0, .int 0]) (f := va_up (va_up (va_up (fun _ => none) (0 : Int32).toNatClampNeg (some (a30))) (1 : Int32).toNatClampNeg (some (a32))) (2 : Int32).toNatClampNeg (some (a34))) C rfl rfl (by decide) rfl rfl (by decide) (i_in0 3 6 (by decide) (by decide)) dX11_init_77 ?_
  refine gz_iinc (v := 4) (lv2 := [(1, .int 4), (0, .ref (ad 0))]) C 0 rfl (by decide) (by rw [hnl]; decide) rfl dX11_init_78 ?_
  refine gz_goto C 59 rfl dX11_init_81 ?_
  refine gz_iload_n C 0 rfl rfl dX11_init_59 ?_
  refine gz_bipush (v := 6) C rfl dX11_init_60 ?_
  refine gz_icmp_ge C 84 rfl dX11_init_62 (fun hc => absurd hc (by decide)) (fun _ => ?_)
  refine gz_aload_n C 1 rfl rfl dX11_init_65 ?_
  refine gz_get (q := 0) (fs := [.ref (a1), .ref (a9), .ref (a21), .ref (a25), .ref (a29), .int 0, .null, .null, .null, .null, .null, .null, .null]) (v := .ref (a29)) C rfl rfl (by decide) lkX11_35 rfl dX11_init_66 ?_
  refine gz_iload_n C 0 rfl rfl dX11_init_69 ?_
  refine gz_new (fs := [.null, .int 0, .int 0, .int 0]) C hR (ci := 9) rfl inX9 tyX9 tyX9_ok clX11_33 in_X9 iz_X9 (by decide +kernel) (by decide) (by decide) dX11_init_70 (fun a38 => ?_)
  refine gz_dup C rfl dX11_init_73 ?_
  refine gz_callI (d' := 1) (mc := 1) (ms := 300) (as := []) C hR cwX11_39 (by decide) (by decide) (by decide) (by decide) rfl rfl (Nat.le_of_ble_eq_true rfl) dX11_init_74 (ci_X9_38 (ad := (va_up (va_ext (va_up (va_ext (va_up (va_ext (va_up (va_ext (va_up (va_up (va_ext (va_up (va_ext (va_up (va_ext (va_up (va_ext (va_up ad 1 a1) 2 qs1) 9 a9) 10 qs9) 21 a21) 22 qs21) 25 a25) 26 qs25) 29 a29) 30 a30) 31 qs30) 32 a32) 33 qs32) 34 a34) 35 qs34) 36 a36) 37 qs36) 38 a38)) rfl) (fun qs38 h38 hp => ?_)
  subst hp
  refine gz_aast (q := 29) (q2 := 38) (fs := [.ref (qs38 39), .int 0, .int 0, .int 0]) (f := va_up (va_up (va_up (va_up (fun _ => none) (0 : Int32).toNatClampNeg (some (a30))) (1 : Int32).toNatClampNeg (some (a32))) (2 : Int32).toNatClampNeg (some (a34))) (3 : Int32).toNatClampNeg (some (a36))) C rfl rfl (by decide) rfl rfl (by decide) (i_in0 4 6 (by decide) (by decide)) dX11_init_77 ?_
  refine gz_iinc (v := 5) (lv2 := [(1, .int 5), (0, .ref (ad 0))]) C 0 rfl (by decide) (by rw [hnl]; decide) rfl dX11_init_78 ?_
  refine gz_goto C 59 rfl dX11_init_81 ?_
  refine gz_iload_n C 0 rfl rfl dX11_init_59 ?_
  refine gz_bipush (v := 6) C rfl dX11_init_60 ?_
  refine gz_icmp_ge C 84 rfl dX11_init_62 (fun hc => absurd hc (by decide)) (fun _ => ?_)
  refine gz_aload_n C 1 rfl rfl dX11_init_65 ?_
  refine gz_get (q := 0) (fs := [.ref (a1), .ref (a9), .ref (a21), .ref (a25), .ref (a29), .int 0, .null, .null, .null, .null, .null, .null, .null]) (v := .ref (a29)) C rfl rfl (by decide) lkX11_35 rfl dX11_init_66 ?_
  refine gz_iload_n C 0 rfl rfl dX11_init_69 ?_
  refine gz_new (fs := [.null, .int 0, .int 0, .int 0]) C hR (ci := 9) rfl inX9 tyX9 tyX9_ok clX11_33 in_X9 iz_X9 (by decide +kernel) (by decide) (by decide) dX11_init_70 (fun a40 => ?_)
  refine gz_dup C rfl dX11_init_73 ?_
  refine gz_callI (d' := 1) (mc := 1) (ms := 300) (as := []) C hR cwX11_39 (by decide) (by decide) (by decide) (by decide) rfl rfl (Nat.le_of_ble_eq_true rfl) dX11_init_74 (ci_X9_40 (ad := (va_up (va_ext (va_up (va_ext (va_up (va_ext (va_up (va_ext (va_up (va_ext (va_up (va_up (va_ext (va_up (va_ext (va_up (va_ext (va_up (va_ext (va_up ad 1 a1) 2 qs1) 9 a9) 10 qs9) 21 a21) 22 qs21) 25 a25) 26 qs25) 29 a29) 30 a30) 31 qs30) 32 a32) 33 qs32) 34 a34) 35 qs34) 36 a36) 37 qs36) 38 a38) 39 qs38) 40 a40)) rfl) (fun qs40 h40 hp => ?_)
  subst hp
  refine gz_aast (q := 29) (q2 := 40) (fs := [.ref (qs40 41), .int 0, .int 0, .int 0]) (f := va_up (va_up (va_up (va_up (va_up (fun _ => none) (0 : Int32).toNatClampNeg (some (a30))) (1 : Int32).toNatClampNeg (some (a32))) (2 : Int32).toNatClampNeg (some (a34))) (3 : Int32).toNatClampNeg (some (a36))) (4 : Int32).toNatClampNeg (some (a38))) C rfl rfl (by decide) rfl rfl (by decide) (i_in0 5 6 (by decide) (by decide)) dX11_init_77 ?_
  refine gz_iinc (v := 6) (lv2 := [(1, .int 6), (0, .ref (ad 0))]) C 0 rfl (by decide) (by rw [hnl]; decide) rfl dX11_init_78 ?_
  refine gz_goto C 59 rfl dX11_init_81 ?_
  refine gz_iload_n C 0 rfl rfl dX11_init_59 ?_
  refine gz_bipush (v := 6) C rfl dX11_init_60 ?_
  refine gz_icmp_ge C 84 rfl dX11_init_62 (fun _ => ?_) (fun hc => absurd (by decide) hc)
  refine gz_aload_n C 1 rfl rfl dX11_init_84 ?_
  refine gz_new (fs := [.null, .int 0, .int 0, .int 0, .null, .null, .null, .int 0, .int 0, .null, .int 0]) C hR (ci := 8) rfl inX8 tyX8 tyX8_ok clX11_40 in_X8 iz_X8 (by decide +kernel) (by decide) (by decide) dX11_init_85 (fun a42 => ?_)
  refine gz_dup C rfl dX11_init_88 ?_
  refine gz_aload_n C 1 rfl rfl dX11_init_89 ?_
  refine gz_get (q := 0) (fs := [.ref (a1), .ref (a9), .ref (a21), .ref (a25), .ref (a29), .int 0, .null, .null, .null, .null, .null, .null, .null]) (v := .ref (a29)) C rfl rfl (by decide) lkX11_35 rfl dX11_init_90 ?_
  refine gz_iconst (v := 0) C rfl dX11_init_93 ?_
  refine gz_aald (q := 29) (n := 6) (b := a30) (f := va_up (va_up (va_up (va_up (va_up (va_up (fun _ => none) (0 : Int32).toNatClampNeg (some (a30))) (1 : Int32).toNatClampNeg (some (a32))) (2 : Int32).toNatClampNeg (some (a34))) (3 : Int32).toNatClampNeg (some (a36))) (4 : Int32).toNatClampNeg (some (a38))) (5 : Int32).toNatClampNeg (some (a40))) C rfl rfl (by decide) rfl (i_in0 0 6 (by decide) (by decide)) dX11_init_94 ?_
  refine gz_callI (d' := 1) (mc := 4) (ms := 1203) (as := [.ref (a30)]) C hR cwX11_42 (by decide) (by decide) (by decide) (by decide) rfl rfl (Nat.le_of_ble_eq_true rfl) dX11_init_95 (ci_X8_42 (ad := (va_up (va_ext (va_up (va_ext (va_up (va_ext (va_up (va_ext (va_up (va_ext (va_up (va_ext (va_up (va_up (va_ext (va_up (va_ext (va_up (va_ext (va_up (va_ext (va_up ad 1 a1) 2 qs1) 9 a9) 10 qs9) 21 a21) 22 qs21) 25 a25) 26 qs25) 29 a29) 30 a30) 31 qs30) 32 a32) 33 qs32) 34 a34) 35 qs34) 36 a36) 37 qs36) 38 a38) 39 qs38) 40 a40) 41 qs40) 42 a42)) rfl) (fun qs42 h42 hp => ?_)
  subst hp
  refine gz_putF (q := 0) (fs := [.ref (a1), .ref (a9), .ref (a21), .ref (a25), .ref (a29), .int 0, .null, .null, .null, .null, .null, .null, .null]) C hnm rfl rfl (by decide) lfX11_45 rfl rfl (Nat.le_of_ble_eq_true rfl) dX11_init_98 ?_
  refine gz_aload_n C 1 rfl rfl dX11_init_101 ?_
  refine gz_new (fs := [.null, .null, .null, .null, .null, .null, .int 0, .int 0, .null, .int 0, .int 0, .int 0, .int 0, .int 0]) C hR (ci := 3) rfl inX3 tyX3 tyX3_ok clX11_49 in_X3 iz_X3 (by decide +kernel) (by decide) (by decide) dX11_init_102 (fun a47 => ?_)
  refine gz_dup C rfl dX11_init_105 ?_
  refine gz_aload_n C 1 rfl rfl dX11_init_106 ?_
  refine gz_get (q := 0) (fs := [.ref (a1), .ref (a9), .ref (a21), .ref (a25), .ref (a29), .int 0, .ref (a42), .null, .null, .null, .null, .null, .null]) (v := .ref (a1)) C rfl rfl (by decide) lkX11_10 rfl dX11_init_107 ?_
  refine gz_aload_n C 1 rfl rfl dX11_init_110 ?_
  refine gz_get (q := 0) (fs := [.ref (a1), .ref (a9), .ref (a21), .ref (a25), .ref (a29), .int 0, .ref (a42), .null, .null, .null, .null, .null, .null]) (v := .ref (a9)) C rfl rfl (by decide) lkX11_19 rfl dX11_init_111 ?_
  refine gz_aload_n C 1 rfl rfl dX11_init_114 ?_
  refine gz_get (q := 0) (fs := [.ref (a1), .ref (a9), .ref (a21), .ref (a25), .ref (a29), .int 0, .ref (a42), .null, .null, .null, .null, .null, .null]) (v := .ref (a21)) C rfl rfl (by decide) lkX11_26 rfl dX11_init_115 ?_
  refine gz_aload_n C 1 rfl rfl dX11_init_118 ?_
  refine gz_get (q := 0) (fs := [.ref (a1), .ref (a9), .ref (a21), .ref (a25), .ref (a29), .int 0, .ref (a42), .null, .null, .null, .null, .null, .null]) (v := .ref (a29)) C rfl rfl (by decide) lkX11_35 rfl dX11_init_119 ?_
  refine gz_iconst (v := 0) C rfl dX11_init_122 ?_
  refine gz_aald (q := 29) (n := 6) (b := a30) (f := va_up (va_up (va_up (va_up (va_up (va_up (fun _ => none) (0 : Int32).toNatClampNeg (some (a30))) (1 : Int32).toNatClampNeg (some (a32))) (2 : Int32).toNatClampNeg (some (a34))) (3 : Int32).toNatClampNeg (some (a36))) (4 : Int32).toNatClampNeg (some (a38))) (5 : Int32).toNatClampNeg (some (a40))) C rfl rfl (by decide) rfl (i_in0 0 6 (by decide) (by decide)) dX11_init_123 ?_
  refine gz_callI (d' := 1) (mc := 3) (ms := 96) (as := [.ref (a1), .ref (a9), .ref (a21), .ref (a30)]) C hR cwX11_51 (by decide) (by decide) (by decide) (by decide) rfl rfl (Nat.le_of_ble_eq_true rfl) dX11_init_124 (ci_X3_47 (ad := (va_up (va_ext (va_up (va_ext (va_up (va_ext (va_up (va_ext (va_up (va_ext (va_up (va_ext (va_up (va_ext (va_up (va_up (va_ext (va_up (va_ext (va_up (va_ext (va_up (va_ext (va_up ad 1 a1) 2 qs1) 9 a9) 10 qs9) 21 a21) 22 qs21) 25 a25) 26 qs25) 29 a29) 30 a30) 31 qs30) 32 a32) 33 qs32) 34 a34) 35 qs34) 36 a36) 37 qs36) 38 a38) 39 qs38) 40 a40) 41 qs40) 42 a42) 43 qs42) 47 a47)) rfl) (fun qs47 h47 hp => ?_)
  subst hp
  refine gz_putF (q := 0) (fs := [.ref (a1), .ref (a9), .ref (a21), .ref (a25), .ref (a29), .int 0, .ref (a42), .null, .null, .null, .null, .null, .null]) C hnm rfl rfl (by decide) lfX11_54 rfl rfl (Nat.le_of_ble_eq_true rfl) dX11_init_127 ?_
  refine gz_aload_n C 1 rfl rfl dX11_init_130 ?_
  refine gz_new (fs := [.null, .null, .null, .null]) C hR (ci := 1) rfl inX1 tyX1 tyX1_ok clX11_58 in_X1 iz_X1 (by decide +kernel) (by decide) (by decide) dX11_init_131 (fun a51 => ?_)
  refine gz_dup C rfl dX11_init_134 ?_
  refine gz_aload_n C 1 rfl rfl dX11_init_135 ?_
  refine gz_get (q := 0) (fs := [.ref (a1), .ref (a9), .ref (a21), .ref (a25), .ref (a29), .int 0, .ref (a42), .ref (a47), .null, .null, .null, .null, .null]) (v := .ref (a1)) C rfl rfl (by decide) lkX11_10 rfl dX11_init_136 ?_
  refine gz_aload_n C 1 rfl rfl dX11_init_139 ?_
  refine gz_get (q := 0) (fs := [.ref (a1), .ref (a9), .ref (a21), .ref (a25), .ref (a29), .int 0, .ref (a42), .ref (a47), .null, .null, .null, .null, .null]) (v := .ref (a9)) C rfl rfl (by decide) lkX11_19 rfl dX11_init_140 ?_
  refine gz_aload_n C 1 rfl rfl dX11_init_143 ?_
  refine gz_get (q := 0) (fs := [.ref (a1), .ref (a9), .ref (a21), .ref (a25), .ref (a29), .int 0, .ref (a42), .ref (a47), .null, .null, .null, .null, .null]) (v := .ref (a29)) C rfl rfl (by decide) lkX11_35 rfl dX11_init_144 ?_
  refine gz_aload_n C 1 rfl rfl dX11_init_147 ?_
  refine gz_get (q := 0) (fs := [.ref (a1), .ref (a9), .ref (a21), .ref (a25), .ref (a29), .int 0, .ref (a42), .ref (a47), .null, .null, .null, .null, .null]) (v := .ref (a47)) C rfl rfl (by decide) lkX11_54 rfl dX11_init_148 ?_
  refine gz_callI (d' := 1) (mc := 0) (ms := 0) (as := [.ref (a1), .ref (a9), .ref (a29), .ref (a47)]) C hR cwX11_60 (by decide) (by decide) (by decide) (by decide) rfl rfl (Nat.le_of_ble_eq_true rfl) dX11_init_151 (ci_X1_51 (ad := (va_up (va_ext (va_up (va_ext (va_up (va_ext (va_up (va_ext (va_up (va_ext (va_up (va_ext (va_up (va_ext (va_up (va_ext (va_up (va_up (va_ext (va_up (va_ext (va_up (va_ext (va_up (va_ext (va_up ad 1 a1) 2 qs1) 9 a9) 10 qs9) 21 a21) 22 qs21) 25 a25) 26 qs25) 29 a29) 30 a30) 31 qs30) 32 a32) 33 qs32) 34 a34) 35 qs34) 36 a36) 37 qs36) 38 a38) 39 qs38) 40 a40) 41 qs40) 42 a42) 43 qs42) 47 a47) 48 qs47) 51 a51)) rfl) (fun qs51 h51 hp => ?_)
  subst hp
  refine gz_putF (q := 0) (fs := [.ref (a1), .ref (a9), .ref (a21), .ref (a25), .ref (a29), .int 0, .ref (a42), .ref (a47), .null, .null, .null, .null, .null]) C hnm rfl rfl (by decide) lfX11_63 rfl rfl (Nat.le_of_ble_eq_true rfl) dX11_init_154 ?_
  refine gz_aload_n C 1 rfl rfl dX11_init_157 ?_
  refine gz_new (fs := [.null, .null, .null, .null, .null, .null, .null, .null, .null, .null, .int 0]) C hR (ci := 10) rfl inX10 tyX10 tyX10_ok clX11_67 in_X10 iz_X10 (by decide +kernel) (by decide) (by decide) dX11_init_158 (fun a52 => ?_)
  refine gz_dup C rfl dX11_init_161 ?_
  refine gz_aload_n C 1 rfl rfl dX11_init_162 ?_
  refine gz_get (q := 0) (fs := [.ref (a1), .ref (a9), .ref (a21), .ref (a25), .ref (a29), .int 0, .ref (a42), .ref (a47), .ref (a51), .null, .null, .null, .null]) (v := .ref (a1)) C rfl rfl (by decide) lkX11_10 rfl dX11_init_163 ?_
  refine gz_aload_n C 1 rfl rfl dX11_init_166 ?_
  refine gz_get (q := 0) (fs := [.ref (a1), .ref (a9), .ref (a21), .ref (a25), .ref (a29), .int 0, .ref (a42), .ref (a47), .ref (a51), .null, .null, .null, .null]) (v := .ref (a9)) C rfl rfl (by decide) lkX11_19 rfl dX11_init_167 ?_
  refine gz_aload_n C 1 rfl rfl dX11_init_170 ?_
  refine gz_get (q := 0) (fs := [.ref (a1), .ref (a9), .ref (a21), .ref (a25), .ref (a29), .int 0, .ref (a42), .ref (a47), .ref (a51), .null, .null, .null, .null]) (v := .ref (a21)) C rfl rfl (by decide) lkX11_26 rfl dX11_init_171 ?_
  refine gz_callI (d' := 1) (mc := 7) (ms := 2032) (as := [.ref (a1), .ref (a9), .ref (a21)]) C hR cwX11_69 (by decide) (by decide) (by decide) (by decide) rfl rfl (Nat.le_of_ble_eq_true rfl) dX11_init_174 (ci_X10_52 (ad := (va_up (va_ext (va_up (va_ext (va_up (va_ext (va_up (va_ext (va_up (va_ext (va_up (va_ext (va_up (va_ext (va_up (va_ext (va_up (va_ext (va_up (va_up (va_ext (va_up (va_ext (va_up (va_ext (va_up (va_ext (va_up ad 1 a1) 2 qs1) 9 a9) 10 qs9) 21 a21) 22 qs21) 25 a25) 26 qs25) 29 a29) 30 a30) 31 qs30) 32 a32) 33 qs32) 34 a34) 35 qs34) 36 a36) 37 qs36) 38 a38) 39 qs38) 40 a40) 41 qs40) 42 a42) 43 qs42) 47 a47) 48 qs47) 51 a51) 52 qs51) 52 a52)) rfl) (fun qs52 h52 hp => ?_)
  subst hp
  refine gz_putF (q := 0) (fs := [.ref (a1), .ref (a9), .ref (a21), .ref (a25), .ref (a29), .int 0, .ref (a42), .ref (a47), .ref (a51), .null, .null, .null, .null]) C hnm rfl rfl (by decide) lfX11_72 rfl rfl (Nat.le_of_ble_eq_true rfl) dX11_init_177 ?_
  refine gz_aload_n C 1 rfl rfl dX11_init_180 ?_
  refine gz_new (fs := [.null, .null, .null, .int 0, .int 0, .int 0]) C hR (ci := 6) rfl inX6 tyX6 tyX6_ok clX11_76 in_X6 iz_X6 (by decide +kernel) (by decide) (by decide) dX11_init_181 (fun a60 => ?_)
  refine gz_dup C rfl dX11_init_184 ?_
  refine gz_callI (d' := 1) (mc := 3) (ms := 72) (as := []) C hR cwX11_78 (by decide) (by decide) (by decide) (by decide) rfl rfl (Nat.le_of_ble_eq_true rfl) dX11_init_185 (ci_X6_60 (ad := (va_up (va_ext (va_up (va_ext (va_up (va_ext (va_up (va_ext (va_up (va_ext (va_up (va_ext (va_up (va_ext (va_up (va_ext (va_up (va_ext (va_up (va_ext (va_up (va_up (va_ext (va_up (va_ext (va_up (va_ext (va_up (va_ext (va_up ad 1 a1) 2 qs1) 9 a9) 10 qs9) 21 a21) 22 qs21) 25 a25) 26 qs25) 29 a29) 30 a30) 31 qs30) 32 a32) 33 qs32) 34 a34) 35 qs34) 36 a36) 37 qs36) 38 a38) 39 qs38) 40 a40) 41 qs40) 42 a42) 43 qs42) 47 a47) 48 qs47) 51 a51) 52 qs51) 52 a52) 53 qs52) 60 a60)) rfl) (fun qs60 h60 hp => ?_)
  subst hp
  refine gz_putF (q := 0) (fs := [.ref (a1), .ref (a9), .ref (a21), .ref (a25), .ref (a29), .int 0, .ref (a42), .ref (a47), .ref (a51), .ref (a52), .null, .null, .null]) C hnm rfl rfl (by decide) lfX11_79 rfl rfl (Nat.le_of_ble_eq_true rfl) dX11_init_188 ?_
  refine gz_aload_n C 1 rfl rfl dX11_init_191 ?_
  refine gz_new (fs := [.int 0, .null, .null, .null, .null, .null, .int 0]) C hR (ci := 7) rfl inX7 tyX7 tyX7_ok clX11_83 in_X7 iz_X7 (by decide +kernel) (by decide) (by decide) dX11_init_192 (fun a64 => ?_)
  refine gz_dup C rfl dX11_init_195 ?_
  refine gz_callI (d' := 1) (mc := 5) (ms := 2796) (as := []) C hR cwX11_85 (by decide) (by decide) (by decide) (by decide) rfl rfl (Nat.le_of_ble_eq_true rfl) dX11_init_196 (ci_X7_64 (ad := (va_up (va_ext (va_up (va_ext (va_up (va_ext (va_up (va_ext (va_up (va_ext (va_up (va_ext (va_up (va_ext (va_up (va_ext (va_up (va_ext (va_up (va_ext (va_up (va_ext (va_up (va_up (va_ext (va_up (va_ext (va_up (va_ext (va_up (va_ext (va_up ad 1 a1) 2 qs1) 9 a9) 10 qs9) 21 a21) 22 qs21) 25 a25) 26 qs25) 29 a29) 30 a30) 31 qs30) 32 a32) 33 qs32) 34 a34) 35 qs34) 36 a36) 37 qs36) 38 a38) 39 qs38) 40 a40) 41 qs40) 42 a42) 43 qs42) 47 a47) 48 qs47) 51 a51) 52 qs51) 52 a52) 53 qs52) 60 a60) 61 qs60) 64 a64)) rfl) (fun qs64 h64 hp => ?_)
  subst hp
  refine gz_putF (q := 0) (fs := [.ref (a1), .ref (a9), .ref (a21), .ref (a25), .ref (a29), .int 0, .ref (a42), .ref (a47), .ref (a51), .ref (a52), .ref (a60), .null, .null]) C hnm rfl rfl (by decide) lfX11_86 rfl rfl (Nat.le_of_ble_eq_true rfl) dX11_init_199 ?_
  refine gz_aload_n C 1 rfl rfl dX11_init_202 ?_
  refine gz_new (fs := [.int 0, .int 0, .int 0, .int 0, .int 0, .int 0, .int 0, .null, .null, .null, .null]) C hR (ci := 2) rfl inX2 tyX2 tyX2_ok clX11_90 in_X2 iz_X2 (by decide +kernel) (by decide) (by decide) dX11_init_203 (fun a70 => ?_)
  refine gz_dup C rfl dX11_init_206 ?_
  refine gz_callI (d' := 1) (mc := 4) (ms := 12286) (as := []) C hR cwX11_92 (by decide) (by decide) (by decide) (by decide) rfl rfl (Nat.le_of_ble_eq_true rfl) dX11_init_207 (ci_X2_70 (ad := (va_up (va_ext (va_up (va_ext (va_up (va_ext (va_up (va_ext (va_up (va_ext (va_up (va_ext (va_up (va_ext (va_up (va_ext (va_up (va_ext (va_up (va_ext (va_up (va_ext (va_up (va_ext (va_up (va_up (va_ext (va_up (va_ext (va_up (va_ext (va_up (va_ext (va_up ad 1 a1) 2 qs1) 9 a9) 10 qs9) 21 a21) 22 qs21) 25 a25) 26 qs25) 29 a29) 30 a30) 31 qs30) 32 a32) 33 qs32) 34 a34) 35 qs34) 36 a36) 37 qs36) 38 a38) 39 qs38) 40 a40) 41 qs40) 42 a42) 43 qs42) 47 a47) 48 qs47) 51 a51) 52 qs51) 52 a52) 53 qs52) 60 a60) 61 qs60) 64 a64) 65 qs64) 70 a70)) rfl) (fun qs70 h70 hp => ?_)
  subst hp
  refine gz_putF (q := 0) (fs := [.ref (a1), .ref (a9), .ref (a21), .ref (a25), .ref (a29), .int 0, .ref (a42), .ref (a47), .ref (a51), .ref (a52), .ref (a60), .ref (a64), .null]) C hnm rfl rfl (by decide) lfX11_93 rfl rfl (Nat.le_of_ble_eq_true rfl) dX11_init_210 ?_
  refine gz_aload_n C 1 rfl rfl dX11_init_213 ?_
  refine gz_get (q := 0) (fs := [.ref (a1), .ref (a9), .ref (a21), .ref (a25), .ref (a29), .int 0, .ref (a42), .ref (a47), .ref (a51), .ref (a52), .ref (a60), .ref (a64), .ref (a70)]) (v := .ref (a70)) C rfl rfl (by decide) lkX11_93 rfl dX11_init_214 ?_
  refine gz_aload_n C 1 rfl rfl dX11_init_217 ?_
  refine gz_get (q := 0) (fs := [.ref (a1), .ref (a9), .ref (a21), .ref (a25), .ref (a29), .int 0, .ref (a42), .ref (a47), .ref (a51), .ref (a52), .ref (a60), .ref (a64), .ref (a70)]) (v := .ref (a9)) C rfl rfl (by decide) lkX11_19 rfl dX11_init_218 ?_
  refine gz_aload_n C 1 rfl rfl dX11_init_221 ?_
  refine gz_get (q := 0) (fs := [.ref (a1), .ref (a9), .ref (a21), .ref (a25), .ref (a29), .int 0, .ref (a42), .ref (a47), .ref (a51), .ref (a52), .ref (a60), .ref (a64), .ref (a70)]) (v := .ref (a21)) C rfl rfl (by decide) lkX11_26 rfl dX11_init_222 ?_
  refine gz_ad (ad' := va_ext ad 1 (va_ext (va_up (va_ext (va_up (va_ext (va_up (va_ext (va_up (va_ext (va_up (va_ext (va_up (va_ext (va_up (va_ext (va_up (va_ext (va_up (va_ext (va_up (va_ext (va_up (va_ext (va_up (va_ext (va_up (va_up (va_ext (va_up (va_ext (va_up (va_ext (va_up (va_ext (va_up ad 1 a1) 2 qs1) 9 a9) 10 qs9) 21 a21) 22 qs21) 25 a25) 26 qs25) 29 a29) 30 a30) 31 qs30) 32 a32) 33 qs32) 34 a34) 35 qs34) 36 a36) 37 qs36) 38 a38) 39 qs38) 40 a40) 41 qs40) 42 a42) 43 qs42) 47 a47) 48 qs47) 51 a51) 52 qs51) 52 a52) 53 qs52) 60 a60) 61 qs60) 64 a64) 65 qs64) 70 a70) 71 qs70)) (fun q hq => ?_) ?_
  · by_cases hc : q < 1
    · rw [ex_lt hc]
      simp (disch := omega) only [vu_ne, ex_lt]
    · rw [ex_ge hc]
  refine gz_arr (q := 29) (n := 6) (fun i => some (va_ext ad 1 (va_ext (va_up (va_ext (va_up (va_ext (va_up (va_ext (va_up (va_ext (va_up (va_ext (va_up (va_ext (va_up (va_ext (va_up (va_ext (va_up (va_ext (va_up (va_ext (va_up (va_ext (va_up (va_ext (va_up (va_up (va_ext (va_up (va_ext (va_up (va_ext (va_up (va_ext (va_up ad 1 a1) 2 qs1) 9 a9) 10 qs9) 21 a21) 22 qs21) 25 a25) 26 qs25) 29 a29) 30 a30) 31 qs30) 32 a32) 33 qs32) 34 a34) 35 qs34) 36 a36) 37 qs36) 38 a38) 39 qs38) 40 a40) 41 qs40) 42 a42) 43 qs42) 47 a47) 48 qs47) 51 a51) 52 qs51) 52 a52) 53 qs52) 60 a60) 61 qs60) 64 a64) 65 qs64) 70 a70) 71 qs70) (30 + 2 * i))) (by decide) rfl (fun i hi => ?_) ?_
  · rcases (show i = 0 ∨ i = 1 ∨ i = 2 ∨ i = 3 ∨ i = 4 ∨ i = 5 by omega) with e | e | e | e | e | e <;> subst e <;> rfl
  refine gz_callP (σ := s11) (q := 70) (ci := 2) (as := [.ref (va_ext ad 1 (va_ext (va_up (va_ext (va_up (va_ext (va_up (va_ext (va_up (va_ext (va_up (va_ext (va_up (va_ext (va_up (va_ext (va_up (va_ext (va_up (va_ext (va_up (va_ext (va_up (va_ext (va_up (va_ext (va_up (va_up (va_ext (va_up (va_ext (va_up (va_ext (va_up (va_ext (va_up ad 1 a1) 2 qs1) 9 a9) 10 qs9) 21 a21) 22 qs21) 25 a25) 26 qs25) 29 a29) 30 a30) 31 qs30) 32 a32) 33 qs32) 34 a34) 35 qs34) 36 a36) 37 qs36) 38 a38) 39 qs38) 40 a40) 41 qs40) 42 a42) 43 qs42) 47 a47) 48 qs47) 51 a51) 52 qs51) 52 a52) 53 qs52) 60 a60) 61 qs60) 64 a64) 65 qs64) 70 a70) 71 qs70) 9), .ref (va_ext ad 1 (va_ext (va_up (va_ext (va_up (va_ext (va_up (va_ext (va_up (va_ext (va_up (va_ext (va_up (va_ext (va_up (va_ext (va_up (va_ext (va_up (va_ext (va_up (va_ext (va_up (va_ext (va_up (va_ext (va_up (va_up (va_ext (va_up (va_ext (va_up (va_ext (va_up (va_ext (va_up ad 1 a1) 2 qs1) 9 a9) 10 qs9) 21 a21) 22 qs21) 25 a25) 26 qs25) 29 a29) 30 a30) 31 qs30) 32 a32) 33 qs32) 34 a34) 35 qs34) 36 a36) 37 qs36) 38 a38) 39 qs38) 40 a40) 41 qs40) 42 a42) 43 qs42) 47 a47) 48 qs47) 51 a51) 52 qs51) 52 a52) 53 qs52) 60 a60) 61 qs60) 64 a64) 65 qs64) 70 a70) 71 qs70) 21)]) C hR (fun j hj => ?_) (shX2 _) (by decide) cwX11_97 (d' := 1) (by decide) (by decide) (by decide) (by decide) rfl rfl (Nat.le_of_ble_eq_true rfl) dX11_init_225 (spX2_keep (Nat.le_refl _) (Nat.le_refl _) (show 0 < 2 by decide) hk) (fun v τ hp => ?_)
  · revert j
    refine c75 ?_ ?_ ?_ ?_ ?_ ?_ ?_ ?_ ?_ ?_ ?_ ?_ ?_ ?_ ?_ ?_ ?_ ?_ ?_ ?_ ?_ ?_ ?_ ?_ ?_ ?_ ?_ ?_ ?_ ?_ ?_ ?_ ?_ ?_ ?_ ?_ ?_ ?_ ?_ ?_ ?_ ?_ ?_ ?_ ?_ ?_ ?_ ?_ ?_ ?_ ?_ ?_ ?_ ?_ ?_ ?_ ?_ ?_ ?_ ?_ ?_ ?_ ?_ ?_ ?_ ?_ ?_ ?_ ?_ ?_ ?_ ?_ ?_ ?_ ?_
    all_goals rfl
  obtain ⟨rfl, hp⟩ := hp
  exact gz_vret (qs := (va_ext (va_up (va_ext (va_up (va_ext (va_up (va_ext (va_up (va_ext (va_up (va_ext (va_up (va_ext (va_up (va_ext (va_up (va_ext (va_up (va_ext (va_up (va_ext (va_up (va_ext (va_up (va_ext (va_up (va_up (va_ext (va_up (va_ext (va_up (va_ext (va_up (va_ext (va_up ad 1 a1) 2 qs1) 9 a9) 10 qs9) 21 a21) 22 qs21) 25 a25) 26 qs25) 29 a29) 30 a30) 31 qs30) 32 a32) 33 qs32) 34 a34) 35 qs34) 36 a36) 37 qs36) 38 a38) 39 qs38) 40 a40) 41 qs40) 42 a42) 43 qs42) 47 a47) 48 qs47) 51 a51) 52 qs51) 52 a52) 53 qs52) 60 a60) 61 qs60) 64 a64) 65 qs64) 70 a70) 71 qs70)) C T0 (fun q hq => rfl) ⟨τ, hp, fun q _ => rfl⟩ dX11_init_228
set_option maxRecDepth 100000 in
set_option maxHeartbeats 16000000 in
theorem ci_X12_75 {l : Launch} {B : BT} {ad : Nat → Nat} {h : Nat → va_E} {τ : St} {PX : St → Prop} (hk : wpX12_copies 1 (s12 τ) PX) (h0 : ∀ q, q < 75 → h q = wcc (gB B ad 75) q (τ q)) (h42 : (τ 42).2.2 9 = some 30) (h475 : (τ 47).2.2 5 = some 30) (h478 : (τ 47).2.2 8 = some 21) (hh : h 75 = .inr (12, (Value.null :: Value.null :: Value.null :: Value.null :: Value.int 0 :: Value.int 0 :: Value.int 0 :: Value.null :: Value.null :: Value.null :: Value.null :: Value.null :: Value.null :: Value.null :: Value.int 0 :: Value.int 0 :: Value.int 0 :: Value.int 0 :: Value.int 0 :: Value.int 0 :: Value.int 0 :: Value.int 0 :: Value.int 0 :: Value.null :: Value.null :: Value.null :: Value.int 0 :: Value.null :: Value.null :: Value.int 0 :: Value.int 0 :: Value.int 0 :: Value.int 0 :: Value.null :: Value.null :: Value.int 0 :: Value.null :: Value.null :: Value.null :: Value.null :: Value.null :: Value.null :: Value.null :: Value.null :: Value.null :: Value.null :: Value.null :: Value.null :: Value.null :: Value.null :: Value.null :: Value.null :: Value.null :: Value.null :: Value.null :: Value.int 0 :: Value.int 0 :: Value.long 0 :: Value.null :: Value.null :: Value.null :: Value.null :: Value.null :: Value.null :: []))) : Sc l B 2 43 61297 yX12_init cX12_init 1 [.ref (ad 75)] ad 76 h 119 (fun ad1 h1 => ∃ ρ : St, PX ρ ∧ ∀ q, q < 119 → h1 q = wcc (gB B ad1 119) q (ρ q)) := by
  refine Sc.of (by decide) (Nat.le_of_ble_eq_true rfl) fun Y C T0 hR hnl hnm => ?_
  show Gr Y B ad 76 h 0 0 0 [(0, .ref (ad 75))] []
  refine gz_aload_n C 0 rfl rfl dX12_init_0 ?_
  refine gz_objinit C oiX12_1 oi_1 oi_2 (d := 2 - 1) (ry_le hR (by decide)) (Nat.le_of_ble_eq_true rfl) dX12_init_1 ?_
  refine gz_aload_n C 0 rfl rfl dX12_init_4 ?_
  refine gz_sipush (v := 9680) C rfl dX12_init_5 ?_
  refine gz_newi (n := 9680) C hR ac_int (by decide) (by decide) (by decide) (by decide) (by decide) dX12_init_8 (fun a76 => ?_)
  refine gz_putF (q := 75) (fs := (Value.null :: Value.null :: Value.null :: Value.null :: Value.int 0 :: Value.int 0 :: Value.int 0 :: Value.null :: Value.null :: Value.null :: Value.null :: Value.null :: Value.null :: Value.null :: Value.int 0 :: Value.int 0 :: Value.int 0 :: Value.int 0 :: Value.int 0 :: Value.int 0 :: Value.int 0 :: Value.int 0 :: Value.int 0 :: Value.null :: Value.null :: Value.null :: Value.int 0 :: Value.null :: Value.null :: Value.int 0 :: Value.int 0 :: Value.int 0 :: Value.int 0 :: Value.null :: Value.null :: Value.int 0 :: Value.null :: Value.null :: Value.null :: Value.null :: Value.null :: Value.null :: Value.null :: Value.null :: Value.null :: Value.null :: Value.null :: Value.null :: Value.null :: Value.null :: Value.null :: Value.null :: Value.null :: Value.null :: Value.null :: Value.int 0 :: Value.int 0 :: Value.long 0 :: Value.null :: Value.null :: Value.null :: Value.null :: Value.null :: Value.null :: [])) C hnm hh rfl (by decide) lfX12_7 rfl rfl (Nat.le_of_ble_eq_true rfl) dX12_init_10 ?_
  refine gz_aload_n C 0 rfl rfl dX12_init_13 ?_
  refine gz_sipush (v := 9680) C rfl dX12_init_14 ?_
  refine gz_newi (n := 9680) C hR ac_int (by decide) (by decide) (by decide) (by decide) (by decide) dX12_init_17 (fun a77 => ?_)
  refine gz_putF (q := 75) (fs := (Value.ref (a76) :: Value.null :: Value.null :: Value.null :: Value.int 0 :: Value.int 0 :: Value.int 0 :: Value.null :: Value.null :: Value.null :: Value.null :: Value.null :: Value.null :: Value.null :: Value.int 0 :: Value.int 0 :: Value.int 0 :: Value.int 0 :: Value.int 0 :: Value.int 0 :: Value.int 0 :: Value.int 0 :: Value.int 0 :: Value.null :: Value.null :: Value.null :: Value.int 0 :: Value.null :: Value.null :: Value.int 0 :: Value.int 0 :: Value.int 0 :: Value.int 0 :: Value.null :: Value.null :: Value.int 0 :: Value.null :: Value.null :: Value.null :: Value.null :: Value.null :: Value.null :: Value.null :: Value.null :: Value.null :: Value.null :: Value.null :: Value.null :: Value.null :: Value.null :: Value.null :: Value.null :: Value.null :: Value.null :: Value.null :: Value.int 0 :: Value.int 0 :: Value.long 0 :: Value.null :: Value.null :: Value.null :: Value.null :: Value.null :: Value.null :: [])) C hnm rfl rfl (by decide) lfX12_13 rfl rfl (Nat.le_of_ble_eq_true rfl) dX12_init_19 ?_
  refine gz_aload_n C 0 rfl rfl dX12_init_22 ?_
  refine gz_bipush (v := 16) C rfl dX12_init_23 ?_
  refine gz_newl (n := 16) C hR ac_long (by decide) (by decide) (by decide) (by decide) (by decide) dX12_init_25 (fun a78 => ?_)
  refine gz_putF (q := 75) (fs := (Value.ref (a76) :: Value.ref (a77) :: Value.null :: Value.null :: Value.int 0 :: Value.int 0 :: Value.int 0 :: Value.null :: Value.null :: Value.null :: Value.null :: Value.null :: Value.null :: Value.null :: Value.int 0 :: Value.int 0 :: Value.int 0 :: Value.int 0 :: Value.int 0 :: Value.int 0 :: Value.int 0 :: Value.int 0 :: Value.int 0 :: Value.null :: Value.null :: Value.null :: Value.int 0 :: Value.null :: Value.null :: Value.int 0 :: Value.int 0 :: Value.int 0 :: Value.int 0 :: Value.null :: Value.null :: Value.int 0 :: Value.null :: Value.null :: Value.null :: Value.null :: Value.null :: Value.null :: Value.null :: Value.null :: Value.null :: Value.null :: Value.null :: Value.null :: Value.null :: Value.null :: Value.null :: Value.null :: Value.null :: Value.null :: Value.null :: Value.int 0 :: Value.int 0 :: Value.long 0 :: Value.null :: Value.null :: Value.null :: Value.null :: Value.null :: Value.null :: [])) C hnm rfl rfl (by decide) lfX12_16 rfl rfl (Nat.le_of_ble_eq_true rfl) dX12_init_27 ?_
  refine gz_aload_n C 0 rfl rfl dX12_init_30 ?_
  refine gz_sipush (v := 300) C rfl dX12_init_31 ?_
  refine gz_newb (n := 300) C hR ac_byte (by decide) (by decide) (by decide) (by decide) (by decide) dX12_init_34 (fun a79 => ?_)
  refine gz_putF (q := 75) (fs := (Value.ref (a76) :: Value.ref (a77) :: Value.ref (a78) :: Value.null :: Value.int 0 :: Value.int 0 :: Value.int 0 :: Value.null :: Value.null :: Value.null :: Value.null :: Value.null :: Value.null :: Value.null :: Value.int 0 :: Value.int 0 :: Value.int 0 :: Value.int 0 :: Value.int 0 :: Value.int 0 :: Value.int 0 :: Value.int 0 :: Value.int 0 :: Value.null :: Value.null :: Value.null :: Value.int 0 :: Value.null :: Value.null :: Value.int 0 :: Value.int 0 :: Value.int 0 :: Value.int 0 :: Value.null :: Value.null :: Value.int 0 :: Value.null :: Value.null :: Value.null :: Value.null :: Value.null :: Value.null :: Value.null :: Value.null :: Value.null :: Value.null :: Value.null :: Value.null :: Value.null :: Value.null :: Value.null :: Value.null :: Value.null :: Value.null :: Value.null :: Value.int 0 :: Value.int 0 :: Value.long 0 :: Value.null :: Value.null :: Value.null :: Value.null :: Value.null :: Value.null :: [])) C hnm rfl rfl (by decide) lfX12_20 rfl rfl (Nat.le_of_ble_eq_true rfl) dX12_init_36 ?_
  refine gz_aload_n C 0 rfl rfl dX12_init_39 ?_
  refine gz_iconst (v := (-1)) C rfl dX12_init_40 ?_
  refine gz_put (q := 75) (fs := (Value.ref (a76) :: Value.ref (a77) :: Value.ref (a78) :: Value.ref (a79) :: Value.int 0 :: Value.int 0 :: Value.int 0 :: Value.null :: Value.null :: Value.null :: Value.null :: Value.null :: Value.null :: Value.null :: Value.int 0 :: Value.int 0 :: Value.int 0 :: Value.int 0 :: Value.int 0 :: Value.int 0 :: Value.int 0 :: Value.int 0 :: Value.int 0 :: Value.null :: Value.null :: Value.null :: Value.int 0 :: Value.null :: Value.null :: Value.int 0 :: Value.int 0 :: Value.int 0 :: Value.int 0 :: Value.null :: Value.null :: Value.int 0 :: Value.null :: Value.null :: Value.null :: Value.null :: Value.null :: Value.null :: Value.null :: Value.null :: Value.null :: Value.null :: Value.null :: Value.null :: Value.null :: Value.null :: Value.null :: Value.null :: Value.null :: Value.null :: Value.null :: Value.int 0 :: Value.int 0 :: Value.long 0 :: Value.null :: Value.null :: Value.null :: Value.null :: Value.null :: Value.null :: [])) C rfl rfl (by decide) lpX12_24 rfl rfl (Nat.le_of_ble_eq_true rfl) dX12_init_41 ?_
  refine gz_aload_n C 0 rfl rfl dX12_init_44 ?_
  refine gz_iconst (v := (-1)) C rfl dX12_init_45 ?_
  refine gz_put (q := 75) (fs := (Value.ref (a76) :: Value.ref (a77) :: Value.ref (a78) :: Value.ref (a79) :: Value.int 0 :: Value.int (-1) :: Value.int 0 :: Value.null :: Value.null :: Value.null :: Value.null :: Value.null :: Value.null :: Value.null :: Value.int 0 :: Value.int 0 :: Value.int 0 :: Value.int 0 :: Value.int 0 :: Value.int 0 :: Value.int 0 :: Value.int 0 :: Value.int 0 :: Value.null :: Value.null :: Value.null :: Value.int 0 :: Value.null :: Value.null :: Value.int 0 :: Value.int 0 :: Value.int 0 :: Value.int 0 :: Value.null :: Value.null :: Value.int 0 :: Value.null :: Value.null :: Value.null :: Value.null :: Value.null :: Value.null :: Value.null :: Value.null :: Value.null :: Value.null :: Value.null :: Value.null :: Value.null :: Value.null :: Value.null :: Value.null :: Value.null :: Value.null :: Value.null :: Value.int 0 :: Value.int 0 :: Value.long 0 :: Value.null :: Value.null :: Value.null :: Value.null :: Value.null :: Value.null :: [])) C rfl rfl (by decide) lpX12_28 rfl rfl (Nat.le_of_ble_eq_true rfl) dX12_init_46 ?_
  refine gz_aload_n C 0 rfl rfl dX12_init_49 ?_
  refine gz_bipush (v := 6) C rfl dX12_init_50 ?_
  refine gz_newi (n := 6) C hR ac_int (by decide) (by decide) (by decide) (by decide) (by decide) dX12_init_52 (fun a80 => ?_)
  refine gz_putF (q := 75) (fs := (Value.ref (a76) :: Value.ref (a77) :: Value.ref (a78) :: Value.ref (a79) :: Value.int 0 :: Value.int (-1) :: Value.int (-1) :: Value.null :: Value.null :: Value.null :: Value.null :: Value.null :: Value.null :: Value.null :: Value.int 0 :: Value.int 0 :: Value.int 0 :: Value.int 0 :: Value.int 0 :: Value.int 0 :: Value.int 0 :: Value.int 0 :: Value.int 0 :: Value.null :: Value.null :: Value.null :: Value.int 0 :: Value.null :: Value.null :: Value.int 0 :: Value.int 0 :: Value.int 0 :: Value.int 0 :: Value.null :: Value.null :: Value.int 0 :: Value.null :: Value.null :: Value.null :: Value.null :: Value.null :: Value.null :: Value.null :: Value.null :: Value.null :: Value.null :: Value.null :: Value.null :: Value.null :: Value.null :: Value.null :: Value.null :: Value.null :: Value.null :: Value.null :: Value.int 0 :: Value.int 0 :: Value.long 0 :: Value.null :: Value.null :: Value.null :: Value.null :: Value.null :: Value.null :: [])) C hnm rfl rfl (by decide) lfX12_31 rfl rfl (Nat.le_of_ble_eq_true rfl) dX12_init_54 ?_
  refine gz_aload_n C 0 rfl rfl dX12_init_57 ?_
  refine gz_bipush (v := 72) C rfl dX12_init_58 ?_
  refine gz_newi (n := 72) C hR ac_int (by decide) (by decide) (by decide) (by decide) (by decide) dX12_init_60 (fun a81 => ?_)
  refine gz_putF (q := 75) (fs := (Value.ref (a76) :: Value.ref (a77) :: Value.ref (a78) :: Value.ref (a79) :: Value.int 0 :: Value.int (-1) :: Value.int (-1) :: Value.ref (a80) :: Value.null :: Value.null :: Value.null :: Value.null :: Value.null :: Value.null :: Value.int 0 :: Value.int 0 :: Value.int 0 :: Value.int 0 :: Value.int 0 :: Value.int 0 :: Value.int 0 :: Value.int 0 :: Value.int 0 :: Value.null :: Value.null :: Value.null :: Value.int 0 :: Value.null :: Value.null :: Value.int 0 :: Value.int 0 :: Value.int 0 :: Value.int 0 :: Value.null :: Value.null :: Value.int 0 :: Value.null :: Value.null :: Value.null :: Value.null :: Value.null :: Value.null :: Value.null :: Value.null :: Value.null :: Value.null :: Value.null :: Value.null :: Value.null :: Value.null :: Value.null :: Value.null :: Value.null :: Value.null :: Value.null :: Value.int 0 :: Value.int 0 :: Value.long 0 :: Value.null :: Value.null :: Value.null :: Value.null :: Value.null :: Value.null :: [])) C hnm rfl rfl (by decide) lfX12_34 rfl rfl (Nat.le_of_ble_eq_true rfl) dX12_init_62 ?_
  refine gz_aload_n C 0 rfl rfl dX12_init_65 ?_
  refine gz_bipush (v := 72) C rfl dX12_init_66 ?_
  refine gz_newi (n := 72) C hR ac_int (by decide) (by decide) (by decide) (by decide) (by decide) dX12_init_68 (fun a82 => ?_)
  refine gz_putF (q := 75) (fs := (Value.ref (a76) :: Value.ref (a77) :: Value.ref (a78) :: Value.ref (a79) :: Value.int 0 :: Value.int (-1) :: Value.int (-1) :: Value.ref (a80) :: Value.ref (a81) :: Value.null :: Value.null :: Value.null :: Value.null :: Value.null :: Value.int 0 :: Value.int 0 :: Value.int 0 :: Value.int 0 :: Value.int 0 :: Value.int 0 :: Value.int 0 :: Value.int 0 :: Value.int 0 :: Value.null :: Value.null :: Value.null :: Value.int 0 :: Value.null :: Value.null :: Value.int 0 :: Value.int 0 :: Value.int 0 :: Value.int 0 :: Value.null :: Value.null :: Value.int 0 :: Value.null :: Value.null :: Value.null :: Value.null :: Value.null :: Value.null :: Value.null :: Value.null :: Value.null :: Value.null :: Value.null :: Value.null :: Value.null :: Value.null :: Value.null :: Value.null :: Value.null :: Value.null :: Value.null :: Value.int 0 :: Value.int 0 :: Value.long 0 :: Value.null :: Value.null :: Value.null :: Value.null :: Value.null :: Value.null :: [])) C hnm rfl rfl (by decide) lfX12_37 rfl rfl (Nat.le_of_ble_eq_true rfl) dX12_init_70 ?_
  refine gz_aload_n C 0 rfl rfl dX12_init_73 ?_
  refine gz_bipush (v := 6) C rfl dX12_init_74 ?_
  refine gz_newi (n := 6) C hR ac_int (by decide) (by decide) (by decide) (by decide) (by decide) dX12_init_76 (fun a83 => ?_)
  refine gz_putF (q := 75) (fs := (Value.ref (a76) :: Value.ref (a77) :: Value.ref (a78) :: Value.ref (a79) :: Value.int 0 :: Value.int (-1) :: Value.int (-1) :: Value.ref (a80) :: Value.ref (a81) :: Value.ref (a82) :: Value.null :: Value.null :: Value.null :: Value.null :: Value.int 0 :: Value.int 0 :: Value.int 0 :: Value.int 0 :: Value.int 0 :: Value.int 0 :: Value.int 0 :: Value.int 0 :: Value.int 0 :: Value.null :: Value.null :: Value.null :: Value.int 0 :: Value.null :: Value.null :: Value.int 0 :: Value.int 0 :: Value.int 0 :: Value.int 0 :: Value.null :: Value.null :: Value.int 0 :: Value.null :: Value.null :: Value.null :: Value.null :: Value.null :: Value.null :: Value.null :: Value.null :: Value.null :: Value.null :: Value.null :: Value.null :: Value.null :: Value.null :: Value.null :: Value.null :: Value.null :: Value.null :: Value.null :: Value.int 0 :: Value.int 0 :: Value.long 0 :: Value.null :: Value.null :: Value.null :: Value.null :: Value.null :: Value.null :: [])) C hnm rfl rfl (by decide) lfX12_40 rfl rfl (Nat.le_of_ble_eq_true rfl) dX12_init_78 ?_
  refine gz_aload_n C 0 rfl rfl dX12_init_81 ?_
  refine gz_bipush (v := 6) C rfl dX12_init_82 ?_
  refine gz_newi (n := 6) C hR ac_int (by decide) (by decide) (by decide) (by decide) (by decide) dX12_init_84 (fun a84 => ?_)
  refine gz_putF (q := 75) (fs := (Value.ref (a76) :: Value.ref (a77) :: Value.ref (a78) :: Value.ref (a79) :: Value.int 0 :: Value.int (-1) :: Value.int (-1) :: Value.ref (a80) :: Value.ref (a81) :: Value.ref (a82) :: Value.ref (a83) :: Value.null :: Value.null :: Value.null :: Value.int 0 :: Value.int 0 :: Value.int 0 :: Value.int 0 :: Value.int 0 :: Value.int 0 :: Value.int 0 :: Value.int 0 :: Value.int 0 :: Value.null :: Value.null :: Value.null :: Value.int 0 :: Value.null :: Value.null :: Value.int 0 :: Value.int 0 :: Value.int 0 :: Value.int 0 :: Value.null :: Value.null :: Value.int 0 :: Value.null :: Value.null :: Value.null :: Value.null :: Value.null :: Value.null :: Value.null :: Value.null :: Value.null :: Value.null :: Value.null :: Value.null :: Value.null :: Value.null :: Value.null :: Value.null :: Value.null :: Value.null :: Value.null :: Value.int 0 :: Value.int 0 :: Value.long 0 :: Value.null :: Value.null :: Value.null :: Value.null :: Value.null :: Value.null :: [])) C hnm rfl rfl (by decide) lfX12_43 rfl rfl (Nat.le_of_ble_eq_true rfl) dX12_init_86 ?_
  refine gz_aload_n C 0 rfl rfl dX12_init_89 ?_
  refine gz_sipush (v := 2400) C rfl dX12_init_90 ?_
  refine gz_newi (n := 2400) C hR ac_int (by decide) (by decide) (by decide) (by decide) (by decide) dX12_init_93 (fun a85 => ?_)
  refine gz_putF (q := 75) (fs := (Value.ref (a76) :: Value.ref (a77) :: Value.ref (a78) :: Value.ref (a79) :: Value.int 0 :: Value.int (-1) :: Value.int (-1) :: Value.ref (a80) :: Value.ref (a81) :: Value.ref (a82) :: Value.ref (a83) :: Value.ref (a84) :: Value.null :: Value.null :: Value.int 0 :: Value.int 0 :: Value.int 0 :: Value.int 0 :: Value.int 0 :: Value.int 0 :: Value.int 0 :: Value.int 0 :: Value.int 0 :: Value.null :: Value.null :: Value.null :: Value.int 0 :: Value.null :: Value.null :: Value.int 0 :: Value.int 0 :: Value.int 0 :: Value.int 0 :: Value.null :: Value.null :: Value.int 0 :: Value.null :: Value.null :: Value.null :: Value.null :: Value.null :: Value.null :: Value.null :: Value.null :: Value.null :: Value.null :: Value.null :: Value.null :: Value.null :: Value.null :: Value.null :: Value.null :: Value.null :: Value.null :: Value.null :: Value.int 0 :: Value.int 0 :: Value.long 0 :: Value.null :: Value.null :: Value.null :: Value.null :: Value.null :: Value.null :: [])) C hnm rfl rfl (by decide) lfX12_46 rfl rfl (Nat.le_of_ble_eq_true rfl) dX12_init_95 ?_
  refine gz_aload_n C 0 rfl rfl dX12_init_98 ?_
  refine gz_sipush (v := 2400) C rfl dX12_init_99 ?_
  refine gz_newi (n := 2400) C hR ac_int (by decide) (by decide) (by decide) (by decide) (by decide) dX12_init_102 (fun a86 => ?_)
  refine gz_putF (q := 75) (fs := (Value.ref (a76) :: Value.ref (a77) :: Value.ref (a78) :: Value.ref (a79) :: Value.int 0 :: Value.int (-1) :: Value.int (-1) :: Value.ref (a80) :: Value.ref (a81) :: Value.ref (a82) :: Value.ref (a83) :: Value.ref (a84) :: Value.ref (a85) :: Value.null :: Value.int 0 :: Value.int 0 :: Value.int 0 :: Value.int 0 :: Value.int 0 :: Value.int 0 :: Value.int 0 :: Value.int 0 :: Value.int 0 :: Value.null :: Value.null :: Value.null :: Value.int 0 :: Value.null :: Value.null :: Value.int 0 :: Value.int 0 :: Value.int 0 :: Value.int 0 :: Value.null :: Value.null :: Value.int 0 :: Value.null :: Value.null :: Value.null :: Value.null :: Value.null :: Value.null :: Value.null :: Value.null :: Value.null :: Value.null :: Value.null :: Value.null :: Value.null :: Value.null :: Value.null :: Value.null :: Value.null :: Value.null :: Value.null :: Value.int 0 :: Value.int 0 :: Value.long 0 :: Value.null :: Value.null :: Value.null :: Value.null :: Value.null :: Value.null :: [])) C hnm rfl rfl (by decide) lfX12_49 rfl rfl (Nat.le_of_ble_eq_true rfl) dX12_init_104 ?_
  refine gz_aload_n C 0 rfl rfl dX12_init_107 ?_
  refine gz_bipush (v := 40) C rfl dX12_init_108 ?_
  refine gz_newi (n := 40) C hR ac_int (by decide) (by decide) (by decide) (by decide) (by decide) dX12_init_110 (fun a87 => ?_)
  refine gz_putF (q := 75) (fs := (Value.ref (a76) :: Value.ref (a77) :: Value.ref (a78) :: Value.ref (a79) :: Value.int 0 :: Value.int (-1) :: Value.int (-1) :: Value.ref (a80) :: Value.ref (a81) :: Value.ref (a82) :: Value.ref (a83) :: Value.ref (a84) :: Value.ref (a85) :: Value.ref (a86) :: Value.int 0 :: Value.int 0 :: Value.int 0 :: Value.int 0 :: Value.int 0 :: Value.int 0 :: Value.int 0 :: Value.int 0 :: Value.int 0 :: Value.null :: Value.null :: Value.null :: Value.int 0 :: Value.null :: Value.null :: Value.int 0 :: Value.int 0 :: Value.int 0 :: Value.int 0 :: Value.null :: Value.null :: Value.int 0 :: Value.null :: Value.null :: Value.null :: Value.null :: Value.null :: Value.null :: Value.null :: Value.null :: Value.null :: Value.null :: Value.null :: Value.null :: Value.null :: Value.null :: Value.null :: Value.null :: Value.null :: Value.null :: Value.null :: Value.int 0 :: Value.int 0 :: Value.long 0 :: Value.null :: Value.null :: Value.null :: Value.null :: Value.null :: Value.null :: [])) C hnm rfl rfl (by decide) lfX12_52 rfl rfl (Nat.le_of_ble_eq_true rfl) dX12_init_112 ?_
  refine gz_aload_n C 0 rfl rfl dX12_init_115 ?_
  refine gz_bipush (v := 41) C rfl dX12_init_116 ?_
  refine gz_newi (n := 41) C hR ac_int (by decide) (by decide) (by decide) (by decide) (by decide) dX12_init_118 (fun a88 => ?_)
  refine gz_putF (q := 75) (fs := (Value.ref (a76) :: Value.ref (a77) :: Value.ref (a78) :: Value.ref (a79) :: Value.int 0 :: Value.int (-1) :: Value.int (-1) :: Value.ref (a80) :: Value.ref (a81) :: Value.ref (a82) :: Value.ref (a83) :: Value.ref (a84) :: Value.ref (a85) :: Value.ref (a86) :: Value.int 0 :: Value.int 0 :: Value.int 0 :: Value.int 0 :: Value.int 0 :: Value.int 0 :: Value.int 0 :: Value.int 0 :: Value.int 0 :: Value.ref (a87) :: Value.null :: Value.null :: Value.int 0 :: Value.null :: Value.null :: Value.int 0 :: Value.int 0 :: Value.int 0 :: Value.int 0 :: Value.null :: Value.null :: Value.int 0 :: Value.null :: Value.null :: Value.null :: Value.null :: Value.null :: Value.null :: Value.null :: Value.null :: Value.null :: Value.null :: Value.null :: Value.null :: Value.null :: Value.null :: Value.null :: Value.null :: Value.null :: Value.null :: Value.null :: Value.int 0 :: Value.int 0 :: Value.long 0 :: Value.null :: Value.null :: Value.null :: Value.null :: Value.null :: Value.null :: [])) C hnm rfl rfl (by decide) lfX12_55 rfl rfl (Nat.le_of_ble_eq_true rfl) dX12_init_120 ?_
  refine gz_aload_n C 0 rfl rfl dX12_init_123 ?_
  refine gz_bipush (v := 41) C rfl dX12_init_124 ?_
  refine gz_newi (n := 41) C hR ac_int (by decide) (by decide) (by decide) (by decide) (by decide) dX12_init_126 (fun a89 => ?_)
  refine gz_putF (q := 75) (fs := (Value.ref (a76) :: Value.ref (a77) :: Value.ref (a78) :: Value.ref (a79) :: Value.int 0 :: Value.int (-1) :: Value.int (-1) :: Value.ref (a80) :: Value.ref (a81) :: Value.ref (a82) :: Value.ref (a83) :: Value.ref (a84) :: Value.ref (a85) :: Value.ref (a86) :: Value.int 0 :: Value.int 0 :: Value.int 0 :: Value.int 0 :: Value.int 0 :: Value.int 0 :: Value.int 0 :: Value.int 0 :: Value.int 0 :: Value.ref (a87) :: Value.ref (a88) :: Value.null :: Value.int 0 :: Value.null :: Value.null :: Value.int 0 :: Value.int 0 :: Value.int 0 :: Value.int 0 :: Value.null :: Value.null :: Value.int 0 :: Value.null :: Value.null :: Value.null :: Value.null :: Value.null :: Value.null :: Value.null :: Value.null :: Value.null :: Value.null :: Value.null :: Value.null :: Value.null :: Value.null :: Value.null :: Value.null :: Value.null :: Value.null :: Value.null :: Value.int 0 :: Value.int 0 :: Value.long 0 :: Value.null :: Value.null :: Value.null :: Value.null :: Value.null :: Value.null :: [])) C hnm rfl rfl (by decide) lfX12_58 rfl rfl (Nat.le_of_ble_eq_true rfl) dX12_init_128 ?_
  refine gz_aload_n C 0 rfl rfl dX12_init_131 ?_
  refine gz_bipush (v := 80) C rfl dX12_init_132 ?_
  refine gz_newi (n := 80) C hR ac_int (by decide) (by decide) (by decide) (by decide) (by decide) dX12_init_134 (fun a90 => ?_)
  refine gz_putF (q := 75) (fs := (Value.ref (a76) :: Value.ref (a77) :: Value.ref (a78) :: Value.ref (a79) :: Value.int 0 :: Value.int (-1) :: Value.int (-1) :: Value.ref (a80) :: Value.ref (a81) :: Value.ref (a82) :: Value.ref (a83) :: Value.ref (a84) :: Value.ref (a85) :: Value.ref (a86) :: Value.int 0 :: Value.int 0 :: Value.int 0 :: Value.int 0 :: Value.int 0 :: Value.int 0 :: Value.int 0 :: Value.int 0 :: Value.int 0 :: Value.ref (a87) :: Value.ref (a88) :: Value.ref (a89) :: Value.int 0 :: Value.null :: Value.null :: Value.int 0 :: Value.int 0 :: Value.int 0 :: Value.int 0 :: Value.null :: Value.null :: Value.int 0 :: Value.null :: Value.null :: Value.null :: Value.null :: Value.null :: Value.null :: Value.null :: Value.null :: Value.null :: Value.null :: Value.null :: Value.null :: Value.null :: Value.null :: Value.null :: Value.null :: Value.null :: Value.null :: Value.null :: Value.int 0 :: Value.int 0 :: Value.long 0 :: Value.null :: Value.null :: Value.null :: Value.null :: Value.null :: Value.null :: [])) C hnm rfl rfl (by decide) lfX12_61 rfl rfl (Nat.le_of_ble_eq_true rfl) dX12_init_136 ?_
  refine gz_aload_n C 0 rfl rfl dX12_init_139 ?_
  refine gz_bipush (v := 80) C rfl dX12_init_140 ?_
  refine gz_newi (n := 80) C hR ac_int (by decide) (by decide) (by decide) (by decide) (by decide) dX12_init_142 (fun a91 => ?_)
  refine gz_putF (q := 75) (fs := (Value.ref (a76) :: Value.ref (a77) :: Value.ref (a78) :: Value.ref (a79) :: Value.int 0 :: Value.int (-1) :: Value.int (-1) :: Value.ref (a80) :: Value.ref (a81) :: Value.ref (a82) :: Value.ref (a83) :: Value.ref (a84) :: Value.ref (a85) :: Value.ref (a86) :: Value.int 0 :: Value.int 0 :: Value.int 0 :: Value.int 0 :: Value.int 0 :: Value.int 0 :: Value.int 0 :: Value.int 0 :: Value.int 0 :: Value.ref (a87) :: Value.ref (a88) :: Value.ref (a89) :: Value.int 0 :: Value.ref (a90) :: Value.null :: Value.int 0 :: Value.int 0 :: Value.int 0 :: Value.int 0 :: Value.null :: Value.null :: Value.int 0 :: Value.null :: Value.null :: Value.null :: Value.null :: Value.null :: Value.null :: Value.null :: Value.null :: Value.null :: Value.null :: Value.null :: Value.null :: Value.null :: Value.null :: Value.null :: Value.null :: Value.null :: Value.null :: Value.null :: Value.int 0 :: Value.int 0 :: Value.long 0 :: Value.null :: Value.null :: Value.null :: Value.null :: Value.null :: Value.null :: [])) C hnm rfl rfl (by decide) lfX12_64 rfl rfl (Nat.le_of_ble_eq_true rfl) dX12_init_144 ?_
  refine gz_aload_n C 0 rfl rfl dX12_init_147 ?_
  refine gz_bipush (v := 12) C rfl dX12_init_148 ?_
  refine gz_newi (n := 12) C hR ac_int (by decide) (by decide) (by decide) (by decide) (by decide) dX12_init_150 (fun a92 => ?_)
  refine gz_putF (q := 75) (fs := (Value.ref (a76) :: Value.ref (a77) :: Value.ref (a78) :: Value.ref (a79) :: Value.int 0 :: Value.int (-1) :: Value.int (-1) :: Value.ref (a80) :: Value.ref (a81) :: Value.ref (a82) :: Value.ref (a83) :: Value.ref (a84) :: Value.ref (a85) :: Value.ref (a86) :: Value.int 0 :: Value.int 0 :: Value.int 0 :: Value.int 0 :: Value.int 0 :: Value.int 0 :: Value.int 0 :: Value.int 0 :: Value.int 0 :: Value.ref (a87) :: Value.ref (a88) :: Value.ref (a89) :: Value.int 0 :: Value.ref (a90) :: Value.ref (a91) :: Value.int 0 :: Value.int 0 :: Value.int 0 :: Value.int 0 :: Value.null :: Value.null :: Value.int 0 :: Value.null :: Value.null :: Value.null :: Value.null :: Value.null :: Value.null :: Value.null :: Value.null :: Value.null :: Value.null :: Value.null :: Value.null :: Value.null :: Value.null :: Value.null :: Value.null :: Value.null :: Value.null :: Value.null :: Value.int 0 :: Value.int 0 :: Value.long 0 :: Value.null :: Value.null :: Value.null :: Value.null :: Value.null :: Value.null :: [])) C hnm rfl rfl (by decide) lfX12_67 rfl rfl (Nat.le_of_ble_eq_true rfl) dX12_init_152 ?_
  refine gz_aload_n C 0 rfl rfl dX12_init_155 ?_
  refine gz_bipush (v := 12) C rfl dX12_init_156 ?_
  refine gz_newi (n := 12) C hR ac_int (by decide) (by decide) (by decide) (by decide) (by decide) dX12_init_158 (fun a93 => ?_)
  refine gz_putF (q := 75) (fs := (Value.ref (a76) :: Value.ref (a77) :: Value.ref (a78) :: Value.ref (a79) :: Value.int 0 :: Value.int (-1) :: Value.int (-1) :: Value.ref (a80) :: Value.ref (a81) :: Value.ref (a82) :: Value.ref (a83) :: Value.ref (a84) :: Value.ref (a85) :: Value.ref (a86) :: Value.int 0 :: Value.int 0 :: Value.int 0 :: Value.int 0 :: Value.int 0 :: Value.int 0 :: Value.int 0 :: Value.int 0 :: Value.int 0 :: Value.ref (a87) :: Value.ref (a88) :: Value.ref (a89) :: Value.int 0 :: Value.ref (a90) :: Value.ref (a91) :: Value.int 0 :: Value.int 0 :: Value.int 0 :: Value.int 0 :: Value.ref (a92) :: Value.null :: Value.int 0 :: Value.null :: Value.null :: Value.null :: Value.null :: Value.null :: Value.null :: Value.null :: Value.null :: Value.null :: Value.null :: Value.null :: Value.null :: Value.null :: Value.null :: Value.null :: Value.null :: Value.null :: Value.null :: Value.null :: Value.int 0 :: Value.int 0 :: Value.long 0 :: Value.null :: Value.null :: Value.null :: Value.null :: Value.null :: Value.null :: [])) C hnm rfl rfl (by decide) lfX12_70 rfl rfl (Nat.le_of_ble_eq_true rfl) dX12_init_160 ?_
  refine gz_aload_n C 0 rfl rfl dX12_init_163 ?_
  refine gz_sipush (v := 400) C rfl dX12_init_164 ?_
  refine gz_newi (n := 400) C hR ac_int (by decide) (by decide) (by decide) (by decide) (by decide) dX12_init_167 (fun a94 => ?_)
  refine gz_putF (q := 75) (fs := (Value.ref (a76) :: Value.ref (a77) :: Value.ref (a78) :: Value.ref (a79) :: Value.int 0 :: Value.int (-1) :: Value.int (-1) :: Value.ref (a80) :: Value.ref (a81) :: Value.ref (a82) :: Value.ref (a83) :: Value.ref (a84) :: Value.ref (a85) :: Value.ref (a86) :: Value.int 0 :: Value.int 0 :: Value.int 0 :: Value.int 0 :: Value.int 0 :: Value.int 0 :: Value.int 0 :: Value.int 0 :: Value.int 0 :: Value.ref (a87) :: Value.ref (a88) :: Value.ref (a89) :: Value.int 0 :: Value.ref (a90) :: Value.ref (a91) :: Value.int 0 :: Value.int 0 :: Value.int 0 :: Value.int 0 :: Value.ref (a92) :: Value.ref (a93) :: Value.int 0 :: Value.null :: Value.null :: Value.null :: Value.null :: Value.null :: Value.null :: Value.null :: Value.null :: Value.null :: Value.null :: Value.null :: Value.null :: Value.null :: Value.null :: Value.null :: Value.null :: Value.null :: Value.null :: Value.null :: Value.int 0 :: Value.int 0 :: Value.long 0 :: Value.null :: Value.null :: Value.null :: Value.null :: Value.null :: Value.null :: [])) C hnm rfl rfl (by decide) lfX12_73 rfl rfl (Nat.le_of_ble_eq_true rfl) dX12_init_169 ?_
  refine gz_aload_n C 0 rfl rfl dX12_init_172 ?_
  refine gz_sipush (v := 400) C rfl dX12_init_173 ?_
  refine gz_newi (n := 400) C hR ac_int (by decide) (by decide) (by decide) (by decide) (by decide) dX12_init_176 (fun a95 => ?_)
  refine gz_putF (q := 75) (fs := (Value.ref (a76) :: Value.ref (a77) :: Value.ref (a78) :: Value.ref (a79) :: Value.int 0 :: Value.int (-1) :: Value.int (-1) :: Value.ref (a80) :: Value.ref (a81) :: Value.ref (a82) :: Value.ref (a83) :: Value.ref (a84) :: Value.ref (a85) :: Value.ref (a86) :: Value.int 0 :: Value.int 0 :: Value.int 0 :: Value.int 0 :: Value.int 0 :: Value.int 0 :: Value.int 0 :: Value.int 0 :: Value.int 0 :: Value.ref (a87) :: Value.ref (a88) :: Value.ref (a89) :: Value.int 0 :: Value.ref (a90) :: Value.ref (a91) :: Value.int 0 :: Value.int 0 :: Value.int 0 :: Value.int 0 :: Value.ref (a92) :: Value.ref (a93) :: Value.int 0 :: Value.ref (a94) :: Value.null :: Value.null :: Value.null :: Value.null :: Value.null :: Value.null :: Value.null :: Value.null :: Value.null :: Value.null :: Value.null :: Value.null :: Value.null :: Value.null :: Value.null :: Value.null :: Value.null :: Value.null :: Value.int 0 :: Value.int 0 :: Value.long 0 :: Value.null :: Value.null :: Value.null :: Value.null :: Value.null :: Value.null :: [])) C hnm rfl rfl (by decide) lfX12_76 rfl rfl (Nat.le_of_ble_eq_true rfl) dX12_init_178 ?_
  refine gz_aload_n C 0 rfl rfl dX12_init_181 ?_
  refine gz_bipush (v := 14) C rfl dX12_init_182 ?_
  refine gz_newl (n := 14) C hR ac_long (by decide) (by decide) (by decide) (by decide) (by decide) dX12_init_184 (fun a96 => ?_)
  refine gz_putF (q := 75) (fs := (Value.ref (a76) :: Value.ref (a77) :: Value.ref (a78) :: Value.ref (a79) :: Value.int 0 :: Value.int (-1) :: Value.int (-1) :: Value.ref (a80) :: Value.ref (a81) :: Value.ref (a82) :: Value.ref (a83) :: Value.ref (a84) :: Value.ref (a85) :: Value.ref (a86) :: Value.int 0 :: Value.int 0 :: Value.int 0 :: Value.int 0 :: Value.int 0 :: Value.int 0 :: Value.int 0 :: Value.int 0 :: Value.int 0 :: Value.ref (a87) :: Value.ref (a88) :: Value.ref (a89) :: Value.int 0 :: Value.ref (a90) :: Value.ref (a91) :: Value.int 0 :: Value.int 0 :: Value.int 0 :: Value.int 0 :: Value.ref (a92) :: Value.ref (a93) :: Value.int 0 :: Value.ref (a94) :: Value.ref (a95) :: Value.null :: Value.null :: Value.null :: Value.null :: Value.null :: Value.null :: Value.null :: Value.null :: Value.null :: Value.null :: Value.null :: Value.null :: Value.null :: Value.null :: Value.null :: Value.null :: Value.null :: Value.int 0 :: Value.int 0 :: Value.long 0 :: Value.null :: Value.null :: Value.null :: Value.null :: Value.null :: Value.null :: [])) C hnm rfl rfl (by decide) lfX12_79 rfl rfl (Nat.le_of_ble_eq_true rfl) dX12_init_186 ?_
  refine gz_aload_n C 0 rfl rfl dX12_init_189 ?_
  refine gz_sipush (v := 200) C rfl dX12_init_190 ?_
  refine gz_newl (n := 200) C hR ac_long (by decide) (by decide) (by decide) (by decide) (by decide) dX12_init_193 (fun a97 => ?_)
  refine gz_putF (q := 75) (fs := (Value.ref (a76) :: Value.ref (a77) :: Value.ref (a78) :: Value.ref (a79) :: Value.int 0 :: Value.int (-1) :: Value.int (-1) :: Value.ref (a80) :: Value.ref (a81) :: Value.ref (a82) :: Value.ref (a83) :: Value.ref (a84) :: Value.ref (a85) :: Value.ref (a86) :: Value.int 0 :: Value.int 0 :: Value.int 0 :: Value.int 0 :: Value.int 0 :: Value.int 0 :: Value.int 0 :: Value.int 0 :: Value.int 0 :: Value.ref (a87) :: Value.ref (a88) :: Value.ref (a89) :: Value.int 0 :: Value.ref (a90) :: Value.ref (a91) :: Value.int 0 :: Value.int 0 :: Value.int 0 :: Value.int 0 :: Value.ref (a92) :: Value.ref (a93) :: Value.int 0 :: Value.ref (a94) :: Value.ref (a95) :: Value.ref (a96) :: Value.null :: Value.null :: Value.null :: Value.null :: Value.null :: Value.null :: Value.null :: Value.null :: Value.null :: Value.null :: Value.null :: Value.null :: Value.null :: Value.null :: Value.null :: Value.null :: Value.int 0 :: Value.int 0 :: Value.long 0 :: Value.null :: Value.null :: Value.null :: Value.null :: Value.null :: Value.null :: [])) C hnm rfl rfl (by decide) lfX12_82 rfl rfl (Nat.le_of_ble_eq_true rfl) dX12_init_195 ?_
  refine gz_aload_n C 0 rfl rfl dX12_init_198 ?_
  refine gz_sipush (v := 19392) C rfl dX12_init_199 ?_
  refine gz_newi (n := 19392) C hR ac_int (by decide) (by decide) (by decide) (by decide) (by decide) dX12_init_202 (fun a98 => ?_)
  refine gz_putF (q := 75) (fs := (Value.ref (a76) :: Value.ref (a77) :: Value.ref (a78) :: Value.ref (a79) :: Value.int 0 :: Value.int (-1) :: Value.int (-1) :: Value.ref (a80) :: Value.ref (a81) :: Value.ref (a82) :: Value.ref (a83) :: Value.ref (a84) :: Value.ref (a85) :: Value.ref (a86) :: Value.int 0 :: Value.int 0 :: Value.int 0 :: Value.int 0 :: Value.int 0 :: Value.int 0 :: Value.int 0 :: Value.int 0 :: Value.int 0 :: Value.ref (a87) :: Value.ref (a88) :: Value.ref (a89) :: Value.int 0 :: Value.ref (a90) :: Value.ref (a91) :: Value.int 0 :: Value.int 0 :: Value.int 0 :: Value.int 0 :: Value.ref (a92) :: Value.ref (a93) :: Value.int 0 :: Value.ref (a94) :: Value.ref (a95) :: Value.ref (a96) :: Value.ref (a97) :: Value.null :: Value.null :: Value.null :: Value.null :: Value.null :: Value.null :: Value.null :: Value.null :: Value.null :: Value.null :: Value.null :: Value.null :: Value.null :: Value.null :: Value.null :: Value.int 0 :: Value.int 0 :: Value.long 0 :: Value.null :: Value.null :: Value.null :: Value.null :: Value.null :: Value.null :: [])) C hnm rfl rfl (by decide) lfX12_85 rfl rfl (Nat.le_of_ble_eq_true rfl) dX12_init_204 ?_
  refine gz_aload_n C 0 rfl rfl dX12_init_207 ?_
  refine gz_sipush (v := 1616) C rfl dX12_init_208 ?_
  refine gz_newi (n := 1616) C hR ac_int (by decide) (by decide) (by decide) (by decide) (by decide) dX12_init_211 (fun a99 => ?_)
  refine gz_putF (q := 75) (fs := (Value.ref (a76) :: Value.ref (a77) :: Value.ref (a78) :: Value.ref (a79) :: Value.int 0 :: Value.int (-1) :: Value.int (-1) :: Value.ref (a80) :: Value.ref (a81) :: Value.ref (a82) :: Value.ref (a83) :: Value.ref (a84) :: Value.ref (a85) :: Value.ref (a86) :: Value.int 0 :: Value.int 0 :: Value.int 0 :: Value.int 0 :: Value.int 0 :: Value.int 0 :: Value.int 0 :: Value.int 0 :: Value.int 0 :: Value.ref (a87) :: Value.ref (a88) :: Value.ref (a89) :: Value.int 0 :: Value.ref (a90) :: Value.ref (a91) :: Value.int 0 :: Value.int 0 :: Value.int 0 :: Value.int 0 :: Value.ref (a92) :: Value.ref (a93) :: Value.int 0 :: Value.ref (a94) :: Value.ref (a95) :: Value.ref (a96) :: Value.ref (a97) :: Value.ref (a98) :: Value.null :: Value.null :: Value.null :: Value.null :: Value.null :: Value.null :: Value.null :: Value.null :: Value.null :: Value.null :: Value.null :: Value.null :: Value.null :: Value.null :: Value.int 0 :: Value.int 0 :: Value.long 0 :: Value.null :: Value.null :: Value.null :: Value.null :: Value.null :: Value.null :: [])) C hnm rfl rfl (by decide) lfX12_88 rfl rfl (Nat.le_of_ble_eq_true rfl) dX12_init_213 ?_
  refine gz_aload_n C 0 rfl rfl dX12_init_216 ?_
  refine gz_sipush (v := 4848) C rfl dX12_init_217 ?_
  refine gz_newi (n := 4848) C hR ac_int (by decide) (by decide) (by decide) (by decide) (by decide) dX12_init_220 (fun a100 => ?_)
  refine gz_putF (q := 75) (fs := (Value.ref (a76) :: Value.ref (a77) :: Value.ref (a78) :: Value.ref (a79) :: Value.int 0 :: Value.int (-1) :: Value.int (-1) :: Value.ref (a80) :: Value.ref (a81) :: Value.ref (a82) :: Value.ref (a83) :: Value.ref (a84) :: Value.ref (a85) :: Value.ref (a86) :: Value.int 0 :: Value.int 0 :: Value.int 0 :: Value.int 0 :: Value.int 0 :: Value.int 0 :: Value.int 0 :: Value.int 0 :: Value.int 0 :: Value.ref (a87) :: Value.ref (a88) :: Value.ref (a89) :: Value.int 0 :: Value.ref (a90) :: Value.ref (a91) :: Value.int 0 :: Value.int 0 :: Value.int 0 :: Value.int 0 :: Value.ref (a92) :: Value.ref (a93) :: Value.int 0 :: Value.ref (a94) :: Value.ref (a95) :: Value.ref (a96) :: Value.ref (a97) :: Value.ref (a98) :: Value.ref (a99) :: Value.null :: Value.null :: Value.null :: Value.null :: Value.null :: Value.null :: Value.null :: Value.null :: Value.null :: Value.null :: Value.null :: Value.null :: Value.null :: Value.int 0 :: Value.int 0 :: Value.long 0 :: Value.null :: Value.null :: Value.null :: Value.null :: Value.null :: Value.null :: [])) C hnm rfl rfl (by decide) lfX12_91 rfl rfl (Nat.le_of_ble_eq_true rfl) dX12_init_222 ?_
  refine gz_aload_n C 0 rfl rfl dX12_init_225 ?_
  refine gz_sipush (v := 3232) C rfl dX12_init_226 ?_
  refine gz_newi (n := 3232) C hR ac_int (by decide) (by decide) (by decide) (by decide) (by decide) dX12_init_229 (fun a101 => ?_)
  refine gz_putF (q := 75) (fs := (Value.ref (a76) :: Value.ref (a77) :: Value.ref (a78) :: Value.ref (a79) :: Value.int 0 :: Value.int (-1) :: Value.int (-1) :: Value.ref (a80) :: Value.ref (a81) :: Value.ref (a82) :: Value.ref (a83) :: Value.ref (a84) :: Value.ref (a85) :: Value.ref (a86) :: Value.int 0 :: Value.int 0 :: Value.int 0 :: Value.int 0 :: Value.int 0 :: Value.int 0 :: Value.int 0 :: Value.int 0 :: Value.int 0 :: Value.ref (a87) :: Value.ref (a88) :: Value.ref (a89) :: Value.int 0 :: Value.ref (a90) :: Value.ref (a91) :: Value.int 0 :: Value.int 0 :: Value.int 0 :: Value.int 0 :: Value.ref (a92) :: Value.ref (a93) :: Value.int 0 :: Value.ref (a94) :: Value.ref (a95) :: Value.ref (a96) :: Value.ref (a97) :: Value.ref (a98) :: Value.ref (a99) :: Value.ref (a100) :: Value.null :: Value.null :: Value.null :: Value.null :: Value.null :: Value.null :: Value.null :: Value.null :: Value.null :: Value.null :: Value.null :: Value.null :: Value.int 0 :: Value.int 0 :: Value.long 0 :: Value.null :: Value.null :: Value.null :: Value.null :: Value.null :: Value.null :: [])) C hnm rfl rfl (by decide) lfX12_94 rfl rfl (Nat.le_of_ble_eq_true rfl) dX12_init_231 ?_
  refine gz_aload_n C 0 rfl rfl dX12_init_234 ?_
  refine gz_sipush (v := 3232) C rfl dX12_init_235 ?_
  refine gz_newi (n := 3232) C hR ac_int (by decide) (by decide) (by decide) (by decide) (by decide) dX12_init_238 (fun a102 => ?_)
  refine gz_putF (q := 75) (fs := (Value.ref (a76) :: Value.ref (a77) :: Value.ref (a78) :: Value.ref (a79) :: Value.int 0 :: Value.int (-1) :: Value.int (-1) :: Value.ref (a80) :: Value.ref (a81) :: Value.ref (a82) :: Value.ref (a83) :: Value.ref (a84) :: Value.ref (a85) :: Value.ref (a86) :: Value.int 0 :: Value.int 0 :: Value.int 0 :: Value.int 0 :: Value.int 0 :: Value.int 0 :: Value.int 0 :: Value.int 0 :: Value.int 0 :: Value.ref (a87) :: Value.ref (a88) :: Value.ref (a89) :: Value.int 0 :: Value.ref (a90) :: Value.ref (a91) :: Value.int 0 :: Value.int 0 :: Value.int 0 :: Value.int 0 :: Value.ref (a92) :: Value.ref (a93) :: Value.int 0 :: Value.ref (a94) :: Value.ref (a95) :: Value.ref (a96) :: Value.ref (a97) :: Value.ref (a98) :: Value.ref (a99) :: Value.ref (a100) :: Value.ref (a101) :: Value.null :: Value.null :: Value.null :: Value.null :: Value.null :: Value.null :: Value.null :: Value.null :: Value.null :: Value.null :: Value.null :: Value.int 0 :: Value.int 0 :: Value.long 0 :: Value.null :: Value.null :: Value.null :: Value.null :: Value.null :: Value.null :: [])) C hnm rfl rfl (by decide) lfX12_97 rfl rfl (Nat.le_of_ble_eq_true rfl) dX12_init_240 ?_
  refine gz_aload_n C 0 rfl rfl dX12_init_243 ?_
  refine gz_bipush (v := 61) C rfl dX12_init_244 ?_
  refine gz_newi (n := 61) C hR ac_int (by decide) (by decide) (by decide) (by decide) (by decide) dX12_init_246 (fun a103 => ?_)
  refine gz_putF (q := 75) (fs := (Value.ref (a76) :: Value.ref (a77) :: Value.ref (a78) :: Value.ref (a79) :: Value.int 0 :: Value.int (-1) :: Value.int (-1) :: Value.ref (a80) :: Value.ref (a81) :: Value.ref (a82) :: Value.ref (a83) :: Value.ref (a84) :: Value.ref (a85) :: Value.ref (a86) :: Value.int 0 :: Value.int 0 :: Value.int 0 :: Value.int 0 :: Value.int 0 :: Value.int 0 :: Value.int 0 :: Value.int 0 :: Value.int 0 :: Value.ref (a87) :: Value.ref (a88) :: Value.ref (a89) :: Value.int 0 :: Value.ref (a90) :: Value.ref (a91) :: Value.int 0 :: Value.int 0 :: Value.int 0 :: Value.int 0 :: Value.ref (a92) :: Value.ref (a93) :: Value.int 0 :: Value.ref (a94) :: Value.ref (a95) :: Value.ref (a96) :: Value.ref (a97) :: Value.ref (a98) :: Value.ref (a99) :: Value.ref (a100) :: Value.ref (a101) :: Value.ref (a102) :: Value.null :: Value.null :: Value.null :: Value.null :: Value.null :: Value.null :: Value.null :: Value.null :: Value.null :: Value.null :: Value.int 0 :: Value.int 0 :: Value.long 0 :: Value.null :: Value.null :: Value.null :: Value.null :: Value.null :: Value.null :: [])) C hnm rfl rfl (by decide) lfX12_100 rfl rfl (Nat.le_of_ble_eq_true rfl) dX12_init_248 ?_
  refine gz_aload_n C 0 rfl rfl dX12_init_251 ?_
  refine gz_iconst (v := 2) C rfl dX12_init_252 ?_
  refine gz_newi (n := 2) C hR ac_int (by decide) (by decide) (by decide) (by decide) (by decide) dX12_init_253 (fun a104 => ?_)
  refine gz_putF (q := 75) (fs := (Value.ref (a76) :: Value.ref (a77) :: Value.ref (a78) :: Value.ref (a79) :: Value.int 0 :: Value.int (-1) :: Value.int (-1) :: Value.ref (a80) :: Value.ref (a81) :: Value.ref (a82) :: Value.ref (a83) :: Value.ref (a84) :: Value.ref (a85) :: Value.ref (a86) :: Value.int 0 :: Value.int 0 :: Value.int 0 :: Value.int 0 :: Value.int 0 :: Value.int 0 :: Value.int 0 :: Value.int 0 :: Value.int 0 :: Value.ref (a87) :: Value.ref (a88) :: Value.ref (a89) :: Value.int 0 :: Value.ref (a90) :: Value.ref (a91) :: Value.int 0 :: Value.int 0 :: Value.int 0 :: Value.int 0 :: Value.ref (a92) :: Value.ref (a93) :: Value.int 0 :: Value.ref (a94) :: Value.ref (a95) :: Value.ref (a96) :: Value.ref (a97) :: Value.ref (a98) :: Value.ref (a99) :: Value.ref (a100) :: Value.ref (a101) :: Value.ref (a102) :: Value.ref (a103) :: Value.null :: Value.null :: Value.null :: Value.null :: Value.null :: Value.null :: Value.null :: Value.null :: Value.null :: Value.int 0 :: Value.int 0 :: Value.long 0 :: Value.null :: Value.null :: Value.null :: Value.null :: Value.null :: Value.null :: [])) C hnm rfl rfl (by decide) lfX12_103 rfl rfl (Nat.le_of_ble_eq_true rfl) dX12_init_255 ?_
  refine gz_aload_n C 0 rfl rfl dX12_init_258 ?_
  refine gz_bipush (v := 96) C rfl dX12_init_259 ?_
  refine gz_newi (n := 96) C hR ac_int (by decide) (by decide) (by decide) (by decide) (by decide) dX12_init_261 (fun a105 => ?_)
  refine gz_putF (q := 75) (fs := (Value.ref (a76) :: Value.ref (a77) :: Value.ref (a78) :: Value.ref (a79) :: Value.int 0 :: Value.int (-1) :: Value.int (-1) :: Value.ref (a80) :: Value.ref (a81) :: Value.ref (a82) :: Value.ref (a83) :: Value.ref (a84) :: Value.ref (a85) :: Value.ref (a86) :: Value.int 0 :: Value.int 0 :: Value.int 0 :: Value.int 0 :: Value.int 0 :: Value.int 0 :: Value.int 0 :: Value.int 0 :: Value.int 0 :: Value.ref (a87) :: Value.ref (a88) :: Value.ref (a89) :: Value.int 0 :: Value.ref (a90) :: Value.ref (a91) :: Value.int 0 :: Value.int 0 :: Value.int 0 :: Value.int 0 :: Value.ref (a92) :: Value.ref (a93) :: Value.int 0 :: Value.ref (a94) :: Value.ref (a95) :: Value.ref (a96) :: Value.ref (a97) :: Value.ref (a98) :: Value.ref (a99) :: Value.ref (a100) :: Value.ref (a101) :: Value.ref (a102) :: Value.ref (a103) :: Value.ref (a104) :: Value.null :: Value.null :: Value.null :: Value.null :: Value.null :: Value.null :: Value.null :: Value.null :: Value.int 0 :: Value.int 0 :: Value.long 0 :: Value.null :: Value.null :: Value.null :: Value.null :: Value.null :: Value.null :: [])) C hnm rfl rfl (by decide) lfX12_106 rfl rfl (Nat.le_of_ble_eq_true rfl) dX12_init_263 ?_
  refine gz_aload_n C 0 rfl rfl dX12_init_266 ?_
  refine gz_bipush (v := 64) C rfl dX12_init_267 ?_
  refine gz_newi (n := 64) C hR ac_int (by decide) (by decide) (by decide) (by decide) (by decide) dX12_init_269 (fun a106 => ?_)
  refine gz_putF (q := 75) (fs := (Value.ref (a76) :: Value.ref (a77) :: Value.ref (a78) :: Value.ref (a79) :: Value.int 0 :: Value.int (-1) :: Value.int (-1) :: Value.ref (a80) :: Value.ref (a81) :: Value.ref (a82) :: Value.ref (a83) :: Value.ref (a84) :: Value.ref (a85) :: Value.ref (a86) :: Value.int 0 :: Value.int 0 :: Value.int 0 :: Value.int 0 :: Value.int 0 :: Value.int 0 :: Value.int 0 :: Value.int 0 :: Value.int 0 :: Value.ref (a87) :: Value.ref (a88) :: Value.ref (a89) :: Value.int 0 :: Value.ref (a90) :: Value.ref (a91) :: Value.int 0 :: Value.int 0 :: Value.int 0 :: Value.int 0 :: Value.ref (a92) :: Value.ref (a93) :: Value.int 0 :: Value.ref (a94) :: Value.ref (a95) :: Value.ref (a96) :: Value.ref (a97) :: Value.ref (a98) :: Value.ref (a99) :: Value.ref (a100) :: Value.ref (a101) :: Value.ref (a102) :: Value.ref (a103) :: Value.ref (a104) :: Value.ref (a105) :: Value.null :: Value.null :: Value.null :: Value.null :: Value.null :: Value.null :: Value.null :: Value.int 0 :: Value.int 0 :: Value.long 0 :: Value.null :: Value.null :: Value.null :: Value.null :: Value.null :: Value.null :: [])) C hnm rfl rfl (by decide) lfX12_109 rfl rfl (Nat.le_of_ble_eq_true rfl) dX12_init_271 ?_
  refine gz_aload_n C 0 rfl rfl dX12_init_274 ?_
  refine gz_bipush (v := 32) C rfl dX12_init_275 ?_
  refine gz_newi (n := 32) C hR ac_int (by decide) (by decide) (by decide) (by decide) (by decide) dX12_init_277 (fun a107 => ?_)
  refine gz_putF (q := 75) (fs := (Value.ref (a76) :: Value.ref (a77) :: Value.ref (a78) :: Value.ref (a79) :: Value.int 0 :: Value.int (-1) :: Value.int (-1) :: Value.ref (a80) :: Value.ref (a81) :: Value.ref (a82) :: Value.ref (a83) :: Value.ref (a84) :: Value.ref (a85) :: Value.ref (a86) :: Value.int 0 :: Value.int 0 :: Value.int 0 :: Value.int 0 :: Value.int 0 :: Value.int 0 :: Value.int 0 :: Value.int 0 :: Value.int 0 :: Value.ref (a87) :: Value.ref (a88) :: Value.ref (a89) :: Value.int 0 :: Value.ref (a90) :: Value.ref (a91) :: Value.int 0 :: Value.int 0 :: Value.int 0 :: Value.int 0 :: Value.ref (a92) :: Value.ref (a93) :: Value.int 0 :: Value.ref (a94) :: Value.ref (a95) :: Value.ref (a96) :: Value.ref (a97) :: Value.ref (a98) :: Value.ref (a99) :: Value.ref (a100) :: Value.ref (a101) :: Value.ref (a102) :: Value.ref (a103) :: Value.ref (a104) :: Value.ref (a105) :: Value.ref (a106) :: Value.null :: Value.null :: Value.null :: Value.null :: Value.null :: Value.null :: Value.int 0 :: Value.int 0 :: Value.long 0 :: Value.null :: Value.null :: Value.null :: Value.null :: Value.null :: Value.null :: [])) C hnm rfl rfl (by decide) lfX12_112 rfl rfl (Nat.le_of_ble_eq_true rfl) dX12_init_279 ?_
  refine gz_aload_n C 0 rfl rfl dX12_init_282 ?_
  refine gz_bipush (v := 32) C rfl dX12_init_283 ?_
  refine gz_newi (n := 32) C hR ac_int (by decide) (by decide) (by decide) (by decide) (by decide) dX12_init_285 (fun a108 => ?_)
  refine gz_putF (q := 75) (fs := (Value.ref (a76) :: Value.ref (a77) :: Value.ref (a78) :: Value.ref (a79) :: Value.int 0 :: Value.int (-1) :: Value.int (-1) :: Value.ref (a80) :: Value.ref (a81) :: Value.ref (a82) :: Value.ref (a83) :: Value.ref (a84) :: Value.ref (a85) :: Value.ref (a86) :: Value.int 0 :: Value.int 0 :: Value.int 0 :: Value.int 0 :: Value.int 0 :: Value.int 0 :: Value.int 0 :: Value.int 0 :: Value.int 0 :: Value.ref (a87) :: Value.ref (a88) :: Value.ref (a89) :: Value.int 0 :: Value.ref (a90) :: Value.ref (a91) :: Value.int 0 :: Value.int 0 :: Value.int 0 :: Value.int 0 :: Value.ref (a92) :: Value.ref (a93) :: Value.int 0 :: Value.ref (a94) :: Value.ref (a95) :: Value.ref (a96) :: Value.ref (a97) :: Value.ref (a98) :: Value.ref (a99) :: Value.ref (a100) :: Value.ref (a101) :: Value.ref (a102) :: Value.ref (a103) :: Value.ref (a104) :: Value.ref (a105) :: Value.ref (a106) :: Value.ref (a107) :: Value.null :: Value.null :: Value.null :: Value.null :: Value.null :: Value.int 0 :: Value.int 0 :: Value.long 0 :: Value.null :: Value.null :: Value.null :: Value.null :: Value.null :: Value.null :: [])) C hnm rfl rfl (by decide) lfX12_115 rfl rfl (Nat.le_of_ble_eq_true rfl) dX12_init_287 ?_
  refine gz_aload_n C 0 rfl rfl dX12_init_290 ?_
  refine gz_bipush (v := 16) C rfl dX12_init_291 ?_
  refine gz_newi (n := 16) C hR ac_int (by decide) (by decide) (by decide) (by decide) (by decide) dX12_init_293 (fun a109 => ?_)
  refine gz_putF (q := 75) (fs := (Value.ref (a76) :: Value.ref (a77) :: Value.ref (a78) :: Value.ref (a79) :: Value.int 0 :: Value.int (-1) :: Value.int (-1) :: Value.ref (a80) :: Value.ref (a81) :: Value.ref (a82) :: Value.ref (a83) :: Value.ref (a84) :: Value.ref (a85) :: Value.ref (a86) :: Value.int 0 :: Value.int 0 :: Value.int 0 :: Value.int 0 :: Value.int 0 :: Value.int 0 :: Value.int 0 :: Value.int 0 :: Value.int 0 :: Value.ref (a87) :: Value.ref (a88) :: Value.ref (a89) :: Value.int 0 :: Value.ref (a90) :: Value.ref (a91) :: Value.int 0 :: Value.int 0 :: Value.int 0 :: Value.int 0 :: Value.ref (a92) :: Value.ref (a93) :: Value.int 0 :: Value.ref (a94) :: Value.ref (a95) :: Value.ref (a96) :: Value.ref (a97) :: Value.ref (a98) :: Value.ref (a99) :: Value.ref (a100) :: Value.ref (a101) :: Value.ref (a102) :: Value.ref (a103) :: Value.ref (a104) :: Value.ref (a105) :: Value.ref (a106) :: Value.ref (a107) :: Value.ref (a108) :: Value.null :: Value.null :: Value.null :: Value.null :: Value.int 0 :: Value.int 0 :: Value.long 0 :: Value.null :: Value.null :: Value.null :: Value.null :: Value.null :: Value.null :: [])) C hnm rfl rfl (by decide) lfX12_118 rfl rfl (Nat.le_of_ble_eq_true rfl) dX12_init_295 ?_
  refine gz_aload_n C 0 rfl rfl dX12_init_298 ?_
  refine gz_bipush (v := 16) C rfl dX12_init_299 ?_
  refine gz_newi (n := 16) C hR ac_int (by decide) (by decide) (by decide) (by decide) (by decide) dX12_init_301 (fun a110 => ?_)
  refine gz_putF (q := 75) (fs := (Value.ref (a76) :: Value.ref (a77) :: Value.ref (a78) :: Value.ref (a79) :: Value.int 0 :: Value.int (-1) :: Value.int (-1) :: Value.ref (a80) :: Value.ref (a81) :: Value.ref (a82) :: Value.ref (a83) :: Value.ref (a84) :: Value.ref (a85) :: Value.ref (a86) :: Value.int 0 :: Value.int 0 :: Value.int 0 :: Value.int 0 :: Value.int 0 :: Value.int 0 :: Value.int 0 :: Value.int 0 :: Value.int 0 :: Value.ref (a87) :: Value.ref (a88) :: Value.ref (a89) :: Value.int 0 :: Value.ref (a90) :: Value.ref (a91) :: Value.int 0 :: Value.int 0 :: Value.int 0 :: Value.int 0 :: Value.ref (a92) :: Value.ref (a93) :: Value.int 0 :: Value.ref (a94) :: Value.ref (a95) :: Value.ref (a96) :: Value.ref (a97) :: Value.ref (a98) :: Value.ref (a99) :: Value.ref (a100) :: Value.ref (a101) :: Value.ref (a102) :: Value.ref (a103) :: Value.ref (a104) :: Value.ref (a105) :: Value.ref (a106) :: Value.ref (a107) :: Value.ref (a108) :: Value.ref (a109) :: Value.null :: Value.null :: Value.null :: Value.int 0 :: Value.int 0 :: Value.long 0 :: Value.null :: Value.null :: Value.null :: Value.null :: Value.null :: Value.null :: [])) C hnm rfl rfl (by decide) lfX12_121 rfl rfl (Nat.le_of_ble_eq_true rfl) dX12_init_303 ?_
  refine gz_aload_n C 0 rfl rfl dX12_init_306 ?_
  refine gz_bipush (v := 16) C rfl dX12_init_307 ?_
  refine gz_newi (n := 16) C hR ac_int (by decide) (by decide) (by decide) (by decide) (by decide) dX12_init_309 (fun a111 => ?_)
  refine gz_putF (q := 75) (fs := (Value.ref (a76) :: Value.ref (a77) :: Value.ref (a78) :: Value.ref (a79) :: Value.int 0 :: Value.int (-1) :: Value.int (-1) :: Value.ref (a80) :: Value.ref (a81) :: Value.ref (a82) :: Value.ref (a83) :: Value.ref (a84) :: Value.ref (a85) :: Value.ref (a86) :: Value.int 0 :: Value.int 0 :: Value.int 0 :: Value.int 0 :: Value.int 0 :: Value.int 0 :: Value.int 0 :: Value.int 0 :: Value.int 0 :: Value.ref (a87) :: Value.ref (a88) :: Value.ref (a89) :: Value.int 0 :: Value.ref (a90) :: Value.ref (a91) :: Value.int 0 :: Value.int 0 :: Value.int 0 :: Value.int 0 :: Value.ref (a92) :: Value.ref (a93) :: Value.int 0 :: Value.ref (a94) :: Value.ref (a95) :: Value.ref (a96) :: Value.ref (a97) :: Value.ref (a98) :: Value.ref (a99) :: Value.ref (a100) :: Value.ref (a101) :: Value.ref (a102) :: Value.ref (a103) :: Value.ref (a104) :: Value.ref (a105) :: Value.ref (a106) :: Value.ref (a107) :: Value.ref (a108) :: Value.ref (a109) :: Value.ref (a110) :: Value.null :: Value.null :: Value.int 0 :: Value.int 0 :: Value.long 0 :: Value.null :: Value.null :: Value.null :: Value.null :: Value.null :: Value.null :: [])) C hnm rfl rfl (by decide) lfX12_124 rfl rfl (Nat.le_of_ble_eq_true rfl) dX12_init_311 ?_
  refine gz_aload_n C 0 rfl rfl dX12_init_314 ?_
  refine gz_bipush (v := 16) C rfl dX12_init_315 ?_
  refine gz_newi (n := 16) C hR ac_int (by decide) (by decide) (by decide) (by decide) (by decide) dX12_init_317 (fun a112 => ?_)
  refine gz_putF (q := 75) (fs := (Value.ref (a76) :: Value.ref (a77) :: Value.ref (a78) :: Value.ref (a79) :: Value.int 0 :: Value.int (-1) :: Value.int (-1) :: Value.ref (a80) :: Value.ref (a81) :: Value.ref (a82) :: Value.ref (a83) :: Value.ref (a84) :: Value.ref (a85) :: Value.ref (a86) :: Value.int 0 :: Value.int 0 :: Value.int 0 :: Value.int 0 :: Value.int 0 :: Value.int 0 :: Value.int 0 :: Value.int 0 :: Value.int 0 :: Value.ref (a87) :: Value.ref (a88) :: Value.ref (a89) :: Value.int 0 :: Value.ref (a90) :: Value.ref (a91) :: Value.int 0 :: Value.int 0 :: Value.int 0 :: Value.int 0 :: Value.ref (a92) :: Value.ref (a93) :: Value.int 0 :: Value.ref (a94) :: Value.ref (a95) :: Value.ref (a96) :: Value.ref (a97) :: Value.ref (a98) :: Value.ref (a99) :: Value.ref (a100) :: Value.ref (a101) :: Value.ref (a102) :: Value.ref (a103) :: Value.ref (a104) :: Value.ref (a105) :: Value.ref (a106) :: Value.ref (a107) :: Value.ref (a108) :: Value.ref (a109) :: Value.ref (a110) :: Value.ref (a111) :: Value.null :: Value.int 0 :: Value.int 0 :: Value.long 0 :: Value.null :: Value.null :: Value.null :: Value.null :: Value.null :: Value.null :: [])) C hnm rfl rfl (by decide) lfX12_127 rfl rfl (Nat.le_of_ble_eq_true rfl) dX12_init_319 ?_
  refine gz_aload_n C 0 rfl rfl dX12_init_322 ?_
  refine gz_bipush (v := 16) C rfl dX12_init_323 ?_
  refine gz_newi (n := 16) C hR ac_int (by decide) (by decide) (by decide) (by decide) (by decide) dX12_init_325 (fun a113 => ?_)
  refine gz_putF (q := 75) (fs := (Value.ref (a76) :: Value.ref (a77) :: Value.ref (a78) :: Value.ref (a79) :: Value.int 0 :: Value.int (-1) :: Value.int (-1) :: Value.ref (a80) :: Value.ref (a81) :: Value.ref (a82) :: Value.ref (a83) :: Value.ref (a84) :: Value.ref (a85) :: Value.ref (a86) :: Value.int 0 :: Value.int 0 :: Value.int 0 :: Value.int 0 :: Value.int 0 :: Value.int 0 :: Value.int 0 :: Value.int 0 :: Value.int 0 :: Value.ref (a87) :: Value.ref (a88) :: Value.ref (a89) :: Value.int 0 :: Value.ref (a90) :: Value.ref (a91) :: Value.int 0 :: Value.int 0 :: Value.int 0 :: Value.int 0 :: Value.ref (a92) :: Value.ref (a93) :: Value.int 0 :: Value.ref (a94) :: Value.ref (a95) :: Value.ref (a96) :: Value.ref (a97) :: Value.ref (a98) :: Value.ref (a99) :: Value.ref (a100) :: Value.ref (a101) :: Value.ref (a102) :: Value.ref (a103) :: Value.ref (a104) :: Value.ref (a105) :: Value.ref (a106) :: Value.ref (a107) :: Value.ref (a108) :: Value.ref (a109) :: Value.ref (a110) :: Value.ref (a111) :: Value.ref (a112) :: Value.int 0 :: Value.int 0 :: Value.long 0 :: Value.null :: Value.null :: Value.null :: Value.null :: Value.null :: Value.null :: [])) C hnm rfl rfl (by decide) lfX12_130 rfl rfl (Nat.le_of_ble_eq_true rfl) dX12_init_327 ?_
  refine gz_aload_n C 0 rfl rfl dX12_init_330 ?_
  refine gz_sipush (v := 2400) C rfl dX12_init_331 ?_
  refine gz_newl (n := 2400) C hR ac_long (by decide) (by decide) (by decide) (by decide) (by decide) dX12_init_334 (fun a114 => ?_)
  refine gz_putF (q := 75) (fs := (Value.ref (a76) :: Value.ref (a77) :: Value.ref (a78) :: Value.ref (a79) :: Value.int 0 :: Value.int (-1) :: Value.int (-1) :: Value.ref (a80) :: Value.ref (a81) :: Value.ref (a82) :: Value.ref (a83) :: Value.ref (a84) :: Value.ref (a85) :: Value.ref (a86) :: Value.int 0 :: Value.int 0 :: Value.int 0 :: Value.int 0 :: Value.int 0 :: Value.int 0 :: Value.int 0 :: Value.int 0 :: Value.int 0 :: Value.ref (a87) :: Value.ref (a88) :: Value.ref (a89) :: Value.int 0 :: Value.ref (a90) :: Value.ref (a91) :: Value.int 0 :: Value.int 0 :: Value.int 0 :: Value.int 0 :: Value.ref (a92) :: Value.ref (a93) :: Value.int 0 :: Value.ref (a94) :: Value.ref (a95) :: Value.ref (a96) :: Value.ref (a97) :: Value.ref (a98) :: Value.ref (a99) :: Value.ref (a100) :: Value.ref (a101) :: Value.ref (a102) :: Value.ref (a103) :: Value.ref (a104) :: Value.ref (a105) :: Value.ref (a106) :: Value.ref (a107) :: Value.ref (a108) :: Value.ref (a109) :: Value.ref (a110) :: Value.ref (a111) :: Value.ref (a112) :: Value.int 0 :: Value.int 0 :: Value.long 0 :: Value.ref (a113) :: Value.null :: Value.null :: Value.null :: Value.null :: Value.null :: [])) C hnm rfl rfl (by decide) lfX12_133 rfl rfl (Nat.le_of_ble_eq_true rfl) dX12_init_336 ?_
  refine gz_aload_n C 0 rfl rfl dX12_init_339 ?_
  refine gz_bipush (v := 30) C rfl dX12_init_340 ?_
  refine gz_newl (n := 30) C hR ac_long (by decide) (by decide) (by decide) (by decide) (by decide) dX12_init_342 (fun a115 => ?_)
  refine gz_putF (q := 75) (fs := (Value.ref (a76) :: Value.ref (a77) :: Value.ref (a78) :: Value.ref (a79) :: Value.int 0 :: Value.int (-1) :: Value.int (-1) :: Value.ref (a80) :: Value.ref (a81) :: Value.ref (a82) :: Value.ref (a83) :: Value.ref (a84) :: Value.ref (a85) :: Value.ref (a86) :: Value.int 0 :: Value.int 0 :: Value.int 0 :: Value.int 0 :: Value.int 0 :: Value.int 0 :: Value.int 0 :: Value.int 0 :: Value.int 0 :: Value.ref (a87) :: Value.ref (a88) :: Value.ref (a89) :: Value.int 0 :: Value.ref (a90) :: Value.ref (a91) :: Value.int 0 :: Value.int 0 :: Value.int 0 :: Value.int 0 :: Value.ref (a92) :: Value.ref (a93) :: Value.int 0 :: Value.ref (a94) :: Value.ref (a95) :: Value.ref (a96) :: Value.ref (a97) :: Value.ref (a98) :: Value.ref (a99) :: Value.ref (a100) :: Value.ref (a101) :: Value.ref (a102) :: Value.ref (a103) :: Value.ref (a104) :: Value.ref (a105) :: Value.ref (a106) :: Value.ref (a107) :: Value.ref (a108) :: Value.ref (a109) :: Value.ref (a110) :: Value.ref (a111) :: Value.ref (a112) :: Value.int 0 :: Value.int 0 :: Value.long 0 :: Value.ref (a113) :: Value.ref (a114) :: Value.null :: Value.null :: Value.null :: Value.null :: [])) C hnm rfl rfl (by decide) lfX12_136 rfl rfl (Nat.le_of_ble_eq_true rfl) dX12_init_344 ?_
  refine gz_aload_n C 0 rfl rfl dX12_init_347 ?_
  refine gz_bipush (v := 30) C rfl dX12_init_348 ?_
  refine gz_newl (n := 30) C hR ac_long (by decide) (by decide) (by decide) (by decide) (by decide) dX12_init_350 (fun a116 => ?_)
  refine gz_putF (q := 75) (fs := (Value.ref (a76) :: Value.ref (a77) :: Value.ref (a78) :: Value.ref (a79) :: Value.int 0 :: Value.int (-1) :: Value.int (-1) :: Value.ref (a80) :: Value.ref (a81) :: Value.ref (a82) :: Value.ref (a83) :: Value.ref (a84) :: Value.ref (a85) :: Value.ref (a86) :: Value.int 0 :: Value.int 0 :: Value.int 0 :: Value.int 0 :: Value.int 0 :: Value.int 0 :: Value.int 0 :: Value.int 0 :: Value.int 0 :: Value.ref (a87) :: Value.ref (a88) :: Value.ref (a89) :: Value.int 0 :: Value.ref (a90) :: Value.ref (a91) :: Value.int 0 :: Value.int 0 :: Value.int 0 :: Value.int 0 :: Value.ref (a92) :: Value.ref (a93) :: Value.int 0 :: Value.ref (a94) :: Value.ref (a95) :: Value.ref (a96) :: Value.ref (a97) :: Value.ref (a98) :: Value.ref (a99) :: Value.ref (a100) :: Value.ref (a101) :: Value.ref (a102) :: Value.ref (a103) :: Value.ref (a104) :: Value.ref (a105) :: Value.ref (a106) :: Value.ref (a107) :: Value.ref (a108) :: Value.ref (a109) :: Value.ref (a110) :: Value.ref (a111) :: Value.ref (a112) :: Value.int 0 :: Value.int 0 :: Value.long 0 :: Value.ref (a113) :: Value.ref (a114) :: Value.ref (a115) :: Value.null :: Value.null :: Value.null :: [])) C hnm rfl rfl (by decide) lfX12_139 rfl rfl (Nat.le_of_ble_eq_true rfl) dX12_init_352 ?_
  refine gz_aload_n C 0 rfl rfl dX12_init_355 ?_
  refine gz_bipush (v := 96) C rfl dX12_init_356 ?_
  refine gz_newi (n := 96) C hR ac_int (by decide) (by decide) (by decide) (by decide) (by decide) dX12_init_358 (fun a117 => ?_)
  refine gz_putF (q := 75) (fs := (Value.ref (a76) :: Value.ref (a77) :: Value.ref (a78) :: Value.ref (a79) :: Value.int 0 :: Value.int (-1) :: Value.int (-1) :: Value.ref (a80) :: Value.ref (a81) :: Value.ref (a82) :: Value.ref (a83) :: Value.ref (a84) :: Value.ref (a85) :: Value.ref (a86) :: Value.int 0 :: Value.int 0 :: Value.int 0 :: Value.int 0 :: Value.int 0 :: Value.int 0 :: Value.int 0 :: Value.int 0 :: Value.int 0 :: Value.ref (a87) :: Value.ref (a88) :: Value.ref (a89) :: Value.int 0 :: Value.ref (a90) :: Value.ref (a91) :: Value.int 0 :: Value.int 0 :: Value.int 0 :: Value.int 0 :: Value.ref (a92) :: Value.ref (a93) :: Value.int 0 :: Value.ref (a94) :: Value.ref (a95) :: Value.ref (a96) :: Value.ref (a97) :: Value.ref (a98) :: Value.ref (a99) :: Value.ref (a100) :: Value.ref (a101) :: Value.ref (a102) :: Value.ref (a103) :: Value.ref (a104) :: Value.ref (a105) :: Value.ref (a106) :: Value.ref (a107) :: Value.ref (a108) :: Value.ref (a109) :: Value.ref (a110) :: Value.ref (a111) :: Value.ref (a112) :: Value.int 0 :: Value.int 0 :: Value.long 0 :: Value.ref (a113) :: Value.ref (a114) :: Value.ref (a115) :: Value.ref (a116) :: Value.null :: Value.null :: [])) C hnm rfl rfl (by decide) lfX12_142 rfl rfl (Nat.le_of_ble_eq_true rfl) dX12_init_360 ?_
  refine gz_aload_n C 0 rfl rfl dX12_init_363 ?_
  refine gz_bipush (v := 96) C rfl dX12_init_364 ?_
  refine gz_newi (n := 96) C hR ac_int (by decide) (by decide) (by decide) (by decide) (by decide) dX12_init_366 (fun a118 => ?_)
  refine gz_putF (q := 75) (fs := (Value.ref (a76) :: Value.ref (a77) :: Value.ref (a78) :: Value.ref (a79) :: Value.int 0 :: Value.int (-1) :: Value.int (-1) :: Value.ref (a80) :: Value.ref (a81) :: Value.ref (a82) :: Value.ref (a83) :: Value.ref (a84) :: Value.ref (a85) :: Value.ref (a86) :: Value.int 0 :: Value.int 0 :: Value.int 0 :: Value.int 0 :: Value.int 0 :: Value.int 0 :: Value.int 0 :: Value.int 0 :: Value.int 0 :: Value.ref (a87) :: Value.ref (a88) :: Value.ref (a89) :: Value.int 0 :: Value.ref (a90) :: Value.ref (a91) :: Value.int 0 :: Value.int 0 :: Value.int 0 :: Value.int 0 :: Value.ref (a92) :: Value.ref (a93) :: Value.int 0 :: Value.ref (a94) :: Value.ref (a95) :: Value.ref (a96) :: Value.ref (a97) :: Value.ref (a98) :: Value.ref (a99) :: Value.ref (a100) :: Value.ref (a101) :: Value.ref (a102) :: Value.ref (a103) :: Value.ref (a104) :: Value.ref (a105) :: Value.ref (a106) :: Value.ref (a107) :: Value.ref (a108) :: Value.ref (a109) :: Value.ref (a110) :: Value.ref (a111) :: Value.ref (a112) :: Value.int 0 :: Value.int 0 :: Value.long 0 :: Value.ref (a113) :: Value.ref (a114) :: Value.ref (a115) :: Value.ref (a116) :: Value.ref (a117) :: Value.null :: [])) C hnm rfl rfl (by decide) lfX12_145 rfl rfl (Nat.le_of_ble_eq_true rfl) dX12_init_368 ?_
  refine gz_aload_n C 0 rfl rfl dX12_init_371 ?_
  refine gz_get (q := 75) (fs := (Value.ref (a76) :: Value.ref (a77) :: Value.ref (a78) :: Value.ref (a79) :: Value.int 0 :: Value.int (-1) :: Value.int (-1) :: Value.ref (a80) :: Value.ref (a81) :: Value.ref (a82) :: Value.ref (a83) :: Value.ref (a84) :: Value.ref (a85) :: Value.ref (a86) :: Value.int 0 :: Value.int 0 :: Value.int 0 :: Value.int 0 :: Value.int 0 :: Value.int 0 :: Value.int 0 :: Value.int 0 :: Value.int 0 :: Value.ref (a87) :: Value.ref (a88) :: Value.ref (a89) :: Value.int 0 :: Value.ref (a90) :: Value.ref (a91) :: Value.int 0 :: Value.int 0 :: Value.int 0 :: Value.int 0 :: Value.ref (a92) :: Value.ref (a93) :: Value.int 0 :: Value.ref (a94) :: Value.ref (a95) :: Value.ref (a96) :: Value.ref (a97) :: Value.ref (a98) :: Value.ref (a99) :: Value.ref (a100) :: Value.ref (a101) :: Value.ref (a102) :: Value.ref (a103) :: Value.ref (a104) :: Value.ref (a105) :: Value.ref (a106) :: Value.ref (a107) :: Value.ref (a108) :: Value.ref (a109) :: Value.ref (a110) :: Value.ref (a111) :: Value.ref (a112) :: Value.int 0 :: Value.int 0 :: Value.long 0 :: Value.ref (a113) :: Value.ref (a114) :: Value.ref (a115) :: Value.ref (a116) :: Value.ref (a117) :: Value.ref (a118) :: [])) (v := .ref (a76)) C rfl rfl (by decide) lkX12_7 rfl dX12_init_372 ?_
  refine gz_bipush (v := 6) C rfl dX12_init_375 ?_
  refine gz_bipush (v := 60) C rfl dX12_init_377 ?_
  refine gz_iast (q := 76) (f := fun _ => 0) C rfl rfl (by decide) (i_in0 6 9680 (by decide) (by decide)) dX12_init_379 ?_
  refine gz_aload_n C 0 rfl rfl dX12_init_380 ?_
  refine gz_get (q := 75) (fs := (Value.ref (a76) :: Value.ref (a77) :: Value.ref (a78) :: Value.ref (a79) :: Value.int 0 :: Value.int (-1) :: Value.int (-1) :: Value.ref (a80) :: Value.ref (a81) :: Value.ref (a82) :: Value.ref (a83) :: Value.ref (a84) :: Value.ref (a85) :: Value.ref (a86) :: Value.int 0 :: Value.int 0 :: Value.int 0 :: Value.int 0 :: Value.int 0 :: Value.int 0 :: Value.int 0 :: Value.int 0 :: Value.int 0 :: Value.ref (a87) :: Value.ref (a88) :: Value.ref (a89) :: Value.int 0 :: Value.ref (a90) :: Value.ref (a91) :: Value.int 0 :: Value.int 0 :: Value.int 0 :: Value.int 0 :: Value.ref (a92) :: Value.ref (a93) :: Value.int 0 :: Value.ref (a94) :: Value.ref (a95) :: Value.ref (a96) :: Value.ref (a97) :: Value.ref (a98) :: Value.ref (a99) :: Value.ref (a100) :: Value.ref (a101) :: Value.ref (a102) :: Value.ref (a103) :: Value.ref (a104) :: Value.ref (a105) :: Value.ref (a106) :: Value.ref (a107) :: Value.ref (a108) :: Value.ref (a109) :: Value.ref (a110) :: Value.ref (a111) :: Value.ref (a112) :: Value.int 0 :: Value.int 0 :: Value.long 0 :: Value.ref (a113) :: Value.ref (a114) :: Value.ref (a115) :: Value.ref (a116) :: Value.ref (a117) :: Value.ref (a118) :: [])) (v := .ref (a76)) C rfl rfl (by decide) lkX12_7 rfl dX12_init_381 ?_
  refine gz_bipush (v := 7) C rfl dX12_init_384 ?_
  refine gz_iconst (v := (-1)) C rfl dX12_init_386 ?_
  refine gz_iast (q := 76) (f := (upd (fun _ => 0) (6 : Int32).toNatClampNeg 60)) C rfl rfl (by decide) (i_in0 7 9680 (by decide) (by decide)) dX12_init_387 ?_
  refine gz_aload_n C 0 rfl rfl dX12_init_388 ?_
  refine gz_get (q := 75) (fs := (Value.ref (a76) :: Value.ref (a77) :: Value.ref (a78) :: Value.ref (a79) :: Value.int 0 :: Value.int (-1) :: Value.int (-1) :: Value.ref (a80) :: Value.ref (a81) :: Value.ref (a82) :: Value.ref (a83) :: Value.ref (a84) :: Value.ref (a85) :: Value.ref (a86) :: Value.int 0 :: Value.int 0 :: Value.int 0 :: Value.int 0 :: Value.int 0 :: Value.int 0 :: Value.int 0 :: Value.int 0 :: Value.int 0 :: Value.ref (a87) :: Value.ref (a88) :: Value.ref (a89) :: Value.int 0 :: Value.ref (a90) :: Value.ref (a91) :: Value.int 0 :: Value.int 0 :: Value.int 0 :: Value.int 0 :: Value.ref (a92) :: Value.ref (a93) :: Value.int 0 :: Value.ref (a94) :: Value.ref (a95) :: Value.ref (a96) :: Value.ref (a97) :: Value.ref (a98) :: Value.ref (a99) :: Value.ref (a100) :: Value.ref (a101) :: Value.ref (a102) :: Value.ref (a103) :: Value.ref (a104) :: Value.ref (a105) :: Value.ref (a106) :: Value.ref (a107) :: Value.ref (a108) :: Value.ref (a109) :: Value.ref (a110) :: Value.ref (a111) :: Value.ref (a112) :: Value.int 0 :: Value.int 0 :: Value.long 0 :: Value.ref (a113) :: Value.ref (a114) :: Value.ref (a115) :: Value.ref (a116) :: Value.ref (a117) :: Value.ref (a118) :: [])) (v := .ref (a76)) C rfl rfl (by decide) lkX12_7 rfl dX12_init_389 ?_
  refine gz_bipush (v := 8) C rfl dX12_init_392 ?_
  refine gz_iconst (v := (-1)) C rfl dX12_init_394 ?_
  refine gz_iast (q := 76) (f := (upd ((upd (fun _ => 0) (6 : Int32).toNatClampNeg 60)) (7 : Int32).toNatClampNeg (-1))) C rfl rfl (by decide) (i_in0 8 9680 (by decide) (by decide)) dX12_init_395 ?_
  refine gz_aload_n C 0 rfl rfl dX12_init_396 ?_
  refine gz_iconst (v := 1) C rfl dX12_init_397 ?_
  refine gz_ad (ad' := va_ext ad 76 (va_up (va_up (va_up (va_up (va_up (va_up (va_up (va_up (va_up (va_up (va_up (va_up (va_up (va_up (va_up (va_up (va_up (va_up (va_up (va_up (va_up (va_up (va_up (va_up (va_up (va_up (va_up (va_up (va_up (va_up (va_up (va_up (va_up (va_up (va_up (va_up (va_up (va_up (va_up (va_up (va_up (va_up (va_up ad 76 a76) 77 a77) 78 a78) 79 a79) 80 a80) 81 a81) 82 a82) 83 a83) 84 a84) 85 a85) 86 a86) 87 a87) 88 a88) 89 a89) 90 a90) 91 a91) 92 a92) 93 a93) 94 a94) 95 a95) 96 a96) 97 a97) 98 a98) 99 a99) 100 a100) 101 a101) 102 a102) 103 a103) 104 a104) 105 a105) 106 a106) 107 a107) 108 a108) 109 a109) 110 a110) 111 a111) 112 a112) 113 a113) 114 a114) 115 a115) 116 a116) 117 a117) 118 a118)) (fun q hq => ?_) ?_
  · by_cases hc : q < 76
    · rw [ex_lt hc]
      simp (disch := omega) only [vu_ne, ex_lt]
    · rw [ex_ge hc]
  refine gz_arr (q := 29) (n := 6) (f := fun i => some (ad (30 + 2 * i))) (fun i => some (va_ext ad 76 (va_up (va_up (va_up (va_up (va_up (va_up (va_up (va_up (va_up (va_up (va_up (va_up (va_up (va_up (va_up (va_up (va_up (va_up (va_up (va_up (va_up (va_up (va_up (va_up (va_up (va_up (va_up (va_up (va_up (va_up (va_up (va_up (va_up (va_up (va_up (va_up (va_up (va_up (va_up (va_up (va_up (va_up (va_up ad 76 a76) 77 a77) 78 a78) 79 a79) 80 a80) 81 a81) 82 a82) 83 a83) 84 a84) 85 a85) 86 a86) 87 a87) 88 a88) 89 a89) 90 a90) 91 a91) 92 a92) 93 a93) 94 a94) 95 a95) 96 a96) 97 a97) 98 a98) 99 a99) 100 a100) 101 a101) 102 a102) 103 a103) 104 a104) 105 a105) 106 a106) 107 a107) 108 a108) 109 a109) 110 a110) 111 a111) 112 a112) 113 a113) 114 a114) 115 a115) 116 a116) 117 a117) 118 a118) (30 + 2 * i))) (by decide) (h0 29 (by decide)) (fun i hi => ?_) ?_
  · rw [ex_lt (by omega)]
  refine gz_callP (σ := s12 τ) (q := 75) (ci := 12) (as := [.int 1]) C hR (fun j hj => ?_) (shX12 _) (by decide) cwX12_148 (d' := 1) (by decide) (by decide) (by decide) (by decide) rfl rfl (Nat.le_of_ble_eq_true rfl) dX12_init_398 (spX12_copies (Nat.le_refl _) (Nat.le_refl _) hk) (fun v ρ hp => ?_)
  · revert j
    refine c119 (h0 0 (by decide)) (h0 1 (by decide)) (h0 2 (by decide)) (h0 3 (by decide)) (h0 4 (by decide)) (h0 5 (by decide)) (h0 6 (by decide)) (h0 7 (by decide)) (h0 8 (by decide)) (h0 9 (by decide)) (h0 10 (by decide)) (h0 11 (by decide)) (h0 12 (by decide)) (h0 13 (by decide)) (h0 14 (by decide)) (h0 15 (by decide)) (h0 16 (by decide)) (h0 17 (by decide)) (h0 18 (by decide)) (h0 19 (by decide)) (h0 20 (by decide)) (h0 21 (by decide)) (h0 22 (by decide)) (h0 23 (by decide)) (h0 24 (by decide)) (h0 25 (by decide)) (h0 26 (by decide)) (h0 27 (by decide)) (h0 28 (by decide)) ?_ (h0 30 (by decide)) (h0 31 (by decide)) (h0 32 (by decide)) (h0 33 (by decide)) (h0 34 (by decide)) (h0 35 (by decide)) (h0 36 (by decide)) (h0 37 (by decide)) (h0 38 (by decide)) (h0 39 (by decide)) (h0 40 (by decide)) (h0 41 (by decide)) ((h0 42 (by decide)).trans (w_42 h42 (fun q hq => ex_lt (by omega)))) (h0 43 (by decide)) (h0 44 (by decide)) (h0 45 (by decide)) (h0 46 (by decide)) ((h0 47 (by decide)).trans (w_47 h475 h478 (fun q hq => ex_lt (by omega)))) (h0 48 (by decide)) (h0 49 (by decide)) (h0 50 (by decide)) (h0 51 (by decide)) (h0 52 (by decide)) (h0 53 (by decide)) (h0 54 (by decide)) (h0 55 (by decide)) (h0 56 (by decide)) (h0 57 (by decide)) (h0 58 (by decide)) (h0 59 (by decide)) (h0 60 (by decide)) (h0 61 (by decide)) (h0 62 (by decide)) (h0 63 (by decide)) (h0 64 (by decide)) (h0 65 (by decide)) (h0 66 (by decide)) (h0 67 (by decide)) (h0 68 (by decide)) (h0 69 (by decide)) (h0 70 (by decide)) (h0 71 (by decide)) (h0 72 (by decide)) (h0 73 (by decide)) (h0 74 (by decide)) ?_ ?_ ?_ ?_ ?_ ?_ ?_ ?_ ?_ ?_ ?_ ?_ ?_ ?_ ?_ ?_ ?_ ?_ ?_ ?_ ?_ ?_ ?_ ?_ ?_ ?_ ?_ ?_ ?_ ?_ ?_ ?_ ?_ ?_ ?_ ?_ ?_ ?_ ?_ ?_ ?_ ?_ ?_ ?_
    all_goals rfl
  obtain ⟨rfl, hp⟩ := hp
  exact gz_vret (qs := (va_up (va_up (va_up (va_up (va_up (va_up (va_up (va_up (va_up (va_up (va_up (va_up (va_up (va_up (va_up (va_up (va_up (va_up (va_up (va_up (va_up (va_up (va_up (va_up (va_up (va_up (va_up (va_up (va_up (va_up (va_up (va_up (va_up (va_up (va_up (va_up (va_up (va_up (va_up (va_up (va_up (va_up (va_up ad 76 a76) 77 a77) 78 a78) 79 a79) 80 a80) 81 a81) 82 a82) 83 a83) 84 a84) 85 a85) 86 a86) 87 a87) 88 a88) 89 a89) 90 a90) 91 a91) 92 a92) 93 a93) 94 a94) 95 a95) 96 a96) 97 a97) 98 a98) 99 a99) 100 a100) 101 a101) 102 a102) 103 a103) 104 a104) 105 a105) 106 a106) 107 a107) 108 a108) 109 a109) 110 a110) 111 a111) 112 a112) 113 a113) 114 a114) 115 a115) 116 a116) 117 a117) 118 a118)) C T0 (fun q hq => rfl) ⟨ρ, hp, fun q _ => rfl⟩ dX12_init_401
