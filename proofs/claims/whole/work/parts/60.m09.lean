-- java/lang/Integer.bitCount(I)I
set_option maxRecDepth 20000 in
set_option maxHeartbeats 4000000 in
theorem spJ6_bitCount_0f7a4 {l : Launch} {G : GT} {d : Nat}  (hd : 1 ≤ d)   {a1 : Int32} {σ : St} {post : Int32 → St → Prop} (hw : wpJ6_bitCount_0f7a4  a1 σ post) : Sp l G d yJ6_bitCount_0f7a4 cJ6_bitCount_0f7a4 1 (some .int) [.int a1] σ (fun v τ => ∃ r : Int32, v = some (.int r) ∧ post r τ) := by
  refine Sp.of (by decide) (Nat.le_of_ble_eq_true rfl) fun X C hr hR hnl => ?_
  show Go X G 0 [(0, .int a1)] [] σ
  have hw : ∀ v0_1 : Int32, v0_1 = (a1 - ((a1.toUInt32 >>> ((1 : Int32).toUInt32 &&& Int32.toUInt32 31)).toInt32 &&& 1431655765)) →
  ∀ v0_2 : Int32, v0_2 = ((v0_1 &&& 858993459) + ((v0_1.toUInt32 >>> ((2 : Int32).toUInt32 &&& Int32.toUInt32 31)).toInt32 &&& 858993459)) →
  ∀ v0_3 : Int32, v0_3 = ((v0_2 + (v0_2.toUInt32 >>> ((4 : Int32).toUInt32 &&& Int32.toUInt32 31)).toInt32) &&& 252645135) →
  ∀ v0_4 : Int32, v0_4 = (v0_3 + (v0_3.toUInt32 >>> ((8 : Int32).toUInt32 &&& Int32.toUInt32 31)).toInt32) →
  ∀ v0_5 : Int32, v0_5 = (v0_4 + (v0_4.toUInt32 >>> ((16 : Int32).toUInt32 &&& Int32.toUInt32 31)).toInt32) →
  post (v0_5 &&& 63) σ := hw
  refine go_iload_n C 0 rfl rfl dJ6_bitCount_0f7a4_0 ?_
  refine go_iload_n C 0 rfl rfl dJ6_bitCount_0f7a4_1 ?_
  refine go_iconst (v := 1) C rfl dJ6_bitCount_0f7a4_2 ?_
  refine go_iushr C dJ6_bitCount_0f7a4_3 ?_
  refine go_ldcw (v := 1431655765) C kcJ6_265 dJ6_bitCount_0f7a4_4 ?_
  refine go_iand C dJ6_bitCount_0f7a4_7 ?_
  refine go_isub C dJ6_bitCount_0f7a4_8 ?_
  refine go_topi (fun v0_1 ev0_1 => ?_)
  replace hw := hw v0_1 ev0_1
  refine go_istore_n (lv2 := [(0, .int v0_1)]) C rfl (by rw [hnl]; decide) rfl dJ6_bitCount_0f7a4_9 ?_
  refine go_iload_n C 0 rfl rfl dJ6_bitCount_0f7a4_10 ?_
  refine go_ldcw (v := 858993459) C kcJ6_266 dJ6_bitCount_0f7a4_11 ?_
  refine go_iand C dJ6_bitCount_0f7a4_14 ?_
  refine go_iload_n C 0 rfl rfl dJ6_bitCount_0f7a4_15 ?_
  refine go_iconst (v := 2) C rfl dJ6_bitCount_0f7a4_16 ?_
  refine go_iushr C dJ6_bitCount_0f7a4_17 ?_
  refine go_ldcw (v := 858993459) C kcJ6_266 dJ6_bitCount_0f7a4_18 ?_
  refine go_iand C dJ6_bitCount_0f7a4_21 ?_
  refine go_iadd C dJ6_bitCount_0f7a4_22 ?_
  refine go_topi (fun v0_2 ev0_2 => ?_)
  replace hw := hw v0_2 ev0_2
  refine go_istore_n (lv2 := [(0, .int v0_2)]) C rfl (by rw [hnl]; decide) rfl dJ6_bitCount_0f7a4_23 ?_
  refine go_iload_n C 0 rfl rfl dJ6_bitCount_0f7a4_24 ?_
  refine go_iload_n C 0 rfl rfl dJ6_bitCount_0f7a4_25 ?_
  refine go_iconst (v := 4) C rfl dJ6_bitCount_0f7a4_26 ?_
  refine go_iushr C dJ6_bitCount_0f7a4_27 ?_
  refine go_iadd C dJ6_bitCount_0f7a4_28 ?_
  refine go_ldcw (v := 252645135) C kcJ6_267 dJ6_bitCount_0f7a4_29 ?_
  refine go_iand C dJ6_bitCount_0f7a4_32 ?_
  refine go_topi (fun v0_3 ev0_3 => ?_)
  replace hw := hw v0_3 ev0_3
  refine go_istore_n (lv2 := [(0, .int v0_3)]) C rfl (by rw [hnl]; decide) rfl dJ6_bitCount_0f7a4_33 ?_
  refine go_iload_n C 0 rfl rfl dJ6_bitCount_0f7a4_34 ?_
  refine go_iload_n C 0 rfl rfl dJ6_bitCount_0f7a4_35 ?_
  refine go_bipush (v := 8) C rfl dJ6_bitCount_0f7a4_36 ?_
  refine go_iushr C dJ6_bitCount_0f7a4_38 ?_
  refine go_iadd C dJ6_bitCount_0f7a4_39 ?_
  refine go_topi (fun v0_4 ev0_4 => ?_)
  replace hw := hw v0_4 ev0_4
  refine go_istore_n (lv2 := [(0, .int v0_4)]) C rfl (by rw [hnl]; decide) rfl dJ6_bitCount_0f7a4_40 ?_
  refine go_iload_n C 0 rfl rfl dJ6_bitCount_0f7a4_41 ?_
  refine go_iload_n C 0 rfl rfl dJ6_bitCount_0f7a4_42 ?_
  refine go_bipush (v := 16) C rfl dJ6_bitCount_0f7a4_43 ?_
  refine go_iushr C dJ6_bitCount_0f7a4_45 ?_
  refine go_iadd C dJ6_bitCount_0f7a4_46 ?_
  refine go_topi (fun v0_5 ev0_5 => ?_)
  replace hw := hw v0_5 ev0_5
  refine go_istore_n (lv2 := [(0, .int v0_5)]) C rfl (by rw [hnl]; decide) rfl dJ6_bitCount_0f7a4_47 ?_
  refine go_iload_n C 0 rfl rfl dJ6_bitCount_0f7a4_48 ?_
  refine go_bipush (v := 63) C rfl dJ6_bitCount_0f7a4_49 ?_
  refine go_iand C dJ6_bitCount_0f7a4_51 ?_
  exact go_iret C hr ⟨_, rfl, hw⟩ dJ6_bitCount_0f7a4_52
-- CradleNames.turnover(II)I
set_option maxRecDepth 20000 in
set_option maxHeartbeats 4000000 in
theorem spX11_turnover {l : Launch} {G : GT} {d : Nat}  (hd : 4 ≤ d)  (hN : 75 ≤ G.2.2.2.2.2)  {a1 : Int32} {a2 : Int32} {σ : St} {post : Int32 → St → Prop} (hw : wpX11_turnover  a1 a2 σ post) : Sp l G d yX11_turnover cX11_turnover 3 (some .int) [.ref (G.2.2.1 0), .int a1, .int a2] σ (fun v τ => ∃ r : Int32, v = some (.int r) ∧ post r τ) := by
  refine Sp.of (by decide) (Nat.le_of_ble_eq_true rfl) fun X C hr hR hnl => ?_
  show Go X G 0 [(0, .ref (G.2.2.1 0)), (1, .int a1), (2, .int a2)] [] σ
  have hw : wpX4_wentBy a1 σ (fun r_1 σ_2 =>
  ((r_1 = 0 →
    post (-1) σ_2) ∧
  (¬ r_1 = 0 →
    wpX11_within a2 1 16 σ_2 (fun r_3 σ_4 =>
    ((¬ r_3 = 0 →
      wpX10_foremost a1 a2 σ_4 (fun r_5 σ_6 =>
      wpX10_foremost (a1 - 1) a2 σ_6 (fun r_7 σ_8 =>
      wpJ6_bitCount_0f7a4 (r_5 &&& (r_7 ^^^ (-1))) σ_8 (fun r_9 σ_10 =>
      post r_9 σ_10)))) ∧
    (r_3 = 0 →
      post (-1) σ_4)))))) := hw
  refine go_aload_n C 0 rfl rfl dX11_turnover_0 ?_
  refine go_get (v := .ref (G.2.2.1 9)) C (shX11 G) (ltX11 hN) lkX11_19 rfl dX11_turnover_1 ?_
  refine go_iload_n C 1 rfl rfl dX11_turnover_4 ?_
  refine go_callV (as := [.int a1]) C hR (shX4 G) (ltX4 hN) cwX11_243 (Nat.le_trans (by decide) hd) (by decide) rfl rfl (Nat.le_of_ble_eq_true rfl) dX11_turnover_5 (spX4_wentBy (Nat.le_refl _) hN hw) (fun v_ τ_ hw => ?_)
  obtain ⟨r_1, rfl, hw⟩ := hw
  obtain ⟨σ_2, rfl⟩ : ∃ z, z = τ_ := ⟨_, rfl⟩
  refine go_if_eq C 21 rfl dX11_turnover_8 (fun hc => ?_) (fun hc => ?_)
  · replace hw := hw.1 hc
    refine go_iconst (v := (-1)) C rfl dX11_turnover_21 ?_
    exact go_iret C hr ⟨_, rfl, hw⟩ dX11_turnover_22
  · replace hw := hw.2 hc
    refine go_iload_n C 2 rfl rfl dX11_turnover_11 ?_
    refine go_iconst (v := 1) C rfl dX11_turnover_12 ?_
    refine go_bipush (v := 16) C rfl dX11_turnover_13 ?_
    refine go_callS (as := [.int a2, .int 1, .int 16]) C hR cwX11_105 (Nat.le_trans (by decide) hd) (by decide) rfl rfl (Nat.le_of_ble_eq_true rfl) dX11_turnover_15 (spX11_within (Nat.le_refl _) hN hw) (fun v_ τ_ hw => ?_)
    obtain ⟨r_3, rfl, hw⟩ := hw
    obtain ⟨σ_4, rfl⟩ : ∃ z, z = τ_ := ⟨_, rfl⟩
    refine go_if_ne C 23 rfl dX11_turnover_18 (fun hc => ?_) (fun hc => ?_)
    · replace hw := hw.1 hc
      refine go_aload_n C 0 rfl rfl dX11_turnover_23 ?_
      refine go_get (v := .ref (G.2.2.1 52)) C (shX11 G) (ltX11 hN) lkX11_72 rfl dX11_turnover_24 ?_
      refine go_iload_n C 1 rfl rfl dX11_turnover_27 ?_
      refine go_iload_n C 2 rfl rfl dX11_turnover_28 ?_
      refine go_callV (as := [.int a1, .int a2]) C hR (shX10 G) (ltX10 hN) cwX11_328 (Nat.le_trans (by decide) hd) (by decide) rfl rfl (Nat.le_of_ble_eq_true rfl) dX11_turnover_29 (spX10_foremost (Nat.le_refl _) hN hw) (fun v_ τ_ hw => ?_)
      obtain ⟨r_5, rfl, hw⟩ := hw
      obtain ⟨σ_6, rfl⟩ : ∃ z, z = τ_ := ⟨_, rfl⟩
      refine go_aload_n C 0 rfl rfl dX11_turnover_32 ?_
      refine go_get (v := .ref (G.2.2.1 52)) C (shX11 G) (ltX11 hN) lkX11_72 rfl dX11_turnover_33 ?_
      refine go_iload_n C 1 rfl rfl dX11_turnover_36 ?_
      refine go_iconst (v := 1) C rfl dX11_turnover_37 ?_
      refine go_isub C dX11_turnover_38 ?_
      refine go_iload_n C 2 rfl rfl dX11_turnover_39 ?_
      refine go_callV (as := [.int (a1 - 1), .int a2]) C hR (shX10 G) (ltX10 hN) cwX11_328 (Nat.le_trans (by decide) hd) (by decide) rfl rfl (Nat.le_of_ble_eq_true rfl) dX11_turnover_40 (spX10_foremost (Nat.le_refl _) hN hw) (fun v_ τ_ hw => ?_)
      obtain ⟨r_7, rfl, hw⟩ := hw
      obtain ⟨σ_8, rfl⟩ : ∃ z, z = τ_ := ⟨_, rfl⟩
      refine go_iconst (v := (-1)) C rfl dX11_turnover_43 ?_
      refine go_ixor C dX11_turnover_44 ?_
      refine go_iand C dX11_turnover_45 ?_
      refine go_callS (as := [.int (r_5 &&& (r_7 ^^^ (-1)))]) C hR cwX11_331 (Nat.le_trans (by decide) hd) (by decide) rfl rfl (Nat.le_of_ble_eq_true rfl) dX11_turnover_46 (spJ6_bitCount_0f7a4 (Nat.le_refl _) hw) (fun v_ τ_ hw => ?_)
      obtain ⟨r_9, rfl, hw⟩ := hw
      obtain ⟨σ_10, rfl⟩ : ∃ z, z = τ_ := ⟨_, rfl⟩
      exact go_iret C hr ⟨_, rfl, hw⟩ dX11_turnover_49
    · replace hw := hw.2 hc
      refine go_iconst (v := (-1)) C rfl dX11_turnover_21 ?_
      exact go_iret C hr ⟨_, rfl, hw⟩ dX11_turnover_22
-- CradleNames.isPrintable(IIII)Z
set_option maxRecDepth 20000 in
set_option maxHeartbeats 4000000 in
theorem spX11_isPrintable {l : Launch} {G : GT} {d : Nat}  (hd : 3 ≤ d)  (hN : 75 ≤ G.2.2.2.2.2)  {a1 : Int32} {a2 : Int32} {a3 : Int32} {a4 : Int32} {σ : St} {post : Int32 → St → Prop} (hw : wpX11_isPrintable  a1 a2 a3 a4 σ post) : Sp l G d yX11_isPrintable cX11_isPrintable 5 (some .boolean) [.ref (G.2.2.1 0), .int a1, .int a2, .int a3, .int a4] σ (fun v τ => ∃ r : Int32, v = some (.int r) ∧ post r τ) := by
  refine Sp.of (by decide) (Nat.le_of_ble_eq_true rfl) fun X C hr hR hnl => ?_
  show Go X G 0 [(0, .ref (G.2.2.1 0)), (1, .int a1), (2, .int a2), (3, .int a3), (4, .int a4)] [] σ
  have hw : wpX11_within a1 0 60 σ (fun r_1 σ_2 =>
  ((r_1 = 0 →
    post 0 σ_2) ∧
  (¬ r_1 = 0 →
    wpX11_isRow a2 0 a3 σ_2 (fun r_3 σ_4 =>
    ((r_3 = 0 →
      post 0 σ_4) ∧
    (¬ r_3 = 0 →
      wpX5_has a4 σ_4 (fun r_5 σ_6 =>
      ((r_5 = 0 →
        post 0 σ_6) ∧
      (¬ r_5 = 0 →
        post 1 σ_6))))))))) := hw
  refine go_iload_n C 1 rfl rfl dX11_isPrintable_0 ?_
  refine go_iconst (v := 0) C rfl dX11_isPrintable_1 ?_
  refine go_bipush (v := 60) C rfl dX11_isPrintable_2 ?_
  refine go_callS (as := [.int a1, .int 0, .int 60]) C hR cwX11_105 (Nat.le_trans (by decide) hd) (by decide) rfl rfl (Nat.le_of_ble_eq_true rfl) dX11_isPrintable_4 (spX11_within (Nat.le_refl _) hN hw) (fun v_ τ_ hw => ?_)
  obtain ⟨r_1, rfl, hw⟩ := hw
  obtain ⟨σ_2, rfl⟩ : ∃ z, z = τ_ := ⟨_, rfl⟩
  refine go_if_eq C 35 rfl dX11_isPrintable_7 (fun hc => ?_) (fun hc => ?_)
  · replace hw := hw.1 hc
    refine go_iconst (v := 0) C rfl dX11_isPrintable_35 ?_
    exact go_zret C hr rfl ⟨_, rfl, hw⟩ dX11_isPrintable_36
  · replace hw := hw.2 hc
    refine go_iload_n C 2 rfl rfl dX11_isPrintable_10 ?_
    refine go_iconst (v := 0) C rfl dX11_isPrintable_11 ?_
    refine go_iload_n C 3 rfl rfl dX11_isPrintable_12 ?_
    refine go_callS (as := [.int a2, .int 0, .int a3]) C hR cwX11_153 (Nat.le_trans (by decide) hd) (by decide) rfl rfl (Nat.le_of_ble_eq_true rfl) dX11_isPrintable_13 (spX11_isRow (Nat.le_refl _) hN hw) (fun v_ τ_ hw => ?_)
    obtain ⟨r_3, rfl, hw⟩ := hw
    obtain ⟨σ_4, rfl⟩ : ∃ z, z = τ_ := ⟨_, rfl⟩
    refine go_if_eq C 35 rfl dX11_isPrintable_16 (fun hc => ?_) (fun hc => ?_)
    · replace hw := hw.1 hc
      refine go_iconst (v := 0) C rfl dX11_isPrintable_35 ?_
      exact go_zret C hr rfl ⟨_, rfl, hw⟩ dX11_isPrintable_36
    · replace hw := hw.2 hc
      refine go_aload_n C 0 rfl rfl dX11_isPrintable_19 ?_
      refine go_get (v := .ref (G.2.2.1 1)) C (shX11 G) (ltX11 hN) lkX11_10 rfl dX11_isPrintable_20 ?_
      refine go_iload C 4 rfl dX11_isPrintable_23 ?_
      refine go_callV (as := [.int a4]) C hR (shX5 G) (ltX5 hN) cwX11_127 (Nat.le_trans (by decide) hd) (by decide) rfl rfl (Nat.le_of_ble_eq_true rfl) dX11_isPrintable_25 (spX5_has (Nat.le_refl _) hN hw) (fun v_ τ_ hw => ?_)
      obtain ⟨r_5, rfl, hw⟩ := hw
      obtain ⟨σ_6, rfl⟩ : ∃ z, z = τ_ := ⟨_, rfl⟩
      refine go_if_eq C 35 rfl dX11_isPrintable_28 (fun hc => ?_) (fun hc => ?_)
      · replace hw := hw.1 hc
        refine go_iconst (v := 0) C rfl dX11_isPrintable_35 ?_
        exact go_zret C hr rfl ⟨_, rfl, hw⟩ dX11_isPrintable_36
      · replace hw := hw.2 hc
        refine go_iconst (v := 1) C rfl dX11_isPrintable_31 ?_
        refine go_goto C 36 rfl dX11_isPrintable_32 ?_
        exact go_zret C hr rfl ⟨_, rfl, hw⟩ dX11_isPrintable_36
-- CradleNames.print(IIIII)I
set_option maxRecDepth 20000 in
set_option maxHeartbeats 4000000 in
theorem spX11_print {l : Launch} {G : GT} {d : Nat}  (hd : 4 ≤ d)  (hN : 75 ≤ G.2.2.2.2.2)  {a1 : Int32} {a2 : Int32} {a3 : Int32} {a4 : Int32} {a5 : Int32} {σ : St} {post : Int32 → St → Prop} (hw : wpX11_print  a1 a2 a3 a4 a5 σ post) : Sp l G d yX11_print cX11_print 6 (some .int) [.ref (G.2.2.1 0), .int a1, .int a2, .int a3, .int a4, .int a5] σ (fun v τ => ∃ r : Int32, v = some (.int r) ∧ post r τ) := by
  refine Sp.of (by decide) (Nat.le_of_ble_eq_true rfl) fun X C hr hR hnl => ?_
  show Go X G 0 [(0, .ref (G.2.2.1 0)), (1, .int a1), (2, .int a2), (3, .int a3), (4, .int a4), (5, .int a5)] [] σ
  have hw : ((150 ≤ (gI σ 64 0) →
    post (-1) σ) ∧
  (¬ 150 ≤ (gI σ 64 0) →
    wpX11_isPrintable a1 a2 a3 a4 σ (fun r_1 σ_2 =>
    ((r_1 = 0 →
      post (-1) σ_2) ∧
    (¬ r_1 = 0 →
      wpX11_within a5 0 99 σ_2 (fun r_3 σ_4 =>
      ((¬ r_3 = 0 →
        wpX7_spot a2 a3 a4 σ_4 (fun r_5 σ_6 =>
        wpX7_add a1 r_5 a5 (gI σ_6 9 0) σ_6 (fun r_7 σ_8 =>
        post r_7 σ_8))) ∧
      (r_3 = 0 →
        post (-1) σ_4)))))))) := hw
  refine go_aload_n C 0 rfl rfl dX11_print_0 ?_
  refine go_get (v := .ref (G.2.2.1 64)) C (shX11 G) (ltX11 hN) lkX11_86 rfl dX11_print_1 ?_
  refine go_get (v := .int (gI σ 64 0)) C (shX7 G) (ltX7 hN) lkX11_336 rfl dX11_print_4 ?_
  refine go_sipush (v := 150) C rfl dX11_print_7 ?_
  refine go_icmp_ge C 36 rfl dX11_print_10 (fun hc => ?_) (fun hc => ?_)
  · replace hw := hw.1 hc
    refine go_iconst (v := (-1)) C rfl dX11_print_36 ?_
    exact go_iret C hr ⟨_, rfl, hw⟩ dX11_print_37
  · replace hw := hw.2 hc
    refine go_aload_n C 0 rfl rfl dX11_print_13 ?_
    refine go_iload_n C 1 rfl rfl dX11_print_14 ?_
    refine go_iload_n C 2 rfl rfl dX11_print_15 ?_
    refine go_iload_n C 3 rfl rfl dX11_print_16 ?_
    refine go_iload C 4 rfl dX11_print_17 ?_
    refine go_callV (as := [.int a1, .int a2, .int a3, .int a4]) C hR (shX11 G) (ltX11 hN) cwX11_337 (Nat.le_trans (by decide) hd) (by decide) rfl rfl (Nat.le_of_ble_eq_true rfl) dX11_print_19 (spX11_isPrintable (Nat.le_refl _) hN hw) (fun v_ τ_ hw => ?_)
    obtain ⟨r_1, rfl, hw⟩ := hw
    obtain ⟨σ_2, rfl⟩ : ∃ z, z = τ_ := ⟨_, rfl⟩
    refine go_if_eq C 36 rfl dX11_print_22 (fun hc => ?_) (fun hc => ?_)
    · replace hw := hw.1 hc
      refine go_iconst (v := (-1)) C rfl dX11_print_36 ?_
      exact go_iret C hr ⟨_, rfl, hw⟩ dX11_print_37
    · replace hw := hw.2 hc
      refine go_iload C 5 rfl dX11_print_25 ?_
      refine go_iconst (v := 0) C rfl dX11_print_27 ?_
      refine go_bipush (v := 99) C rfl dX11_print_28 ?_
      refine go_callS (as := [.int a5, .int 0, .int 99]) C hR cwX11_105 (Nat.le_trans (by decide) hd) (by decide) rfl rfl (Nat.le_of_ble_eq_true rfl) dX11_print_30 (spX11_within (Nat.le_refl _) hN hw) (fun v_ τ_ hw => ?_)
      obtain ⟨r_3, rfl, hw⟩ := hw
      obtain ⟨σ_4, rfl⟩ : ∃ z, z = τ_ := ⟨_, rfl⟩
      refine go_if_ne C 38 rfl dX11_print_33 (fun hc => ?_) (fun hc => ?_)
      · replace hw := hw.1 hc
        refine go_aload_n C 0 rfl rfl dX11_print_38 ?_
        refine go_get (v := .ref (G.2.2.1 64)) C (shX11 G) (ltX11 hN) lkX11_86 rfl dX11_print_39 ?_
        refine go_iload_n C 1 rfl rfl dX11_print_42 ?_
        refine go_iload_n C 2 rfl rfl dX11_print_43 ?_
        refine go_iload_n C 3 rfl rfl dX11_print_44 ?_
        refine go_iload C 4 rfl dX11_print_45 ?_
        refine go_callS (as := [.int a2, .int a3, .int a4]) C hR cwX11_341 (Nat.le_trans (by decide) hd) (by decide) rfl rfl (Nat.le_of_ble_eq_true rfl) dX11_print_47 (spX7_spot (Nat.le_refl _) hN hw) (fun v_ τ_ hw => ?_)
        obtain ⟨r_5, rfl, hw⟩ := hw
        obtain ⟨σ_6, rfl⟩ : ∃ z, z = τ_ := ⟨_, rfl⟩
        refine go_iload C 5 rfl dX11_print_50 ?_
        refine go_aload_n C 0 rfl rfl dX11_print_52 ?_
        refine go_get (v := .ref (G.2.2.1 9)) C (shX11 G) (ltX11 hN) lkX11_19 rfl dX11_print_53 ?_
        refine go_get (v := .int (gI σ_6 9 0)) C (shX4 G) (ltX4 hN) lkX11_120 rfl dX11_print_56 ?_
        refine go_callV (as := [.int a1, .int r_5, .int a5, .int (gI σ_6 9 0)]) C hR (shX7 G) (ltX7 hN) cwX11_344 (Nat.le_trans (by decide) hd) (by decide) rfl rfl (Nat.le_of_ble_eq_true rfl) dX11_print_59 (spX7_add (Nat.le_refl _) hN hw) (fun v_ τ_ hw => ?_)
        obtain ⟨r_7, rfl, hw⟩ := hw
        obtain ⟨σ_8, rfl⟩ : ∃ z, z = τ_ := ⟨_, rfl⟩
        exact go_iret C hr ⟨_, rfl, hw⟩ dX11_print_62
      · replace hw := hw.2 hc
        refine go_iconst (v := (-1)) C rfl dX11_print_36 ?_
        exact go_iret C hr ⟨_, rfl, hw⟩ dX11_print_37
-- CradleNames.runBy(II)V
set_option maxRecDepth 20000 in
set_option maxHeartbeats 4000000 in
theorem gbX11_runBy_32 {X : XT} {G : GT} {l : Launch} {d : Nat}  {post : St → Prop} (C : Cx X G cX11_runBy RX11) (hr : Rt X G none (fun v τ => v = none ∧ post τ)) (hR : Rm X l d) (hnl : X.2.2.2.2.2.2.2.2.2.2.1 = 5)  (hd : 7 ≤ d) (hN : 75 ≤ G.2.2.2.2.2)  {K2 : Int32 → Int32 → St → Prop} (hK2 : ∀ (v2 : Int32) (v3 : Int32) (σ : St), K2 v2 v3 σ → Go X G 2 [(0, .ref (G.2.2.1 0)), (2, .int v2), (3, .int v3)] [] σ)
    : ∀ (n : Nat) (v2 : Int32) (v3 : Int32) (v4 : Int32) (σ : St), wbX11_runBy_32  K2 post n v2 v3 v4 σ → Go X G 32 [(0, .ref (G.2.2.1 0)), (2, .int v2), (3, .int v3), (4, .int v4)] [] σ := by
  intro n
  induction n with
  | zero => intro v2 v3 v4 σ hw; exact hw.elim
  | succ n ih =>
    intro v2 v3 v4 σ hw
    have hw : ((60 < v4 →
      wpX7_keepRun 1 v3 σ (fun σ_2 =>
      ∀ v3_3 : Int32, v3_3 = v3 + 1 →
      K2 v2 v3_3 σ_2)) ∧
    (¬ 60 < v4 →
      wpX1_pass 1 v4 v3 σ (fun r_4 σ_5 =>
      ∀ v4_6 : Int32, v4_6 = v4 + 1 →
      wbX11_runBy_32 K2 post n v2 v3 v4_6 σ_5))) := hw
    refine go_iload C 3 rfl dX11_runBy_32 ?_
    refine go_bipush (v := 60) C rfl dX11_runBy_34 ?_
    refine go_icmp_gt C 60 rfl dX11_runBy_36 (fun hc => ?_) (fun hc => ?_)
    · replace hw := hw.1 hc
      refine go_aload_n C 0 rfl rfl dX11_runBy_60 ?_
      refine go_get (v := .ref (G.2.2.1 64)) C (shX11 G) (ltX11 hN) lkX11_86 rfl dX11_runBy_61 ?_
      refine go_iload_n C 2 rfl rfl dX11_runBy_64 ?_
      refine go_aload_n C 0 rfl rfl dX11_runBy_65 ?_
      refine go_get (v := .ref (G.2.2.1 (21 + 4 * 1))) C (shX11 G) (ltX11 hN) lkX11_30 rfl dX11_runBy_66 ?_
      refine go_callV (as := [.int v3, .ref (G.2.2.1 (21 + 4 * 1))]) C hR (shX7 G) (ltX7 hN) cwX11_408 (Nat.le_trans (by decide) hd) (by decide) rfl rfl (Nat.le_of_ble_eq_true rfl) dX11_runBy_69 (spX7_keepRun (Nat.le_refl _) hN (show 1 < 2 by decide) hw) (fun v_ τ_ hw => ?_)
      obtain ⟨rfl, hw⟩ := hw
      obtain ⟨σ_2, rfl⟩ : ∃ z, z = τ_ := ⟨_, rfl⟩
      obtain ⟨v3_3, ev3_3⟩ : ∃ z : Int32, z = v3 + 1 := ⟨_, rfl⟩
      replace hw := hw v3_3 ev3_3
      refine go_iinc (v := v3_3) (lv2 := [(3, .int v3_3), (0, .ref (G.2.2.1 0)), (2, .int v2), (4, .int v4)]) C 2 rfl (by rw [ev3_3]; rfl) (by rw [hnl]; decide) rfl dX11_runBy_72 ?_
      refine go_goto C 2 rfl dX11_runBy_75 ?_
      refine go_sub [1, 2, 0] rfl ?_
      exact hK2 _ _ _ hw
    · replace hw := hw.2 hc
      refine go_aload_n C 0 rfl rfl dX11_runBy_39 ?_
      refine go_get (v := .ref (G.2.2.1 51)) C (shX11 G) (ltX11 hN) lkX11_63 rfl dX11_runBy_40 ?_
      refine go_aload_n C 0 rfl rfl dX11_runBy_43 ?_
      refine go_get (v := .ref (G.2.2.1 (21 + 4 * 1))) C (shX11 G) (ltX11 hN) lkX11_30 rfl dX11_runBy_44 ?_
      refine go_iload C 3 rfl dX11_runBy_47 ?_
      refine go_iload_n C 2 rfl rfl dX11_runBy_49 ?_
      refine go_callV (as := [.ref (G.2.2.1 (21 + 4 * 1)), .int v4, .int v3]) C hR (shX1 G) (ltX1 hN) cwX11_215 (Nat.le_trans (by decide) hd) (by decide) rfl rfl (Nat.le_of_ble_eq_true rfl) dX11_runBy_50 (spX1_pass (Nat.le_refl _) hN (show 1 < 2 by decide) hw) (fun v_ τ_ hw => ?_)
      obtain ⟨r_4, rfl, hw⟩ := hw
      obtain ⟨σ_5, rfl⟩ : ∃ z, z = τ_ := ⟨_, rfl⟩
      refine go_pop C rfl dX11_runBy_53 ?_
      obtain ⟨v4_6, ev4_6⟩ : ∃ z : Int32, z = v4 + 1 := ⟨_, rfl⟩
      replace hw := hw v4_6 ev4_6
      refine go_iinc (v := v4_6) (lv2 := [(4, .int v4_6), (0, .ref (G.2.2.1 0)), (2, .int v2), (3, .int v3)]) C 3 rfl (by rw [ev4_6]; rfl) (by rw [hnl]; decide) rfl dX11_runBy_54 ?_
      refine go_goto C 32 rfl dX11_runBy_57 ?_
      refine go_sub [1, 2, 3, 0] rfl ?_
      exact ih _ _ _ _ hw
set_option maxRecDepth 20000 in
set_option maxHeartbeats 4000000 in
theorem gbX11_runBy_2 {X : XT} {G : GT} {l : Launch} {d : Nat}  {post : St → Prop} (C : Cx X G cX11_runBy RX11) (hr : Rt X G none (fun v τ => v = none ∧ post τ)) (hR : Rm X l d) (hnl : X.2.2.2.2.2.2.2.2.2.2.1 = 5)  (hd : 7 ≤ d) (hN : 75 ≤ G.2.2.2.2.2)   
    : ∀ (n : Nat) (v2 : Int32) (v3 : Int32) (σ : St), wbX11_runBy_2   post n v2 v3 σ → Go X G 2 [(0, .ref (G.2.2.1 0)), (2, .int v2), (3, .int v3)] [] σ := by
  intro n
  induction n with
  | zero => intro v2 v3 σ hw; exact hw.elim
  | succ n ih =>
    intro v2 v3 σ hw
    have hw : ((v2 < v3 →
      post σ) ∧
    (¬ v2 < v3 →
      wpX7_hasRun v3 σ (fun r_1 σ_2 =>
      ((¬ r_1 = 0 →
        ∀ v3_3 : Int32, v3_3 = v3 + 1 →
        wbX11_runBy_2 post n v2 v3_3 σ_2) ∧
      (r_1 = 0 →
        wpX0_beginFrom 1 0 σ_2 (fun σ_5 =>
        ∃ m_32, wbX11_runBy_32 (wbX11_runBy_2 post n) post m_32 v2 v3 0 σ_5)))))) := hw
    refine go_iload_n C 2 rfl rfl dX11_runBy_2 ?_
    refine go_iload_n C 1 rfl rfl dX11_runBy_3 ?_
    refine go_icmp_gt C 78 rfl dX11_runBy_4 (fun hc => ?_) (fun hc => ?_)
    · replace hw := hw.1 hc
      exact go_vret C hr ⟨rfl, hw⟩ dX11_runBy_78
    · replace hw := hw.2 hc
      refine go_aload_n C 0 rfl rfl dX11_runBy_7 ?_
      refine go_get (v := .ref (G.2.2.1 64)) C (shX11 G) (ltX11 hN) lkX11_86 rfl dX11_runBy_8 ?_
      refine go_iload_n C 2 rfl rfl dX11_runBy_11 ?_
      refine go_callV (as := [.int v3]) C hR (shX7 G) (ltX7 hN) cwX11_405 (Nat.le_trans (by decide) hd) (by decide) rfl rfl (Nat.le_of_ble_eq_true rfl) dX11_runBy_12 (spX7_hasRun (Nat.le_refl _) hN hw) (fun v_ τ_ hw => ?_)
      obtain ⟨r_1, rfl, hw⟩ := hw
      obtain ⟨σ_2, rfl⟩ : ∃ z, z = τ_ := ⟨_, rfl⟩
      refine go_if_ne C 72 rfl dX11_runBy_15 (fun hc => ?_) (fun hc => ?_)
      · replace hw := hw.1 hc
        obtain ⟨v3_3, ev3_3⟩ : ∃ z : Int32, z = v3 + 1 := ⟨_, rfl⟩
        replace hw := hw v3_3 ev3_3
        refine go_iinc (v := v3_3) (lv2 := [(3, .int v3_3), (0, .ref (G.2.2.1 0)), (2, .int v2)]) C 2 rfl (by rw [ev3_3]; rfl) (by rw [hnl]; decide) rfl dX11_runBy_72 ?_
        refine go_goto C 2 rfl dX11_runBy_75 ?_
        refine go_sub [1, 2, 0] rfl ?_
        exact ih _ _ _ hw
      · replace hw := hw.2 hc
        refine go_aload_n C 0 rfl rfl dX11_runBy_18 ?_
        refine go_get (v := .ref (G.2.2.1 (21 + 4 * 1))) C (shX11 G) (ltX11 hN) lkX11_30 rfl dX11_runBy_19 ?_
        refine go_aload_n C 0 rfl rfl dX11_runBy_22 ?_
        refine go_get (v := .ref (G.2.2.1 (21 + 4 * 0))) C (shX11 G) (ltX11 hN) lkX11_26 rfl dX11_runBy_23 ?_
        refine go_callV (as := [.ref (G.2.2.1 (21 + 4 * 0))]) C hR (shX0 G (show 1 < 2 by decide)) (ltX0 hN (show 1 < 2 by decide)) cwX11_391 (Nat.le_trans (by decide) hd) (by decide) rfl rfl (Nat.le_of_ble_eq_true rfl) dX11_runBy_26 (spX0_beginFrom (Nat.le_refl _) hN (show 1 < 2 by decide) (show 0 < 2 by decide) hw) (fun v_ τ_ hw => ?_)
        obtain ⟨rfl, hw⟩ := hw
        obtain ⟨σ_5, rfl⟩ : ∃ z, z = τ_ := ⟨_, rfl⟩
        refine go_iconst (v := 0) C rfl dX11_runBy_29 ?_
        refine go_istore (lv2 := [(4, .int 0), (0, .ref (G.2.2.1 0)), (2, .int v2), (3, .int v3)]) C (by rw [hnl]; decide) rfl dX11_runBy_30 ?_
        refine go_sub [1, 2, 3, 0] rfl ?_
        obtain ⟨n_0, hw⟩ := hw
        exact (gbX11_runBy_32 C hr hR hnl hd hN ih) n_0 _ _ _ _ hw
set_option maxRecDepth 20000 in
set_option maxHeartbeats 4000000 in
theorem spX11_runBy {l : Launch} {G : GT} {d : Nat}  (hd : 7 ≤ d)  (hN : 75 ≤ G.2.2.2.2.2)  {a1 : Int32} {a2 : Int32} {σ : St} {post : St → Prop} (hw : wpX11_runBy  a1 a2 σ post) : Sp l G d yX11_runBy cX11_runBy 5 none [.ref (G.2.2.1 0), .int a1, .int a2] σ (fun v τ => v = none ∧ post τ) := by
  refine Sp.of (by decide) (Nat.le_of_ble_eq_true rfl) fun X C hr hR hnl => ?_
  show Go X G 0 [(0, .ref (G.2.2.1 0)), (1, .int a1), (2, .int a2)] [] σ
  have hw : ∃ m_2, wbX11_runBy_2 post m_2 a2 a1 σ := hw
  refine go_iload_n C 1 rfl rfl dX11_runBy_0 ?_
  refine go_istore_n (lv2 := [(3, .int a1), (0, .ref (G.2.2.1 0)), (1, .int a1), (2, .int a2)]) C rfl (by rw [hnl]; decide) rfl dX11_runBy_1 ?_
  refine go_sub [1, 3, 0] rfl ?_
  obtain ⟨n_0, hw⟩ := hw
  exact (gbX11_runBy_2 C hr hR hnl hd hN) n_0 _ _ _ hw
-- CradleNames.let(II)I
set_option maxRecDepth 20000 in
set_option maxHeartbeats 4000000 in
theorem gbX11_let_52 {X : XT} {G : GT} {l : Launch} {d : Nat}  {post : Int32 → St → Prop} (C : Cx X G cX11_let RX11) (hr : Rt X G (some .int) (fun v τ => ∃ r : Int32, v = some (.int r) ∧ post r τ)) (hR : Rm X l d) (hnl : X.2.2.2.2.2.2.2.2.2.2.1 = 5)  (hd : 8 ≤ d) (hN : 75 ≤ G.2.2.2.2.2)   
    : ∀ (v2 : Int32) (v3 : Int32) (s0 : Int32) (σ : St), wbX11_let_52   post v2 v3 s0 σ → Go X G 52 [(0, .ref (G.2.2.1 0)), (2, .int v2), (3, .int v3)] [.int s0] σ := by
  intro v2 v3 s0 σ hw
  have hw : wpX11_runBy v3 s0 σ (fun σ_2 =>
  wpX7_agreeing v3 s0 v2 σ_2 (fun r_3 σ_4 =>
  wpJ6_bitCount_0f7a4 r_3 σ_4 (fun r_5 σ_6 =>
  post r_5 σ_6))) := hw
  refine go_istore (lv2 := [(4, .int s0), (0, .ref (G.2.2.1 0)), (2, .int v2), (3, .int v3)]) C (by rw [hnl]; decide) rfl dX11_let_52 ?_
  refine go_aload_n C 1 rfl rfl dX11_let_54 ?_
  refine go_iload_n C 3 rfl rfl dX11_let_55 ?_
  refine go_iload C 0 rfl dX11_let_56 ?_
  refine go_callV (as := [.int v3, .int s0]) C hR (shX11 G) (ltX11 hN) cwX11_347 (Nat.le_trans (by decide) hd) (by decide) rfl rfl (Nat.le_of_ble_eq_true rfl) dX11_let_58 (spX11_runBy (Nat.le_refl _) hN hw) (fun v_ τ_ hw => ?_)
  obtain ⟨rfl, hw⟩ := hw
  obtain ⟨σ_2, rfl⟩ : ∃ z, z = τ_ := ⟨_, rfl⟩
  refine go_aload_n C 1 rfl rfl dX11_let_61 ?_
  refine go_get (v := .ref (G.2.2.1 64)) C (shX11 G) (ltX11 hN) lkX11_86 rfl dX11_let_62 ?_
  refine go_iload_n C 3 rfl rfl dX11_let_65 ?_
  refine go_iload C 0 rfl dX11_let_66 ?_
  refine go_iload_n C 2 rfl rfl dX11_let_68 ?_
  refine go_callV (as := [.int v3, .int s0, .int v2]) C hR (shX7 G) (ltX7 hN) cwX11_351 (Nat.le_trans (by decide) hd) (by decide) rfl rfl (Nat.le_of_ble_eq_true rfl) dX11_let_69 (spX7_agreeing (Nat.le_refl _) hN hw) (fun v_ τ_ hw => ?_)
  obtain ⟨r_3, rfl, hw⟩ := hw
  obtain ⟨σ_4, rfl⟩ : ∃ z, z = τ_ := ⟨_, rfl⟩
  refine go_callS (as := [.int r_3]) C hR cwX11_331 (Nat.le_trans (by decide) hd) (by decide) rfl rfl (Nat.le_of_ble_eq_true rfl) dX11_let_72 (spJ6_bitCount_0f7a4 (Nat.le_refl _) hw) (fun v_ τ_ hw => ?_)
  obtain ⟨r_5, rfl, hw⟩ := hw
  obtain ⟨σ_6, rfl⟩ : ∃ z, z = τ_ := ⟨_, rfl⟩
  exact go_iret C hr ⟨_, rfl, hw⟩ dX11_let_75
set_option maxRecDepth 20000 in
set_option maxHeartbeats 4000000 in
theorem gbX11_let_36 {X : XT} {G : GT} {l : Launch} {d : Nat}  {post : Int32 → St → Prop} (C : Cx X G cX11_let RX11) (hr : Rt X G (some .int) (fun v τ => ∃ r : Int32, v = some (.int r) ∧ post r τ)) (hR : Rm X l d) (hnl : X.2.2.2.2.2.2.2.2.2.2.1 = 5)  (hd : 8 ≤ d) (hN : 75 ≤ G.2.2.2.2.2)   
    : ∀ (v1 : Int32) (v2 : Int32) (s0 : Int32) (σ : St), wbX11_let_36   post v1 v2 s0 σ → Go X G 36 [(0, .ref (G.2.2.1 0)), (1, .int v1), (2, .int v2)] [.int s0] σ := by
  intro v1 v2 s0 σ hw
  have hw : ((¬ v1 = (-1) →
    wbX11_let_52 post v2 s0 v1 σ) ∧
  (v1 = (-1) →
    wbX11_let_52 post v2 s0 ((gI σ 0 5) - 1) σ)) := hw
  refine go_istore_n (lv2 := [(3, .int s0), (0, .ref (G.2.2.1 0)), (1, .int v1), (2, .int v2)]) C rfl (by rw [hnl]; decide) rfl dX11_let_36 ?_
  refine go_iload_n C 2 rfl rfl dX11_let_37 ?_
  refine go_iconst (v := (-1)) C rfl dX11_let_38 ?_
  refine go_icmp_ne C 51 rfl dX11_let_39 (fun hc => ?_) (fun hc => ?_)
  · replace hw := hw.1 hc
    refine go_iload_n C 2 rfl rfl dX11_let_51 ?_
    refine go_sub [1, 3, 0] rfl ?_
    exact (gbX11_let_52 C hr hR hnl hd hN) _ _ _ _ hw
  · replace hw := hw.2 hc
    refine go_aload_n C 1 rfl rfl dX11_let_42 ?_
    refine go_get (v := .int (gI σ 0 5)) C (shX11 G) (ltX11 hN) lkX11_199 rfl dX11_let_43 ?_
    refine go_iconst (v := 1) C rfl dX11_let_46 ?_
    refine go_isub C dX11_let_47 ?_
    refine go_goto C 52 rfl dX11_let_48 ?_
    refine go_sub [1, 3, 0] rfl ?_
    exact (gbX11_let_52 C hr hR hnl hd hN) _ _ _ _ hw
set_option maxRecDepth 20000 in
set_option maxHeartbeats 4000000 in
theorem spX11_let {l : Launch} {G : GT} {d : Nat}  (hd : 8 ≤ d)  (hN : 75 ≤ G.2.2.2.2.2)  {a1 : Int32} {a2 : Int32} {σ : St} {post : Int32 → St → Prop} (hw : wpX11_let  a1 a2 σ post) : Sp l G d yX11_let cX11_let 5 (some .int) [.ref (G.2.2.1 0), .int a1, .int a2] σ (fun v τ => ∃ r : Int32, v = some (.int r) ∧ post r τ) := by
  refine Sp.of (by decide) (Nat.le_of_ble_eq_true rfl) fun X C hr hR hnl => ?_
  show Go X G 0 [(0, .ref (G.2.2.1 0)), (1, .int a1), (2, .int a2)] [] σ
  have hw : wpX11_within a1 (-1) ((gI σ 0 5) - 1) σ (fun r_1 σ_2 =>
  ((r_1 = 0 →
    post (-1) σ_2) ∧
  (¬ r_1 = 0 →
    wpX11_within a2 0 61 σ_2 (fun r_3 σ_4 =>
    ((¬ r_3 = 0 →
      ((¬ a1 = (-1) →
        wbX11_let_36 post a1 a2 a1 σ_4) ∧
      (a1 = (-1) →
        wbX11_let_36 post a1 a2 0 σ_4))) ∧
    (r_3 = 0 →
      post (-1) σ_4)))))) := hw
  refine go_iload_n C 1 rfl rfl dX11_let_0 ?_
  refine go_iconst (v := (-1)) C rfl dX11_let_1 ?_
  refine go_aload_n C 0 rfl rfl dX11_let_2 ?_
  refine go_get (v := .int (gI σ 0 5)) C (shX11 G) (ltX11 hN) lkX11_199 rfl dX11_let_3 ?_
  refine go_iconst (v := 1) C rfl dX11_let_6 ?_
  refine go_isub C dX11_let_7 ?_
  refine go_callS (as := [.int a1, .int (-1), .int ((gI σ 0 5) - 1)]) C hR cwX11_105 (Nat.le_trans (by decide) hd) (by decide) rfl rfl (Nat.le_of_ble_eq_true rfl) dX11_let_8 (spX11_within (Nat.le_refl _) hN hw) (fun v_ τ_ hw => ?_)
  obtain ⟨r_1, rfl, hw⟩ := hw
  obtain ⟨σ_2, rfl⟩ : ∃ z, z = τ_ := ⟨_, rfl⟩
  refine go_if_eq C 24 rfl dX11_let_11 (fun hc => ?_) (fun hc => ?_)
  · replace hw := hw.1 hc
    refine go_iconst (v := (-1)) C rfl dX11_let_24 ?_
    exact go_iret C hr ⟨_, rfl, hw⟩ dX11_let_25
  · replace hw := hw.2 hc
    refine go_iload_n C 2 rfl rfl dX11_let_14 ?_
    refine go_iconst (v := 0) C rfl dX11_let_15 ?_
    refine go_bipush (v := 61) C rfl dX11_let_16 ?_
    refine go_callS (as := [.int a2, .int 0, .int 61]) C hR cwX11_105 (Nat.le_trans (by decide) hd) (by decide) rfl rfl (Nat.le_of_ble_eq_true rfl) dX11_let_18 (spX11_within (Nat.le_refl _) hN hw) (fun v_ τ_ hw => ?_)
    obtain ⟨r_3, rfl, hw⟩ := hw
    obtain ⟨σ_4, rfl⟩ : ∃ z, z = τ_ := ⟨_, rfl⟩
    refine go_if_ne C 26 rfl dX11_let_21 (fun hc => ?_) (fun hc => ?_)
    · replace hw := hw.1 hc
      refine go_iload_n C 1 rfl rfl dX11_let_26 ?_
      refine go_iconst (v := (-1)) C rfl dX11_let_27 ?_
      refine go_icmp_ne C 35 rfl dX11_let_28 (fun hc => ?_) (fun hc => ?_)
      · replace hw := hw.1 hc
        refine go_iload_n C 1 rfl rfl dX11_let_35 ?_
        exact (gbX11_let_36 C hr hR hnl hd hN) _ _ _ _ hw
      · replace hw := hw.2 hc
        refine go_iconst (v := 0) C rfl dX11_let_31 ?_
        refine go_goto C 36 rfl dX11_let_32 ?_
        exact (gbX11_let_36 C hr hR hnl hd hN) _ _ _ _ hw
    · replace hw := hw.2 hc
      refine go_iconst (v := (-1)) C rfl dX11_let_24 ?_
      exact go_iret C hr ⟨_, rfl, hw⟩ dX11_let_25
-- CradleNames.span(IIIIZ)I
set_option maxRecDepth 20000 in
set_option maxHeartbeats 4000000 in
theorem spX11_span {l : Launch} {G : GT} {d : Nat}  (hd : 8 ≤ d)  (hN : 75 ≤ G.2.2.2.2.2)  {a1 : Int32} {a2 : Int32} {a3 : Int32} {a4 : Int32} {a5 : Int32} {σ : St} {post : Int32 → St → Prop} (hw : wpX11_span  a1 a2 a3 a4 a5 σ post) : Sp l G d yX11_span cX11_span 7 (some .int) [.ref (G.2.2.1 0), .int a1, .int a2, .int a3, .int a4, .int a5] σ (fun v τ => ∃ r : Int32, v = some (.int r) ∧ post r τ) := by
  refine Sp.of (by decide) (Nat.le_of_ble_eq_true rfl) fun X C hr hR hnl => ?_
  show Go X G 0 [(0, .ref (G.2.2.1 0)), (1, .int a1), (2, .int a2), (3, .int a3), (4, .int a4), (5, .int a5)] [] σ
  have hw : wpX11_isPrintable a1 a2 a3 a4 σ (fun r_1 σ_2 =>
  ((¬ r_1 = 0 →
    wpX11_runBy 0 ((gI σ_2 0 5) - 1) σ_2 (fun σ_4 =>
    wpX7_agreeing 0 ((gI σ_4 0 5) - 1) (gI σ_4 9 0) σ_4 (fun r_5 σ_6 =>
    wpX7_spot a2 a3 a4 σ_6 (fun r_7 σ_8 =>
    wpX7_bound r_5 a1 r_7 a5 σ_8 (fun r_9 σ_10 =>
    post r_9 σ_10))))) ∧
  (r_1 = 0 →
    post (-1) σ_2))) := hw
  refine go_aload_n C 0 rfl rfl dX11_span_0 ?_
  refine go_iload_n C 1 rfl rfl dX11_span_1 ?_
  refine go_iload_n C 2 rfl rfl dX11_span_2 ?_
  refine go_iload_n C 3 rfl rfl dX11_span_3 ?_
  refine go_iload C 4 rfl dX11_span_4 ?_
  refine go_callV (as := [.int a1, .int a2, .int a3, .int a4]) C hR (shX11 G) (ltX11 hN) cwX11_337 (Nat.le_trans (by decide) hd) (by decide) rfl rfl (Nat.le_of_ble_eq_true rfl) dX11_span_6 (spX11_isPrintable (Nat.le_refl _) hN hw) (fun v_ τ_ hw => ?_)
  obtain ⟨r_1, rfl, hw⟩ := hw
  obtain ⟨σ_2, rfl⟩ : ∃ z, z = τ_ := ⟨_, rfl⟩
  refine go_if_ne C 14 rfl dX11_span_9 (fun hc => ?_) (fun hc => ?_)
  · replace hw := hw.1 hc
    refine go_aload_n C 0 rfl rfl dX11_span_14 ?_
    refine go_iconst (v := 0) C rfl dX11_span_15 ?_
    refine go_aload_n C 0 rfl rfl dX11_span_16 ?_
    refine go_get (v := .int (gI σ_2 0 5)) C (shX11 G) (ltX11 hN) lkX11_199 rfl dX11_span_17 ?_
    refine go_iconst (v := 1) C rfl dX11_span_20 ?_
    refine go_isub C dX11_span_21 ?_
    refine go_callV (as := [.int 0, .int ((gI σ_2 0 5) - 1)]) C hR (shX11 G) (ltX11 hN) cwX11_347 (Nat.le_trans (by decide) hd) (by decide) rfl rfl (Nat.le_of_ble_eq_true rfl) dX11_span_22 (spX11_runBy (Nat.le_refl _) hN hw) (fun v_ τ_ hw => ?_)
    obtain ⟨rfl, hw⟩ := hw
    obtain ⟨σ_4, rfl⟩ : ∃ z, z = τ_ := ⟨_, rfl⟩
    refine go_aload_n C 0 rfl rfl dX11_span_25 ?_
    refine go_get (v := .ref (G.2.2.1 64)) C (shX11 G) (ltX11 hN) lkX11_86 rfl dX11_span_26 ?_
    refine go_iconst (v := 0) C rfl dX11_span_29 ?_
    refine go_aload_n C 0 rfl rfl dX11_span_30 ?_
    refine go_get (v := .int (gI σ_4 0 5)) C (shX11 G) (ltX11 hN) lkX11_199 rfl dX11_span_31 ?_
    refine go_iconst (v := 1) C rfl dX11_span_34 ?_
    refine go_isub C dX11_span_35 ?_
    refine go_aload_n C 0 rfl rfl dX11_span_36 ?_
    refine go_get (v := .ref (G.2.2.1 9)) C (shX11 G) (ltX11 hN) lkX11_19 rfl dX11_span_37 ?_
    refine go_get (v := .int (gI σ_4 9 0)) C (shX4 G) (ltX4 hN) lkX11_120 rfl dX11_span_40 ?_
    refine go_callV (as := [.int 0, .int ((gI σ_4 0 5) - 1), .int (gI σ_4 9 0)]) C hR (shX7 G) (ltX7 hN) cwX11_351 (Nat.le_trans (by decide) hd) (by decide) rfl rfl (Nat.le_of_ble_eq_true rfl) dX11_span_43 (spX7_agreeing (Nat.le_refl _) hN hw) (fun v_ τ_ hw => ?_)
    obtain ⟨r_5, rfl, hw⟩ := hw
    obtain ⟨σ_6, rfl⟩ : ∃ z, z = τ_ := ⟨_, rfl⟩
    refine go_istore (lv2 := [(6, .int r_5), (0, .ref (G.2.2.1 0)), (1, .int a1), (2, .int a2), (3, .int a3), (4, .int a4), (5, .int a5)]) C (by rw [hnl]; decide) rfl dX11_span_46 ?_
    refine go_aload_n C 1 rfl rfl dX11_span_48 ?_
    refine go_get (v := .ref (G.2.2.1 64)) C (shX11 G) (ltX11 hN) lkX11_86 rfl dX11_span_49 ?_
    refine go_iload C 0 rfl dX11_span_52 ?_
    refine go_iload_n C 2 rfl rfl dX11_span_54 ?_
    refine go_iload_n C 3 rfl rfl dX11_span_55 ?_
    refine go_iload_n C 4 rfl rfl dX11_span_56 ?_
    refine go_iload C 5 rfl dX11_span_57 ?_
    refine go_callS (as := [.int a2, .int a3, .int a4]) C hR cwX11_341 (Nat.le_trans (by decide) hd) (by decide) rfl rfl (Nat.le_of_ble_eq_true rfl) dX11_span_59 (spX7_spot (Nat.le_refl _) hN hw) (fun v_ τ_ hw => ?_)
    obtain ⟨r_7, rfl, hw⟩ := hw
    obtain ⟨σ_8, rfl⟩ : ∃ z, z = τ_ := ⟨_, rfl⟩
    refine go_iload C 6 rfl dX11_span_62 ?_
    refine go_callV (as := [.int r_5, .int a1, .int r_7, .int a5]) C hR (shX7 G) (ltX7 hN) cwX11_354 (Nat.le_trans (by decide) hd) (by decide) rfl rfl (Nat.le_of_ble_eq_true rfl) dX11_span_64 (spX7_bound (Nat.le_refl _) hN hw) (fun v_ τ_ hw => ?_)
    obtain ⟨r_9, rfl, hw⟩ := hw
    obtain ⟨σ_10, rfl⟩ : ∃ z, z = τ_ := ⟨_, rfl⟩
    exact go_iret C hr ⟨_, rfl, hw⟩ dX11_span_67
  · replace hw := hw.2 hc
    refine go_iconst (v := (-1)) C rfl dX11_span_12 ?_
    exact go_iret C hr ⟨_, rfl, hw⟩ dX11_span_13
-- CradleNames.parts(II)I
set_option maxRecDepth 20000 in
set_option maxHeartbeats 4000000 in
theorem spX11_parts {l : Launch} {G : GT} {d : Nat}  (hd : 8 ≤ d)  (hN : 75 ≤ G.2.2.2.2.2)  {a1 : Int32} {a2 : Int32} {σ : St} {post : Int32 → St → Prop} (hw : wpX11_parts  a1 a2 σ post) : Sp l G d yX11_parts cX11_parts 5 (some .int) [.ref (G.2.2.1 0), .int a1, .int a2] σ (fun v τ => ∃ r : Int32, v = some (.int r) ∧ post r τ) := by
  refine Sp.of (by decide) (Nat.le_of_ble_eq_true rfl) fun X C hr hR hnl => ?_
  show Go X G 0 [(0, .ref (G.2.2.1 0)), (1, .int a1), (2, .int a2)] [] σ
  have hw : wpX11_within a1 0 60 σ (fun r_1 σ_2 =>
  ((r_1 = 0 →
    post (-1) σ_2) ∧
  (¬ r_1 = 0 →
    wpX11_within a2 0 3 σ_2 (fun r_3 σ_4 =>
    ((¬ r_3 = 0 →
      wpX11_runBy 0 ((gI σ_4 0 5) - 1) σ_4 (fun σ_6 =>
      wpX7_agreeing 0 ((gI σ_6 0 5) - 1) (gI σ_6 9 0) σ_6 (fun r_7 σ_8 =>
      wpX7_widestSpot r_7 a1 σ_8 (fun r_9 σ_10 =>
      ((¬ r_9 = (-1) →
        ((a2 = 0 →
          post (r_9 / 32) σ_10) ∧
        (¬ a2 = 0 →
        ((a2 = 1 →
          post ((r_9 / 16) - (r_9 / 16) / 2 * 2) σ_10) ∧
        (¬ a2 = 1 →
        ((a2 = 2 →
          post (r_9 - r_9 / 16 * 16) σ_10) ∧
        (¬ a2 = 2 →
        wpX7_width r_7 a1 r_9 σ_10 (fun r_11 σ_12 =>
        post r_11 σ_12)))))))) ∧
      (r_9 = (-1) →
        post (-1) σ_10)))))) ∧
    (r_3 = 0 →
      post (-1) σ_4)))))) := hw
  refine go_iload_n C 1 rfl rfl dX11_parts_0 ?_
  refine go_iconst (v := 0) C rfl dX11_parts_1 ?_
  refine go_bipush (v := 60) C rfl dX11_parts_2 ?_
  refine go_callS (as := [.int a1, .int 0, .int 60]) C hR cwX11_105 (Nat.le_trans (by decide) hd) (by decide) rfl rfl (Nat.le_of_ble_eq_true rfl) dX11_parts_4 (spX11_within (Nat.le_refl _) hN hw) (fun v_ τ_ hw => ?_)
  obtain ⟨r_1, rfl, hw⟩ := hw
  obtain ⟨σ_2, rfl⟩ : ∃ z, z = τ_ := ⟨_, rfl⟩
  refine go_if_eq C 19 rfl dX11_parts_7 (fun hc => ?_) (fun hc => ?_)
  · replace hw := hw.1 hc
    refine go_iconst (v := (-1)) C rfl dX11_parts_19 ?_
    exact go_iret C hr ⟨_, rfl, hw⟩ dX11_parts_20
  · replace hw := hw.2 hc
    refine go_iload_n C 2 rfl rfl dX11_parts_10 ?_
    refine go_iconst (v := 0) C rfl dX11_parts_11 ?_
    refine go_iconst (v := 3) C rfl dX11_parts_12 ?_
    refine go_callS (as := [.int a2, .int 0, .int 3]) C hR cwX11_105 (Nat.le_trans (by decide) hd) (by decide) rfl rfl (Nat.le_of_ble_eq_true rfl) dX11_parts_13 (spX11_within (Nat.le_refl _) hN hw) (fun v_ τ_ hw => ?_)
    obtain ⟨r_3, rfl, hw⟩ := hw
    obtain ⟨σ_4, rfl⟩ : ∃ z, z = τ_ := ⟨_, rfl⟩
    refine go_if_ne C 21 rfl dX11_parts_16 (fun hc => ?_) (fun hc => ?_)
    · replace hw := hw.1 hc
      refine go_aload_n C 0 rfl rfl dX11_parts_21 ?_
      refine go_iconst (v := 0) C rfl dX11_parts_22 ?_
      refine go_aload_n C 0 rfl rfl dX11_parts_23 ?_
      refine go_get (v := .int (gI σ_4 0 5)) C (shX11 G) (ltX11 hN) lkX11_199 rfl dX11_parts_24 ?_
      refine go_iconst (v := 1) C rfl dX11_parts_27 ?_
      refine go_isub C dX11_parts_28 ?_
      refine go_callV (as := [.int 0, .int ((gI σ_4 0 5) - 1)]) C hR (shX11 G) (ltX11 hN) cwX11_347 (Nat.le_trans (by decide) hd) (by decide) rfl rfl (Nat.le_of_ble_eq_true rfl) dX11_parts_29 (spX11_runBy (Nat.le_refl _) hN hw) (fun v_ τ_ hw => ?_)
      obtain ⟨rfl, hw⟩ := hw
      obtain ⟨σ_6, rfl⟩ : ∃ z, z = τ_ := ⟨_, rfl⟩
      refine go_aload_n C 0 rfl rfl dX11_parts_32 ?_
      refine go_get (v := .ref (G.2.2.1 64)) C (shX11 G) (ltX11 hN) lkX11_86 rfl dX11_parts_33 ?_
      refine go_iconst (v := 0) C rfl dX11_parts_36 ?_
      refine go_aload_n C 0 rfl rfl dX11_parts_37 ?_
      refine go_get (v := .int (gI σ_6 0 5)) C (shX11 G) (ltX11 hN) lkX11_199 rfl dX11_parts_38 ?_
      refine go_iconst (v := 1) C rfl dX11_parts_41 ?_
      refine go_isub C dX11_parts_42 ?_
      refine go_aload_n C 0 rfl rfl dX11_parts_43 ?_
      refine go_get (v := .ref (G.2.2.1 9)) C (shX11 G) (ltX11 hN) lkX11_19 rfl dX11_parts_44 ?_
      refine go_get (v := .int (gI σ_6 9 0)) C (shX4 G) (ltX4 hN) lkX11_120 rfl dX11_parts_47 ?_
      refine go_callV (as := [.int 0, .int ((gI σ_6 0 5) - 1), .int (gI σ_6 9 0)]) C hR (shX7 G) (ltX7 hN) cwX11_351 (Nat.le_trans (by decide) hd) (by decide) rfl rfl (Nat.le_of_ble_eq_true rfl) dX11_parts_50 (spX7_agreeing (Nat.le_refl _) hN hw) (fun v_ τ_ hw => ?_)
      obtain ⟨r_7, rfl, hw⟩ := hw
      obtain ⟨σ_8, rfl⟩ : ∃ z, z = τ_ := ⟨_, rfl⟩
      refine go_istore_n (lv2 := [(3, .int r_7), (0, .ref (G.2.2.1 0)), (1, .int a1), (2, .int a2)]) C rfl (by rw [hnl]; decide) rfl dX11_parts_53 ?_
      refine go_aload_n C 1 rfl rfl dX11_parts_54 ?_
      refine go_get (v := .ref (G.2.2.1 64)) C (shX11 G) (ltX11 hN) lkX11_86 rfl dX11_parts_55 ?_
      refine go_iload_n C 0 rfl rfl dX11_parts_58 ?_
      refine go_iload_n C 2 rfl rfl dX11_parts_59 ?_
      refine go_callV (as := [.int r_7, .int a1]) C hR (shX7 G) (ltX7 hN) cwX11_357 (Nat.le_trans (by decide) hd) (by decide) rfl rfl (Nat.le_of_ble_eq_true rfl) dX11_parts_60 (spX7_widestSpot (Nat.le_refl _) hN hw) (fun v_ τ_ hw => ?_)
      obtain ⟨r_9, rfl, hw⟩ := hw
      obtain ⟨σ_10, rfl⟩ : ∃ z, z = τ_ := ⟨_, rfl⟩
      refine go_istore (lv2 := [(4, .int r_9), (3, .int r_7), (0, .ref (G.2.2.1 0)), (1, .int a1), (2, .int a2)]) C (by rw [hnl]; decide) rfl dX11_parts_63 ?_
      refine go_iload C 0 rfl dX11_parts_65 ?_
      refine go_iconst (v := (-1)) C rfl dX11_parts_67 ?_
      refine go_icmp_ne C 73 rfl dX11_parts_68 (fun hc => ?_) (fun hc => ?_)
      · replace hw := hw.1 hc
        refine go_iload_n C 4 rfl rfl dX11_parts_73 ?_
        by_cases hc0 : a2 = 0
        · replace hw := hw.1 hc0
          refine go_tableIn C 100 (by rw [hc0]; decide) (by rw [hc0]; decide) (by rw [hc0]; rfl) rfl dX11_parts_74 ?_
          refine go_iload C 0 rfl dX11_parts_100 ?_
          refine go_bipush (v := 32) C rfl dX11_parts_102 ?_
          refine go_idiv C (by decide) dX11_parts_104 ?_
          exact go_iret C hr ⟨_, rfl, hw⟩ dX11_parts_105
        replace hw := hw.2 hc0
        by_cases hc1 : a2 = 1
        · replace hw := hw.1 hc1
          refine go_tableIn C 106 (by rw [hc1]; decide) (by rw [hc1]; decide) (by rw [hc1]; rfl) rfl dX11_parts_74 ?_
          refine go_iload C 0 rfl dX11_parts_106 ?_
          refine go_bipush (v := 16) C rfl dX11_parts_108 ?_
          refine go_idiv C (by decide) dX11_parts_110 ?_
          refine go_iconst (v := 2) C rfl dX11_parts_111 ?_
          refine go_irem C (by decide) dX11_parts_112 ?_
          exact go_iret C hr ⟨_, rfl, hw⟩ dX11_parts_113
        replace hw := hw.2 hc1
        by_cases hc2 : a2 = 2
        · replace hw := hw.1 hc2
          refine go_tableIn C 114 (by rw [hc2]; decide) (by rw [hc2]; decide) (by rw [hc2]; rfl) rfl dX11_parts_74 ?_
          refine go_iload C 0 rfl dX11_parts_114 ?_
          refine go_bipush (v := 16) C rfl dX11_parts_116 ?_
          refine go_irem C (by decide) dX11_parts_118 ?_
          exact go_iret C hr ⟨_, rfl, hw⟩ dX11_parts_119
        replace hw := hw.2 hc2
        refine go_tableOut C 120 (by have g0 := lv_neT hc0 (show (0 : Int32).toInt = 0 from rfl); have g1 := lv_neT hc1 (show (1 : Int32).toInt = 1 from rfl); have g2 := lv_neT hc2 (show (2 : Int32).toInt = 2 from rfl); omega) rfl dX11_parts_74 ?_
        refine go_aload_n C 2 rfl rfl dX11_parts_120 ?_
        refine go_get (v := .ref (G.2.2.1 64)) C (shX11 G) (ltX11 hN) lkX11_86 rfl dX11_parts_121 ?_
        refine go_iload_n C 1 rfl rfl dX11_parts_124 ?_
        refine go_iload_n C 3 rfl rfl dX11_parts_125 ?_
        refine go_iload C 0 rfl dX11_parts_126 ?_
        refine go_callV (as := [.int r_7, .int a1, .int r_9]) C hR (shX7 G) (ltX7 hN) cwX11_360 (Nat.le_trans (by decide) hd) (by decide) rfl rfl (Nat.le_of_ble_eq_true rfl) dX11_parts_128 (spX7_width (Nat.le_refl _) hN hw) (fun v_ τ_ hw => ?_)
        obtain ⟨r_11, rfl, hw⟩ := hw
        obtain ⟨σ_12, rfl⟩ : ∃ z, z = τ_ := ⟨_, rfl⟩
        exact go_iret C hr ⟨_, rfl, hw⟩ dX11_parts_131
      · replace hw := hw.2 hc
        refine go_iconst (v := (-1)) C rfl dX11_parts_71 ?_
        exact go_iret C hr ⟨_, rfl, hw⟩ dX11_parts_72
    · replace hw := hw.2 hc
      refine go_iconst (v := (-1)) C rfl dX11_parts_19 ?_
      exact go_iret C hr ⟨_, rfl, hw⟩ dX11_parts_20
-- CradleNames.image()I
set_option maxRecDepth 20000 in
set_option maxHeartbeats 4000000 in
theorem spX11_image {l : Launch} {G : GT} {d : Nat}  (hd : 2 ≤ d)  (hN : 75 ≤ G.2.2.2.2.2)   {σ : St} {post : Int32 → St → Prop} (hw : wpX11_image   σ post) : Sp l G d yX11_image cX11_image 1 (some .int) [.ref (G.2.2.1 0)] σ (fun v τ => ∃ r : Int32, v = some (.int r) ∧ post r τ) := by
  refine Sp.of (by decide) (Nat.le_of_ble_eq_true rfl) fun X C hr hR hnl => ?_
  show Go X G 0 [(0, .ref (G.2.2.1 0))] [] σ
  have hw : wpX2_keep 0 σ (fun σ_2 =>
  ∀ σ_3 : St, σ_3 = sI σ_2 70 0 (gI σ_2 1 0) →
  ∀ σ_4 : St, σ_4 = sI σ_3 70 1 (gI σ_3 0 5) →
  ∀ σ_5 : St, σ_5 = sI σ_4 70 2 (gI σ_4 64 0) →
  post (gI σ_5 9 0) σ_5) := hw
  refine go_aload_n C 0 rfl rfl dX11_image_0 ?_
  refine go_get (v := .ref (G.2.2.1 70)) C (shX11 G) (ltX11 hN) lkX11_93 rfl dX11_image_1 ?_
  refine go_aload_n C 0 rfl rfl dX11_image_4 ?_
  refine go_get (v := .ref (G.2.2.1 9)) C (shX11 G) (ltX11 hN) lkX11_19 rfl dX11_image_5 ?_
  refine go_aload_n C 0 rfl rfl dX11_image_8 ?_
  refine go_get (v := .ref (G.2.2.1 (21 + 4 * 0))) C (shX11 G) (ltX11 hN) lkX11_26 rfl dX11_image_9 ?_
  refine go_callV (as := [.ref (G.2.2.1 9), .ref (G.2.2.1 (21 + 4 * 0))]) C hR (shX2 G) (ltX2 hN) cwX11_97 (Nat.le_trans (by decide) hd) (by decide) rfl rfl (Nat.le_of_ble_eq_true rfl) dX11_image_12 (spX2_keep (Nat.le_refl _) hN (show 0 < 2 by decide) hw) (fun v_ τ_ hw => ?_)
  obtain ⟨rfl, hw⟩ := hw
  obtain ⟨σ_2, rfl⟩ : ∃ z, z = τ_ := ⟨_, rfl⟩
  refine go_aload_n C 0 rfl rfl dX11_image_15 ?_
  refine go_get (v := .ref (G.2.2.1 70)) C (shX11 G) (ltX11 hN) lkX11_93 rfl dX11_image_16 ?_
  refine go_aload_n C 0 rfl rfl dX11_image_19 ?_
  refine go_get (v := .ref (G.2.2.1 1)) C (shX11 G) (ltX11 hN) lkX11_10 rfl dX11_image_20 ?_
  refine go_get (v := .int (gI σ_2 1 0)) C (shX5 G) (ltX5 hN) lkX11_109 rfl dX11_image_23 ?_
  refine go_puti C (shX2 G) (ltX2 hN) lpX11_363 (show 0 < 11 by decide) (pxX2_0 G _ _) dX11_image_26 (go_nm fun σ_3 eσ_3 => ?_)
  replace hw := hw σ_3 eσ_3
  refine go_aload_n C 0 rfl rfl dX11_image_29 ?_
  refine go_get (v := .ref (G.2.2.1 70)) C (shX11 G) (ltX11 hN) lkX11_93 rfl dX11_image_30 ?_
  refine go_aload_n C 0 rfl rfl dX11_image_33 ?_
  refine go_get (v := .int (gI σ_3 0 5)) C (shX11 G) (ltX11 hN) lkX11_199 rfl dX11_image_34 ?_
  refine go_puti C (shX2 G) (ltX2 hN) lpX11_365 (show 1 < 11 by decide) (pxX2_1 G _ _) dX11_image_37 (go_nm fun σ_4 eσ_4 => ?_)
  replace hw := hw σ_4 eσ_4
  refine go_aload_n C 0 rfl rfl dX11_image_40 ?_
  refine go_get (v := .ref (G.2.2.1 70)) C (shX11 G) (ltX11 hN) lkX11_93 rfl dX11_image_41 ?_
  refine go_aload_n C 0 rfl rfl dX11_image_44 ?_
  refine go_get (v := .ref (G.2.2.1 64)) C (shX11 G) (ltX11 hN) lkX11_86 rfl dX11_image_45 ?_
  refine go_get (v := .int (gI σ_4 64 0)) C (shX7 G) (ltX7 hN) lkX11_336 rfl dX11_image_48 ?_
  refine go_puti C (shX2 G) (ltX2 hN) lpX11_367 (show 2 < 11 by decide) (pxX2_2 G _ _) dX11_image_51 (go_nm fun σ_5 eσ_5 => ?_)
  replace hw := hw σ_5 eσ_5
  refine go_aload_n C 0 rfl rfl dX11_image_54 ?_
  refine go_get (v := .ref (G.2.2.1 9)) C (shX11 G) (ltX11 hN) lkX11_19 rfl dX11_image_55 ?_
  refine go_get (v := .int (gI σ_5 9 0)) C (shX4 G) (ltX4 hN) lkX11_120 rfl dX11_image_58 ?_
  exact go_iret C hr ⟨_, rfl, hw⟩ dX11_image_61
-- CradleNames.back()I
set_option maxRecDepth 20000 in
set_option maxHeartbeats 4000000 in
theorem spX11_back {l : Launch} {G : GT} {d : Nat}  (hd : 4 ≤ d)  (hN : 75 ≤ G.2.2.2.2.2)   {σ : St} {post : Int32 → St → Prop} (hw : wpX11_back   σ post) : Sp l G d yX11_back cX11_back 1 (some .int) [.ref (G.2.2.1 0)] σ (fun v τ => ∃ r : Int32, v = some (.int r) ∧ post r τ) := by
  refine Sp.of (by decide) (Nat.le_of_ble_eq_true rfl) fun X C hr hR hnl => ?_
  show Go X G 0 [(0, .ref (G.2.2.1 0))] [] σ
  have hw : wpX2_restore 0 σ (fun σ_2 =>
  ∀ σ_3 : St, σ_3 = sI σ_2 1 0 (gI σ_2 70 0) →
  ∀ σ_4 : St, σ_4 = sI σ_3 0 5 (gI σ_3 70 1) →
  ∀ σ_5 : St, σ_5 = sI σ_4 64 0 (gI σ_4 70 2) →
  wpX7_forgetRuns  σ_5 (fun σ_7 =>
  post (gI σ_7 9 0) σ_7)) := hw
  refine go_aload_n C 0 rfl rfl dX11_back_0 ?_
  refine go_get (v := .ref (G.2.2.1 70)) C (shX11 G) (ltX11 hN) lkX11_93 rfl dX11_back_1 ?_
  refine go_aload_n C 0 rfl rfl dX11_back_4 ?_
  refine go_get (v := .ref (G.2.2.1 9)) C (shX11 G) (ltX11 hN) lkX11_19 rfl dX11_back_5 ?_
  refine go_aload_n C 0 rfl rfl dX11_back_8 ?_
  refine go_get (v := .ref (G.2.2.1 (21 + 4 * 0))) C (shX11 G) (ltX11 hN) lkX11_26 rfl dX11_back_9 ?_
  refine go_callV (as := [.ref (G.2.2.1 9), .ref (G.2.2.1 (21 + 4 * 0))]) C hR (shX2 G) (ltX2 hN) cwX11_370 (Nat.le_trans (by decide) hd) (by decide) rfl rfl (Nat.le_of_ble_eq_true rfl) dX11_back_12 (spX2_restore (Nat.le_refl _) hN (show 0 < 2 by decide) hw) (fun v_ τ_ hw => ?_)
  obtain ⟨rfl, hw⟩ := hw
  obtain ⟨σ_2, rfl⟩ : ∃ z, z = τ_ := ⟨_, rfl⟩
  refine go_aload_n C 0 rfl rfl dX11_back_15 ?_
  refine go_get (v := .ref (G.2.2.1 1)) C (shX11 G) (ltX11 hN) lkX11_10 rfl dX11_back_16 ?_
  refine go_aload_n C 0 rfl rfl dX11_back_19 ?_
  refine go_get (v := .ref (G.2.2.1 70)) C (shX11 G) (ltX11 hN) lkX11_93 rfl dX11_back_20 ?_
  refine go_get (v := .int (gI σ_2 70 0)) C (shX2 G) (ltX2 hN) lkX11_363 rfl dX11_back_23 ?_
  refine go_puti C (shX5 G) (ltX5 hN) lpX11_109 (show 0 < 8 by decide) (pxX5_0 G _ _) dX11_back_26 (go_nm fun σ_3 eσ_3 => ?_)
  replace hw := hw σ_3 eσ_3
  refine go_aload_n C 0 rfl rfl dX11_back_29 ?_
  refine go_aload_n C 0 rfl rfl dX11_back_30 ?_
  refine go_get (v := .ref (G.2.2.1 70)) C (shX11 G) (ltX11 hN) lkX11_93 rfl dX11_back_31 ?_
  refine go_get (v := .int (gI σ_3 70 1)) C (shX2 G) (ltX2 hN) lkX11_365 rfl dX11_back_34 ?_
  refine go_puti C (shX11 G) (ltX11 hN) lpX11_199 (show 5 < 13 by decide) (pxX11_5 G _ _) dX11_back_37 (go_nm fun σ_4 eσ_4 => ?_)
  replace hw := hw σ_4 eσ_4
  refine go_aload_n C 0 rfl rfl dX11_back_40 ?_
  refine go_get (v := .ref (G.2.2.1 64)) C (shX11 G) (ltX11 hN) lkX11_86 rfl dX11_back_41 ?_
  refine go_aload_n C 0 rfl rfl dX11_back_44 ?_
  refine go_get (v := .ref (G.2.2.1 70)) C (shX11 G) (ltX11 hN) lkX11_93 rfl dX11_back_45 ?_
  refine go_get (v := .int (gI σ_4 70 2)) C (shX2 G) (ltX2 hN) lkX11_367 rfl dX11_back_48 ?_
  refine go_puti C (shX7 G) (ltX7 hN) lpX11_336 (show 0 < 7 by decide) (pxX7_0 G _ _) dX11_back_51 (go_nm fun σ_5 eσ_5 => ?_)
  replace hw := hw σ_5 eσ_5
  refine go_aload_n C 0 rfl rfl dX11_back_54 ?_
  refine go_get (v := .ref (G.2.2.1 64)) C (shX11 G) (ltX11 hN) lkX11_86 rfl dX11_back_55 ?_
  refine go_callV (as := []) C hR (shX7 G) (ltX7 hN) cwX11_117 (Nat.le_trans (by decide) hd) (by decide) rfl rfl (Nat.le_of_ble_eq_true rfl) dX11_back_58 (spX7_forgetRuns (Nat.le_refl _) hN hw) (fun v_ τ_ hw => ?_)
  obtain ⟨rfl, hw⟩ := hw
  obtain ⟨σ_7, rfl⟩ : ∃ z, z = τ_ := ⟨_, rfl⟩
  refine go_aload_n C 0 rfl rfl dX11_back_61 ?_
  refine go_get (v := .ref (G.2.2.1 9)) C (shX11 G) (ltX11 hN) lkX11_19 rfl dX11_back_62 ?_
  refine go_get (v := .int (gI σ_7 9 0)) C (shX4 G) (ltX4 hN) lkX11_120 rfl dX11_back_65 ?_
  exact go_iret C hr ⟨_, rfl, hw⟩ dX11_back_68
-- CradleNames.about(I)I
set_option maxRecDepth 20000 in
set_option maxHeartbeats 4000000 in
theorem spX11_about {l : Launch} {G : GT} {d : Nat}  (hd : 2 ≤ d)  (hN : 75 ≤ G.2.2.2.2.2)  {a1 : Int32} {σ : St} {post : Int32 → St → Prop} (hw : wpX11_about  a1 σ post) : Sp l G d yX11_about cX11_about 2 (some .int) [.ref (G.2.2.1 0), .int a1] σ (fun v τ => ∃ r : Int32, v = some (.int r) ∧ post r τ) := by
  refine Sp.of (by decide) (Nat.le_of_ble_eq_true rfl) fun X C hr hR hnl => ?_
  show Go X G 0 [(0, .ref (G.2.2.1 0)), (1, .int a1)] [] σ
  have hw : ((a1 = 0 →
    post (gI σ 9 0) σ) ∧
  (¬ a1 = 0 →
  ((a1 = 1 →
    post (gI σ 1 0) σ) ∧
  (¬ a1 = 1 →
  ((a1 = 2 →
    post (gI σ 9 8) σ) ∧
  (¬ a1 = 2 →
  ((a1 = 3 →
    post (gI σ 9 11) σ) ∧
  (¬ a1 = 3 →
  ((a1 = 4 →
    post (gI σ 0 5) σ) ∧
  (¬ a1 = 4 →
  ((a1 = 5 →
    post (gI σ 64 0) σ) ∧
  (¬ a1 = 5 →
  ((a1 = 6 →
    post (gI σ 42 1) σ) ∧
  (¬ a1 = 6 →
  ((a1 = 7 →
    post (gI σ 9 1) σ) ∧
  (¬ a1 = 7 →
  ((a1 = 8 →
    wpX11_within a1 20 31 σ (fun r_1 σ_2 =>
    ((r_1 = 0 →
      post (-1) σ_2) ∧
    (¬ r_1 = 0 →
      vp_in (a1 - 20) 12 ∧ (
      post (gI σ_2 11 (a1 - 20).toNatClampNeg) σ_2))))) ∧
  (¬ a1 = 8 →
  ((a1 = 9 →
    wpX11_within a1 20 31 σ (fun r_3 σ_4 =>
    ((r_3 = 0 →
      post (-1) σ_4) ∧
    (¬ r_3 = 0 →
      vp_in (a1 - 20) 12 ∧ (
      post (gI σ_4 11 (a1 - 20).toNatClampNeg) σ_4))))) ∧
  (¬ a1 = 9 →
  ((a1 = 10 →
    vp_in 0 2 ∧ (
    post (gI σ 13 (0 : Int32).toNatClampNeg) σ)) ∧
  (¬ a1 = 10 →
  ((a1 = 11 →
    vp_in 1 2 ∧ (
    post (gI σ 13 (1 : Int32).toNatClampNeg) σ)) ∧
  (¬ a1 = 11 →
  wpX11_within a1 20 31 σ (fun r_5 σ_6 =>
  ((r_5 = 0 →
    post (-1) σ_6) ∧
  (¬ r_5 = 0 →
    vp_in (a1 - 20) 12 ∧ (
    post (gI σ_6 11 (a1 - 20).toNatClampNeg) σ_6)))))))))))))))))))))))))))) := hw
  refine go_iload_n C 1 rfl rfl dX11_about_0 ?_
  by_cases hc0 : a1 = 0
  · replace hw := hw.1 hc0
    refine go_tableIn C 64 (by rw [hc0]; decide) (by rw [hc0]; decide) (by rw [hc0]; rfl) rfl dX11_about_1 ?_
    refine go_aload_n C 0 rfl rfl dX11_about_64 ?_
    refine go_get (v := .ref (G.2.2.1 9)) C (shX11 G) (ltX11 hN) lkX11_19 rfl dX11_about_65 ?_
    refine go_get (v := .int (gI σ 9 0)) C (shX4 G) (ltX4 hN) lkX11_120 rfl dX11_about_68 ?_
    exact go_iret C hr ⟨_, rfl, hw⟩ dX11_about_71
  replace hw := hw.2 hc0
  by_cases hc1 : a1 = 1
  · replace hw := hw.1 hc1
    refine go_tableIn C 72 (by rw [hc1]; decide) (by rw [hc1]; decide) (by rw [hc1]; rfl) rfl dX11_about_1 ?_
    refine go_aload_n C 0 rfl rfl dX11_about_72 ?_
    refine go_get (v := .ref (G.2.2.1 1)) C (shX11 G) (ltX11 hN) lkX11_10 rfl dX11_about_73 ?_
    refine go_get (v := .int (gI σ 1 0)) C (shX5 G) (ltX5 hN) lkX11_109 rfl dX11_about_76 ?_
    exact go_iret C hr ⟨_, rfl, hw⟩ dX11_about_79
  replace hw := hw.2 hc1
  by_cases hc2 : a1 = 2
  · replace hw := hw.1 hc2
    refine go_tableIn C 80 (by rw [hc2]; decide) (by rw [hc2]; decide) (by rw [hc2]; rfl) rfl dX11_about_1 ?_
    refine go_aload_n C 0 rfl rfl dX11_about_80 ?_
    refine go_get (v := .ref (G.2.2.1 9)) C (shX11 G) (ltX11 hN) lkX11_19 rfl dX11_about_81 ?_
    refine go_get (v := .int (gI σ 9 8)) C (shX4 G) (ltX4 hN) lkX11_176 rfl dX11_about_84 ?_
    exact go_iret C hr ⟨_, rfl, hw⟩ dX11_about_87
  replace hw := hw.2 hc2
  by_cases hc3 : a1 = 3
  · replace hw := hw.1 hc3
    refine go_tableIn C 88 (by rw [hc3]; decide) (by rw [hc3]; decide) (by rw [hc3]; rfl) rfl dX11_about_1 ?_
    refine go_aload_n C 0 rfl rfl dX11_about_88 ?_
    refine go_get (v := .ref (G.2.2.1 9)) C (shX11 G) (ltX11 hN) lkX11_19 rfl dX11_about_89 ?_
    refine go_get (v := .int (gI σ 9 11)) C (shX4 G) (ltX4 hN) lkX11_182 rfl dX11_about_92 ?_
    exact go_iret C hr ⟨_, rfl, hw⟩ dX11_about_95
  replace hw := hw.2 hc3
  by_cases hc4 : a1 = 4
  · replace hw := hw.1 hc4
    refine go_tableIn C 96 (by rw [hc4]; decide) (by rw [hc4]; decide) (by rw [hc4]; rfl) rfl dX11_about_1 ?_
    refine go_aload_n C 0 rfl rfl dX11_about_96 ?_
    refine go_get (v := .int (gI σ 0 5)) C (shX11 G) (ltX11 hN) lkX11_199 rfl dX11_about_97 ?_
    exact go_iret C hr ⟨_, rfl, hw⟩ dX11_about_100
  replace hw := hw.2 hc4
  by_cases hc5 : a1 = 5
  · replace hw := hw.1 hc5
    refine go_tableIn C 101 (by rw [hc5]; decide) (by rw [hc5]; decide) (by rw [hc5]; rfl) rfl dX11_about_1 ?_
    refine go_aload_n C 0 rfl rfl dX11_about_101 ?_
    refine go_get (v := .ref (G.2.2.1 64)) C (shX11 G) (ltX11 hN) lkX11_86 rfl dX11_about_102 ?_
    refine go_get (v := .int (gI σ 64 0)) C (shX7 G) (ltX7 hN) lkX11_336 rfl dX11_about_105 ?_
    exact go_iret C hr ⟨_, rfl, hw⟩ dX11_about_108
  replace hw := hw.2 hc5
  by_cases hc6 : a1 = 6
  · replace hw := hw.1 hc6
    refine go_tableIn C 109 (by rw [hc6]; decide) (by rw [hc6]; decide) (by rw [hc6]; rfl) rfl dX11_about_1 ?_
    refine go_aload_n C 0 rfl rfl dX11_about_109 ?_
    refine go_get (v := .ref (G.2.2.1 42)) C (shX11 G) (ltX11 hN) lkX11_45 rfl dX11_about_110 ?_
    refine go_get (v := .int (gI σ 42 1)) C (shX8 G) (ltX8 hN) lkX11_196 rfl dX11_about_113 ?_
    exact go_iret C hr ⟨_, rfl, hw⟩ dX11_about_116
  replace hw := hw.2 hc6
  by_cases hc7 : a1 = 7
  · replace hw := hw.1 hc7
    refine go_tableIn C 117 (by rw [hc7]; decide) (by rw [hc7]; decide) (by rw [hc7]; rfl) rfl dX11_about_1 ?_
    refine go_aload_n C 0 rfl rfl dX11_about_117 ?_
    refine go_get (v := .ref (G.2.2.1 9)) C (shX11 G) (ltX11 hN) lkX11_19 rfl dX11_about_118 ?_
    refine go_get (v := .int (gI σ 9 1)) C (shX4 G) (ltX4 hN) lkX11_170 rfl dX11_about_121 ?_
    exact go_iret C hr ⟨_, rfl, hw⟩ dX11_about_124
  replace hw := hw.2 hc7
  by_cases hc8 : a1 = 8
  · replace hw := hw.1 hc8
    refine go_tableIn C 145 (by rw [hc8]; decide) (by rw [hc8]; decide) (by rw [hc8]; rfl) rfl dX11_about_1 ?_
    refine go_iload_n C 1 rfl rfl dX11_about_145 ?_
    refine go_bipush (v := 20) C rfl dX11_about_146 ?_
    refine go_bipush (v := 31) C rfl dX11_about_148 ?_
    refine go_callS (as := [.int a1, .int 20, .int 31]) C hR cwX11_105 (Nat.le_trans (by decide) hd) (by decide) rfl rfl (Nat.le_of_ble_eq_true rfl) dX11_about_150 (spX11_within (Nat.le_refl _) hN hw) (fun v_ τ_ hw => ?_)
    obtain ⟨r_1, rfl, hw⟩ := hw
    obtain ⟨σ_2, rfl⟩ : ∃ z, z = τ_ := ⟨_, rfl⟩
    refine go_if_eq C 171 rfl dX11_about_153 (fun hc => ?_) (fun hc => ?_)
    · replace hw := hw.1 hc
      refine go_iconst (v := (-1)) C rfl dX11_about_171 ?_
      exact go_iret C hr ⟨_, rfl, hw⟩ dX11_about_172
    · replace hw := hw.2 hc
      refine go_aload_n C 0 rfl rfl dX11_about_156 ?_
      refine go_get (v := .ref (G.2.2.1 9)) C (shX11 G) (ltX11 hN) lkX11_19 rfl dX11_about_157 ?_
      refine go_get (v := .ref (G.2.2.1 11)) C (shX4 G) (ltX4 hN) lkX11_173 rfl dX11_about_160 ?_
      refine go_iload_n C 1 rfl rfl dX11_about_163 ?_
      refine go_bipush (v := 20) C rfl dX11_about_164 ?_
      refine go_isub C dX11_about_166 ?_
      refine go_iald C (saX4_cradlesNow G) (laX4_cradlesNow hN) hw.1 dX11_about_167 ?_
      replace hw := hw.2
      refine go_goto C 172 rfl dX11_about_168 ?_
      exact go_iret C hr ⟨_, rfl, hw⟩ dX11_about_172
  replace hw := hw.2 hc8
  by_cases hc9 : a1 = 9
  · replace hw := hw.1 hc9
    refine go_tableIn C 145 (by rw [hc9]; decide) (by rw [hc9]; decide) (by rw [hc9]; rfl) rfl dX11_about_1 ?_
    refine go_iload_n C 1 rfl rfl dX11_about_145 ?_
    refine go_bipush (v := 20) C rfl dX11_about_146 ?_
    refine go_bipush (v := 31) C rfl dX11_about_148 ?_
    refine go_callS (as := [.int a1, .int 20, .int 31]) C hR cwX11_105 (Nat.le_trans (by decide) hd) (by decide) rfl rfl (Nat.le_of_ble_eq_true rfl) dX11_about_150 (spX11_within (Nat.le_refl _) hN hw) (fun v_ τ_ hw => ?_)
    obtain ⟨r_3, rfl, hw⟩ := hw
    obtain ⟨σ_4, rfl⟩ : ∃ z, z = τ_ := ⟨_, rfl⟩
    refine go_if_eq C 171 rfl dX11_about_153 (fun hc => ?_) (fun hc => ?_)
    · replace hw := hw.1 hc
      refine go_iconst (v := (-1)) C rfl dX11_about_171 ?_
      exact go_iret C hr ⟨_, rfl, hw⟩ dX11_about_172
    · replace hw := hw.2 hc
      refine go_aload_n C 0 rfl rfl dX11_about_156 ?_
      refine go_get (v := .ref (G.2.2.1 9)) C (shX11 G) (ltX11 hN) lkX11_19 rfl dX11_about_157 ?_
      refine go_get (v := .ref (G.2.2.1 11)) C (shX4 G) (ltX4 hN) lkX11_173 rfl dX11_about_160 ?_
      refine go_iload_n C 1 rfl rfl dX11_about_163 ?_
      refine go_bipush (v := 20) C rfl dX11_about_164 ?_
      refine go_isub C dX11_about_166 ?_
      refine go_iald C (saX4_cradlesNow G) (laX4_cradlesNow hN) hw.1 dX11_about_167 ?_
      replace hw := hw.2
      refine go_goto C 172 rfl dX11_about_168 ?_
      exact go_iret C hr ⟨_, rfl, hw⟩ dX11_about_172
  replace hw := hw.2 hc9
  by_cases hc10 : a1 = 10
  · replace hw := hw.1 hc10
    refine go_tableIn C 125 (by rw [hc10]; decide) (by rw [hc10]; decide) (by rw [hc10]; rfl) rfl dX11_about_1 ?_
    refine go_aload_n C 0 rfl rfl dX11_about_125 ?_
    refine go_get (v := .ref (G.2.2.1 9)) C (shX11 G) (ltX11 hN) lkX11_19 rfl dX11_about_126 ?_
    refine go_get (v := .ref (G.2.2.1 13)) C (shX4 G) (ltX4 hN) lkX11_212 rfl dX11_about_129 ?_
    refine go_iconst (v := 0) C rfl dX11_about_132 ?_
    refine go_iald C (saX4_heldNow G) (laX4_heldNow hN) hw.1 dX11_about_133 ?_
    replace hw := hw.2
    exact go_iret C hr ⟨_, rfl, hw⟩ dX11_about_134
  replace hw := hw.2 hc10
  by_cases hc11 : a1 = 11
  · replace hw := hw.1 hc11
    refine go_tableIn C 135 (by rw [hc11]; decide) (by rw [hc11]; decide) (by rw [hc11]; rfl) rfl dX11_about_1 ?_
    refine go_aload_n C 0 rfl rfl dX11_about_135 ?_
    refine go_get (v := .ref (G.2.2.1 9)) C (shX11 G) (ltX11 hN) lkX11_19 rfl dX11_about_136 ?_
    refine go_get (v := .ref (G.2.2.1 13)) C (shX4 G) (ltX4 hN) lkX11_212 rfl dX11_about_139 ?_
    refine go_iconst (v := 1) C rfl dX11_about_142 ?_
    refine go_iald C (saX4_heldNow G) (laX4_heldNow hN) hw.1 dX11_about_143 ?_
    replace hw := hw.2
    exact go_iret C hr ⟨_, rfl, hw⟩ dX11_about_144
  replace hw := hw.2 hc11
  refine go_tableOut C 145 (by have g0 := lv_neT hc0 (show (0 : Int32).toInt = 0 from rfl); have g1 := lv_neT hc1 (show (1 : Int32).toInt = 1 from rfl); have g2 := lv_neT hc2 (show (2 : Int32).toInt = 2 from rfl); have g3 := lv_neT hc3 (show (3 : Int32).toInt = 3 from rfl); have g4 := lv_neT hc4 (show (4 : Int32).toInt = 4 from rfl); have g5 := lv_neT hc5 (show (5 : Int32).toInt = 5 from rfl); have g6 := lv_neT hc6 (show (6 : Int32).toInt = 6 from rfl); have g7 := lv_neT hc7 (show (7 : Int32).toInt = 7 from rfl); have g8 := lv_neT hc8 (show (8 : Int32).toInt = 8 from rfl); have g9 := lv_neT hc9 (show (9 : Int32).toInt = 9 from rfl); have g10 := lv_neT hc10 (show (10 : Int32).toInt = 10 from rfl); have g11 := lv_neT hc11 (show (11 : Int32).toInt = 11 from rfl); omega) rfl dX11_about_1 ?_
  refine go_iload_n C 1 rfl rfl dX11_about_145 ?_
  refine go_bipush (v := 20) C rfl dX11_about_146 ?_
  refine go_bipush (v := 31) C rfl dX11_about_148 ?_
  refine go_callS (as := [.int a1, .int 20, .int 31]) C hR cwX11_105 (Nat.le_trans (by decide) hd) (by decide) rfl rfl (Nat.le_of_ble_eq_true rfl) dX11_about_150 (spX11_within (Nat.le_refl _) hN hw) (fun v_ τ_ hw => ?_)
  obtain ⟨r_5, rfl, hw⟩ := hw
  obtain ⟨σ_6, rfl⟩ : ∃ z, z = τ_ := ⟨_, rfl⟩
  refine go_if_eq C 171 rfl dX11_about_153 (fun hc => ?_) (fun hc => ?_)
  · replace hw := hw.1 hc
    refine go_iconst (v := (-1)) C rfl dX11_about_171 ?_
    exact go_iret C hr ⟨_, rfl, hw⟩ dX11_about_172
  · replace hw := hw.2 hc
    refine go_aload_n C 0 rfl rfl dX11_about_156 ?_
    refine go_get (v := .ref (G.2.2.1 9)) C (shX11 G) (ltX11 hN) lkX11_19 rfl dX11_about_157 ?_
    refine go_get (v := .ref (G.2.2.1 11)) C (shX4 G) (ltX4 hN) lkX11_173 rfl dX11_about_160 ?_
    refine go_iload_n C 1 rfl rfl dX11_about_163 ?_
    refine go_bipush (v := 20) C rfl dX11_about_164 ?_
    refine go_isub C dX11_about_166 ?_
    refine go_iald C (saX4_cradlesNow G) (laX4_cradlesNow hN) hw.1 dX11_about_167 ?_
    replace hw := hw.2
    refine go_goto C 172 rfl dX11_about_168 ?_
    exact go_iret C hr ⟨_, rfl, hw⟩ dX11_about_172
-- CradleNamesModel.in(III)Z
set_option maxRecDepth 20000 in
set_option maxHeartbeats 4000000 in
theorem spX12_in {l : Launch} {G : GT} {d : Nat}  (hd : 1 ≤ d)  (hN : 119 ≤ G.2.2.2.2.2)  {a1 : Int32} {a2 : Int32} {a3 : Int32} {σ : St} {post : Int32 → St → Prop} (hw : wpX12_in  a1 a2 a3 σ post) : Sp l G d yX12_in cX12_in 3 (some .boolean) [.int a1, .int a2, .int a3] σ (fun v τ => ∃ r : Int32, v = some (.int r) ∧ post r τ) := by
  refine Sp.of (by decide) (Nat.le_of_ble_eq_true rfl) fun X C hr hR hnl => ?_
  show Go X G 0 [(0, .int a1), (1, .int a2), (2, .int a3)] [] σ
  have hw : ((a1 < a2 →
    post 0 σ) ∧
  (¬ a1 < a2 →
    ((a3 < a1 →
      post 0 σ) ∧
    (¬ a3 < a1 →
      post 1 σ)))) := hw
  refine go_iload_n C 0 rfl rfl dX12_in_0 ?_
  refine go_iload_n C 1 rfl rfl dX12_in_1 ?_
  refine go_icmp_lt C 14 rfl dX12_in_2 (fun hc => ?_) (fun hc => ?_)
  · replace hw := hw.1 hc
    refine go_iconst (v := 0) C rfl dX12_in_14 ?_
    exact go_zret C hr rfl ⟨_, rfl, hw⟩ dX12_in_15
  · replace hw := hw.2 hc
    refine go_iload_n C 0 rfl rfl dX12_in_5 ?_
    refine go_iload_n C 2 rfl rfl dX12_in_6 ?_
    refine go_icmp_gt C 14 rfl dX12_in_7 (fun hc => ?_) (fun hc => ?_)
    · replace hw := hw.1 hc
      refine go_iconst (v := 0) C rfl dX12_in_14 ?_
      exact go_zret C hr rfl ⟨_, rfl, hw⟩ dX12_in_15
    · replace hw := hw.2 hc
      refine go_iconst (v := 1) C rfl dX12_in_10 ?_
      refine go_goto C 15 rfl dX12_in_11 ?_
      exact go_zret C hr rfl ⟨_, rfl, hw⟩ dX12_in_15
-- CradleNamesModel.lesser(II)I
set_option maxRecDepth 20000 in
set_option maxHeartbeats 4000000 in
theorem spX12_lesser {l : Launch} {G : GT} {d : Nat}  (hd : 1 ≤ d)  (hN : 119 ≤ G.2.2.2.2.2)  {a1 : Int32} {a2 : Int32} {σ : St} {post : Int32 → St → Prop} (hw : wpX12_lesser  a1 a2 σ post) : Sp l G d yX12_lesser cX12_lesser 2 (some .int) [.int a1, .int a2] σ (fun v τ => ∃ r : Int32, v = some (.int r) ∧ post r τ) := by
  refine Sp.of (by decide) (Nat.le_of_ble_eq_true rfl) fun X C hr hR hnl => ?_
  show Go X G 0 [(0, .int a1), (1, .int a2)] [] σ
  have hw : ((a2 ≤ a1 →
    post a2 σ) ∧
  (¬ a2 ≤ a1 →
    post a1 σ)) := hw
  refine go_iload_n C 0 rfl rfl dX12_lesser_0 ?_
  refine go_iload_n C 1 rfl rfl dX12_lesser_1 ?_
  refine go_icmp_ge C 9 rfl dX12_lesser_2 (fun hc => ?_) (fun hc => ?_)
  · replace hw := hw.1 hc
    refine go_iload_n C 1 rfl rfl dX12_lesser_9 ?_
    exact go_iret C hr ⟨_, rfl, hw⟩ dX12_lesser_10
  · replace hw := hw.2 hc
    refine go_iload_n C 0 rfl rfl dX12_lesser_5 ?_
    refine go_goto C 10 rfl dX12_lesser_6 ?_
    exact go_iret C hr ⟨_, rfl, hw⟩ dX12_lesser_10
-- CradleNamesModel.greater(II)I
set_option maxRecDepth 20000 in
set_option maxHeartbeats 4000000 in
theorem spX12_greater {l : Launch} {G : GT} {d : Nat}  (hd : 1 ≤ d)  (hN : 119 ≤ G.2.2.2.2.2)  {a1 : Int32} {a2 : Int32} {σ : St} {post : Int32 → St → Prop} (hw : wpX12_greater  a1 a2 σ post) : Sp l G d yX12_greater cX12_greater 2 (some .int) [.int a1, .int a2] σ (fun v τ => ∃ r : Int32, v = some (.int r) ∧ post r τ) := by
  refine Sp.of (by decide) (Nat.le_of_ble_eq_true rfl) fun X C hr hR hnl => ?_
  show Go X G 0 [(0, .int a1), (1, .int a2)] [] σ
  have hw : ((a1 ≤ a2 →
    post a2 σ) ∧
  (¬ a1 ≤ a2 →
    post a1 σ)) := hw
  refine go_iload_n C 0 rfl rfl dX12_greater_0 ?_
  refine go_iload_n C 1 rfl rfl dX12_greater_1 ?_
  refine go_icmp_le C 9 rfl dX12_greater_2 (fun hc => ?_) (fun hc => ?_)
  · replace hw := hw.1 hc
    refine go_iload_n C 1 rfl rfl dX12_greater_9 ?_
    exact go_iret C hr ⟨_, rfl, hw⟩ dX12_greater_10
  · replace hw := hw.2 hc
    refine go_iload_n C 0 rfl rfl dX12_greater_5 ?_
    refine go_goto C 10 rfl dX12_greater_6 ?_
    exact go_iret C hr ⟨_, rfl, hw⟩ dX12_greater_10
-- CradleNamesModel.away(I)I
set_option maxRecDepth 20000 in
set_option maxHeartbeats 4000000 in
theorem spX12_away {l : Launch} {G : GT} {d : Nat}  (hd : 1 ≤ d)  (hN : 119 ≤ G.2.2.2.2.2)  {a1 : Int32} {σ : St} {post : Int32 → St → Prop} (hw : wpX12_away  a1 σ post) : Sp l G d yX12_away cX12_away 1 (some .int) [.int a1] σ (fun v τ => ∃ r : Int32, v = some (.int r) ∧ post r τ) := by
  refine Sp.of (by decide) (Nat.le_of_ble_eq_true rfl) fun X C hr hR hnl => ?_
  show Go X G 0 [(0, .int a1)] [] σ
  have hw : ((0 ≤ a1 →
    post a1 σ) ∧
  (¬ 0 ≤ a1 →
    post (-a1) σ)) := hw
  refine go_iload_n C 0 rfl rfl dX12_away_0 ?_
  refine go_if_ge C 9 rfl dX12_away_1 (fun hc => ?_) (fun hc => ?_)
  · replace hw := hw.1 hc
    refine go_iload_n C 0 rfl rfl dX12_away_9 ?_
    exact go_iret C hr ⟨_, rfl, hw⟩ dX12_away_10
  · replace hw := hw.2 hc
    refine go_iload_n C 0 rfl rfl dX12_away_4 ?_
    refine go_ineg C dX12_away_5 ?_
    refine go_goto C 10 rfl dX12_away_6 ?_
    exact go_iret C hr ⟨_, rfl, hw⟩ dX12_away_10
-- CradleNamesModel.copies(Z)V
set_option maxRecDepth 20000 in
set_option maxHeartbeats 4000000 in
theorem gbX12_copies_2 {X : XT} {G : GT} {l : Launch} {d : Nat}  {post : St → Prop} (C : Cx X G cX12_copies RX12) (hr : Rt X G none (fun v τ => v = none ∧ post τ)) (hR : Rm X l d) (hnl : X.2.2.2.2.2.2.2.2.2.2.1 = 3)  (hd : 1 ≤ d) (hN : 119 ≤ G.2.2.2.2.2)   
    : ∀ (n : Nat) (v1 : Int32) (v2 : Int32) (σ : St), wbX12_copies_2   post n v1 v2 σ → Go X G 2 [(0, .ref (G.2.2.1 75)), (1, .int v1), (2, .int v2)] [] σ := by
  intro n
  induction n with
  | zero => intro v1 v2 σ hw; exact hw.elim
  | succ n ih =>
    intro v1 v2 σ hw
    have hw : ((9680 ≤ v2 →
      post σ) ∧
    (¬ 9680 ≤ v2 →
      ((v1 = 0 →
        vp_in v2 9680 ∧ (
        vp_in v2 9680 ∧ (
        ∀ σ_1 : St, σ_1 = sI σ 76 v2.toNatClampNeg (gI σ 77 v2.toNatClampNeg) →
        ∀ v2_2 : Int32, v2_2 = v2 + 1 →
        wbX12_copies_2 post n v1 v2_2 σ_1))) ∧
      (¬ v1 = 0 →
        vp_in v2 9680 ∧ (
        vp_in v2 9680 ∧ (
        ∀ σ_3 : St, σ_3 = sI σ 77 v2.toNatClampNeg (gI σ 76 v2.toNatClampNeg) →
        ∀ v2_4 : Int32, v2_4 = v2 + 1 →
        wbX12_copies_2 post n v1 v2_4 σ_3)))))) := hw
    refine go_iload_n C 2 rfl rfl dX12_copies_2 ?_
    refine go_sipush (v := 9680) C rfl dX12_copies_3 ?_
    refine go_icmp_ge C 46 rfl dX12_copies_6 (fun hc => ?_) (fun hc => ?_)
    · replace hw := hw.1 hc
      exact go_vret C hr ⟨rfl, hw⟩ dX12_copies_46
    · replace hw := hw.2 hc
      refine go_iload_n C 1 rfl rfl dX12_copies_9 ?_
      refine go_if_eq C 28 rfl dX12_copies_10 (fun hc => ?_) (fun hc => ?_)
      · replace hw := hw.1 hc
        refine go_aload_n C 0 rfl rfl dX12_copies_28 ?_
        refine go_get (v := .ref (G.2.2.1 76)) C (shX12 G) (ltX12 hN) lkX12_7 rfl dX12_copies_29 ?_
        refine go_iload_n C 2 rfl rfl dX12_copies_32 ?_
        refine go_aload_n C 0 rfl rfl dX12_copies_33 ?_
        refine go_get (v := .ref (G.2.2.1 77)) C (shX12 G) (ltX12 hN) lkX12_13 rfl dX12_copies_34 ?_
        refine go_iload_n C 2 rfl rfl dX12_copies_37 ?_
        refine go_iald C (saX12_image G) (laX12_image hN) hw.1 dX12_copies_38 ?_
        replace hw := hw.2
        refine go_iast C (saX12_a G) (laX12_a hN) hw.1 dX12_copies_39 (go_nm fun σ_1 eσ_1 => ?_)
        replace hw := hw.2 σ_1 eσ_1
        obtain ⟨v2_2, ev2_2⟩ : ∃ z : Int32, z = v2 + 1 := ⟨_, rfl⟩
        replace hw := hw v2_2 ev2_2
        refine go_iinc (v := v2_2) (lv2 := [(2, .int v2_2), (0, .ref (G.2.2.1 75)), (1, .int v1)]) C 2 rfl (by rw [ev2_2]; rfl) (by rw [hnl]; decide) rfl dX12_copies_40 ?_
        refine go_goto C 2 rfl dX12_copies_43 ?_
        refine go_sub [1, 2, 0] rfl ?_
        exact ih _ _ _ hw
      · replace hw := hw.2 hc
        refine go_aload_n C 0 rfl rfl dX12_copies_13 ?_
        refine go_get (v := .ref (G.2.2.1 77)) C (shX12 G) (ltX12 hN) lkX12_13 rfl dX12_copies_14 ?_
        refine go_iload_n C 2 rfl rfl dX12_copies_17 ?_
        refine go_aload_n C 0 rfl rfl dX12_copies_18 ?_
        refine go_get (v := .ref (G.2.2.1 76)) C (shX12 G) (ltX12 hN) lkX12_7 rfl dX12_copies_19 ?_
        refine go_iload_n C 2 rfl rfl dX12_copies_22 ?_
        refine go_iald C (saX12_a G) (laX12_a hN) hw.1 dX12_copies_23 ?_
        replace hw := hw.2
        refine go_iast C (saX12_image G) (laX12_image hN) hw.1 dX12_copies_24 (go_nm fun σ_3 eσ_3 => ?_)
        replace hw := hw.2 σ_3 eσ_3
        refine go_goto C 40 rfl dX12_copies_25 ?_
        obtain ⟨v2_4, ev2_4⟩ : ∃ z : Int32, z = v2 + 1 := ⟨_, rfl⟩
        replace hw := hw v2_4 ev2_4
        refine go_iinc (v := v2_4) (lv2 := [(2, .int v2_4), (0, .ref (G.2.2.1 75)), (1, .int v1)]) C 2 rfl (by rw [ev2_4]; rfl) (by rw [hnl]; decide) rfl dX12_copies_40 ?_
        refine go_goto C 2 rfl dX12_copies_43 ?_
        refine go_sub [1, 2, 0] rfl ?_
        exact ih _ _ _ hw
set_option maxRecDepth 20000 in
set_option maxHeartbeats 4000000 in
theorem spX12_copies {l : Launch} {G : GT} {d : Nat}  (hd : 1 ≤ d)  (hN : 119 ≤ G.2.2.2.2.2)  {a1 : Int32} {σ : St} {post : St → Prop} (hw : wpX12_copies  a1 σ post) : Sp l G d yX12_copies cX12_copies 3 none [.ref (G.2.2.1 75), .int a1] σ (fun v τ => v = none ∧ post τ) := by
  refine Sp.of (by decide) (Nat.le_of_ble_eq_true rfl) fun X C hr hR hnl => ?_
  show Go X G 0 [(0, .ref (G.2.2.1 75)), (1, .int a1)] [] σ
  have hw : ∃ m_2, wbX12_copies_2 post m_2 a1 0 σ := hw
  refine go_iconst (v := 0) C rfl dX12_copies_0 ?_
  refine go_istore_n (lv2 := [(2, .int 0), (0, .ref (G.2.2.1 75)), (1, .int a1)]) C rfl (by rw [hnl]; decide) rfl dX12_copies_1 ?_
  refine go_sub [1, 2, 0] rfl ?_
  obtain ⟨n_0, hw⟩ := hw
  exact (gbX12_copies_2 C hr hR hnl hd hN) n_0 _ _ _ hw
-- CradleNamesModel.isName(I)Z
set_option maxRecDepth 20000 in
set_option maxHeartbeats 4000000 in
theorem spX12_isName {l : Launch} {G : GT} {d : Nat}  (hd : 2 ≤ d)  (hN : 119 ≤ G.2.2.2.2.2)  {a1 : Int32} {σ : St} {post : Int32 → St → Prop} (hw : wpX12_isName  a1 σ post) : Sp l G d yX12_isName cX12_isName 2 (some .boolean) [.ref (G.2.2.1 75), .int a1] σ (fun v τ => ∃ r : Int32, v = some (.int r) ∧ post r τ) := by
  refine Sp.of (by decide) (Nat.le_of_ble_eq_true rfl) fun X C hr hR hnl => ?_
  show Go X G 0 [(0, .ref (G.2.2.1 75)), (1, .int a1)] [] σ
  have hw : vp_in 1 9680 ∧ (
  wpX12_in a1 0 ((gI σ 76 (1 : Int32).toNatClampNeg) - 1) σ (fun r_1 σ_2 =>
  (r_1 = 0 ∨ r_1 = 1) ∧ post r_1 σ_2)) := hw
  refine go_iload_n C 1 rfl rfl dX12_isName_0 ?_
  refine go_iconst (v := 0) C rfl dX12_isName_1 ?_
  refine go_aload_n C 0 rfl rfl dX12_isName_2 ?_
  refine go_get (v := .ref (G.2.2.1 76)) C (shX12 G) (ltX12 hN) lkX12_7 rfl dX12_isName_3 ?_
  refine go_iconst (v := 1) C rfl dX12_isName_6 ?_
  refine go_iald C (saX12_a G) (laX12_a hN) hw.1 dX12_isName_7 ?_
  replace hw := hw.2
  refine go_iconst (v := 1) C rfl dX12_isName_8 ?_
  refine go_isub C dX12_isName_9 ?_
  refine go_callS (as := [.int a1, .int 0, .int ((gI σ 76 (1 : Int32).toNatClampNeg) - 1)]) C hR cwX12_152 (Nat.le_trans (by decide) hd) (by decide) rfl rfl (Nat.le_of_ble_eq_true rfl) dX12_isName_10 (spX12_in (Nat.le_refl _) hN hw) (fun v_ τ_ hw => ?_)
  obtain ⟨r_1, rfl, hw⟩ := hw
  obtain ⟨σ_2, rfl⟩ : ∃ z, z = τ_ := ⟨_, rfl⟩
  exact go_zret C hr (bool_nar hw.1) ⟨_, rfl, hw.2⟩ dX12_isName_13
-- CradleNamesModel.isTaste(I)Z
set_option maxRecDepth 20000 in
set_option maxHeartbeats 4000000 in
theorem spX12_isTaste {l : Launch} {G : GT} {d : Nat}  (hd : 2 ≤ d)  (hN : 119 ≤ G.2.2.2.2.2)  {a1 : Int32} {σ : St} {post : Int32 → St → Prop} (hw : wpX12_isTaste  a1 σ post) : Sp l G d yX12_isTaste cX12_isTaste 2 (some .boolean) [.ref (G.2.2.1 75), .int a1] σ (fun v τ => ∃ r : Int32, v = some (.int r) ∧ post r τ) := by
  refine Sp.of (by decide) (Nat.le_of_ble_eq_true rfl) fun X C hr hR hnl => ?_
  show Go X G 0 [(0, .ref (G.2.2.1 75)), (1, .int a1)] [] σ
  have hw : vp_in 4 9680 ∧ (
  wpX12_in a1 0 ((gI σ 76 (4 : Int32).toNatClampNeg) - 1) σ (fun r_1 σ_2 =>
  (r_1 = 0 ∨ r_1 = 1) ∧ post r_1 σ_2)) := hw
  refine go_iload_n C 1 rfl rfl dX12_isTaste_0 ?_
  refine go_iconst (v := 0) C rfl dX12_isTaste_1 ?_
  refine go_aload_n C 0 rfl rfl dX12_isTaste_2 ?_
  refine go_get (v := .ref (G.2.2.1 76)) C (shX12 G) (ltX12 hN) lkX12_7 rfl dX12_isTaste_3 ?_
  refine go_iconst (v := 4) C rfl dX12_isTaste_6 ?_
  refine go_iald C (saX12_a G) (laX12_a hN) hw.1 dX12_isTaste_7 ?_
  replace hw := hw.2
  refine go_iconst (v := 1) C rfl dX12_isTaste_8 ?_
  refine go_isub C dX12_isTaste_9 ?_
  refine go_callS (as := [.int a1, .int 0, .int ((gI σ 76 (4 : Int32).toNatClampNeg) - 1)]) C hR cwX12_152 (Nat.le_trans (by decide) hd) (by decide) rfl rfl (Nat.le_of_ble_eq_true rfl) dX12_isTaste_10 (spX12_in (Nat.le_refl _) hN hw) (fun v_ τ_ hw => ?_)
  obtain ⟨r_1, rfl, hw⟩ := hw
  obtain ⟨σ_2, rfl⟩ : ∃ z, z = τ_ := ⟨_, rfl⟩
  exact go_zret C hr (bool_nar hw.1) ⟨_, rfl, hw.2⟩ dX12_isTaste_13
-- CradleNamesModel.isCradle(III)Z
set_option maxRecDepth 20000 in
set_option maxHeartbeats 4000000 in
theorem spX12_isCradle {l : Launch} {G : GT} {d : Nat}  (hd : 2 ≤ d)  (hN : 119 ≤ G.2.2.2.2.2)  {a1 : Int32} {a2 : Int32} {a3 : Int32} {σ : St} {post : Int32 → St → Prop} (hw : wpX12_isCradle  a1 a2 a3 σ post) : Sp l G d yX12_isCradle cX12_isCradle 3 (some .boolean) [.int a1, .int a2, .int a3] σ (fun v τ => ∃ r : Int32, v = some (.int r) ∧ post r τ) := by
  refine Sp.of (by decide) (Nat.le_of_ble_eq_true rfl) fun X C hr hR hnl => ?_
  show Go X G 0 [(0, .int a1), (1, .int a2), (2, .int a3)] [] σ
  have hw : wpX12_in a1 0 2 σ (fun r_1 σ_2 =>
  ((r_1 = 0 →
    post 0 σ_2) ∧
  (¬ r_1 = 0 →
    wpX12_in a2 0 1 σ_2 (fun r_3 σ_4 =>
    ((r_3 = 0 →
      post 0 σ_4) ∧
    (¬ r_3 = 0 →
      wpX12_in a3 0 1 σ_4 (fun r_5 σ_6 =>
      ((r_5 = 0 →
        post 0 σ_6) ∧
      (¬ r_5 = 0 →
        post 1 σ_6))))))))) := hw
  refine go_iload_n C 0 rfl rfl dX12_isCradle_0 ?_
  refine go_iconst (v := 0) C rfl dX12_isCradle_1 ?_
  refine go_iconst (v := 2) C rfl dX12_isCradle_2 ?_
  refine go_callS (as := [.int a1, .int 0, .int 2]) C hR cwX12_152 (Nat.le_trans (by decide) hd) (by decide) rfl rfl (Nat.le_of_ble_eq_true rfl) dX12_isCradle_3 (spX12_in (Nat.le_refl _) hN hw) (fun v_ τ_ hw => ?_)
  obtain ⟨r_1, rfl, hw⟩ := hw
  obtain ⟨σ_2, rfl⟩ : ∃ z, z = τ_ := ⟨_, rfl⟩
  refine go_if_eq C 31 rfl dX12_isCradle_6 (fun hc => ?_) (fun hc => ?_)
  · replace hw := hw.1 hc
    refine go_iconst (v := 0) C rfl dX12_isCradle_31 ?_
    exact go_zret C hr rfl ⟨_, rfl, hw⟩ dX12_isCradle_32
  · replace hw := hw.2 hc
    refine go_iload_n C 1 rfl rfl dX12_isCradle_9 ?_
    refine go_iconst (v := 0) C rfl dX12_isCradle_10 ?_
    refine go_iconst (v := 1) C rfl dX12_isCradle_11 ?_
    refine go_callS (as := [.int a2, .int 0, .int 1]) C hR cwX12_152 (Nat.le_trans (by decide) hd) (by decide) rfl rfl (Nat.le_of_ble_eq_true rfl) dX12_isCradle_12 (spX12_in (Nat.le_refl _) hN hw) (fun v_ τ_ hw => ?_)
    obtain ⟨r_3, rfl, hw⟩ := hw
    obtain ⟨σ_4, rfl⟩ : ∃ z, z = τ_ := ⟨_, rfl⟩
    refine go_if_eq C 31 rfl dX12_isCradle_15 (fun hc => ?_) (fun hc => ?_)
    · replace hw := hw.1 hc
      refine go_iconst (v := 0) C rfl dX12_isCradle_31 ?_
      exact go_zret C hr rfl ⟨_, rfl, hw⟩ dX12_isCradle_32
    · replace hw := hw.2 hc
      refine go_iload_n C 2 rfl rfl dX12_isCradle_18 ?_
      refine go_iconst (v := 0) C rfl dX12_isCradle_19 ?_
      refine go_iconst (v := 1) C rfl dX12_isCradle_20 ?_
      refine go_callS (as := [.int a3, .int 0, .int 1]) C hR cwX12_152 (Nat.le_trans (by decide) hd) (by decide) rfl rfl (Nat.le_of_ble_eq_true rfl) dX12_isCradle_21 (spX12_in (Nat.le_refl _) hN hw) (fun v_ τ_ hw => ?_)
      obtain ⟨r_5, rfl, hw⟩ := hw
      obtain ⟨σ_6, rfl⟩ : ∃ z, z = τ_ := ⟨_, rfl⟩
      refine go_if_eq C 31 rfl dX12_isCradle_24 (fun hc => ?_) (fun hc => ?_)
      · replace hw := hw.1 hc
        refine go_iconst (v := 0) C rfl dX12_isCradle_31 ?_
        exact go_zret C hr rfl ⟨_, rfl, hw⟩ dX12_isCradle_32
      · replace hw := hw.2 hc
        refine go_iconst (v := 1) C rfl dX12_isCradle_27 ?_
        refine go_goto C 32 rfl dX12_isCradle_28 ?_
        exact go_zret C hr rfl ⟨_, rfl, hw⟩ dX12_isCradle_32
-- CradleNamesModel.cell(III)I
set_option maxRecDepth 20000 in
set_option maxHeartbeats 4000000 in
theorem spX12_cell {l : Launch} {G : GT} {d : Nat}  (hd : 1 ≤ d)  (hN : 119 ≤ G.2.2.2.2.2)  {a1 : Int32} {a2 : Int32} {a3 : Int32} {σ : St} {post : Int32 → St → Prop} (hw : wpX12_cell  a1 a2 a3 σ post) : Sp l G d yX12_cell cX12_cell 3 (some .int) [.int a1, .int a2, .int a3] σ (fun v τ => ∃ r : Int32, v = some (.int r) ∧ post r τ) := by
  refine Sp.of (by decide) (Nat.le_of_ble_eq_true rfl) fun X C hr hR hnl => ?_
  show Go X G 0 [(0, .int a1), (1, .int a2), (2, .int a3)] [] σ
  have hw : post ((((a1 * 2) + a2) * 2) + a3) σ := hw
  refine go_iload_n C 0 rfl rfl dX12_cell_0 ?_
  refine go_iconst (v := 2) C rfl dX12_cell_1 ?_
  refine go_imul C dX12_cell_2 ?_
  refine go_iload_n C 1 rfl rfl dX12_cell_3 ?_
  refine go_iadd C dX12_cell_4 ?_
  refine go_iconst (v := 2) C rfl dX12_cell_5 ?_
  refine go_imul C dX12_cell_6 ?_
  refine go_iload_n C 2 rfl rfl dX12_cell_7 ?_
  refine go_iadd C dX12_cell_8 ?_
  exact go_iret C hr ⟨_, rfl, hw⟩ dX12_cell_9
-- CradleNamesModel.isGone(I)Z
set_option maxRecDepth 20000 in
set_option maxHeartbeats 4000000 in
theorem spX12_isGone {l : Launch} {G : GT} {d : Nat}  (hd : 2 ≤ d)  (hN : 119 ≤ G.2.2.2.2.2)  {a1 : Int32} {σ : St} {post : Int32 → St → Prop} (hw : wpX12_isGone  a1 σ post) : Sp l G d yX12_isGone cX12_isGone 2 (some .boolean) [.ref (G.2.2.1 75), .int a1] σ (fun v τ => ∃ r : Int32, v = some (.int r) ∧ post r τ) := by
  refine Sp.of (by decide) (Nat.le_of_ble_eq_true rfl) fun X C hr hR hnl => ?_
  show Go X G 0 [(0, .ref (G.2.2.1 75)), (1, .int a1)] [] σ
  have hw : vp_in 0 9680 ∧ (
  wpX12_in a1 0 ((gI σ 76 (0 : Int32).toNatClampNeg) - 1) σ (fun r_1 σ_2 =>
  (r_1 = 0 ∨ r_1 = 1) ∧ post r_1 σ_2)) := hw
  refine go_iload_n C 1 rfl rfl dX12_isGone_0 ?_
  refine go_iconst (v := 0) C rfl dX12_isGone_1 ?_
  refine go_aload_n C 0 rfl rfl dX12_isGone_2 ?_
  refine go_get (v := .ref (G.2.2.1 76)) C (shX12 G) (ltX12 hN) lkX12_7 rfl dX12_isGone_3 ?_
  refine go_iconst (v := 0) C rfl dX12_isGone_6 ?_
  refine go_iald C (saX12_a G) (laX12_a hN) hw.1 dX12_isGone_7 ?_
  replace hw := hw.2
  refine go_iconst (v := 1) C rfl dX12_isGone_8 ?_
  refine go_isub C dX12_isGone_9 ?_
  refine go_callS (as := [.int a1, .int 0, .int ((gI σ 76 (0 : Int32).toNatClampNeg) - 1)]) C hR cwX12_152 (Nat.le_trans (by decide) hd) (by decide) rfl rfl (Nat.le_of_ble_eq_true rfl) dX12_isGone_10 (spX12_in (Nat.le_refl _) hN hw) (fun v_ τ_ hw => ?_)
  obtain ⟨r_1, rfl, hw⟩ := hw
  obtain ⟨σ_2, rfl⟩ : ∃ z, z = τ_ := ⟨_, rfl⟩
  exact go_zret C hr (bool_nar hw.1) ⟨_, rfl, hw.2⟩ dX12_isGone_13
-- CradleNamesModel.letterAt(JI)I
set_option maxRecDepth 20000 in
set_option maxHeartbeats 4000000 in
theorem spX12_letterAt {l : Launch} {G : GT} {d : Nat}  (hd : 1 ≤ d)  (hN : 119 ≤ G.2.2.2.2.2)  {a1 : Int64} {a2 : Int32} {σ : St} {post : Int32 → St → Prop} (hw : wpX12_letterAt  a1 a2 σ post) : Sp l G d yX12_letterAt cX12_letterAt 3 (some .int) [.long a1, .int a2] σ (fun v τ => ∃ r : Int32, v = some (.int r) ∧ post r τ) := by
  refine Sp.of (by decide) (Nat.le_of_ble_eq_true rfl) fun X C hr hR hnl => ?_
  show Go X G 0 [(0, .long a1), (2, .int a2)] [] σ
  have hw : post (((a1 >>> ((5 * a2).toInt64 &&& 63)) &&& 31).toInt32) σ := hw
  refine go_lload_n C 0 rfl rfl dX12_letterAt_0 ?_
  refine go_iconst (v := 5) C rfl dX12_letterAt_1 ?_
  refine go_iload_n C 1 rfl rfl dX12_letterAt_2 ?_
  refine go_imul C dX12_letterAt_3 ?_
  refine go_lshr C dX12_letterAt_4 ?_
  refine go_ldc2 (v := 31) C kcX12_156 dX12_letterAt_5 ?_
  refine go_land C dX12_letterAt_8 ?_
  refine go_l2i C dX12_letterAt_9 ?_
  exact go_iret C hr ⟨_, rfl, hw⟩ dX12_letterAt_10
-- CradleNamesModel.size(J)I
set_option maxRecDepth 20000 in
set_option maxHeartbeats 4000000 in
theorem gbX12_size_2 {X : XT} {G : GT} {l : Launch} {d : Nat}  {post : Int32 → St → Prop} (C : Cx X G cX12_size RX12) (hr : Rt X G (some .int) (fun v τ => ∃ r : Int32, v = some (.int r) ∧ post r τ)) (hR : Rm X l d) (hnl : X.2.2.2.2.2.2.2.2.2.2.1 = 3)  (hd : 2 ≤ d) (hN : 119 ≤ G.2.2.2.2.2)   
    : ∀ (n : Nat) (v0 : Int64) (v2 : Int32) (σ : St), wbX12_size_2   post n v0 v2 σ → Go X G 2 [(0, .long v0), (2, .int v2)] [] σ := by
  intro n
  induction n with
  | zero => intro v0 v2 σ hw; exact hw.elim
  | succ n ih =>
    intro v0 v2 σ hw
    have hw : ((12 ≤ v2 →
      post v2 σ) ∧
    (¬ 12 ≤ v2 →
      wpX12_letterAt v0 v2 σ (fun r_1 σ_2 =>
      ((r_1 ≤ 0 →
        post v2 σ_2) ∧
      (¬ r_1 ≤ 0 →
        ∀ v2_3 : Int32, v2_3 = v2 + 1 →
        wbX12_size_2 post n v0 v2_3 σ_2))))) := hw
    refine go_iload_n C 1 rfl rfl dX12_size_2 ?_
    refine go_bipush (v := 12) C rfl dX12_size_3 ?_
    refine go_icmp_ge C 22 rfl dX12_size_5 (fun hc => ?_) (fun hc => ?_)
    · replace hw := hw.1 hc
      refine go_iload_n C 1 rfl rfl dX12_size_22 ?_
      exact go_iret C hr ⟨_, rfl, hw⟩ dX12_size_23
    · replace hw := hw.2 hc
      refine go_lload_n C 0 rfl rfl dX12_size_8 ?_
      refine go_iload_n C 1 rfl rfl dX12_size_9 ?_
      refine go_callS (as := [.long v0, .int v2]) C hR cwX12_158 (Nat.le_trans (by decide) hd) (by decide) rfl rfl (Nat.le_of_ble_eq_true rfl) dX12_size_10 (spX12_letterAt (Nat.le_refl _) hN hw) (fun v_ τ_ hw => ?_)
      obtain ⟨r_1, rfl, hw⟩ := hw
      obtain ⟨σ_2, rfl⟩ : ∃ z, z = τ_ := ⟨_, rfl⟩
      refine go_if_le C 22 rfl dX12_size_13 (fun hc => ?_) (fun hc => ?_)
      · replace hw := hw.1 hc
        refine go_iload_n C 1 rfl rfl dX12_size_22 ?_
        exact go_iret C hr ⟨_, rfl, hw⟩ dX12_size_23
      · replace hw := hw.2 hc
        obtain ⟨v2_3, ev2_3⟩ : ∃ z : Int32, z = v2 + 1 := ⟨_, rfl⟩
        replace hw := hw v2_3 ev2_3
        refine go_iinc (v := v2_3) (lv2 := [(2, .int v2_3), (0, .long v0)]) C 1 rfl (by rw [ev2_3]; rfl) (by rw [hnl]; decide) rfl dX12_size_16 ?_
        refine go_goto C 2 rfl dX12_size_19 ?_
        refine go_sub [1, 0] rfl ?_
        exact ih _ _ _ hw
set_option maxRecDepth 20000 in
set_option maxHeartbeats 4000000 in
theorem spX12_size {l : Launch} {G : GT} {d : Nat}  (hd : 2 ≤ d)  (hN : 119 ≤ G.2.2.2.2.2)  {a1 : Int64} {σ : St} {post : Int32 → St → Prop} (hw : wpX12_size  a1 σ post) : Sp l G d yX12_size cX12_size 3 (some .int) [.long a1] σ (fun v τ => ∃ r : Int32, v = some (.int r) ∧ post r τ) := by
  refine Sp.of (by decide) (Nat.le_of_ble_eq_true rfl) fun X C hr hR hnl => ?_
  show Go X G 0 [(0, .long a1)] [] σ
  have hw : ∃ m_2, wbX12_size_2 post m_2 a1 0 σ := hw
  refine go_iconst (v := 0) C rfl dX12_size_0 ?_
  refine go_istore_n (lv2 := [(2, .int 0), (0, .long a1)]) C rfl (by rw [hnl]; decide) rfl dX12_size_1 ?_
  refine go_sub [1, 0] rfl ?_
  obtain ⟨n_0, hw⟩ := hw
  exact (gbX12_size_2 C hr hR hnl hd hN) n_0 _ _ _ hw
-- CradleNamesModel.name(JI)I
set_option maxRecDepth 20000 in
set_option maxHeartbeats 4000000 in
theorem gbX12_name_148 {X : XT} {G : GT} {l : Launch} {d : Nat}  {post : Int32 → St → Prop} (C : Cx X G cX12_name RX12) (hr : Rt X G (some .int) (fun v τ => ∃ r : Int32, v = some (.int r) ∧ post r τ)) (hR : Rm X l d) (hnl : X.2.2.2.2.2.2.2.2.2.2.1 = 7)  (hd : 3 ≤ d) (hN : 119 ≤ G.2.2.2.2.2)   
    : ∀ (v1 : Int64) (v3 : Int32) (v5 : Int32) (σ : St), wbX12_name_148   post v1 v3 v5 σ → Go X G 148 [(0, .ref (G.2.2.1 75)), (1, .long v1), (3, .int v3), (5, .int v5)] [] σ := by
  intro v1 v3 v5 σ hw
  have hw : ((¬ v5 = 0 →
    vp_in 1 9680 ∧ (
    vp_in (gI σ 76 (1 : Int32).toNatClampNeg) 16 ∧ (
    ∀ σ_1 : St, σ_1 = sL σ 78 (gI σ 76 (1 : Int32).toNatClampNeg).toNatClampNeg v1 →
    vp_in 1 9680 ∧ (
    vp_in (30 + (gI σ_1 76 (1 : Int32).toNatClampNeg)) 9680 ∧ (
    ∀ σ_2 : St, σ_2 = sI σ_1 76 (30 + (gI σ_1 76 (1 : Int32).toNatClampNeg)).toNatClampNeg v3 →
    vp_in 1 9680 ∧ (
    vp_in 0 9680 ∧ (
    vp_in (1900 + (gI σ_2 76 (1 : Int32).toNatClampNeg)) 9680 ∧ (
    ∀ σ_3 : St, σ_3 = sI σ_2 76 (1900 + (gI σ_2 76 (1 : Int32).toNatClampNeg)).toNatClampNeg (gI σ_2 76 (0 : Int32).toNatClampNeg) →
    vp_in 1 9680 ∧ (
    vp_in 1 9680 ∧ (
    ∀ σ_4 : St, σ_4 = sI σ_3 76 (1 : Int32).toNatClampNeg ((gI σ_3 76 (1 : Int32).toNatClampNeg) + 1) →
    vp_in 1 9680 ∧ (
    post ((gI σ_4 76 (1 : Int32).toNatClampNeg) - 1) σ_4))))))))))) ∧
  (v5 = 0 →
    post (-1) σ)) := hw
  refine go_iload C 3 rfl dX12_name_148 ?_
  refine go_if_ne C 155 rfl dX12_name_150 (fun hc => ?_) (fun hc => ?_)
  · replace hw := hw.1 hc
    refine go_aload_n C 0 rfl rfl dX12_name_155 ?_
    refine go_get (v := .ref (G.2.2.1 78)) C (shX12 G) (ltX12 hN) lkX12_16 rfl dX12_name_156 ?_
    refine go_aload_n C 0 rfl rfl dX12_name_159 ?_
    refine go_get (v := .ref (G.2.2.1 76)) C (shX12 G) (ltX12 hN) lkX12_7 rfl dX12_name_160 ?_
    refine go_iconst (v := 1) C rfl dX12_name_163 ?_
    refine go_iald C (saX12_a G) (laX12_a hN) hw.1 dX12_name_164 ?_
    replace hw := hw.2
    refine go_lload_n C 1 rfl rfl dX12_name_165 ?_
    refine go_last C (saX12_letters G) (laX12_letters hN) hw.1 dX12_name_166 (go_nm fun σ_1 eσ_1 => ?_)
    replace hw := hw.2 σ_1 eσ_1
    refine go_aload_n C 0 rfl rfl dX12_name_167 ?_
    refine go_get (v := .ref (G.2.2.1 76)) C (shX12 G) (ltX12 hN) lkX12_7 rfl dX12_name_168 ?_
    refine go_bipush (v := 30) C rfl dX12_name_171 ?_
    refine go_aload_n C 0 rfl rfl dX12_name_173 ?_
    refine go_get (v := .ref (G.2.2.1 76)) C (shX12 G) (ltX12 hN) lkX12_7 rfl dX12_name_174 ?_
    refine go_iconst (v := 1) C rfl dX12_name_177 ?_
    refine go_iald C (saX12_a G) (laX12_a hN) hw.1 dX12_name_178 ?_
    replace hw := hw.2
    refine go_iadd C dX12_name_179 ?_
    refine go_iload_n C 2 rfl rfl dX12_name_180 ?_
    refine go_iast C (saX12_a G) (laX12_a hN) hw.1 dX12_name_181 (go_nm fun σ_2 eσ_2 => ?_)
    replace hw := hw.2 σ_2 eσ_2
    refine go_aload_n C 0 rfl rfl dX12_name_182 ?_
    refine go_get (v := .ref (G.2.2.1 76)) C (shX12 G) (ltX12 hN) lkX12_7 rfl dX12_name_183 ?_
    refine go_sipush (v := 1900) C rfl dX12_name_186 ?_
    refine go_aload_n C 0 rfl rfl dX12_name_189 ?_
    refine go_get (v := .ref (G.2.2.1 76)) C (shX12 G) (ltX12 hN) lkX12_7 rfl dX12_name_190 ?_
    refine go_iconst (v := 1) C rfl dX12_name_193 ?_
    refine go_iald C (saX12_a G) (laX12_a hN) hw.1 dX12_name_194 ?_
    replace hw := hw.2
    refine go_iadd C dX12_name_195 ?_
    refine go_aload_n C 0 rfl rfl dX12_name_196 ?_
    refine go_get (v := .ref (G.2.2.1 76)) C (shX12 G) (ltX12 hN) lkX12_7 rfl dX12_name_197 ?_
    refine go_iconst (v := 0) C rfl dX12_name_200 ?_
    refine go_iald C (saX12_a G) (laX12_a hN) hw.1 dX12_name_201 ?_
    replace hw := hw.2
    refine go_iast C (saX12_a G) (laX12_a hN) hw.1 dX12_name_202 (go_nm fun σ_3 eσ_3 => ?_)
    replace hw := hw.2 σ_3 eσ_3
    refine go_aload_n C 0 rfl rfl dX12_name_203 ?_
    refine go_get (v := .ref (G.2.2.1 76)) C (shX12 G) (ltX12 hN) lkX12_7 rfl dX12_name_204 ?_
    refine go_iconst (v := 1) C rfl dX12_name_207 ?_
    refine go_dup2 C rfl rfl dX12_name_208 ?_
    refine go_iald C (saX12_a G) (laX12_a hN) hw.1 dX12_name_209 ?_
    replace hw := hw.2
    refine go_iconst (v := 1) C rfl dX12_name_210 ?_
    refine go_iadd C dX12_name_211 ?_
    refine go_iast C (saX12_a G) (laX12_a hN) hw.1 dX12_name_212 (go_nm fun σ_4 eσ_4 => ?_)
    replace hw := hw.2 σ_4 eσ_4
    refine go_aload_n C 0 rfl rfl dX12_name_213 ?_
    refine go_get (v := .ref (G.2.2.1 76)) C (shX12 G) (ltX12 hN) lkX12_7 rfl dX12_name_214 ?_
    refine go_iconst (v := 1) C rfl dX12_name_217 ?_
    refine go_iald C (saX12_a G) (laX12_a hN) hw.1 dX12_name_218 ?_
    replace hw := hw.2
    refine go_iconst (v := 1) C rfl dX12_name_219 ?_
    refine go_isub C dX12_name_220 ?_
    exact go_iret C hr ⟨_, rfl, hw⟩ dX12_name_221
  · replace hw := hw.2 hc
    refine go_iconst (v := (-1)) C rfl dX12_name_153 ?_
    exact go_iret C hr ⟨_, rfl, hw⟩ dX12_name_154
set_option maxRecDepth 20000 in
set_option maxHeartbeats 4000000 in
theorem gbX12_name_107 {X : XT} {G : GT} {l : Launch} {d : Nat}  {post : Int32 → St → Prop} (C : Cx X G cX12_name RX12) (hr : Rt X G (some .int) (fun v τ => ∃ r : Int32, v = some (.int r) ∧ post r τ)) (hR : Rm X l d) (hnl : X.2.2.2.2.2.2.2.2.2.2.1 = 7)  (hd : 3 ≤ d) (hN : 119 ≤ G.2.2.2.2.2)   
    : ∀ (n : Nat) (v1 : Int64) (v3 : Int32) (v5 : Int32) (v6 : Int32) (σ : St), wbX12_name_107   post n v1 v3 v5 v6 σ → Go X G 107 [(0, .ref (G.2.2.1 75)), (1, .long v1), (3, .int v3), (5, .int v5), (6, .int v6)] [] σ := by
  intro n
  induction n with
  | zero => intro v1 v3 v5 v6 σ hw; exact hw.elim
  | succ n ih =>
    intro v1 v3 v5 v6 σ hw
    have hw : vp_in 1 9680 ∧ (
    (((gI σ 76 (1 : Int32).toNatClampNeg) ≤ v6 →
      wbX12_name_148 post v1 v3 v5 σ) ∧
    (¬ (gI σ 76 (1 : Int32).toNatClampNeg) ≤ v6 →
      ((v5 = 0 →
        wbX12_name_148 post v1 v3 v5 σ) ∧
      (¬ v5 = 0 →
        vp_in v6 16 ∧ (
        (((gL σ 78 v6.toNatClampNeg) = v1 →
          ∀ v6_1 : Int32, v6_1 = v6 + 1 →
          wbX12_name_107 post n v1 v3 0 v6_1 σ) ∧
        (¬ (gL σ 78 v6.toNatClampNeg) = v1 →
          ∀ v6_2 : Int32, v6_2 = v6 + 1 →
          wbX12_name_107 post n v1 v3 1 v6_2 σ)))))))) := hw
    refine go_iload C 4 rfl dX12_name_107 ?_
    refine go_aload_n C 0 rfl rfl dX12_name_109 ?_
    refine go_get (v := .ref (G.2.2.1 76)) C (shX12 G) (ltX12 hN) lkX12_7 rfl dX12_name_110 ?_
    refine go_iconst (v := 1) C rfl dX12_name_113 ?_
    refine go_iald C (saX12_a G) (laX12_a hN) hw.1 dX12_name_114 ?_
    replace hw := hw.2
    refine go_icmp_ge C 148 rfl dX12_name_115 (fun hc => ?_) (fun hc => ?_)
    · replace hw := hw.1 hc
      refine go_sub [0, 1, 2, 3] rfl ?_
      exact (gbX12_name_148 C hr hR hnl hd hN) _ _ _ _ hw
    · replace hw := hw.2 hc
      refine go_iload C 3 rfl dX12_name_118 ?_
      refine go_if_eq C 148 rfl dX12_name_120 (fun hc => ?_) (fun hc => ?_)
      · replace hw := hw.1 hc
        refine go_sub [0, 1, 2, 3] rfl ?_
        exact (gbX12_name_148 C hr hR hnl hd hN) _ _ _ _ hw
      · replace hw := hw.2 hc
        refine go_aload_n C 0 rfl rfl dX12_name_123 ?_
        refine go_get (v := .ref (G.2.2.1 78)) C (shX12 G) (ltX12 hN) lkX12_16 rfl dX12_name_124 ?_
        refine go_iload C 4 rfl dX12_name_127 ?_
        refine go_lald C (saX12_letters G) (laX12_letters hN) hw.1 dX12_name_129 ?_
        replace hw := hw.2
        refine go_lload_n C 1 rfl rfl dX12_name_130 ?_
        refine go_lc_eq C 139 rfl dX12_name_131 dX12_name_132 (fun hc => ?_) (fun hc => ?_)
        · replace hw := hw.1 hc
          refine go_iconst (v := 0) C rfl dX12_name_139 ?_
          refine go_istore (lv2 := [(5, .int 0), (0, .ref (G.2.2.1 75)), (1, .long v1), (3, .int v3), (6, .int v6)]) C (by rw [hnl]; decide) rfl dX12_name_140 ?_
          obtain ⟨v6_1, ev6_1⟩ : ∃ z : Int32, z = v6 + 1 := ⟨_, rfl⟩
          replace hw := hw v6_1 ev6_1
          refine go_iinc (v := v6_1) (lv2 := [(6, .int v6_1), (5, .int 0), (0, .ref (G.2.2.1 75)), (1, .long v1), (3, .int v3)]) C 4 rfl (by rw [ev6_1]; rfl) (by rw [hnl]; decide) rfl dX12_name_142 ?_
          refine go_goto C 107 rfl dX12_name_145 ?_
          refine go_sub [2, 3, 4, 1, 0] rfl ?_
          exact ih _ _ _ _ _ hw
        · replace hw := hw.2 hc
          refine go_iconst (v := 1) C rfl dX12_name_135 ?_
          refine go_goto C 140 rfl dX12_name_136 ?_
          refine go_istore (lv2 := [(5, .int 1), (0, .ref (G.2.2.1 75)), (1, .long v1), (3, .int v3), (6, .int v6)]) C (by rw [hnl]; decide) rfl dX12_name_140 ?_
          obtain ⟨v6_2, ev6_2⟩ : ∃ z : Int32, z = v6 + 1 := ⟨_, rfl⟩
          replace hw := hw v6_2 ev6_2
          refine go_iinc (v := v6_2) (lv2 := [(6, .int v6_2), (5, .int 1), (0, .ref (G.2.2.1 75)), (1, .long v1), (3, .int v3)]) C 4 rfl (by rw [ev6_2]; rfl) (by rw [hnl]; decide) rfl dX12_name_142 ?_
          refine go_goto C 107 rfl dX12_name_145 ?_
          refine go_sub [2, 3, 4, 1, 0] rfl ?_
          exact ih _ _ _ _ _ hw
set_option maxRecDepth 20000 in
set_option maxHeartbeats 4000000 in
theorem gbX12_name_68 {X : XT} {G : GT} {l : Launch} {d : Nat}  {post : Int32 → St → Prop} (C : Cx X G cX12_name RX12) (hr : Rt X G (some .int) (fun v τ => ∃ r : Int32, v = some (.int r) ∧ post r τ)) (hR : Rm X l d) (hnl : X.2.2.2.2.2.2.2.2.2.2.1 = 7)  (hd : 3 ≤ d) (hN : 119 ≤ G.2.2.2.2.2)   
    : ∀ (n : Nat) (v1 : Int64) (v3 : Int32) (v4 : Int32) (v5 : Int32) (v6 : Int32) (σ : St), wbX12_name_68   post n v1 v3 v4 v5 v6 σ → Go X G 68 [(0, .ref (G.2.2.1 75)), (1, .long v1), (3, .int v3), (4, .int v4), (5, .int v5), (6, .int v6)] [] σ := by
  intro n
  induction n with
  | zero => intro v1 v3 v4 v5 v6 σ hw; exact hw.elim
  | succ n ih =>
    intro v1 v3 v4 v5 v6 σ hw
    have hw : ((v4 ≤ v6 →
      ∃ m_107, wbX12_name_107 post m_107 v1 v3 v5 0 σ) ∧
    (¬ v4 ≤ v6 →
      ((v5 = 0 →
        ∃ m_107, wbX12_name_107 post m_107 v1 v3 v5 0 σ) ∧
      (¬ v5 = 0 →
        wpX12_letterAt v1 v6 σ (fun r_1 σ_2 =>
        ((27 ≤ r_1 →
          ∀ v6_3 : Int32, v6_3 = v6 + 1 →
          wbX12_name_68 post n v1 v3 v4 0 v6_3 σ_2) ∧
        (¬ 27 ≤ r_1 →
          ∀ v6_4 : Int32, v6_4 = v6 + 1 →
          wbX12_name_68 post n v1 v3 v4 1 v6_4 σ_2))))))) := hw
    refine go_iload C 5 rfl dX12_name_68 ?_
    refine go_iload C 3 rfl dX12_name_70 ?_
    refine go_icmp_ge C 104 rfl dX12_name_72 (fun hc => ?_) (fun hc => ?_)
    · replace hw := hw.1 hc
      refine go_iconst (v := 0) C rfl dX12_name_104 ?_
      refine go_istore (lv2 := [(6, .int 0), (0, .ref (G.2.2.1 75)), (1, .long v1), (3, .int v3), (4, .int v4), (5, .int v5)]) C (by rw [hnl]; decide) rfl dX12_name_105 ?_
      refine go_sub [1, 2, 3, 5, 0] rfl ?_
      obtain ⟨n_0, hw⟩ := hw
      exact (gbX12_name_107 C hr hR hnl hd hN) n_0 _ _ _ _ _ hw
    · replace hw := hw.2 hc
      refine go_iload C 4 rfl dX12_name_75 ?_
      refine go_if_eq C 104 rfl dX12_name_77 (fun hc => ?_) (fun hc => ?_)
      · replace hw := hw.1 hc
        refine go_iconst (v := 0) C rfl dX12_name_104 ?_
        refine go_istore (lv2 := [(6, .int 0), (0, .ref (G.2.2.1 75)), (1, .long v1), (3, .int v3), (4, .int v4), (5, .int v5)]) C (by rw [hnl]; decide) rfl dX12_name_105 ?_
        refine go_sub [1, 2, 3, 5, 0] rfl ?_
        obtain ⟨n_0, hw⟩ := hw
        exact (gbX12_name_107 C hr hR hnl hd hN) n_0 _ _ _ _ _ hw
      · replace hw := hw.2 hc
        refine go_lload_n C 1 rfl rfl dX12_name_80 ?_
        refine go_iload C 5 rfl dX12_name_81 ?_
        refine go_callS (as := [.long v1, .int v6]) C hR cwX12_158 (Nat.le_trans (by decide) hd) (by decide) rfl rfl (Nat.le_of_ble_eq_true rfl) dX12_name_83 (spX12_letterAt (Nat.le_refl _) hN hw) (fun v_ τ_ hw => ?_)
        obtain ⟨r_1, rfl, hw⟩ := hw
        obtain ⟨σ_2, rfl⟩ : ∃ z, z = τ_ := ⟨_, rfl⟩
        refine go_bipush (v := 27) C rfl dX12_name_86 ?_
        refine go_icmp_ge C 95 rfl dX12_name_88 (fun hc => ?_) (fun hc => ?_)
        · replace hw := hw.1 hc
          refine go_iconst (v := 0) C rfl dX12_name_95 ?_
          refine go_istore (lv2 := [(5, .int 0), (0, .ref (G.2.2.1 75)), (1, .long v1), (3, .int v3), (4, .int v4), (6, .int v6)]) C (by rw [hnl]; decide) rfl dX12_name_96 ?_
          obtain ⟨v6_3, ev6_3⟩ : ∃ z : Int32, z = v6 + 1 := ⟨_, rfl⟩
          replace hw := hw v6_3 ev6_3
          refine go_iinc (v := v6_3) (lv2 := [(6, .int v6_3), (5, .int 0), (0, .ref (G.2.2.1 75)), (1, .long v1), (3, .int v3), (4, .int v4)]) C 5 rfl (by rw [ev6_3]; rfl) (by rw [hnl]; decide) rfl dX12_name_98 ?_
          refine go_goto C 68 rfl dX12_name_101 ?_
          refine go_sub [2, 3, 4, 5, 1, 0] rfl ?_
          exact ih _ _ _ _ _ _ hw
        · replace hw := hw.2 hc
          refine go_iconst (v := 1) C rfl dX12_name_91 ?_
          refine go_goto C 96 rfl dX12_name_92 ?_
          refine go_istore (lv2 := [(5, .int 1), (0, .ref (G.2.2.1 75)), (1, .long v1), (3, .int v3), (4, .int v4), (6, .int v6)]) C (by rw [hnl]; decide) rfl dX12_name_96 ?_
          obtain ⟨v6_4, ev6_4⟩ : ∃ z : Int32, z = v6 + 1 := ⟨_, rfl⟩
          replace hw := hw v6_4 ev6_4
          refine go_iinc (v := v6_4) (lv2 := [(6, .int v6_4), (5, .int 1), (0, .ref (G.2.2.1 75)), (1, .long v1), (3, .int v3), (4, .int v4)]) C 5 rfl (by rw [ev6_4]; rfl) (by rw [hnl]; decide) rfl dX12_name_98 ?_
          refine go_goto C 68 rfl dX12_name_101 ?_
          refine go_sub [2, 3, 4, 5, 1, 0] rfl ?_
          exact ih _ _ _ _ _ _ hw
set_option maxRecDepth 20000 in
set_option maxHeartbeats 4000000 in
theorem gbX12_name_14 {X : XT} {G : GT} {l : Launch} {d : Nat}  {post : Int32 → St → Prop} (C : Cx X G cX12_name RX12) (hr : Rt X G (some .int) (fun v τ => ∃ r : Int32, v = some (.int r) ∧ post r τ)) (hR : Rm X l d) (hnl : X.2.2.2.2.2.2.2.2.2.2.1 = 7)  (hd : 3 ≤ d) (hN : 119 ≤ G.2.2.2.2.2)   
    : ∀ (v1 : Int64) (v3 : Int32) (s0 : Int32) (σ : St), wbX12_name_14   post v1 v3 s0 σ → Go X G 14 [(0, .ref (G.2.2.1 75)), (1, .long v1), (3, .int v3)] [.int s0] σ := by
  intro v1 v3 s0 σ hw
  have hw : wpX12_in s0 2 10 σ (fun r_1 σ_2 =>
  ((r_1 = 0 →
    ∃ m_68, wbX12_name_68 post m_68 v1 v3 s0 0 0 σ_2) ∧
  (¬ r_1 = 0 →
    wpX12_in v3 1 3 σ_2 (fun r_3 σ_4 =>
    ((r_3 = 0 →
      ∃ m_68, wbX12_name_68 post m_68 v1 v3 s0 0 0 σ_4) ∧
    (¬ r_3 = 0 →
      ((¬ (v1 >>> ((5 * s0).toInt64 &&& 63)) = 0 →
        ∃ m_68, wbX12_name_68 post m_68 v1 v3 s0 0 0 σ_4) ∧
      ((v1 >>> ((5 * s0).toInt64 &&& 63)) = 0 →
        vp_in 1 9680 ∧ (
        ((16 ≤ (gI σ_4 76 (1 : Int32).toNatClampNeg) →
          ∃ m_68, wbX12_name_68 post m_68 v1 v3 s0 0 0 σ_4) ∧
        (¬ 16 ≤ (gI σ_4 76 (1 : Int32).toNatClampNeg) →
          ∃ m_68, wbX12_name_68 post m_68 v1 v3 s0 1 0 σ_4))))))))))) := hw
  refine go_istore (lv2 := [(4, .int s0), (0, .ref (G.2.2.1 75)), (1, .long v1), (3, .int v3)]) C (by rw [hnl]; decide) rfl dX12_name_14 ?_
  refine go_iload C 0 rfl dX12_name_16 ?_
  refine go_iconst (v := 2) C rfl dX12_name_18 ?_
  refine go_bipush (v := 10) C rfl dX12_name_19 ?_
  refine go_callS (as := [.int s0, .int 2, .int 10]) C hR cwX12_152 (Nat.le_trans (by decide) hd) (by decide) rfl rfl (Nat.le_of_ble_eq_true rfl) dX12_name_21 (spX12_in (Nat.le_refl _) hN hw) (fun v_ τ_ hw => ?_)
  obtain ⟨r_1, rfl, hw⟩ := hw
  obtain ⟨σ_2, rfl⟩ : ∃ z, z = τ_ := ⟨_, rfl⟩
  refine go_if_eq C 62 rfl dX12_name_24 (fun hc => ?_) (fun hc => ?_)
  · replace hw := hw.1 hc
    refine go_iconst (v := 0) C rfl dX12_name_62 ?_
    refine go_istore (lv2 := [(5, .int 0), (4, .int s0), (0, .ref (G.2.2.1 75)), (1, .long v1), (3, .int v3)]) C (by rw [hnl]; decide) rfl dX12_name_63 ?_
    refine go_iconst (v := 0) C rfl dX12_name_65 ?_
    refine go_istore (lv2 := [(6, .int 0), (5, .int 0), (4, .int s0), (0, .ref (G.2.2.1 75)), (1, .long v1), (3, .int v3)]) C (by rw [hnl]; decide) rfl dX12_name_66 ?_
    refine go_sub [3, 4, 5, 2, 1, 0] rfl ?_
    obtain ⟨n_0, hw⟩ := hw
    exact (gbX12_name_68 C hr hR hnl hd hN) n_0 _ _ _ _ _ _ hw
  · replace hw := hw.2 hc
    refine go_iload_n C 3 rfl rfl dX12_name_27 ?_
    refine go_iconst (v := 1) C rfl dX12_name_28 ?_
    refine go_iconst (v := 3) C rfl dX12_name_29 ?_
    refine go_callS (as := [.int v3, .int 1, .int 3]) C hR cwX12_152 (Nat.le_trans (by decide) hd) (by decide) rfl rfl (Nat.le_of_ble_eq_true rfl) dX12_name_30 (spX12_in (Nat.le_refl _) hN hw) (fun v_ τ_ hw => ?_)
    obtain ⟨r_3, rfl, hw⟩ := hw
    obtain ⟨σ_4, rfl⟩ : ∃ z, z = τ_ := ⟨_, rfl⟩
    refine go_if_eq C 62 rfl dX12_name_33 (fun hc => ?_) (fun hc => ?_)
    · replace hw := hw.1 hc
      refine go_iconst (v := 0) C rfl dX12_name_62 ?_
      refine go_istore (lv2 := [(5, .int 0), (4, .int s0), (0, .ref (G.2.2.1 75)), (1, .long v1), (3, .int v3)]) C (by rw [hnl]; decide) rfl dX12_name_63 ?_
      refine go_iconst (v := 0) C rfl dX12_name_65 ?_
      refine go_istore (lv2 := [(6, .int 0), (5, .int 0), (4, .int s0), (0, .ref (G.2.2.1 75)), (1, .long v1), (3, .int v3)]) C (by rw [hnl]; decide) rfl dX12_name_66 ?_
      refine go_sub [3, 4, 5, 2, 1, 0] rfl ?_
      obtain ⟨n_0, hw⟩ := hw
      exact (gbX12_name_68 C hr hR hnl hd hN) n_0 _ _ _ _ _ _ hw
    · replace hw := hw.2 hc
      refine go_lload_n C 2 rfl rfl dX12_name_36 ?_
      refine go_iconst (v := 5) C rfl dX12_name_37 ?_
      refine go_iload C 0 rfl dX12_name_38 ?_
      refine go_imul C dX12_name_40 ?_
      refine go_lshr C dX12_name_41 ?_
      refine go_lconst (v := 0) C rfl dX12_name_42 ?_
      refine go_lc_ne C 62 rfl dX12_name_43 dX12_name_44 (fun hc => ?_) (fun hc => ?_)
      · replace hw := hw.1 hc
        refine go_iconst (v := 0) C rfl dX12_name_62 ?_
        refine go_istore (lv2 := [(5, .int 0), (4, .int s0), (0, .ref (G.2.2.1 75)), (1, .long v1), (3, .int v3)]) C (by rw [hnl]; decide) rfl dX12_name_63 ?_
        refine go_iconst (v := 0) C rfl dX12_name_65 ?_
        refine go_istore (lv2 := [(6, .int 0), (5, .int 0), (4, .int s0), (0, .ref (G.2.2.1 75)), (1, .long v1), (3, .int v3)]) C (by rw [hnl]; decide) rfl dX12_name_66 ?_
        refine go_sub [3, 4, 5, 2, 1, 0] rfl ?_
        obtain ⟨n_0, hw⟩ := hw
        exact (gbX12_name_68 C hr hR hnl hd hN) n_0 _ _ _ _ _ _ hw
      · replace hw := hw.2 hc
        refine go_aload_n C 1 rfl rfl dX12_name_47 ?_
        refine go_get (v := .ref (G.2.2.1 76)) C (shX12 G) (ltX12 hN) lkX12_7 rfl dX12_name_48 ?_
        refine go_iconst (v := 1) C rfl dX12_name_51 ?_
        refine go_iald C (saX12_a G) (laX12_a hN) hw.1 dX12_name_52 ?_
        replace hw := hw.2
        refine go_bipush (v := 16) C rfl dX12_name_53 ?_
        refine go_icmp_ge C 62 rfl dX12_name_55 (fun hc => ?_) (fun hc => ?_)
        · replace hw := hw.1 hc
          refine go_iconst (v := 0) C rfl dX12_name_62 ?_
          refine go_istore (lv2 := [(5, .int 0), (4, .int s0), (0, .ref (G.2.2.1 75)), (1, .long v1), (3, .int v3)]) C (by rw [hnl]; decide) rfl dX12_name_63 ?_
          refine go_iconst (v := 0) C rfl dX12_name_65 ?_
          refine go_istore (lv2 := [(6, .int 0), (5, .int 0), (4, .int s0), (0, .ref (G.2.2.1 75)), (1, .long v1), (3, .int v3)]) C (by rw [hnl]; decide) rfl dX12_name_66 ?_
          refine go_sub [3, 4, 5, 2, 1, 0] rfl ?_
          obtain ⟨n_0, hw⟩ := hw
          exact (gbX12_name_68 C hr hR hnl hd hN) n_0 _ _ _ _ _ _ hw
        · replace hw := hw.2 hc
          refine go_iconst (v := 1) C rfl dX12_name_58 ?_
          refine go_goto C 63 rfl dX12_name_59 ?_
          refine go_istore (lv2 := [(5, .int 1), (4, .int s0), (0, .ref (G.2.2.1 75)), (1, .long v1), (3, .int v3)]) C (by rw [hnl]; decide) rfl dX12_name_63 ?_
          refine go_iconst (v := 0) C rfl dX12_name_65 ?_
          refine go_istore (lv2 := [(6, .int 0), (5, .int 1), (4, .int s0), (0, .ref (G.2.2.1 75)), (1, .long v1), (3, .int v3)]) C (by rw [hnl]; decide) rfl dX12_name_66 ?_
          refine go_sub [3, 4, 5, 2, 1, 0] rfl ?_
          obtain ⟨n_0, hw⟩ := hw
          exact (gbX12_name_68 C hr hR hnl hd hN) n_0 _ _ _ _ _ _ hw
set_option maxRecDepth 20000 in
set_option maxHeartbeats 4000000 in
theorem spX12_name {l : Launch} {G : GT} {d : Nat}  (hd : 3 ≤ d)  (hN : 119 ≤ G.2.2.2.2.2)  {a1 : Int64} {a2 : Int32} {σ : St} {post : Int32 → St → Prop} (hw : wpX12_name  a1 a2 σ post) : Sp l G d yX12_name cX12_name 7 (some .int) [.ref (G.2.2.1 75), .long a1, .int a2] σ (fun v τ => ∃ r : Int32, v = some (.int r) ∧ post r τ) := by
  refine Sp.of (by decide) (Nat.le_of_ble_eq_true rfl) fun X C hr hR hnl => ?_
  show Go X G 0 [(0, .ref (G.2.2.1 75)), (1, .long a1), (3, .int a2)] [] σ
  have hw : ((a1 ≤ 0 →
    wbX12_name_14 post a1 a2 0 σ) ∧
  (¬ a1 ≤ 0 →
    wpX12_size a1 σ (fun r_1 σ_2 =>
    wbX12_name_14 post a1 a2 r_1 σ_2))) := hw
  refine go_lload_n C 1 rfl rfl dX12_name_0 ?_
  refine go_lconst (v := 0) C rfl dX12_name_1 ?_
  refine go_lc_le C 13 rfl dX12_name_2 dX12_name_3 (fun hc => ?_) (fun hc => ?_)
  · replace hw := hw.1 hc
    refine go_iconst (v := 0) C rfl dX12_name_13 ?_
    exact (gbX12_name_14 C hr hR hnl hd hN) _ _ _ _ hw
  · replace hw := hw.2 hc
    refine go_lload_n C 1 rfl rfl dX12_name_6 ?_
    refine go_callS (as := [.long a1]) C hR cwX12_162 (Nat.le_trans (by decide) hd) (by decide) rfl rfl (Nat.le_of_ble_eq_true rfl) dX12_name_7 (spX12_size (Nat.le_refl _) hN hw) (fun v_ τ_ hw => ?_)
    obtain ⟨r_1, rfl, hw⟩ := hw
    obtain ⟨σ_2, rfl⟩ : ∃ z, z = τ_ := ⟨_, rfl⟩
    refine go_goto C 14 rfl dX12_name_10 ?_
    exact (gbX12_name_14 C hr hR hnl hd hN) _ _ _ _ hw
-- CradleNamesModel.isVowel(I)Z
set_option maxRecDepth 20000 in
set_option maxHeartbeats 4000000 in
theorem spX12_isVowel {l : Launch} {G : GT} {d : Nat}  (hd : 1 ≤ d)  (hN : 119 ≤ G.2.2.2.2.2)  {a1 : Int32} {σ : St} {post : Int32 → St → Prop} (hw : wpX12_isVowel  a1 σ post) : Sp l G d yX12_isVowel cX12_isVowel 1 (some .boolean) [.int a1] σ (fun v τ => ∃ r : Int32, v = some (.int r) ∧ post r τ) := by
  refine Sp.of (by decide) (Nat.le_of_ble_eq_true rfl) fun X C hr hR hnl => ?_
  show Go X G 0 [(0, .int a1)] [] σ
  have hw : ((a1 = 1 →
    post 1 σ) ∧
  (¬ a1 = 1 →
    ((a1 = 5 →
      post 1 σ) ∧
    (¬ a1 = 5 →
      ((a1 = 9 →
        post 1 σ) ∧
      (¬ a1 = 9 →
        ((a1 = 15 →
          post 1 σ) ∧
        (¬ a1 = 15 →
          ((a1 = 21 →
            post 1 σ) ∧
          (¬ a1 = 21 →
            ((¬ a1 = 25 →
              post 0 σ) ∧
            (a1 = 25 →
              post 1 σ)))))))))))) := hw
  refine go_iload_n C 0 rfl rfl dX12_isVowel_0 ?_
  refine go_iconst (v := 1) C rfl dX12_isVowel_1 ?_
  refine go_icmp_eq C 34 rfl dX12_isVowel_2 (fun hc => ?_) (fun hc => ?_)
  · replace hw := hw.1 hc
    refine go_iconst (v := 1) C rfl dX12_isVowel_34 ?_
    refine go_goto C 39 rfl dX12_isVowel_35 ?_
    exact go_zret C hr rfl ⟨_, rfl, hw⟩ dX12_isVowel_39
  · replace hw := hw.2 hc
    refine go_iload_n C 0 rfl rfl dX12_isVowel_5 ?_
    refine go_iconst (v := 5) C rfl dX12_isVowel_6 ?_
    refine go_icmp_eq C 34 rfl dX12_isVowel_7 (fun hc => ?_) (fun hc => ?_)
    · replace hw := hw.1 hc
      refine go_iconst (v := 1) C rfl dX12_isVowel_34 ?_
      refine go_goto C 39 rfl dX12_isVowel_35 ?_
      exact go_zret C hr rfl ⟨_, rfl, hw⟩ dX12_isVowel_39
    · replace hw := hw.2 hc
      refine go_iload_n C 0 rfl rfl dX12_isVowel_10 ?_
      refine go_bipush (v := 9) C rfl dX12_isVowel_11 ?_
      refine go_icmp_eq C 34 rfl dX12_isVowel_13 (fun hc => ?_) (fun hc => ?_)
      · replace hw := hw.1 hc
        refine go_iconst (v := 1) C rfl dX12_isVowel_34 ?_
        refine go_goto C 39 rfl dX12_isVowel_35 ?_
        exact go_zret C hr rfl ⟨_, rfl, hw⟩ dX12_isVowel_39
      · replace hw := hw.2 hc
        refine go_iload_n C 0 rfl rfl dX12_isVowel_16 ?_
        refine go_bipush (v := 15) C rfl dX12_isVowel_17 ?_
        refine go_icmp_eq C 34 rfl dX12_isVowel_19 (fun hc => ?_) (fun hc => ?_)
        · replace hw := hw.1 hc
          refine go_iconst (v := 1) C rfl dX12_isVowel_34 ?_
          refine go_goto C 39 rfl dX12_isVowel_35 ?_
          exact go_zret C hr rfl ⟨_, rfl, hw⟩ dX12_isVowel_39
        · replace hw := hw.2 hc
          refine go_iload_n C 0 rfl rfl dX12_isVowel_22 ?_
          refine go_bipush (v := 21) C rfl dX12_isVowel_23 ?_
          refine go_icmp_eq C 34 rfl dX12_isVowel_25 (fun hc => ?_) (fun hc => ?_)
          · replace hw := hw.1 hc
            refine go_iconst (v := 1) C rfl dX12_isVowel_34 ?_
            refine go_goto C 39 rfl dX12_isVowel_35 ?_
            exact go_zret C hr rfl ⟨_, rfl, hw⟩ dX12_isVowel_39
          · replace hw := hw.2 hc
            refine go_iload_n C 0 rfl rfl dX12_isVowel_28 ?_
            refine go_bipush (v := 25) C rfl dX12_isVowel_29 ?_
            refine go_icmp_ne C 38 rfl dX12_isVowel_31 (fun hc => ?_) (fun hc => ?_)
            · replace hw := hw.1 hc
              refine go_iconst (v := 0) C rfl dX12_isVowel_38 ?_
              exact go_zret C hr rfl ⟨_, rfl, hw⟩ dX12_isVowel_39
            · replace hw := hw.2 hc
              refine go_iconst (v := 1) C rfl dX12_isVowel_34 ?_
              refine go_goto C 39 rfl dX12_isVowel_35 ?_
              exact go_zret C hr rfl ⟨_, rfl, hw⟩ dX12_isVowel_39
