-- CradleNames$Trails.shortestSpan(II)I
set_option maxRecDepth 20000 in
set_option maxHeartbeats 4000000 in
theorem gbX10_shortestSpan_16 {X : XT} {G : GT} {l : Launch} {d : Nat}  {post : Int32 → St → Prop} (C : Cx X G cX10_shortestSpan RX10) (hr : Rt X G (some .int) (fun v τ => ∃ r : Int32, v = some (.int r) ∧ post r τ)) (hR : Rm X l d) (hnl : X.2.2.2.2.2.2.2.2.2.2.1 = 5)  (hd : 4 ≤ d) (hN : 75 ≤ G.2.2.2.2.2)   
    : ∀ (n : Nat) (v1 : Int32) (v2 : Int32) (v3 : Int32) (v4 : Int32) (σ : St), wbX10_shortestSpan_16   post n v1 v2 v3 v4 σ → Go X G 16 [(0, .ref (G.2.2.1 52)), (1, .int v1), (2, .int v2), (3, .int v3), (4, .int v4)] [] σ := by
  intro n
  induction n with
  | zero => intro v1 v2 v3 v4 σ hw; exact hw.elim
  | succ n ih =>
    intro v1 v2 v3 v4 σ hw
    have hw : ((v3 ≤ v4 →
      post v3 σ) ∧
    (¬ v3 ≤ v4 →
      wpX10_spanStart v1 v2 v4 σ (fun r_1 σ_2 =>
      ((r_1 = (-1000) →
        ∀ v4_3 : Int32, v4_3 = v4 + 1 →
        wbX10_shortestSpan_16 post n v1 v2 v3 v4_3 σ_2) ∧
      (¬ r_1 = (-1000) →
        post v4 σ_2))))) := hw
    refine go_iload C 4 rfl dX10_shortestSpan_16 ?_
    refine go_iload_n C 3 rfl rfl dX10_shortestSpan_18 ?_
    refine go_icmp_ge C 45 rfl dX10_shortestSpan_19 (fun hc => ?_) (fun hc => ?_)
    · replace hw := hw.1 hc
      refine go_iload_n C 3 rfl rfl dX10_shortestSpan_45 ?_
      exact go_iret C hr ⟨_, rfl, hw⟩ dX10_shortestSpan_46
    · replace hw := hw.2 hc
      refine go_aload_n C 0 rfl rfl dX10_shortestSpan_22 ?_
      refine go_iload_n C 1 rfl rfl dX10_shortestSpan_23 ?_
      refine go_iload_n C 2 rfl rfl dX10_shortestSpan_24 ?_
      refine go_iload C 4 rfl dX10_shortestSpan_25 ?_
      refine go_callV (as := [.int v1, .int v2, .int v4]) C hR (shX10 G) (ltX10 hN) cwX10_129 (Nat.le_trans (by decide) hd) (by decide) rfl rfl (Nat.le_of_ble_eq_true rfl) dX10_shortestSpan_27 (spX10_spanStart (Nat.le_refl _) hN hw) (fun v_ τ_ hw => ?_)
      obtain ⟨r_1, rfl, hw⟩ := hw
      obtain ⟨σ_2, rfl⟩ : ∃ z, z = τ_ := ⟨_, rfl⟩
      refine go_sipush (v := (-1000)) C rfl dX10_shortestSpan_30 ?_
      refine go_icmp_eq C 39 rfl dX10_shortestSpan_33 (fun hc => ?_) (fun hc => ?_)
      · replace hw := hw.1 hc
        obtain ⟨v4_3, ev4_3⟩ : ∃ z : Int32, z = v4 + 1 := ⟨_, rfl⟩
        replace hw := hw v4_3 ev4_3
        refine go_iinc (v := v4_3) (lv2 := [(4, .int v4_3), (0, .ref (G.2.2.1 52)), (1, .int v1), (2, .int v2), (3, .int v3)]) C 4 rfl (by rw [ev4_3]; rfl) (by rw [hnl]; decide) rfl dX10_shortestSpan_39 ?_
        refine go_goto C 16 rfl dX10_shortestSpan_42 ?_
        refine go_sub [1, 2, 3, 4, 0] rfl ?_
        exact ih _ _ _ _ _ hw
      · replace hw := hw.2 hc
        refine go_iload C 4 rfl dX10_shortestSpan_36 ?_
        exact go_iret C hr ⟨_, rfl, hw⟩ dX10_shortestSpan_38
set_option maxRecDepth 20000 in
set_option maxHeartbeats 4000000 in
theorem spX10_shortestSpan {l : Launch} {G : GT} {d : Nat}  (hd : 4 ≤ d)  (hN : 75 ≤ G.2.2.2.2.2)  {a1 : Int32} {a2 : Int32} {σ : St} {post : Int32 → St → Prop} (hw : wpX10_shortestSpan  a1 a2 σ post) : Sp l G d yX10_shortestSpan cX10_shortestSpan 5 (some .int) [.ref (G.2.2.1 52), .int a1, .int a2] σ (fun v τ => ∃ r : Int32, v = some (.int r) ∧ post r τ) := by
  refine Sp.of (by decide) (Nat.le_of_ble_eq_true rfl) fun X C hr hR hnl => ?_
  show Go X G 0 [(0, .ref (G.2.2.1 52)), (1, .int a1), (2, .int a2)] [] σ
  have hw : wpX10_firstLiving  σ (fun r_1 σ_2 =>
  ∀ v3_3 : Int32, v3_3 = ((gI σ 9 0) - r_1) →
  ∃ m_16, wbX10_shortestSpan_16 post m_16 a1 a2 v3_3 1 σ_2) := hw
  refine go_aload_n C 0 rfl rfl dX10_shortestSpan_0 ?_
  refine go_get (v := .ref (G.2.2.1 9)) C (shX10 G) (ltX10 hN) lkX10_37 rfl dX10_shortestSpan_1 ?_
  refine go_get (v := .int (gI σ 9 0)) C (shX4 G) (ltX4 hN) lkX10_57 rfl dX10_shortestSpan_4 ?_
  refine go_aload_n C 0 rfl rfl dX10_shortestSpan_7 ?_
  refine go_callV (as := []) C hR (shX10 G) (ltX10 hN) cwX10_125 (Nat.le_trans (by decide) hd) (by decide) rfl rfl (Nat.le_of_ble_eq_true rfl) dX10_shortestSpan_8 (spX10_firstLiving (Nat.le_refl _) hN hw) (fun v_ τ_ hw => ?_)
  obtain ⟨r_1, rfl, hw⟩ := hw
  obtain ⟨σ_2, rfl⟩ : ∃ z, z = τ_ := ⟨_, rfl⟩
  refine go_isub C dX10_shortestSpan_11 ?_
  refine go_topi (fun v3_3 ev3_3 => ?_)
  replace hw := hw v3_3 ev3_3
  refine go_istore_n (lv2 := [(3, .int v3_3), (0, .ref (G.2.2.1 52)), (1, .int a1), (2, .int a2)]) C rfl (by rw [hnl]; decide) rfl dX10_shortestSpan_12 ?_
  refine go_iconst (v := 1) C rfl dX10_shortestSpan_13 ?_
  refine go_istore (lv2 := [(4, .int 1), (3, .int v3_3), (0, .ref (G.2.2.1 52)), (1, .int a1), (2, .int a2)]) C (by rw [hnl]; decide) rfl dX10_shortestSpan_14 ?_
  refine go_sub [2, 3, 4, 1, 0] rfl ?_
  obtain ⟨n_0, hw⟩ := hw
  exact (gbX10_shortestSpan_16 C hr hR hnl hd hN) n_0 _ _ _ _ _ hw
-- CradleNames$Trails.likeliestPlace(I)I
set_option maxRecDepth 20000 in
set_option maxHeartbeats 4000000 in
theorem gbX10_likeliestPlace_27 {X : XT} {G : GT} {l : Launch} {d : Nat}  {post : Int32 → St → Prop} (C : Cx X G cX10_likeliestPlace RX10) (hr : Rt X G (some .int) (fun v τ => ∃ r : Int32, v = some (.int r) ∧ post r τ)) (hR : Rm X l d) (hnl : X.2.2.2.2.2.2.2.2.2.2.1 = 14)  (hd : 3 ≤ d) (hN : 75 ≤ G.2.2.2.2.2)   
    : ∀ (n : Nat) (v1 : Int32) (v2 : Int32) (v3 : Int32) (v4 : Int32) (v5 : Int64) (v7 : Int64) (v9 : Int32) (σ : St), wbX10_likeliestPlace_27   post n v1 v2 v3 v4 v5 v7 v9 σ → Go X G 27 [(0, .ref (G.2.2.1 52)), (1, .int v1), (2, .int v2), (3, .int v3), (4, .int v4), (5, .long v5), (7, .long v7), (9, .int v9)] [] σ := by
  intro n
  induction n with
  | zero => intro v1 v2 v3 v4 v5 v7 v9 σ hw; exact hw.elim
  | succ n ih =>
    intro v1 v2 v3 v4 v5 v7 v9 σ hw
    have hw : ((3 ≤ v9 →
      post v4 σ) ∧
    (¬ 3 ≤ v9 →
      wpX0_between 0 (0 + v9) v1 v2 v3 σ (fun r_1 σ_2 =>
      ∀ v10_3 : Int64, v10_3 = r_1.toInt64 →
      wpX0_groupTotal 0 (0 + v9) v2 v3 σ_2 (fun r_4 σ_5 =>
      ∀ v12_6 : Int64, v12_6 = r_4.toInt64 →
      (((v10_3 * v7) ≤ (v5 * v12_6) →
        ∀ v9_7 : Int32, v9_7 = v9 + 1 →
        wbX10_likeliestPlace_27 post n v1 v2 v3 v4 v5 v7 v9_7 σ_5) ∧
      (¬ (v10_3 * v7) ≤ (v5 * v12_6) →
        ∀ v9_8 : Int32, v9_8 = v9 + 1 →
        wbX10_likeliestPlace_27 post n v1 v2 v3 v9 v10_3 v12_6 v9_8 σ_5)))))) := hw
    refine go_iload C 7 rfl dX10_likeliestPlace_27 ?_
    refine go_iconst (v := 3) C rfl dX10_likeliestPlace_29 ?_
    refine go_icmp_ge C 98 rfl dX10_likeliestPlace_30 (fun hc => ?_) (fun hc => ?_)
    · replace hw := hw.1 hc
      refine go_iload C 4 rfl dX10_likeliestPlace_98 ?_
      exact go_iret C hr ⟨_, rfl, hw⟩ dX10_likeliestPlace_100
    · replace hw := hw.2 hc
      refine go_aload_n C 0 rfl rfl dX10_likeliestPlace_33 ?_
      refine go_get (v := .ref (G.2.2.1 (21 + 4 * 0))) C (shX10 G) (ltX10 hN) lkX10_41 rfl dX10_likeliestPlace_34 ?_
      refine go_iconst (v := 0) C rfl dX10_likeliestPlace_37 ?_
      refine go_iload C 7 rfl dX10_likeliestPlace_38 ?_
      refine go_iadd C dX10_likeliestPlace_40 ?_
      refine go_iload_n C 1 rfl rfl dX10_likeliestPlace_41 ?_
      refine go_iload_n C 2 rfl rfl dX10_likeliestPlace_42 ?_
      refine go_iload_n C 3 rfl rfl dX10_likeliestPlace_43 ?_
      refine go_callV (as := [.int (0 + v9), .int v1, .int v2, .int v3]) C hR (shX0 G (show 0 < 2 by decide)) (ltX0 hN (show 0 < 2 by decide)) cwX10_45 (Nat.le_trans (by decide) hd) (by decide) rfl rfl (Nat.le_of_ble_eq_true rfl) dX10_likeliestPlace_44 (spX0_between (Nat.le_refl _) hN (show 0 < 2 by decide) hw) (fun v_ τ_ hw => ?_)
      obtain ⟨r_1, rfl, hw⟩ := hw
      obtain ⟨σ_2, rfl⟩ : ∃ z, z = τ_ := ⟨_, rfl⟩
      refine go_i2l C dX10_likeliestPlace_47 ?_
      refine go_topl (fun v10_3 ev10_3 => ?_)
      replace hw := hw v10_3 ev10_3
      refine go_lstore (lv2 := [(10, .long v10_3), (0, .ref (G.2.2.1 52)), (1, .int v1), (2, .int v2), (3, .int v3), (4, .int v4), (5, .long v5), (7, .long v7), (9, .int v9)]) C (by rw [hnl]; decide) rfl dX10_likeliestPlace_48 ?_
      refine go_aload_n C 1 rfl rfl dX10_likeliestPlace_50 ?_
      refine go_get (v := .ref (G.2.2.1 (21 + 4 * 0))) C (shX10 G) (ltX10 hN) lkX10_41 rfl dX10_likeliestPlace_51 ?_
      refine go_iconst (v := 0) C rfl dX10_likeliestPlace_54 ?_
      refine go_iload C 8 rfl dX10_likeliestPlace_55 ?_
      refine go_iadd C dX10_likeliestPlace_57 ?_
      refine go_iload_n C 3 rfl rfl dX10_likeliestPlace_58 ?_
      refine go_iload_n C 4 rfl rfl dX10_likeliestPlace_59 ?_
      refine go_callV (as := [.int (0 + v9), .int v2, .int v3]) C hR (shX0 G (show 0 < 2 by decide)) (ltX0 hN (show 0 < 2 by decide)) cwX10_86 (Nat.le_trans (by decide) hd) (by decide) rfl rfl (Nat.le_of_ble_eq_true rfl) dX10_likeliestPlace_60 (spX0_groupTotal (Nat.le_refl _) hN (show 0 < 2 by decide) hw) (fun v_ τ_ hw => ?_)
      obtain ⟨r_4, rfl, hw⟩ := hw
      obtain ⟨σ_5, rfl⟩ : ∃ z, z = τ_ := ⟨_, rfl⟩
      refine go_i2l C dX10_likeliestPlace_63 ?_
      refine go_topl (fun v12_6 ev12_6 => ?_)
      replace hw := hw v12_6 ev12_6
      refine go_lstore (lv2 := [(12, .long v12_6), (10, .long v10_3), (0, .ref (G.2.2.1 52)), (1, .int v1), (2, .int v2), (3, .int v3), (4, .int v4), (5, .long v5), (7, .long v7), (9, .int v9)]) C (by rw [hnl]; decide) rfl dX10_likeliestPlace_64 ?_
      refine go_lload C 1 rfl dX10_likeliestPlace_66 ?_
      refine go_lload C 8 rfl dX10_likeliestPlace_68 ?_
      refine go_lmul C dX10_likeliestPlace_70 ?_
      refine go_lload C 7 rfl dX10_likeliestPlace_71 ?_
      refine go_lload C 0 rfl dX10_likeliestPlace_73 ?_
      refine go_lmul C dX10_likeliestPlace_75 ?_
      refine go_lc_le C 92 rfl dX10_likeliestPlace_76 dX10_likeliestPlace_77 (fun hc => ?_) (fun hc => ?_)
      · replace hw := hw.1 hc
        obtain ⟨v9_7, ev9_7⟩ : ∃ z : Int32, z = v9 + 1 := ⟨_, rfl⟩
        replace hw := hw v9_7 ev9_7
        refine go_iinc (v := v9_7) (lv2 := [(9, .int v9_7), (12, .long v12_6), (10, .long v10_3), (0, .ref (G.2.2.1 52)), (1, .int v1), (2, .int v2), (3, .int v3), (4, .int v4), (5, .long v5), (7, .long v7)]) C 9 rfl (by rw [ev9_7]; rfl) (by rw [hnl]; decide) rfl dX10_likeliestPlace_92 ?_
        refine go_goto C 27 rfl dX10_likeliestPlace_95 ?_
        refine go_sub [3, 4, 5, 6, 7, 8, 9, 0] rfl ?_
        exact ih _ _ _ _ _ _ _ _ hw
      · replace hw := hw.2 hc
        refine go_iload C 9 rfl dX10_likeliestPlace_80 ?_
        refine go_istore (lv2 := [(4, .int v9), (12, .long v12_6), (10, .long v10_3), (0, .ref (G.2.2.1 52)), (1, .int v1), (2, .int v2), (3, .int v3), (5, .long v5), (7, .long v7), (9, .int v9)]) C (by rw [hnl]; decide) rfl dX10_likeliestPlace_82 ?_
        refine go_lload C 2 rfl dX10_likeliestPlace_84 ?_
        refine go_lstore (lv2 := [(5, .long v10_3), (4, .int v9), (12, .long v12_6), (10, .long v10_3), (0, .ref (G.2.2.1 52)), (1, .int v1), (2, .int v2), (3, .int v3), (7, .long v7), (9, .int v9)]) C (by rw [hnl]; decide) rfl dX10_likeliestPlace_86 ?_
        refine go_lload C 2 rfl dX10_likeliestPlace_88 ?_
        refine go_lstore (lv2 := [(7, .long v12_6), (5, .long v10_3), (4, .int v9), (12, .long v12_6), (10, .long v10_3), (0, .ref (G.2.2.1 52)), (1, .int v1), (2, .int v2), (3, .int v3), (9, .int v9)]) C (by rw [hnl]; decide) rfl dX10_likeliestPlace_90 ?_
        obtain ⟨v9_8, ev9_8⟩ : ∃ z : Int32, z = v9 + 1 := ⟨_, rfl⟩
        replace hw := hw v9_8 ev9_8
        refine go_iinc (v := v9_8) (lv2 := [(9, .int v9_8), (7, .long v12_6), (5, .long v10_3), (4, .int v9), (12, .long v12_6), (10, .long v10_3), (0, .ref (G.2.2.1 52)), (1, .int v1), (2, .int v2), (3, .int v3)]) C 9 rfl (by rw [ev9_8]; rfl) (by rw [hnl]; decide) rfl dX10_likeliestPlace_92 ?_
        refine go_goto C 27 rfl dX10_likeliestPlace_95 ?_
        refine go_sub [6, 7, 8, 9, 3, 2, 1, 0] rfl ?_
        exact ih _ _ _ _ _ _ _ _ hw
set_option maxRecDepth 20000 in
set_option maxHeartbeats 4000000 in
theorem spX10_likeliestPlace {l : Launch} {G : GT} {d : Nat}  (hd : 3 ≤ d)  (hN : 75 ≤ G.2.2.2.2.2)  {a1 : Int32} {σ : St} {post : Int32 → St → Prop} (hw : wpX10_likeliestPlace  a1 σ post) : Sp l G d yX10_likeliestPlace cX10_likeliestPlace 14 (some .int) [.ref (G.2.2.1 52), .int a1] σ (fun v τ => ∃ r : Int32, v = some (.int r) ∧ post r τ) := by
  refine Sp.of (by decide) (Nat.le_of_ble_eq_true rfl) fun X C hr hR hnl => ?_
  show Go X G 0 [(0, .ref (G.2.2.1 52)), (1, .int a1)] [] σ
  have hw : wpX10_firstLiving  σ (fun r_1 σ_2 =>
  ∀ v3_3 : Int32, v3_3 = ((gI σ_2 9 0) - 1) →
  ∃ m_27, wbX10_likeliestPlace_27 post m_27 a1 r_1 v3_3 (-1) 0 1 0 σ_2) := hw
  refine go_aload_n C 0 rfl rfl dX10_likeliestPlace_0 ?_
  refine go_callV (as := []) C hR (shX10 G) (ltX10 hN) cwX10_125 (Nat.le_trans (by decide) hd) (by decide) rfl rfl (Nat.le_of_ble_eq_true rfl) dX10_likeliestPlace_1 (spX10_firstLiving (Nat.le_refl _) hN hw) (fun v_ τ_ hw => ?_)
  obtain ⟨r_1, rfl, hw⟩ := hw
  obtain ⟨σ_2, rfl⟩ : ∃ z, z = τ_ := ⟨_, rfl⟩
  refine go_istore_n (lv2 := [(2, .int r_1), (0, .ref (G.2.2.1 52)), (1, .int a1)]) C rfl (by rw [hnl]; decide) rfl dX10_likeliestPlace_4 ?_
  refine go_aload_n C 1 rfl rfl dX10_likeliestPlace_5 ?_
  refine go_get (v := .ref (G.2.2.1 9)) C (shX10 G) (ltX10 hN) lkX10_37 rfl dX10_likeliestPlace_6 ?_
  refine go_get (v := .int (gI σ_2 9 0)) C (shX4 G) (ltX4 hN) lkX10_57 rfl dX10_likeliestPlace_9 ?_
  refine go_iconst (v := 1) C rfl dX10_likeliestPlace_12 ?_
  refine go_isub C dX10_likeliestPlace_13 ?_
  refine go_topi (fun v3_3 ev3_3 => ?_)
  replace hw := hw v3_3 ev3_3
  refine go_istore_n (lv2 := [(3, .int v3_3), (2, .int r_1), (0, .ref (G.2.2.1 52)), (1, .int a1)]) C rfl (by rw [hnl]; decide) rfl dX10_likeliestPlace_14 ?_
  refine go_iconst (v := (-1)) C rfl dX10_likeliestPlace_15 ?_
  refine go_istore (lv2 := [(4, .int (-1)), (3, .int v3_3), (2, .int r_1), (0, .ref (G.2.2.1 52)), (1, .int a1)]) C (by rw [hnl]; decide) rfl dX10_likeliestPlace_16 ?_
  refine go_lconst (v := 0) C rfl dX10_likeliestPlace_18 ?_
  refine go_lstore (lv2 := [(5, .long 0), (4, .int (-1)), (3, .int v3_3), (2, .int r_1), (0, .ref (G.2.2.1 52)), (1, .int a1)]) C (by rw [hnl]; decide) rfl dX10_likeliestPlace_19 ?_
  refine go_lconst (v := 1) C rfl dX10_likeliestPlace_21 ?_
  refine go_lstore (lv2 := [(7, .long 1), (5, .long 0), (4, .int (-1)), (3, .int v3_3), (2, .int r_1), (0, .ref (G.2.2.1 52)), (1, .int a1)]) C (by rw [hnl]; decide) rfl dX10_likeliestPlace_22 ?_
  refine go_iconst (v := 0) C rfl dX10_likeliestPlace_24 ?_
  refine go_istore (lv2 := [(9, .int 0), (7, .long 1), (5, .long 0), (4, .int (-1)), (3, .int v3_3), (2, .int r_1), (0, .ref (G.2.2.1 52)), (1, .int a1)]) C (by rw [hnl]; decide) rfl dX10_likeliestPlace_25 ?_
  refine go_sub [6, 7, 5, 4, 3, 2, 1, 0] rfl ?_
  obtain ⟨n_0, hw⟩ := hw
  exact (gbX10_likeliestPlace_27 C hr hR hnl hd hN) n_0 _ _ _ _ _ _ _ _ hw
-- CradleNames$Trails.foremost(II)I
set_option maxRecDepth 20000 in
set_option maxHeartbeats 4000000 in
theorem gbX10_foremost_20 {X : XT} {G : GT} {l : Launch} {d : Nat}  {post : Int32 → St → Prop} (C : Cx X G cX10_foremost RX10) (hr : Rt X G (some .int) (fun v τ => ∃ r : Int32, v = some (.int r) ∧ post r τ)) (hR : Rm X l d) (hnl : X.2.2.2.2.2.2.2.2.2.2.1 = 9)  (hd : 3 ≤ d) (hN : 75 ≤ G.2.2.2.2.2)  {K5 : Int32 → Int32 → Int32 → Int32 → St → Prop} (hK5 : ∀ (v1 : Int32) (v2 : Int32) (v3 : Int32) (v4 : Int32) (σ : St), K5 v1 v2 v3 v4 σ → Go X G 5 [(0, .ref (G.2.2.1 52)), (1, .int v1), (2, .int v2), (3, .int v3), (4, .int v4)] [] σ)
    : ∀ (n : Nat) (v1 : Int32) (v2 : Int32) (v3 : Int32) (v4 : Int32) (v5 : Int32) (v6 : Int32) (v7 : Int32) (σ : St), wbX10_foremost_20  K5 post n v1 v2 v3 v4 v5 v6 v7 σ → Go X G 20 [(0, .ref (G.2.2.1 52)), (1, .int v1), (2, .int v2), (3, .int v3), (4, .int v4), (5, .int v5), (6, .int v6), (7, .int v7)] [] σ := by
  intro n
  induction n with
  | zero => intro v1 v2 v3 v4 v5 v6 v7 σ hw; exact hw.elim
  | succ n ih =>
    intro v1 v2 v3 v4 v5 v6 v7 σ hw
    have hw : (((gI σ 1 0) ≤ v7 →
      ((¬ v5 = (-1) →
        ∀ v3_1 : Int32, v3_1 = (v3 ||| (1 <<< (v5 &&& 31))) →
        ∀ v4_2 : Int32, v4_2 = v4 + 1 →
        K5 v1 v2 v3_1 v4_2 σ) ∧
      (v5 = (-1) →
        post v3 σ))) ∧
    (¬ (gI σ 1 0) ≤ v7 →
      wpX10_in v7 v1 σ (fun r_3 σ_4 =>
      ((¬ ((v3 >>> (v7 &&& 31)) &&& 1) = 0 →
        ∀ v7_5 : Int32, v7_5 = v7 + 1 →
        wbX10_foremost_20 K5 post n v1 v2 v3 v4 v5 v6 v7_5 σ_4) ∧
      (((v3 >>> (v7 &&& 31)) &&& 1) = 0 →
        ((r_3 ≤ v6 →
          ∀ v7_6 : Int32, v7_6 = v7 + 1 →
          wbX10_foremost_20 K5 post n v1 v2 v3 v4 v5 v6 v7_6 σ_4) ∧
        (¬ r_3 ≤ v6 →
          ∀ v7_7 : Int32, v7_7 = v7 + 1 →
          wbX10_foremost_20 K5 post n v1 v2 v3 v4 v7 r_3 v7_7 σ_4))))))) := hw
    refine go_iload C 7 rfl dX10_foremost_20 ?_
    refine go_aload_n C 0 rfl rfl dX10_foremost_22 ?_
    refine go_get (v := .ref (G.2.2.1 1)) C (shX10 G) (ltX10 hN) lkX10_33 rfl dX10_foremost_23 ?_
    refine go_get (v := .int (gI σ 1 0)) C (shX5 G) (ltX5 hN) lkX10_68 rfl dX10_foremost_26 ?_
    refine go_icmp_ge C 71 rfl dX10_foremost_29 (fun hc => ?_) (fun hc => ?_)
    · replace hw := hw.1 hc
      refine go_iload C 5 rfl dX10_foremost_71 ?_
      refine go_iconst (v := (-1)) C rfl dX10_foremost_73 ?_
      refine go_icmp_ne C 79 rfl dX10_foremost_74 (fun hc => ?_) (fun hc => ?_)
      · replace hw := hw.1 hc
        refine go_iload_n C 3 rfl rfl dX10_foremost_79 ?_
        refine go_iconst (v := 1) C rfl dX10_foremost_80 ?_
        refine go_iload C 5 rfl dX10_foremost_81 ?_
        refine go_ishl C dX10_foremost_83 ?_
        refine go_ior C dX10_foremost_84 ?_
        refine go_topi (fun v3_1 ev3_1 => ?_)
        replace hw := hw v3_1 ev3_1
        refine go_istore_n (lv2 := [(3, .int v3_1), (0, .ref (G.2.2.1 52)), (1, .int v1), (2, .int v2), (4, .int v4), (5, .int v5), (6, .int v6), (7, .int v7)]) C rfl (by rw [hnl]; decide) rfl dX10_foremost_85 ?_
        obtain ⟨v4_2, ev4_2⟩ : ∃ z : Int32, z = v4 + 1 := ⟨_, rfl⟩
        replace hw := hw v4_2 ev4_2
        refine go_iinc (v := v4_2) (lv2 := [(4, .int v4_2), (3, .int v3_1), (0, .ref (G.2.2.1 52)), (1, .int v1), (2, .int v2), (5, .int v5), (6, .int v6), (7, .int v7)]) C 4 rfl (by rw [ev4_2]; rfl) (by rw [hnl]; decide) rfl dX10_foremost_86 ?_
        refine go_goto C 5 rfl dX10_foremost_89 ?_
        refine go_sub [2, 3, 4, 1, 0] rfl ?_
        exact hK5 _ _ _ _ _ hw
      · replace hw := hw.2 hc
        refine go_iload_n C 3 rfl rfl dX10_foremost_77 ?_
        exact go_iret C hr ⟨_, rfl, hw⟩ dX10_foremost_78
    · replace hw := hw.2 hc
      refine go_aload_n C 0 rfl rfl dX10_foremost_32 ?_
      refine go_iload C 7 rfl dX10_foremost_33 ?_
      refine go_iload_n C 1 rfl rfl dX10_foremost_35 ?_
      refine go_callV (as := [.int v7, .int v1]) C hR (shX10 G) (ltX10 hN) cwX10_60 (Nat.le_trans (by decide) hd) (by decide) rfl rfl (Nat.le_of_ble_eq_true rfl) dX10_foremost_36 (spX10_in (Nat.le_refl _) hN hw) (fun v_ τ_ hw => ?_)
      obtain ⟨r_3, rfl, hw⟩ := hw
      obtain ⟨σ_4, rfl⟩ : ∃ z, z = τ_ := ⟨_, rfl⟩
      refine go_istore (lv2 := [(8, .int r_3), (0, .ref (G.2.2.1 52)), (1, .int v1), (2, .int v2), (3, .int v3), (4, .int v4), (5, .int v5), (6, .int v6), (7, .int v7)]) C (by rw [hnl]; decide) rfl dX10_foremost_39 ?_
      refine go_iload_n C 4 rfl rfl dX10_foremost_41 ?_
      refine go_iload C 8 rfl dX10_foremost_42 ?_
      refine go_ishr C dX10_foremost_44 ?_
      refine go_iconst (v := 1) C rfl dX10_foremost_45 ?_
      refine go_iand C dX10_foremost_46 ?_
      refine go_if_ne C 65 rfl dX10_foremost_47 (fun hc => ?_) (fun hc => ?_)
      · replace hw := hw.1 hc
        obtain ⟨v7_5, ev7_5⟩ : ∃ z : Int32, z = v7 + 1 := ⟨_, rfl⟩
        replace hw := hw v7_5 ev7_5
        refine go_iinc (v := v7_5) (lv2 := [(7, .int v7_5), (8, .int r_3), (0, .ref (G.2.2.1 52)), (1, .int v1), (2, .int v2), (3, .int v3), (4, .int v4), (5, .int v5), (6, .int v6)]) C 8 rfl (by rw [ev7_5]; rfl) (by rw [hnl]; decide) rfl dX10_foremost_65 ?_
        refine go_goto C 20 rfl dX10_foremost_68 ?_
        refine go_sub [2, 3, 4, 5, 6, 7, 8, 0] rfl ?_
        exact ih _ _ _ _ _ _ _ _ hw
      · replace hw := hw.2 hc
        refine go_iload C 0 rfl dX10_foremost_50 ?_
        refine go_iload C 7 rfl dX10_foremost_52 ?_
        refine go_icmp_le C 65 rfl dX10_foremost_54 (fun hc => ?_) (fun hc => ?_)
        · replace hw := hw.1 hc
          obtain ⟨v7_6, ev7_6⟩ : ∃ z : Int32, z = v7 + 1 := ⟨_, rfl⟩
          replace hw := hw v7_6 ev7_6
          refine go_iinc (v := v7_6) (lv2 := [(7, .int v7_6), (8, .int r_3), (0, .ref (G.2.2.1 52)), (1, .int v1), (2, .int v2), (3, .int v3), (4, .int v4), (5, .int v5), (6, .int v6)]) C 8 rfl (by rw [ev7_6]; rfl) (by rw [hnl]; decide) rfl dX10_foremost_65 ?_
          refine go_goto C 20 rfl dX10_foremost_68 ?_
          refine go_sub [2, 3, 4, 5, 6, 7, 8, 0] rfl ?_
          exact ih _ _ _ _ _ _ _ _ hw
        · replace hw := hw.2 hc
          refine go_iload C 8 rfl dX10_foremost_57 ?_
          refine go_istore (lv2 := [(5, .int v7), (8, .int r_3), (0, .ref (G.2.2.1 52)), (1, .int v1), (2, .int v2), (3, .int v3), (4, .int v4), (6, .int v6), (7, .int v7)]) C (by rw [hnl]; decide) rfl dX10_foremost_59 ?_
          refine go_iload C 1 rfl dX10_foremost_61 ?_
          refine go_istore (lv2 := [(6, .int r_3), (5, .int v7), (8, .int r_3), (0, .ref (G.2.2.1 52)), (1, .int v1), (2, .int v2), (3, .int v3), (4, .int v4), (7, .int v7)]) C (by rw [hnl]; decide) rfl dX10_foremost_63 ?_
          obtain ⟨v7_7, ev7_7⟩ : ∃ z : Int32, z = v7 + 1 := ⟨_, rfl⟩
          replace hw := hw v7_7 ev7_7
          refine go_iinc (v := v7_7) (lv2 := [(7, .int v7_7), (6, .int r_3), (5, .int v7), (8, .int r_3), (0, .ref (G.2.2.1 52)), (1, .int v1), (2, .int v2), (3, .int v3), (4, .int v4)]) C 8 rfl (by rw [ev7_7]; rfl) (by rw [hnl]; decide) rfl dX10_foremost_65 ?_
          refine go_goto C 20 rfl dX10_foremost_68 ?_
          refine go_sub [4, 5, 6, 7, 8, 2, 1, 0] rfl ?_
          exact ih _ _ _ _ _ _ _ _ hw
set_option maxRecDepth 20000 in
set_option maxHeartbeats 4000000 in
theorem gbX10_foremost_5 {X : XT} {G : GT} {l : Launch} {d : Nat}  {post : Int32 → St → Prop} (C : Cx X G cX10_foremost RX10) (hr : Rt X G (some .int) (fun v τ => ∃ r : Int32, v = some (.int r) ∧ post r τ)) (hR : Rm X l d) (hnl : X.2.2.2.2.2.2.2.2.2.2.1 = 9)  (hd : 3 ≤ d) (hN : 75 ≤ G.2.2.2.2.2)   
    : ∀ (n : Nat) (v1 : Int32) (v2 : Int32) (v3 : Int32) (v4 : Int32) (σ : St), wbX10_foremost_5   post n v1 v2 v3 v4 σ → Go X G 5 [(0, .ref (G.2.2.1 52)), (1, .int v1), (2, .int v2), (3, .int v3), (4, .int v4)] [] σ := by
  intro n
  induction n with
  | zero => intro v1 v2 v3 v4 σ hw; exact hw.elim
  | succ n ih =>
    intro v1 v2 v3 v4 σ hw
    have hw : ((v2 ≤ v4 →
      post v3 σ) ∧
    (¬ v2 ≤ v4 →
      ∃ m_20, wbX10_foremost_20 (wbX10_foremost_5 post n) post m_20 v1 v2 v3 v4 (-1) 0 0 σ)) := hw
    refine go_iload C 4 rfl dX10_foremost_5 ?_
    refine go_iload_n C 2 rfl rfl dX10_foremost_7 ?_
    refine go_icmp_ge C 92 rfl dX10_foremost_8 (fun hc => ?_) (fun hc => ?_)
    · replace hw := hw.1 hc
      refine go_iload_n C 3 rfl rfl dX10_foremost_92 ?_
      exact go_iret C hr ⟨_, rfl, hw⟩ dX10_foremost_93
    · replace hw := hw.2 hc
      refine go_iconst (v := (-1)) C rfl dX10_foremost_11 ?_
      refine go_istore (lv2 := [(5, .int (-1)), (0, .ref (G.2.2.1 52)), (1, .int v1), (2, .int v2), (3, .int v3), (4, .int v4)]) C (by rw [hnl]; decide) rfl dX10_foremost_12 ?_
      refine go_iconst (v := 0) C rfl dX10_foremost_14 ?_
      refine go_istore (lv2 := [(6, .int 0), (5, .int (-1)), (0, .ref (G.2.2.1 52)), (1, .int v1), (2, .int v2), (3, .int v3), (4, .int v4)]) C (by rw [hnl]; decide) rfl dX10_foremost_15 ?_
      refine go_iconst (v := 0) C rfl dX10_foremost_17 ?_
      refine go_istore (lv2 := [(7, .int 0), (6, .int 0), (5, .int (-1)), (0, .ref (G.2.2.1 52)), (1, .int v1), (2, .int v2), (3, .int v3), (4, .int v4)]) C (by rw [hnl]; decide) rfl dX10_foremost_18 ?_
      refine go_sub [3, 4, 5, 6, 7, 2, 1, 0] rfl ?_
      obtain ⟨n_0, hw⟩ := hw
      exact (gbX10_foremost_20 C hr hR hnl hd hN ih) n_0 _ _ _ _ _ _ _ _ hw
set_option maxRecDepth 20000 in
set_option maxHeartbeats 4000000 in
theorem spX10_foremost {l : Launch} {G : GT} {d : Nat}  (hd : 3 ≤ d)  (hN : 75 ≤ G.2.2.2.2.2)  {a1 : Int32} {a2 : Int32} {σ : St} {post : Int32 → St → Prop} (hw : wpX10_foremost  a1 a2 σ post) : Sp l G d yX10_foremost cX10_foremost 9 (some .int) [.ref (G.2.2.1 52), .int a1, .int a2] σ (fun v τ => ∃ r : Int32, v = some (.int r) ∧ post r τ) := by
  refine Sp.of (by decide) (Nat.le_of_ble_eq_true rfl) fun X C hr hR hnl => ?_
  show Go X G 0 [(0, .ref (G.2.2.1 52)), (1, .int a1), (2, .int a2)] [] σ
  have hw : ∃ m_5, wbX10_foremost_5 post m_5 a1 a2 0 0 σ := hw
  refine go_iconst (v := 0) C rfl dX10_foremost_0 ?_
  refine go_istore_n (lv2 := [(3, .int 0), (0, .ref (G.2.2.1 52)), (1, .int a1), (2, .int a2)]) C rfl (by rw [hnl]; decide) rfl dX10_foremost_1 ?_
  refine go_iconst (v := 0) C rfl dX10_foremost_2 ?_
  refine go_istore (lv2 := [(4, .int 0), (3, .int 0), (0, .ref (G.2.2.1 52)), (1, .int a1), (2, .int a2)]) C (by rw [hnl]; decide) rfl dX10_foremost_3 ?_
  refine go_sub [2, 3, 4, 1, 0] rfl ?_
  obtain ⟨n_0, hw⟩ := hw
  exact (gbX10_foremost_5 C hr hR hnl hd hN) n_0 _ _ _ _ _ hw
-- CradleNames.within(III)Z
set_option maxRecDepth 20000 in
set_option maxHeartbeats 4000000 in
theorem spX11_within {l : Launch} {G : GT} {d : Nat}  (hd : 1 ≤ d)  (hN : 75 ≤ G.2.2.2.2.2)  {a1 : Int32} {a2 : Int32} {a3 : Int32} {σ : St} {post : Int32 → St → Prop} (hw : wpX11_within  a1 a2 a3 σ post) : Sp l G d yX11_within cX11_within 3 (some .boolean) [.int a1, .int a2, .int a3] σ (fun v τ => ∃ r : Int32, v = some (.int r) ∧ post r τ) := by
  refine Sp.of (by decide) (Nat.le_of_ble_eq_true rfl) fun X C hr hR hnl => ?_
  show Go X G 0 [(0, .int a1), (1, .int a2), (2, .int a3)] [] σ
  have hw : ((a1 < a2 →
    post 0 σ) ∧
  (¬ a1 < a2 →
    ((a3 < a1 →
      post 0 σ) ∧
    (¬ a3 < a1 →
      post 1 σ)))) := hw
  refine go_iload_n C 0 rfl rfl dX11_within_0 ?_
  refine go_iload_n C 1 rfl rfl dX11_within_1 ?_
  refine go_icmp_lt C 14 rfl dX11_within_2 (fun hc => ?_) (fun hc => ?_)
  · replace hw := hw.1 hc
    refine go_iconst (v := 0) C rfl dX11_within_14 ?_
    exact go_zret C hr rfl ⟨_, rfl, hw⟩ dX11_within_15
  · replace hw := hw.2 hc
    refine go_iload_n C 0 rfl rfl dX11_within_5 ?_
    refine go_iload_n C 2 rfl rfl dX11_within_6 ?_
    refine go_icmp_gt C 14 rfl dX11_within_7 (fun hc => ?_) (fun hc => ?_)
    · replace hw := hw.1 hc
      refine go_iconst (v := 0) C rfl dX11_within_14 ?_
      exact go_zret C hr rfl ⟨_, rfl, hw⟩ dX11_within_15
    · replace hw := hw.2 hc
      refine go_iconst (v := 1) C rfl dX11_within_10 ?_
      refine go_goto C 15 rfl dX11_within_11 ?_
      exact go_zret C hr rfl ⟨_, rfl, hw⟩ dX11_within_15
-- CradleNames.name(JI)I
set_option maxRecDepth 20000 in
set_option maxHeartbeats 4000000 in
theorem spX11_name {l : Launch} {G : GT} {d : Nat}  (hd : 7 ≤ d)  (hN : 75 ≤ G.2.2.2.2.2)  {a1 : Int64} {a2 : Int32} {σ : St} {post : Int32 → St → Prop} (hw : wpX11_name  a1 a2 σ post) : Sp l G d yX11_name cX11_name 5 (some .int) [.ref (G.2.2.1 0), .long a1, .int a2] σ (fun v τ => ∃ r : Int32, v = some (.int r) ∧ post r τ) := by
  refine Sp.of (by decide) (Nat.le_of_ble_eq_true rfl) fun X C hr hR hnl => ?_
  show Go X G 0 [(0, .ref (G.2.2.1 0)), (1, .long a1), (3, .int a2)] [] σ
  have hw : wpX5_lengthOf a1 σ (fun r_1 σ_2 =>
  ((r_1 = 0 →
    post (-1) σ_2) ∧
  (¬ r_1 = 0 →
    wpX11_within a2 1 3 σ_2 (fun r_3 σ_4 =>
    ((r_3 = 0 →
      post (-1) σ_4) ∧
    (¬ r_3 = 0 →
      ((16 ≤ (gI σ_4 1 0) →
        post (-1) σ_4) ∧
      (¬ 16 ≤ (gI σ_4 1 0) →
        wpX5_knows a1 σ_4 (fun r_5 σ_6 =>
        ((r_5 = 0 →
          wpX7_forgetRuns  σ_6 (fun σ_8 =>
          wpX5_add a1 r_1 a2 (gI σ_8 9 0) σ_8 (fun r_9 σ_10 =>
          post r_9 σ_10))) ∧
        (¬ r_5 = 0 →
          post (-1) σ_6))))))))))) := hw
  refine go_lload_n C 1 rfl rfl dX11_name_0 ?_
  refine go_callS (as := [.long a1]) C hR cwX11_101 (Nat.le_trans (by decide) hd) (by decide) rfl rfl (Nat.le_of_ble_eq_true rfl) dX11_name_1 (spX5_lengthOf (Nat.le_refl _) hN hw) (fun v_ τ_ hw => ?_)
  obtain ⟨r_1, rfl, hw⟩ := hw
  obtain ⟨σ_2, rfl⟩ : ∃ z, z = τ_ := ⟨_, rfl⟩
  refine go_istore (lv2 := [(4, .int r_1), (0, .ref (G.2.2.1 0)), (1, .long a1), (3, .int a2)]) C (by rw [hnl]; decide) rfl dX11_name_4 ?_
  refine go_iload C 0 rfl dX11_name_6 ?_
  refine go_if_eq C 43 rfl dX11_name_8 (fun hc => ?_) (fun hc => ?_)
  · replace hw := hw.1 hc
    refine go_iconst (v := (-1)) C rfl dX11_name_43 ?_
    exact go_iret C hr ⟨_, rfl, hw⟩ dX11_name_44
  · replace hw := hw.2 hc
    refine go_iload_n C 3 rfl rfl dX11_name_11 ?_
    refine go_iconst (v := 1) C rfl dX11_name_12 ?_
    refine go_iconst (v := 3) C rfl dX11_name_13 ?_
    refine go_callS (as := [.int a2, .int 1, .int 3]) C hR cwX11_105 (Nat.le_trans (by decide) hd) (by decide) rfl rfl (Nat.le_of_ble_eq_true rfl) dX11_name_14 (spX11_within (Nat.le_refl _) hN hw) (fun v_ τ_ hw => ?_)
    obtain ⟨r_3, rfl, hw⟩ := hw
    obtain ⟨σ_4, rfl⟩ : ∃ z, z = τ_ := ⟨_, rfl⟩
    refine go_if_eq C 43 rfl dX11_name_17 (fun hc => ?_) (fun hc => ?_)
    · replace hw := hw.1 hc
      refine go_iconst (v := (-1)) C rfl dX11_name_43 ?_
      exact go_iret C hr ⟨_, rfl, hw⟩ dX11_name_44
    · replace hw := hw.2 hc
      refine go_aload_n C 1 rfl rfl dX11_name_20 ?_
      refine go_get (v := .ref (G.2.2.1 1)) C (shX11 G) (ltX11 hN) lkX11_10 rfl dX11_name_21 ?_
      refine go_get (v := .int (gI σ_4 1 0)) C (shX5 G) (ltX5 hN) lkX11_109 rfl dX11_name_24 ?_
      refine go_bipush (v := 16) C rfl dX11_name_27 ?_
      refine go_icmp_ge C 43 rfl dX11_name_29 (fun hc => ?_) (fun hc => ?_)
      · replace hw := hw.1 hc
        refine go_iconst (v := (-1)) C rfl dX11_name_43 ?_
        exact go_iret C hr ⟨_, rfl, hw⟩ dX11_name_44
      · replace hw := hw.2 hc
        refine go_aload_n C 1 rfl rfl dX11_name_32 ?_
        refine go_get (v := .ref (G.2.2.1 1)) C (shX11 G) (ltX11 hN) lkX11_10 rfl dX11_name_33 ?_
        refine go_lload_n C 2 rfl rfl dX11_name_36 ?_
        refine go_callV (as := [.long a1]) C hR (shX5 G) (ltX5 hN) cwX11_113 (Nat.le_trans (by decide) hd) (by decide) rfl rfl (Nat.le_of_ble_eq_true rfl) dX11_name_37 (spX5_knows (Nat.le_refl _) hN hw) (fun v_ τ_ hw => ?_)
        obtain ⟨r_5, rfl, hw⟩ := hw
        obtain ⟨σ_6, rfl⟩ : ∃ z, z = τ_ := ⟨_, rfl⟩
        refine go_if_eq C 45 rfl dX11_name_40 (fun hc => ?_) (fun hc => ?_)
        · replace hw := hw.1 hc
          refine go_aload_n C 1 rfl rfl dX11_name_45 ?_
          refine go_get (v := .ref (G.2.2.1 64)) C (shX11 G) (ltX11 hN) lkX11_86 rfl dX11_name_46 ?_
          refine go_callV (as := []) C hR (shX7 G) (ltX7 hN) cwX11_117 (Nat.le_trans (by decide) hd) (by decide) rfl rfl (Nat.le_of_ble_eq_true rfl) dX11_name_49 (spX7_forgetRuns (Nat.le_refl _) hN hw) (fun v_ τ_ hw => ?_)
          obtain ⟨rfl, hw⟩ := hw
          obtain ⟨σ_8, rfl⟩ : ∃ z, z = τ_ := ⟨_, rfl⟩
          refine go_aload_n C 1 rfl rfl dX11_name_52 ?_
          refine go_get (v := .ref (G.2.2.1 1)) C (shX11 G) (ltX11 hN) lkX11_10 rfl dX11_name_53 ?_
          refine go_lload_n C 2 rfl rfl dX11_name_56 ?_
          refine go_iload C 0 rfl dX11_name_57 ?_
          refine go_iload_n C 3 rfl rfl dX11_name_59 ?_
          refine go_aload_n C 1 rfl rfl dX11_name_60 ?_
          refine go_get (v := .ref (G.2.2.1 9)) C (shX11 G) (ltX11 hN) lkX11_19 rfl dX11_name_61 ?_
          refine go_get (v := .int (gI σ_8 9 0)) C (shX4 G) (ltX4 hN) lkX11_120 rfl dX11_name_64 ?_
          refine go_callV (as := [.long a1, .int r_1, .int a2, .int (gI σ_8 9 0)]) C hR (shX5 G) (ltX5 hN) cwX11_123 (Nat.le_trans (by decide) hd) (by decide) rfl rfl (Nat.le_of_ble_eq_true rfl) dX11_name_67 (spX5_add (Nat.le_refl _) hN hw) (fun v_ τ_ hw => ?_)
          obtain ⟨r_9, rfl, hw⟩ := hw
          obtain ⟨σ_10, rfl⟩ : ∃ z, z = τ_ := ⟨_, rfl⟩
          exact go_iret C hr ⟨_, rfl, hw⟩ dX11_name_70
        · replace hw := hw.2 hc
          refine go_iconst (v := (-1)) C rfl dX11_name_43 ?_
          exact go_iret C hr ⟨_, rfl, hw⟩ dX11_name_44
-- CradleNames.of(II)I
set_option maxRecDepth 20000 in
set_option maxHeartbeats 4000000 in
theorem spX11_of {l : Launch} {G : GT} {d : Nat}  (hd : 3 ≤ d)  (hN : 75 ≤ G.2.2.2.2.2)  {a1 : Int32} {a2 : Int32} {σ : St} {post : Int32 → St → Prop} (hw : wpX11_of  a1 a2 σ post) : Sp l G d yX11_of cX11_of 3 (some .int) [.ref (G.2.2.1 0), .int a1, .int a2] σ (fun v τ => ∃ r : Int32, v = some (.int r) ∧ post r τ) := by
  refine Sp.of (by decide) (Nat.le_of_ble_eq_true rfl) fun X C hr hR hnl => ?_
  show Go X G 0 [(0, .ref (G.2.2.1 0)), (1, .int a1), (2, .int a2)] [] σ
  have hw : wpX5_has a1 σ (fun r_1 σ_2 =>
  ((¬ r_1 = 0 →
    ((a2 = 0 →
      vp_in a1 16 ∧ (
      post (gI σ_2 3 a1.toNatClampNeg) σ_2)) ∧
    (¬ a2 = 0 →
    ((a2 = 1 →
      vp_in a1 16 ∧ (
      post (gI σ_2 4 a1.toNatClampNeg) σ_2)) ∧
    (¬ a2 = 1 →
    ((a2 = 2 →
      wpX5_lowestOfEnding a1 σ_2 (fun r_3 σ_4 =>
      post r_3 σ_4)) ∧
    (¬ a2 = 2 →
    ((a2 = 3 →
      vp_in a1 16 ∧ (
      post (gI σ_2 8 a1.toNatClampNeg) σ_2)) ∧
    (¬ a2 = 3 →
    ((a2 = 4 →
      wpX10_livingAt a1 ((gI σ_2 9 0) - 1) σ_2 (fun r_5 σ_6 =>
      post r_5 σ_6)) ∧
    (¬ a2 = 4 →
    post (-1) σ_2))))))))))) ∧
  (r_1 = 0 →
    post (-1) σ_2))) := hw
  refine go_aload_n C 0 rfl rfl dX11_of_0 ?_
  refine go_get (v := .ref (G.2.2.1 1)) C (shX11 G) (ltX11 hN) lkX11_10 rfl dX11_of_1 ?_
  refine go_iload_n C 1 rfl rfl dX11_of_4 ?_
  refine go_callV (as := [.int a1]) C hR (shX5 G) (ltX5 hN) cwX11_127 (Nat.le_trans (by decide) hd) (by decide) rfl rfl (Nat.le_of_ble_eq_true rfl) dX11_of_5 (spX5_has (Nat.le_refl _) hN hw) (fun v_ τ_ hw => ?_)
  obtain ⟨r_1, rfl, hw⟩ := hw
  obtain ⟨σ_2, rfl⟩ : ∃ z, z = τ_ := ⟨_, rfl⟩
  refine go_if_ne C 13 rfl dX11_of_8 (fun hc => ?_) (fun hc => ?_)
  · replace hw := hw.1 hc
    refine go_iload_n C 2 rfl rfl dX11_of_13 ?_
    by_cases hc0 : a2 = 0
    · replace hw := hw.1 hc0
      refine go_tableIn C 48 (by rw [hc0]; decide) (by rw [hc0]; decide) (by rw [hc0]; rfl) rfl dX11_of_14 ?_
      refine go_aload_n C 0 rfl rfl dX11_of_48 ?_
      refine go_get (v := .ref (G.2.2.1 1)) C (shX11 G) (ltX11 hN) lkX11_10 rfl dX11_of_49 ?_
      refine go_get (v := .ref (G.2.2.1 3)) C (shX5 G) (ltX5 hN) lkX11_131 rfl dX11_of_52 ?_
      refine go_iload_n C 1 rfl rfl dX11_of_55 ?_
      refine go_iald C (saX5_lengths G) (laX5_lengths hN) hw.1 dX11_of_56 ?_
      replace hw := hw.2
      exact go_iret C hr ⟨_, rfl, hw⟩ dX11_of_57
    replace hw := hw.2 hc0
    by_cases hc1 : a2 = 1
    · replace hw := hw.1 hc1
      refine go_tableIn C 58 (by rw [hc1]; decide) (by rw [hc1]; decide) (by rw [hc1]; rfl) rfl dX11_of_14 ?_
      refine go_aload_n C 0 rfl rfl dX11_of_58 ?_
      refine go_get (v := .ref (G.2.2.1 1)) C (shX11 G) (ltX11 hN) lkX11_10 rfl dX11_of_59 ?_
      refine go_get (v := .ref (G.2.2.1 4)) C (shX5 G) (ltX5 hN) lkX11_135 rfl dX11_of_62 ?_
      refine go_iload_n C 1 rfl rfl dX11_of_65 ?_
      refine go_iald C (saX5_sexes G) (laX5_sexes hN) hw.1 dX11_of_66 ?_
      replace hw := hw.2
      exact go_iret C hr ⟨_, rfl, hw⟩ dX11_of_67
    replace hw := hw.2 hc1
    by_cases hc2 : a2 = 2
    · replace hw := hw.1 hc2
      refine go_tableIn C 68 (by rw [hc2]; decide) (by rw [hc2]; decide) (by rw [hc2]; rfl) rfl dX11_of_14 ?_
      refine go_aload_n C 0 rfl rfl dX11_of_68 ?_
      refine go_get (v := .ref (G.2.2.1 1)) C (shX11 G) (ltX11 hN) lkX11_10 rfl dX11_of_69 ?_
      refine go_iload_n C 1 rfl rfl dX11_of_72 ?_
      refine go_callV (as := [.int a1]) C hR (shX5 G) (ltX5 hN) cwX11_138 (Nat.le_trans (by decide) hd) (by decide) rfl rfl (Nat.le_of_ble_eq_true rfl) dX11_of_73 (spX5_lowestOfEnding (Nat.le_refl _) hN hw) (fun v_ τ_ hw => ?_)
      obtain ⟨r_3, rfl, hw⟩ := hw
      obtain ⟨σ_4, rfl⟩ : ∃ z, z = τ_ := ⟨_, rfl⟩
      exact go_iret C hr ⟨_, rfl, hw⟩ dX11_of_76
    replace hw := hw.2 hc2
    by_cases hc3 : a2 = 3
    · replace hw := hw.1 hc3
      refine go_tableIn C 77 (by rw [hc3]; decide) (by rw [hc3]; decide) (by rw [hc3]; rfl) rfl dX11_of_14 ?_
      refine go_aload_n C 0 rfl rfl dX11_of_77 ?_
      refine go_get (v := .ref (G.2.2.1 1)) C (shX11 G) (ltX11 hN) lkX11_10 rfl dX11_of_78 ?_
      refine go_get (v := .ref (G.2.2.1 8)) C (shX5 G) (ltX5 hN) lkX11_142 rfl dX11_of_81 ?_
      refine go_iload_n C 1 rfl rfl dX11_of_84 ?_
      refine go_iald C (saX5_soundCounts G) (laX5_soundCounts hN) hw.1 dX11_of_85 ?_
      replace hw := hw.2
      exact go_iret C hr ⟨_, rfl, hw⟩ dX11_of_86
    replace hw := hw.2 hc3
    by_cases hc4 : a2 = 4
    · replace hw := hw.1 hc4
      refine go_tableIn C 87 (by rw [hc4]; decide) (by rw [hc4]; decide) (by rw [hc4]; rfl) rfl dX11_of_14 ?_
      refine go_aload_n C 0 rfl rfl dX11_of_87 ?_
      refine go_get (v := .ref (G.2.2.1 52)) C (shX11 G) (ltX11 hN) lkX11_72 rfl dX11_of_88 ?_
      refine go_iload_n C 1 rfl rfl dX11_of_91 ?_
      refine go_aload_n C 0 rfl rfl dX11_of_92 ?_
      refine go_get (v := .ref (G.2.2.1 9)) C (shX11 G) (ltX11 hN) lkX11_19 rfl dX11_of_93 ?_
      refine go_get (v := .int (gI σ_2 9 0)) C (shX4 G) (ltX4 hN) lkX11_120 rfl dX11_of_96 ?_
      refine go_iconst (v := 1) C rfl dX11_of_99 ?_
      refine go_isub C dX11_of_100 ?_
      refine go_callV (as := [.int a1, .int ((gI σ_2 9 0) - 1)]) C hR (shX10 G) (ltX10 hN) cwX11_145 (Nat.le_trans (by decide) hd) (by decide) rfl rfl (Nat.le_of_ble_eq_true rfl) dX11_of_101 (spX10_livingAt (Nat.le_refl _) hN hw) (fun v_ τ_ hw => ?_)
      obtain ⟨r_5, rfl, hw⟩ := hw
      obtain ⟨σ_6, rfl⟩ : ∃ z, z = τ_ := ⟨_, rfl⟩
      exact go_iret C hr ⟨_, rfl, hw⟩ dX11_of_104
    replace hw := hw.2 hc4
    refine go_tableOut C 105 (by have g0 := lv_neT hc0 (show (0 : Int32).toInt = 0 from rfl); have g1 := lv_neT hc1 (show (1 : Int32).toInt = 1 from rfl); have g2 := lv_neT hc2 (show (2 : Int32).toInt = 2 from rfl); have g3 := lv_neT hc3 (show (3 : Int32).toInt = 3 from rfl); have g4 := lv_neT hc4 (show (4 : Int32).toInt = 4 from rfl); omega) rfl dX11_of_14 ?_
    refine go_iconst (v := (-1)) C rfl dX11_of_105 ?_
    exact go_iret C hr ⟨_, rfl, hw⟩ dX11_of_106
  · replace hw := hw.2 hc
    refine go_iconst (v := (-1)) C rfl dX11_of_11 ?_
    exact go_iret C hr ⟨_, rfl, hw⟩ dX11_of_12
-- CradleNames.alike(II)I
set_option maxRecDepth 20000 in
set_option maxHeartbeats 4000000 in
theorem spX11_alike {l : Launch} {G : GT} {d : Nat}  (hd : 3 ≤ d)  (hN : 75 ≤ G.2.2.2.2.2)  {a1 : Int32} {a2 : Int32} {σ : St} {post : Int32 → St → Prop} (hw : wpX11_alike  a1 a2 σ post) : Sp l G d yX11_alike cX11_alike 3 (some .int) [.ref (G.2.2.1 0), .int a1, .int a2] σ (fun v τ => ∃ r : Int32, v = some (.int r) ∧ post r τ) := by
  refine Sp.of (by decide) (Nat.le_of_ble_eq_true rfl) fun X C hr hR hnl => ?_
  show Go X G 0 [(0, .ref (G.2.2.1 0)), (1, .int a1), (2, .int a2)] [] σ
  have hw : wpX5_has a1 σ (fun r_1 σ_2 =>
  ((r_1 = 0 →
    post (-1) σ_2) ∧
  (¬ r_1 = 0 →
    wpX5_has a2 σ_2 (fun r_3 σ_4 =>
    ((¬ r_3 = 0 →
      wpX5_akin a1 a2 σ_4 (fun r_5 σ_6 =>
      ((r_5 = 0 →
        post 0 σ_6) ∧
      (¬ r_5 = 0 →
        post 1 σ_6)))) ∧
    (r_3 = 0 →
      post (-1) σ_4)))))) := hw
  refine go_aload_n C 0 rfl rfl dX11_alike_0 ?_
  refine go_get (v := .ref (G.2.2.1 1)) C (shX11 G) (ltX11 hN) lkX11_10 rfl dX11_alike_1 ?_
  refine go_iload_n C 1 rfl rfl dX11_alike_4 ?_
  refine go_callV (as := [.int a1]) C hR (shX5 G) (ltX5 hN) cwX11_127 (Nat.le_trans (by decide) hd) (by decide) rfl rfl (Nat.le_of_ble_eq_true rfl) dX11_alike_5 (spX5_has (Nat.le_refl _) hN hw) (fun v_ τ_ hw => ?_)
  obtain ⟨r_1, rfl, hw⟩ := hw
  obtain ⟨σ_2, rfl⟩ : ∃ z, z = τ_ := ⟨_, rfl⟩
  refine go_if_eq C 22 rfl dX11_alike_8 (fun hc => ?_) (fun hc => ?_)
  · replace hw := hw.1 hc
    refine go_iconst (v := (-1)) C rfl dX11_alike_22 ?_
    exact go_iret C hr ⟨_, rfl, hw⟩ dX11_alike_23
  · replace hw := hw.2 hc
    refine go_aload_n C 0 rfl rfl dX11_alike_11 ?_
    refine go_get (v := .ref (G.2.2.1 1)) C (shX11 G) (ltX11 hN) lkX11_10 rfl dX11_alike_12 ?_
    refine go_iload_n C 2 rfl rfl dX11_alike_15 ?_
    refine go_callV (as := [.int a2]) C hR (shX5 G) (ltX5 hN) cwX11_127 (Nat.le_trans (by decide) hd) (by decide) rfl rfl (Nat.le_of_ble_eq_true rfl) dX11_alike_16 (spX5_has (Nat.le_refl _) hN hw) (fun v_ τ_ hw => ?_)
    obtain ⟨r_3, rfl, hw⟩ := hw
    obtain ⟨σ_4, rfl⟩ : ∃ z, z = τ_ := ⟨_, rfl⟩
    refine go_if_ne C 24 rfl dX11_alike_19 (fun hc => ?_) (fun hc => ?_)
    · replace hw := hw.1 hc
      refine go_aload_n C 0 rfl rfl dX11_alike_24 ?_
      refine go_get (v := .ref (G.2.2.1 1)) C (shX11 G) (ltX11 hN) lkX11_10 rfl dX11_alike_25 ?_
      refine go_iload_n C 1 rfl rfl dX11_alike_28 ?_
      refine go_iload_n C 2 rfl rfl dX11_alike_29 ?_
      refine go_callV (as := [.int a1, .int a2]) C hR (shX5 G) (ltX5 hN) cwX11_149 (Nat.le_trans (by decide) hd) (by decide) rfl rfl (Nat.le_of_ble_eq_true rfl) dX11_alike_30 (spX5_akin (Nat.le_refl _) hN hw) (fun v_ τ_ hw => ?_)
      obtain ⟨r_5, rfl, hw⟩ := hw
      obtain ⟨σ_6, rfl⟩ : ∃ z, z = τ_ := ⟨_, rfl⟩
      refine go_if_eq C 40 rfl dX11_alike_33 (fun hc => ?_) (fun hc => ?_)
      · replace hw := hw.1 hc
        refine go_iconst (v := 0) C rfl dX11_alike_40 ?_
        exact go_iret C hr ⟨_, rfl, hw⟩ dX11_alike_41
      · replace hw := hw.2 hc
        refine go_iconst (v := 1) C rfl dX11_alike_36 ?_
        refine go_goto C 41 rfl dX11_alike_37 ?_
        exact go_iret C hr ⟨_, rfl, hw⟩ dX11_alike_41
    · replace hw := hw.2 hc
      refine go_iconst (v := (-1)) C rfl dX11_alike_22 ?_
      exact go_iret C hr ⟨_, rfl, hw⟩ dX11_alike_23
-- CradleNames.isRow(III)Z
set_option maxRecDepth 20000 in
set_option maxHeartbeats 4000000 in
theorem spX11_isRow {l : Launch} {G : GT} {d : Nat}  (hd : 2 ≤ d)  (hN : 75 ≤ G.2.2.2.2.2)  {a1 : Int32} {a2 : Int32} {a3 : Int32} {σ : St} {post : Int32 → St → Prop} (hw : wpX11_isRow  a1 a2 a3 σ post) : Sp l G d yX11_isRow cX11_isRow 3 (some .boolean) [.int a1, .int a2, .int a3] σ (fun v τ => ∃ r : Int32, v = some (.int r) ∧ post r τ) := by
  refine Sp.of (by decide) (Nat.le_of_ble_eq_true rfl) fun X C hr hR hnl => ?_
  show Go X G 0 [(0, .int a1), (1, .int a2), (2, .int a3)] [] σ
  have hw : wpX11_within a1 0 2 σ (fun r_1 σ_2 =>
  ((r_1 = 0 →
    post 0 σ_2) ∧
  (¬ r_1 = 0 →
    wpX11_within a2 0 1 σ_2 (fun r_3 σ_4 =>
    ((r_3 = 0 →
      post 0 σ_4) ∧
    (¬ r_3 = 0 →
      wpX11_within a3 0 1 σ_4 (fun r_5 σ_6 =>
      ((r_5 = 0 →
        post 0 σ_6) ∧
      (¬ r_5 = 0 →
        post 1 σ_6))))))))) := hw
  refine go_iload_n C 0 rfl rfl dX11_isRow_0 ?_
  refine go_iconst (v := 0) C rfl dX11_isRow_1 ?_
  refine go_iconst (v := 2) C rfl dX11_isRow_2 ?_
  refine go_callS (as := [.int a1, .int 0, .int 2]) C hR cwX11_105 (Nat.le_trans (by decide) hd) (by decide) rfl rfl (Nat.le_of_ble_eq_true rfl) dX11_isRow_3 (spX11_within (Nat.le_refl _) hN hw) (fun v_ τ_ hw => ?_)
  obtain ⟨r_1, rfl, hw⟩ := hw
  obtain ⟨σ_2, rfl⟩ : ∃ z, z = τ_ := ⟨_, rfl⟩
  refine go_if_eq C 31 rfl dX11_isRow_6 (fun hc => ?_) (fun hc => ?_)
  · replace hw := hw.1 hc
    refine go_iconst (v := 0) C rfl dX11_isRow_31 ?_
    exact go_zret C hr rfl ⟨_, rfl, hw⟩ dX11_isRow_32
  · replace hw := hw.2 hc
    refine go_iload_n C 1 rfl rfl dX11_isRow_9 ?_
    refine go_iconst (v := 0) C rfl dX11_isRow_10 ?_
    refine go_iconst (v := 1) C rfl dX11_isRow_11 ?_
    refine go_callS (as := [.int a2, .int 0, .int 1]) C hR cwX11_105 (Nat.le_trans (by decide) hd) (by decide) rfl rfl (Nat.le_of_ble_eq_true rfl) dX11_isRow_12 (spX11_within (Nat.le_refl _) hN hw) (fun v_ τ_ hw => ?_)
    obtain ⟨r_3, rfl, hw⟩ := hw
    obtain ⟨σ_4, rfl⟩ : ∃ z, z = τ_ := ⟨_, rfl⟩
    refine go_if_eq C 31 rfl dX11_isRow_15 (fun hc => ?_) (fun hc => ?_)
    · replace hw := hw.1 hc
      refine go_iconst (v := 0) C rfl dX11_isRow_31 ?_
      exact go_zret C hr rfl ⟨_, rfl, hw⟩ dX11_isRow_32
    · replace hw := hw.2 hc
      refine go_iload_n C 2 rfl rfl dX11_isRow_18 ?_
      refine go_iconst (v := 0) C rfl dX11_isRow_19 ?_
      refine go_iconst (v := 1) C rfl dX11_isRow_20 ?_
      refine go_callS (as := [.int a3, .int 0, .int 1]) C hR cwX11_105 (Nat.le_trans (by decide) hd) (by decide) rfl rfl (Nat.le_of_ble_eq_true rfl) dX11_isRow_21 (spX11_within (Nat.le_refl _) hN hw) (fun v_ τ_ hw => ?_)
      obtain ⟨r_5, rfl, hw⟩ := hw
      obtain ⟨σ_6, rfl⟩ : ∃ z, z = τ_ := ⟨_, rfl⟩
      refine go_if_eq C 31 rfl dX11_isRow_24 (fun hc => ?_) (fun hc => ?_)
      · replace hw := hw.1 hc
        refine go_iconst (v := 0) C rfl dX11_isRow_31 ?_
        exact go_zret C hr rfl ⟨_, rfl, hw⟩ dX11_isRow_32
      · replace hw := hw.2 hc
        refine go_iconst (v := 1) C rfl dX11_isRow_27 ?_
        refine go_goto C 32 rfl dX11_isRow_28 ?_
        exact go_zret C hr rfl ⟨_, rfl, hw⟩ dX11_isRow_32
-- CradleNames.born(IIIIII)I
set_option maxRecDepth 20000 in
set_option maxHeartbeats 4000000 in
theorem spX11_born {l : Launch} {G : GT} {d : Nat}  (hd : 3 ≤ d)  (hN : 75 ≤ G.2.2.2.2.2)  {a1 : Int32} {a2 : Int32} {a3 : Int32} {a4 : Int32} {a5 : Int32} {a6 : Int32} {σ : St} {post : Int32 → St → Prop} (hw : wpX11_born  a1 a2 a3 a4 a5 a6 σ post) : Sp l G d yX11_born cX11_born 8 (some .int) [.ref (G.2.2.1 0), .int a1, .int a2, .int a3, .int a4, .int a5, .int a6] σ (fun v τ => ∃ r : Int32, v = some (.int r) ∧ post r τ) := by
  refine Sp.of (by decide) (Nat.le_of_ble_eq_true rfl) fun X C hr hR hnl => ?_
  show Go X G 0 [(0, .ref (G.2.2.1 0)), (1, .int a1), (2, .int a2), (3, .int a3), (4, .int a4), (5, .int a5), (6, .int a6)] [] σ
  have hw : ((¬ (gI σ 9 0) = 0 →
    post (-1) σ) ∧
  ((gI σ 9 0) = 0 →
    wpX5_has a1 σ (fun r_1 σ_2 =>
    ((r_1 = 0 →
      post (-1) σ_2) ∧
    (¬ r_1 = 0 →
      wpX11_isRow a2 a3 a4 σ_2 (fun r_3 σ_4 =>
      ((¬ r_3 = 0 →
        wpX11_within a5 1 40 σ_4 (fun r_5 σ_6 =>
        ((r_5 = 0 →
          post (-1) σ_6) ∧
        (¬ r_5 = 0 →
          wpX11_within a6 1 99 σ_6 (fun r_7 σ_8 =>
          ((¬ r_7 = 0 →
            wpX4_row a2 a3 a4 σ_8 (fun r_9 σ_10 =>
            wpX4_toldCell (-a5) r_9 a1 σ_10 (fun r_11 σ_12 =>
            vp_in r_11 7680 ∧ (
            ((((gI σ_12 10 r_11.toNatClampNeg) + a6) ≤ 9999 →
              vp_in r_11 7680 ∧ (
              vp_in r_11 7680 ∧ (
              ∀ σ_13 : St, σ_13 = sI σ_12 10 r_11.toNatClampNeg ((gI σ_12 10 r_11.toNatClampNeg) + a6) →
              wpX0_addSums 0 (-a5) a2 a3 a4 a1 a6 σ_13 (fun σ_15 =>
              wpX7_forgetRuns  σ_15 (fun σ_17 =>
              vp_in r_11 7680 ∧ (
              post (gI σ_17 10 r_11.toNatClampNeg) σ_17)))))) ∧
            (¬ ((gI σ_12 10 r_11.toNatClampNeg) + a6) ≤ 9999 →
              post (-1) σ_12)))))) ∧
          (r_7 = 0 →
            post (-1) σ_8))))))) ∧
      (r_3 = 0 →
        post (-1) σ_4)))))))) := hw
  refine go_aload_n C 0 rfl rfl dX11_born_0 ?_
  refine go_get (v := .ref (G.2.2.1 9)) C (shX11 G) (ltX11 hN) lkX11_19 rfl dX11_born_1 ?_
  refine go_get (v := .int (gI σ 9 0)) C (shX4 G) (ltX4 hN) lkX11_120 rfl dX11_born_4 ?_
  refine go_if_ne C 31 rfl dX11_born_7 (fun hc => ?_) (fun hc => ?_)
  · replace hw := hw.1 hc
    refine go_iconst (v := (-1)) C rfl dX11_born_31 ?_
    exact go_iret C hr ⟨_, rfl, hw⟩ dX11_born_32
  · replace hw := hw.2 hc
    refine go_aload_n C 0 rfl rfl dX11_born_10 ?_
    refine go_get (v := .ref (G.2.2.1 1)) C (shX11 G) (ltX11 hN) lkX11_10 rfl dX11_born_11 ?_
    refine go_iload_n C 1 rfl rfl dX11_born_14 ?_
    refine go_callV (as := [.int a1]) C hR (shX5 G) (ltX5 hN) cwX11_127 (Nat.le_trans (by decide) hd) (by decide) rfl rfl (Nat.le_of_ble_eq_true rfl) dX11_born_15 (spX5_has (Nat.le_refl _) hN hw) (fun v_ τ_ hw => ?_)
    obtain ⟨r_1, rfl, hw⟩ := hw
    obtain ⟨σ_2, rfl⟩ : ∃ z, z = τ_ := ⟨_, rfl⟩
    refine go_if_eq C 31 rfl dX11_born_18 (fun hc => ?_) (fun hc => ?_)
    · replace hw := hw.1 hc
      refine go_iconst (v := (-1)) C rfl dX11_born_31 ?_
      exact go_iret C hr ⟨_, rfl, hw⟩ dX11_born_32
    · replace hw := hw.2 hc
      refine go_iload_n C 2 rfl rfl dX11_born_21 ?_
      refine go_iload_n C 3 rfl rfl dX11_born_22 ?_
      refine go_iload C 4 rfl dX11_born_23 ?_
      refine go_callS (as := [.int a2, .int a3, .int a4]) C hR cwX11_153 (Nat.le_trans (by decide) hd) (by decide) rfl rfl (Nat.le_of_ble_eq_true rfl) dX11_born_25 (spX11_isRow (Nat.le_refl _) hN hw) (fun v_ τ_ hw => ?_)
      obtain ⟨r_3, rfl, hw⟩ := hw
      obtain ⟨σ_4, rfl⟩ : ∃ z, z = τ_ := ⟨_, rfl⟩
      refine go_if_ne C 33 rfl dX11_born_28 (fun hc => ?_) (fun hc => ?_)
      · replace hw := hw.1 hc
        refine go_iload C 5 rfl dX11_born_33 ?_
        refine go_iconst (v := 1) C rfl dX11_born_35 ?_
        refine go_bipush (v := 40) C rfl dX11_born_36 ?_
        refine go_callS (as := [.int a5, .int 1, .int 40]) C hR cwX11_105 (Nat.le_trans (by decide) hd) (by decide) rfl rfl (Nat.le_of_ble_eq_true rfl) dX11_born_38 (spX11_within (Nat.le_refl _) hN hw) (fun v_ τ_ hw => ?_)
        obtain ⟨r_5, rfl, hw⟩ := hw
        obtain ⟨σ_6, rfl⟩ : ∃ z, z = τ_ := ⟨_, rfl⟩
        refine go_if_eq C 55 rfl dX11_born_41 (fun hc => ?_) (fun hc => ?_)
        · replace hw := hw.1 hc
          refine go_iconst (v := (-1)) C rfl dX11_born_55 ?_
          exact go_iret C hr ⟨_, rfl, hw⟩ dX11_born_56
        · replace hw := hw.2 hc
          refine go_iload C 6 rfl dX11_born_44 ?_
          refine go_iconst (v := 1) C rfl dX11_born_46 ?_
          refine go_bipush (v := 99) C rfl dX11_born_47 ?_
          refine go_callS (as := [.int a6, .int 1, .int 99]) C hR cwX11_105 (Nat.le_trans (by decide) hd) (by decide) rfl rfl (Nat.le_of_ble_eq_true rfl) dX11_born_49 (spX11_within (Nat.le_refl _) hN hw) (fun v_ τ_ hw => ?_)
          obtain ⟨r_7, rfl, hw⟩ := hw
          obtain ⟨σ_8, rfl⟩ : ∃ z, z = τ_ := ⟨_, rfl⟩
          refine go_if_ne C 57 rfl dX11_born_52 (fun hc => ?_) (fun hc => ?_)
          · replace hw := hw.1 hc
            refine go_iload C 5 rfl dX11_born_57 ?_
            refine go_ineg C dX11_born_59 ?_
            refine go_iload_n C 2 rfl rfl dX11_born_60 ?_
            refine go_iload_n C 3 rfl rfl dX11_born_61 ?_
            refine go_iload C 4 rfl dX11_born_62 ?_
            refine go_callS (as := [.int a2, .int a3, .int a4]) C hR cwX11_156 (Nat.le_trans (by decide) hd) (by decide) rfl rfl (Nat.le_of_ble_eq_true rfl) dX11_born_64 (spX4_row (Nat.le_refl _) hN hw) (fun v_ τ_ hw => ?_)
            obtain ⟨r_9, rfl, hw⟩ := hw
            obtain ⟨σ_10, rfl⟩ : ∃ z, z = τ_ := ⟨_, rfl⟩
            refine go_iload_n C 1 rfl rfl dX11_born_67 ?_
            refine go_callS (as := [.int (-a5), .int r_9, .int a1]) C hR cwX11_160 (Nat.le_trans (by decide) hd) (by decide) rfl rfl (Nat.le_of_ble_eq_true rfl) dX11_born_68 (spX4_toldCell (Nat.le_refl _) hN hw) (fun v_ τ_ hw => ?_)
            obtain ⟨r_11, rfl, hw⟩ := hw
            obtain ⟨σ_12, rfl⟩ : ∃ z, z = τ_ := ⟨_, rfl⟩
            refine go_istore (lv2 := [(7, .int r_11), (0, .ref (G.2.2.1 0)), (1, .int a1), (2, .int a2), (3, .int a3), (4, .int a4), (5, .int a5), (6, .int a6)]) C (by rw [hnl]; decide) rfl dX11_born_71 ?_
            refine go_aload_n C 1 rfl rfl dX11_born_73 ?_
            refine go_get (v := .ref (G.2.2.1 9)) C (shX11 G) (ltX11 hN) lkX11_19 rfl dX11_born_74 ?_
            refine go_get (v := .ref (G.2.2.1 10)) C (shX4 G) (ltX4 hN) lkX11_163 rfl dX11_born_77 ?_
            refine go_iload C 0 rfl dX11_born_80 ?_
            refine go_iald C (saX4_told G) (laX4_told hN) hw.1 dX11_born_82 ?_
            replace hw := hw.2
            refine go_iload C 7 rfl dX11_born_83 ?_
            refine go_iadd C dX11_born_85 ?_
            refine go_sipush (v := 9999) C rfl dX11_born_86 ?_
            refine go_icmp_le C 94 rfl dX11_born_89 (fun hc => ?_) (fun hc => ?_)
            · replace hw := hw.1 hc
              refine go_aload_n C 1 rfl rfl dX11_born_94 ?_
              refine go_get (v := .ref (G.2.2.1 9)) C (shX11 G) (ltX11 hN) lkX11_19 rfl dX11_born_95 ?_
              refine go_get (v := .ref (G.2.2.1 10)) C (shX4 G) (ltX4 hN) lkX11_163 rfl dX11_born_98 ?_
              refine go_iload C 0 rfl dX11_born_101 ?_
              refine go_dup2 C rfl rfl dX11_born_103 ?_
              refine go_iald C (saX4_told G) (laX4_told hN) hw.1 dX11_born_104 ?_
              replace hw := hw.2
              refine go_iload C 7 rfl dX11_born_105 ?_
              refine go_iadd C dX11_born_107 ?_
              refine go_iast C (saX4_told G) (laX4_told hN) hw.1 dX11_born_108 (go_nm fun σ_13 eσ_13 => ?_)
              replace hw := hw.2 σ_13 eσ_13
              refine go_aload_n C 1 rfl rfl dX11_born_109 ?_
              refine go_get (v := .ref (G.2.2.1 (21 + 4 * 0))) C (shX11 G) (ltX11 hN) lkX11_26 rfl dX11_born_110 ?_
              refine go_iload C 6 rfl dX11_born_113 ?_
              refine go_ineg C dX11_born_115 ?_
              refine go_iload_n C 3 rfl rfl dX11_born_116 ?_
              refine go_iload_n C 4 rfl rfl dX11_born_117 ?_
              refine go_iload C 5 rfl dX11_born_118 ?_
              refine go_iload_n C 2 rfl rfl dX11_born_120 ?_
              refine go_iload C 7 rfl dX11_born_121 ?_
              refine go_callV (as := [.int (-a5), .int a2, .int a3, .int a4, .int a1, .int a6]) C hR (shX0 G (show 0 < 2 by decide)) (ltX0 hN (show 0 < 2 by decide)) cwX11_166 (Nat.le_trans (by decide) hd) (by decide) rfl rfl (Nat.le_of_ble_eq_true rfl) dX11_born_123 (spX0_addSums (Nat.le_refl _) hN (show 0 < 2 by decide) hw) (fun v_ τ_ hw => ?_)
              obtain ⟨rfl, hw⟩ := hw
              obtain ⟨σ_15, rfl⟩ : ∃ z, z = τ_ := ⟨_, rfl⟩
              refine go_aload_n C 1 rfl rfl dX11_born_126 ?_
              refine go_get (v := .ref (G.2.2.1 64)) C (shX11 G) (ltX11 hN) lkX11_86 rfl dX11_born_127 ?_
              refine go_callV (as := []) C hR (shX7 G) (ltX7 hN) cwX11_117 (Nat.le_trans (by decide) hd) (by decide) rfl rfl (Nat.le_of_ble_eq_true rfl) dX11_born_130 (spX7_forgetRuns (Nat.le_refl _) hN hw) (fun v_ τ_ hw => ?_)
              obtain ⟨rfl, hw⟩ := hw
              obtain ⟨σ_17, rfl⟩ : ∃ z, z = τ_ := ⟨_, rfl⟩
              refine go_aload_n C 1 rfl rfl dX11_born_133 ?_
              refine go_get (v := .ref (G.2.2.1 9)) C (shX11 G) (ltX11 hN) lkX11_19 rfl dX11_born_134 ?_
              refine go_get (v := .ref (G.2.2.1 10)) C (shX4 G) (ltX4 hN) lkX11_163 rfl dX11_born_137 ?_
              refine go_iload C 0 rfl dX11_born_140 ?_
              refine go_iald C (saX4_told G) (laX4_told hN) hw.1 dX11_born_142 ?_
              replace hw := hw.2
              exact go_iret C hr ⟨_, rfl, hw⟩ dX11_born_143
            · replace hw := hw.2 hc
              refine go_iconst (v := (-1)) C rfl dX11_born_92 ?_
              exact go_iret C hr ⟨_, rfl, hw⟩ dX11_born_93
          · replace hw := hw.2 hc
            refine go_iconst (v := (-1)) C rfl dX11_born_55 ?_
            exact go_iret C hr ⟨_, rfl, hw⟩ dX11_born_56
      · replace hw := hw.2 hc
        refine go_iconst (v := (-1)) C rfl dX11_born_31 ?_
        exact go_iret C hr ⟨_, rfl, hw⟩ dX11_born_32
-- CradleNames.life(I)Z
set_option maxRecDepth 20000 in
set_option maxHeartbeats 4000000 in
theorem spX11_life {l : Launch} {G : GT} {d : Nat}  (hd : 2 ≤ d)  (hN : 75 ≤ G.2.2.2.2.2)  {a1 : Int32} {σ : St} {post : Int32 → St → Prop} (hw : wpX11_life  a1 σ post) : Sp l G d yX11_life cX11_life 2 (some .boolean) [.ref (G.2.2.1 0), .int a1] σ (fun v τ => ∃ r : Int32, v = some (.int r) ∧ post r τ) := by
  refine Sp.of (by decide) (Nat.le_of_ble_eq_true rfl) fun X C hr hR hnl => ?_
  show Go X G 0 [(0, .ref (G.2.2.1 0)), (1, .int a1)] [] σ
  have hw : ((¬ (gI σ 9 0) = 0 →
    post 0 σ) ∧
  ((gI σ 9 0) = 0 →
    wpX11_within a1 20 90 σ (fun r_1 σ_2 =>
    ((¬ r_1 = 0 →
      ∀ σ_3 : St, σ_3 = sI σ_2 9 1 a1 →
      wpX7_forgetRuns  σ_3 (fun σ_5 =>
      post 1 σ_5)) ∧
    (r_1 = 0 →
      post 0 σ_2))))) := hw
  refine go_aload_n C 0 rfl rfl dX11_life_0 ?_
  refine go_get (v := .ref (G.2.2.1 9)) C (shX11 G) (ltX11 hN) lkX11_19 rfl dX11_life_1 ?_
  refine go_get (v := .int (gI σ 9 0)) C (shX4 G) (ltX4 hN) lkX11_120 rfl dX11_life_4 ?_
  refine go_if_ne C 21 rfl dX11_life_7 (fun hc => ?_) (fun hc => ?_)
  · replace hw := hw.1 hc
    refine go_iconst (v := 0) C rfl dX11_life_21 ?_
    exact go_zret C hr rfl ⟨_, rfl, hw⟩ dX11_life_22
  · replace hw := hw.2 hc
    refine go_iload_n C 1 rfl rfl dX11_life_10 ?_
    refine go_bipush (v := 20) C rfl dX11_life_11 ?_
    refine go_bipush (v := 90) C rfl dX11_life_13 ?_
    refine go_callS (as := [.int a1, .int 20, .int 90]) C hR cwX11_105 (Nat.le_trans (by decide) hd) (by decide) rfl rfl (Nat.le_of_ble_eq_true rfl) dX11_life_15 (spX11_within (Nat.le_refl _) hN hw) (fun v_ τ_ hw => ?_)
    obtain ⟨r_1, rfl, hw⟩ := hw
    obtain ⟨σ_2, rfl⟩ : ∃ z, z = τ_ := ⟨_, rfl⟩
    refine go_if_ne C 23 rfl dX11_life_18 (fun hc => ?_) (fun hc => ?_)
    · replace hw := hw.1 hc
      refine go_aload_n C 0 rfl rfl dX11_life_23 ?_
      refine go_get (v := .ref (G.2.2.1 9)) C (shX11 G) (ltX11 hN) lkX11_19 rfl dX11_life_24 ?_
      refine go_iload_n C 1 rfl rfl dX11_life_27 ?_
      refine go_puti C (shX4 G) (ltX4 hN) lpX11_170 (show 1 < 15 by decide) (pxX4_1 G _ _) dX11_life_28 (go_nm fun σ_3 eσ_3 => ?_)
      replace hw := hw σ_3 eσ_3
      refine go_aload_n C 0 rfl rfl dX11_life_31 ?_
      refine go_get (v := .ref (G.2.2.1 64)) C (shX11 G) (ltX11 hN) lkX11_86 rfl dX11_life_32 ?_
      refine go_callV (as := []) C hR (shX7 G) (ltX7 hN) cwX11_117 (Nat.le_trans (by decide) hd) (by decide) rfl rfl (Nat.le_of_ble_eq_true rfl) dX11_life_35 (spX7_forgetRuns (Nat.le_refl _) hN hw) (fun v_ τ_ hw => ?_)
      obtain ⟨rfl, hw⟩ := hw
      obtain ⟨σ_5, rfl⟩ : ∃ z, z = τ_ := ⟨_, rfl⟩
      refine go_iconst (v := 1) C rfl dX11_life_38 ?_
      exact go_zret C hr rfl ⟨_, rfl, hw⟩ dX11_life_39
    · replace hw := hw.2 hc
      refine go_iconst (v := 0) C rfl dX11_life_21 ?_
      exact go_zret C hr rfl ⟨_, rfl, hw⟩ dX11_life_22
-- CradleNames.cradles(IIII)Z
set_option maxRecDepth 20000 in
set_option maxHeartbeats 4000000 in
theorem spX11_cradles {l : Launch} {G : GT} {d : Nat}  (hd : 3 ≤ d)  (hN : 75 ≤ G.2.2.2.2.2)  {a1 : Int32} {a2 : Int32} {a3 : Int32} {a4 : Int32} {σ : St} {post : Int32 → St → Prop} (hw : wpX11_cradles  a1 a2 a3 a4 σ post) : Sp l G d yX11_cradles cX11_cradles 5 (some .boolean) [.ref (G.2.2.1 0), .int a1, .int a2, .int a3, .int a4] σ (fun v τ => ∃ r : Int32, v = some (.int r) ∧ post r τ) := by
  refine Sp.of (by decide) (Nat.le_of_ble_eq_true rfl) fun X C hr hR hnl => ?_
  show Go X G 0 [(0, .ref (G.2.2.1 0)), (1, .int a1), (2, .int a2), (3, .int a3), (4, .int a4)] [] σ
  have hw : wpX11_isRow a1 a2 a3 σ (fun r_1 σ_2 =>
  ((r_1 = 0 →
    post 0 σ_2) ∧
  (¬ r_1 = 0 →
    wpX11_within a4 0 6 σ_2 (fun r_3 σ_4 =>
    ((¬ r_3 = 0 →
      wpX4_row a1 a2 a3 σ_4 (fun r_5 σ_6 =>
      vp_in r_5 12 ∧ (
      ∀ σ_7 : St, σ_7 = sI σ_6 11 r_5.toNatClampNeg a4 →
      wpX7_forgetRuns  σ_7 (fun σ_9 =>
      post 1 σ_9)))) ∧
    (r_3 = 0 →
      post 0 σ_4)))))) := hw
  refine go_iload_n C 1 rfl rfl dX11_cradles_0 ?_
  refine go_iload_n C 2 rfl rfl dX11_cradles_1 ?_
  refine go_iload_n C 3 rfl rfl dX11_cradles_2 ?_
  refine go_callS (as := [.int a1, .int a2, .int a3]) C hR cwX11_153 (Nat.le_trans (by decide) hd) (by decide) rfl rfl (Nat.le_of_ble_eq_true rfl) dX11_cradles_3 (spX11_isRow (Nat.le_refl _) hN hw) (fun v_ τ_ hw => ?_)
  obtain ⟨r_1, rfl, hw⟩ := hw
  obtain ⟨σ_2, rfl⟩ : ∃ z, z = τ_ := ⟨_, rfl⟩
  refine go_if_eq C 20 rfl dX11_cradles_6 (fun hc => ?_) (fun hc => ?_)
  · replace hw := hw.1 hc
    refine go_iconst (v := 0) C rfl dX11_cradles_20 ?_
    exact go_zret C hr rfl ⟨_, rfl, hw⟩ dX11_cradles_21
  · replace hw := hw.2 hc
    refine go_iload C 4 rfl dX11_cradles_9 ?_
    refine go_iconst (v := 0) C rfl dX11_cradles_11 ?_
    refine go_bipush (v := 6) C rfl dX11_cradles_12 ?_
    refine go_callS (as := [.int a4, .int 0, .int 6]) C hR cwX11_105 (Nat.le_trans (by decide) hd) (by decide) rfl rfl (Nat.le_of_ble_eq_true rfl) dX11_cradles_14 (spX11_within (Nat.le_refl _) hN hw) (fun v_ τ_ hw => ?_)
    obtain ⟨r_3, rfl, hw⟩ := hw
    obtain ⟨σ_4, rfl⟩ : ∃ z, z = τ_ := ⟨_, rfl⟩
    refine go_if_ne C 22 rfl dX11_cradles_17 (fun hc => ?_) (fun hc => ?_)
    · replace hw := hw.1 hc
      refine go_aload_n C 0 rfl rfl dX11_cradles_22 ?_
      refine go_get (v := .ref (G.2.2.1 9)) C (shX11 G) (ltX11 hN) lkX11_19 rfl dX11_cradles_23 ?_
      refine go_get (v := .ref (G.2.2.1 11)) C (shX4 G) (ltX4 hN) lkX11_173 rfl dX11_cradles_26 ?_
      refine go_iload_n C 1 rfl rfl dX11_cradles_29 ?_
      refine go_iload_n C 2 rfl rfl dX11_cradles_30 ?_
      refine go_iload_n C 3 rfl rfl dX11_cradles_31 ?_
      refine go_callS (as := [.int a1, .int a2, .int a3]) C hR cwX11_156 (Nat.le_trans (by decide) hd) (by decide) rfl rfl (Nat.le_of_ble_eq_true rfl) dX11_cradles_32 (spX4_row (Nat.le_refl _) hN hw) (fun v_ τ_ hw => ?_)
      obtain ⟨r_5, rfl, hw⟩ := hw
      obtain ⟨σ_6, rfl⟩ : ∃ z, z = τ_ := ⟨_, rfl⟩
      refine go_iload C 4 rfl dX11_cradles_35 ?_
      refine go_iast C (saX4_cradlesNow G) (laX4_cradlesNow hN) hw.1 dX11_cradles_37 (go_nm fun σ_7 eσ_7 => ?_)
      replace hw := hw.2 σ_7 eσ_7
      refine go_aload_n C 0 rfl rfl dX11_cradles_38 ?_
      refine go_get (v := .ref (G.2.2.1 64)) C (shX11 G) (ltX11 hN) lkX11_86 rfl dX11_cradles_39 ?_
      refine go_callV (as := []) C hR (shX7 G) (ltX7 hN) cwX11_117 (Nat.le_trans (by decide) hd) (by decide) rfl rfl (Nat.le_of_ble_eq_true rfl) dX11_cradles_42 (spX7_forgetRuns (Nat.le_refl _) hN hw) (fun v_ τ_ hw => ?_)
      obtain ⟨rfl, hw⟩ := hw
      obtain ⟨σ_9, rfl⟩ : ∃ z, z = τ_ := ⟨_, rfl⟩
      refine go_iconst (v := 1) C rfl dX11_cradles_45 ?_
      exact go_zret C hr rfl ⟨_, rfl, hw⟩ dX11_cradles_46
    · replace hw := hw.2 hc
      refine go_iconst (v := 0) C rfl dX11_cradles_20 ?_
      exact go_zret C hr rfl ⟨_, rfl, hw⟩ dX11_cradles_21
-- CradleNames.list(II)I
set_option maxRecDepth 20000 in
set_option maxHeartbeats 4000000 in
theorem spX11_list {l : Launch} {G : GT} {d : Nat}  (hd : 2 ≤ d)  (hN : 75 ≤ G.2.2.2.2.2)  {a1 : Int32} {a2 : Int32} {σ : St} {post : Int32 → St → Prop} (hw : wpX11_list  a1 a2 σ post) : Sp l G d yX11_list cX11_list 4 (some .int) [.ref (G.2.2.1 0), .int a1, .int a2] σ (fun v τ => ∃ r : Int32, v = some (.int r) ∧ post r τ) := by
  refine Sp.of (by decide) (Nat.le_of_ble_eq_true rfl) fun X C hr hR hnl => ?_
  show Go X G 0 [(0, .ref (G.2.2.1 0)), (1, .int a1), (2, .int a2)] [] σ
  have hw : ((8 ≤ (gI σ 9 8) →
    post (-1) σ) ∧
  (¬ 8 ≤ (gI σ 9 8) →
    wpX11_within a1 (gI σ 9 0) 60 σ (fun r_1 σ_2 =>
    ((¬ r_1 = 0 →
      ∀ v3_3 : Int32, v3_3 = ((1 <<< ((gI σ_2 1 0) &&& 31)) - 1) →
      wpX7_forgetRuns  σ_2 (fun σ_5 =>
      wpX4_addList a1 (a2 &&& v3_3) σ_5 (fun r_6 σ_7 =>
      post r_6 σ_7))) ∧
    (r_1 = 0 →
      post (-1) σ_2))))) := hw
  refine go_aload_n C 0 rfl rfl dX11_list_0 ?_
  refine go_get (v := .ref (G.2.2.1 9)) C (shX11 G) (ltX11 hN) lkX11_19 rfl dX11_list_1 ?_
  refine go_get (v := .int (gI σ 9 8)) C (shX4 G) (ltX4 hN) lkX11_176 rfl dX11_list_4 ?_
  refine go_bipush (v := 8) C rfl dX11_list_7 ?_
  refine go_icmp_ge C 28 rfl dX11_list_9 (fun hc => ?_) (fun hc => ?_)
  · replace hw := hw.1 hc
    refine go_iconst (v := (-1)) C rfl dX11_list_28 ?_
    exact go_iret C hr ⟨_, rfl, hw⟩ dX11_list_29
  · replace hw := hw.2 hc
    refine go_iload_n C 1 rfl rfl dX11_list_12 ?_
    refine go_aload_n C 0 rfl rfl dX11_list_13 ?_
    refine go_get (v := .ref (G.2.2.1 9)) C (shX11 G) (ltX11 hN) lkX11_19 rfl dX11_list_14 ?_
    refine go_get (v := .int (gI σ 9 0)) C (shX4 G) (ltX4 hN) lkX11_120 rfl dX11_list_17 ?_
    refine go_bipush (v := 60) C rfl dX11_list_20 ?_
    refine go_callS (as := [.int a1, .int (gI σ 9 0), .int 60]) C hR cwX11_105 (Nat.le_trans (by decide) hd) (by decide) rfl rfl (Nat.le_of_ble_eq_true rfl) dX11_list_22 (spX11_within (Nat.le_refl _) hN hw) (fun v_ τ_ hw => ?_)
    obtain ⟨r_1, rfl, hw⟩ := hw
    obtain ⟨σ_2, rfl⟩ : ∃ z, z = τ_ := ⟨_, rfl⟩
    refine go_if_ne C 30 rfl dX11_list_25 (fun hc => ?_) (fun hc => ?_)
    · replace hw := hw.1 hc
      refine go_iconst (v := 1) C rfl dX11_list_30 ?_
      refine go_aload_n C 0 rfl rfl dX11_list_31 ?_
      refine go_get (v := .ref (G.2.2.1 1)) C (shX11 G) (ltX11 hN) lkX11_10 rfl dX11_list_32 ?_
      refine go_get (v := .int (gI σ_2 1 0)) C (shX5 G) (ltX5 hN) lkX11_109 rfl dX11_list_35 ?_
      refine go_ishl C dX11_list_38 ?_
      refine go_iconst (v := 1) C rfl dX11_list_39 ?_
      refine go_isub C dX11_list_40 ?_
      refine go_topi (fun v3_3 ev3_3 => ?_)
      replace hw := hw v3_3 ev3_3
      refine go_istore_n (lv2 := [(3, .int v3_3), (0, .ref (G.2.2.1 0)), (1, .int a1), (2, .int a2)]) C rfl (by rw [hnl]; decide) rfl dX11_list_41 ?_
      refine go_aload_n C 1 rfl rfl dX11_list_42 ?_
      refine go_get (v := .ref (G.2.2.1 64)) C (shX11 G) (ltX11 hN) lkX11_86 rfl dX11_list_43 ?_
      refine go_callV (as := []) C hR (shX7 G) (ltX7 hN) cwX11_117 (Nat.le_trans (by decide) hd) (by decide) rfl rfl (Nat.le_of_ble_eq_true rfl) dX11_list_46 (spX7_forgetRuns (Nat.le_refl _) hN hw) (fun v_ τ_ hw => ?_)
      obtain ⟨rfl, hw⟩ := hw
      obtain ⟨σ_5, rfl⟩ : ∃ z, z = τ_ := ⟨_, rfl⟩
      refine go_aload_n C 1 rfl rfl dX11_list_49 ?_
      refine go_get (v := .ref (G.2.2.1 9)) C (shX11 G) (ltX11 hN) lkX11_19 rfl dX11_list_50 ?_
      refine go_iload_n C 2 rfl rfl dX11_list_53 ?_
      refine go_iload_n C 3 rfl rfl dX11_list_54 ?_
      refine go_iload_n C 0 rfl rfl dX11_list_55 ?_
      refine go_iand C dX11_list_56 ?_
      refine go_callV (as := [.int a1, .int (a2 &&& v3_3)]) C hR (shX4 G) (ltX4 hN) cwX11_179 (Nat.le_trans (by decide) hd) (by decide) rfl rfl (Nat.le_of_ble_eq_true rfl) dX11_list_57 (spX4_addList (Nat.le_refl _) hN hw) (fun v_ τ_ hw => ?_)
      obtain ⟨r_6, rfl, hw⟩ := hw
      obtain ⟨σ_7, rfl⟩ : ∃ z, z = τ_ := ⟨_, rfl⟩
      exact go_iret C hr ⟨_, rfl, hw⟩ dX11_list_60
    · replace hw := hw.2 hc
      refine go_iconst (v := (-1)) C rfl dX11_list_28 ?_
      exact go_iret C hr ⟨_, rfl, hw⟩ dX11_list_29
-- CradleNames.film(III)I
set_option maxRecDepth 20000 in
set_option maxHeartbeats 4000000 in
theorem spX11_film {l : Launch} {G : GT} {d : Nat}  (hd : 2 ≤ d)  (hN : 75 ≤ G.2.2.2.2.2)  {a1 : Int32} {a2 : Int32} {a3 : Int32} {σ : St} {post : Int32 → St → Prop} (hw : wpX11_film  a1 a2 a3 σ post) : Sp l G d yX11_film cX11_film 4 (some .int) [.ref (G.2.2.1 0), .int a1, .int a2, .int a3] σ (fun v τ => ∃ r : Int32, v = some (.int r) ∧ post r τ) := by
  refine Sp.of (by decide) (Nat.le_of_ble_eq_true rfl) fun X C hr hR hnl => ?_
  show Go X G 0 [(0, .ref (G.2.2.1 0)), (1, .int a1), (2, .int a2), (3, .int a3)] [] σ
  have hw : ((8 ≤ (gI σ 9 11) →
    post (-1) σ) ∧
  (¬ 8 ≤ (gI σ 9 11) →
    wpX5_has a1 σ (fun r_1 σ_2 =>
    ((¬ r_1 = 0 →
      wpX11_within a2 (gI σ_2 9 0) 60 σ_2 (fun r_3 σ_4 =>
      ((r_3 = 0 →
        post (-1) σ_4) ∧
      (¬ r_3 = 0 →
        wpX11_within a3 1 999 σ_4 (fun r_5 σ_6 =>
        ((¬ r_5 = 0 →
          wpX7_forgetRuns  σ_6 (fun σ_8 =>
          wpX4_addFilm a1 a2 a3 σ_8 (fun r_9 σ_10 =>
          post r_9 σ_10))) ∧
        (r_5 = 0 →
          post (-1) σ_6))))))) ∧
    (r_1 = 0 →
      post (-1) σ_2))))) := hw
  refine go_aload_n C 0 rfl rfl dX11_film_0 ?_
  refine go_get (v := .ref (G.2.2.1 9)) C (shX11 G) (ltX11 hN) lkX11_19 rfl dX11_film_1 ?_
  refine go_get (v := .int (gI σ 9 11)) C (shX4 G) (ltX4 hN) lkX11_182 rfl dX11_film_4 ?_
  refine go_bipush (v := 8) C rfl dX11_film_7 ?_
  refine go_icmp_ge C 23 rfl dX11_film_9 (fun hc => ?_) (fun hc => ?_)
  · replace hw := hw.1 hc
    refine go_iconst (v := (-1)) C rfl dX11_film_23 ?_
    exact go_iret C hr ⟨_, rfl, hw⟩ dX11_film_24
  · replace hw := hw.2 hc
    refine go_aload_n C 0 rfl rfl dX11_film_12 ?_
    refine go_get (v := .ref (G.2.2.1 1)) C (shX11 G) (ltX11 hN) lkX11_10 rfl dX11_film_13 ?_
    refine go_iload_n C 1 rfl rfl dX11_film_16 ?_
    refine go_callV (as := [.int a1]) C hR (shX5 G) (ltX5 hN) cwX11_127 (Nat.le_trans (by decide) hd) (by decide) rfl rfl (Nat.le_of_ble_eq_true rfl) dX11_film_17 (spX5_has (Nat.le_refl _) hN hw) (fun v_ τ_ hw => ?_)
    obtain ⟨r_1, rfl, hw⟩ := hw
    obtain ⟨σ_2, rfl⟩ : ∃ z, z = τ_ := ⟨_, rfl⟩
    refine go_if_ne C 25 rfl dX11_film_20 (fun hc => ?_) (fun hc => ?_)
    · replace hw := hw.1 hc
      refine go_iload_n C 2 rfl rfl dX11_film_25 ?_
      refine go_aload_n C 0 rfl rfl dX11_film_26 ?_
      refine go_get (v := .ref (G.2.2.1 9)) C (shX11 G) (ltX11 hN) lkX11_19 rfl dX11_film_27 ?_
      refine go_get (v := .int (gI σ_2 9 0)) C (shX4 G) (ltX4 hN) lkX11_120 rfl dX11_film_30 ?_
      refine go_bipush (v := 60) C rfl dX11_film_33 ?_
      refine go_callS (as := [.int a2, .int (gI σ_2 9 0), .int 60]) C hR cwX11_105 (Nat.le_trans (by decide) hd) (by decide) rfl rfl (Nat.le_of_ble_eq_true rfl) dX11_film_35 (spX11_within (Nat.le_refl _) hN hw) (fun v_ τ_ hw => ?_)
      obtain ⟨r_3, rfl, hw⟩ := hw
      obtain ⟨σ_4, rfl⟩ : ∃ z, z = τ_ := ⟨_, rfl⟩
      refine go_if_eq C 52 rfl dX11_film_38 (fun hc => ?_) (fun hc => ?_)
      · replace hw := hw.1 hc
        refine go_iconst (v := (-1)) C rfl dX11_film_52 ?_
        exact go_iret C hr ⟨_, rfl, hw⟩ dX11_film_53
      · replace hw := hw.2 hc
        refine go_iload_n C 3 rfl rfl dX11_film_41 ?_
        refine go_iconst (v := 1) C rfl dX11_film_42 ?_
        refine go_sipush (v := 999) C rfl dX11_film_43 ?_
        refine go_callS (as := [.int a3, .int 1, .int 999]) C hR cwX11_105 (Nat.le_trans (by decide) hd) (by decide) rfl rfl (Nat.le_of_ble_eq_true rfl) dX11_film_46 (spX11_within (Nat.le_refl _) hN hw) (fun v_ τ_ hw => ?_)
        obtain ⟨r_5, rfl, hw⟩ := hw
        obtain ⟨σ_6, rfl⟩ : ∃ z, z = τ_ := ⟨_, rfl⟩
        refine go_if_ne C 54 rfl dX11_film_49 (fun hc => ?_) (fun hc => ?_)
        · replace hw := hw.1 hc
          refine go_aload_n C 0 rfl rfl dX11_film_54 ?_
          refine go_get (v := .ref (G.2.2.1 64)) C (shX11 G) (ltX11 hN) lkX11_86 rfl dX11_film_55 ?_
          refine go_callV (as := []) C hR (shX7 G) (ltX7 hN) cwX11_117 (Nat.le_trans (by decide) hd) (by decide) rfl rfl (Nat.le_of_ble_eq_true rfl) dX11_film_58 (spX7_forgetRuns (Nat.le_refl _) hN hw) (fun v_ τ_ hw => ?_)
          obtain ⟨rfl, hw⟩ := hw
          obtain ⟨σ_8, rfl⟩ : ∃ z, z = τ_ := ⟨_, rfl⟩
          refine go_aload_n C 0 rfl rfl dX11_film_61 ?_
          refine go_get (v := .ref (G.2.2.1 9)) C (shX11 G) (ltX11 hN) lkX11_19 rfl dX11_film_62 ?_
          refine go_iload_n C 1 rfl rfl dX11_film_65 ?_
          refine go_iload_n C 2 rfl rfl dX11_film_66 ?_
          refine go_iload_n C 3 rfl rfl dX11_film_67 ?_
          refine go_callV (as := [.int a1, .int a2, .int a3]) C hR (shX4 G) (ltX4 hN) cwX11_185 (Nat.le_trans (by decide) hd) (by decide) rfl rfl (Nat.le_of_ble_eq_true rfl) dX11_film_68 (spX4_addFilm (Nat.le_refl _) hN hw) (fun v_ τ_ hw => ?_)
          obtain ⟨r_9, rfl, hw⟩ := hw
          obtain ⟨σ_10, rfl⟩ : ∃ z, z = τ_ := ⟨_, rfl⟩
          exact go_iret C hr ⟨_, rfl, hw⟩ dX11_film_71
        · replace hw := hw.2 hc
          refine go_iconst (v := (-1)) C rfl dX11_film_52 ?_
          exact go_iret C hr ⟨_, rfl, hw⟩ dX11_film_53
    · replace hw := hw.2 hc
      refine go_iconst (v := (-1)) C rfl dX11_film_23 ?_
      exact go_iret C hr ⟨_, rfl, hw⟩ dX11_film_24
-- CradleNames.feed(IIIII)I
set_option maxRecDepth 20000 in
set_option maxHeartbeats 4000000 in
theorem spX11_feed {l : Launch} {G : GT} {d : Nat}  (hd : 2 ≤ d)  (hN : 75 ≤ G.2.2.2.2.2)  {a1 : Int32} {a2 : Int32} {a3 : Int32} {a4 : Int32} {a5 : Int32} {σ : St} {post : Int32 → St → Prop} (hw : wpX11_feed  a1 a2 a3 a4 a5 σ post) : Sp l G d yX11_feed cX11_feed 6 (some .int) [.ref (G.2.2.1 0), .int a1, .int a2, .int a3, .int a4, .int a5] σ (fun v τ => ∃ r : Int32, v = some (.int r) ∧ post r τ) := by
  refine Sp.of (by decide) (Nat.le_of_ble_eq_true rfl) fun X C hr hR hnl => ?_
  show Go X G 0 [(0, .ref (G.2.2.1 0)), (1, .int a1), (2, .int a2), (3, .int a3), (4, .int a4), (5, .int a5)] [] σ
  have hw : wpX8_hasRoom  σ (fun r_1 σ_2 =>
  ((¬ r_1 = 0 →
    wpX8_put a1 σ_2 (fun σ_4 =>
    wpX8_put a2 σ_4 (fun σ_6 =>
    wpX8_put a3 σ_6 (fun σ_8 =>
    wpX8_put a4 σ_8 (fun σ_10 =>
    wpX8_put a5 σ_10 (fun σ_12 =>
    post (gI σ_12 42 1) σ_12)))))) ∧
  (r_1 = 0 →
    post (-1) σ_2))) := hw
  refine go_aload_n C 0 rfl rfl dX11_feed_0 ?_
  refine go_get (v := .ref (G.2.2.1 42)) C (shX11 G) (ltX11 hN) lkX11_45 rfl dX11_feed_1 ?_
  refine go_callV (as := []) C hR (shX8 G) (ltX8 hN) cwX11_188 (Nat.le_trans (by decide) hd) (by decide) rfl rfl (Nat.le_of_ble_eq_true rfl) dX11_feed_4 (spX8_hasRoom (Nat.le_refl _) hN hw) (fun v_ τ_ hw => ?_)
  obtain ⟨r_1, rfl, hw⟩ := hw
  obtain ⟨σ_2, rfl⟩ : ∃ z, z = τ_ := ⟨_, rfl⟩
  refine go_if_ne C 12 rfl dX11_feed_7 (fun hc => ?_) (fun hc => ?_)
  · replace hw := hw.1 hc
    refine go_aload_n C 0 rfl rfl dX11_feed_12 ?_
    refine go_get (v := .ref (G.2.2.1 42)) C (shX11 G) (ltX11 hN) lkX11_45 rfl dX11_feed_13 ?_
    refine go_iload_n C 1 rfl rfl dX11_feed_16 ?_
    refine go_callV (as := [.int a1]) C hR (shX8 G) (ltX8 hN) cwX11_192 (Nat.le_trans (by decide) hd) (by decide) rfl rfl (Nat.le_of_ble_eq_true rfl) dX11_feed_17 (spX8_put (Nat.le_refl _) hN hw) (fun v_ τ_ hw => ?_)
    obtain ⟨rfl, hw⟩ := hw
    obtain ⟨σ_4, rfl⟩ : ∃ z, z = τ_ := ⟨_, rfl⟩
    refine go_aload_n C 0 rfl rfl dX11_feed_20 ?_
    refine go_get (v := .ref (G.2.2.1 42)) C (shX11 G) (ltX11 hN) lkX11_45 rfl dX11_feed_21 ?_
    refine go_iload_n C 2 rfl rfl dX11_feed_24 ?_
    refine go_callV (as := [.int a2]) C hR (shX8 G) (ltX8 hN) cwX11_192 (Nat.le_trans (by decide) hd) (by decide) rfl rfl (Nat.le_of_ble_eq_true rfl) dX11_feed_25 (spX8_put (Nat.le_refl _) hN hw) (fun v_ τ_ hw => ?_)
    obtain ⟨rfl, hw⟩ := hw
    obtain ⟨σ_6, rfl⟩ : ∃ z, z = τ_ := ⟨_, rfl⟩
    refine go_aload_n C 0 rfl rfl dX11_feed_28 ?_
    refine go_get (v := .ref (G.2.2.1 42)) C (shX11 G) (ltX11 hN) lkX11_45 rfl dX11_feed_29 ?_
    refine go_iload_n C 3 rfl rfl dX11_feed_32 ?_
    refine go_callV (as := [.int a3]) C hR (shX8 G) (ltX8 hN) cwX11_192 (Nat.le_trans (by decide) hd) (by decide) rfl rfl (Nat.le_of_ble_eq_true rfl) dX11_feed_33 (spX8_put (Nat.le_refl _) hN hw) (fun v_ τ_ hw => ?_)
    obtain ⟨rfl, hw⟩ := hw
    obtain ⟨σ_8, rfl⟩ : ∃ z, z = τ_ := ⟨_, rfl⟩
    refine go_aload_n C 0 rfl rfl dX11_feed_36 ?_
    refine go_get (v := .ref (G.2.2.1 42)) C (shX11 G) (ltX11 hN) lkX11_45 rfl dX11_feed_37 ?_
    refine go_iload C 4 rfl dX11_feed_40 ?_
    refine go_callV (as := [.int a4]) C hR (shX8 G) (ltX8 hN) cwX11_192 (Nat.le_trans (by decide) hd) (by decide) rfl rfl (Nat.le_of_ble_eq_true rfl) dX11_feed_42 (spX8_put (Nat.le_refl _) hN hw) (fun v_ τ_ hw => ?_)
    obtain ⟨rfl, hw⟩ := hw
    obtain ⟨σ_10, rfl⟩ : ∃ z, z = τ_ := ⟨_, rfl⟩
    refine go_aload_n C 0 rfl rfl dX11_feed_45 ?_
    refine go_get (v := .ref (G.2.2.1 42)) C (shX11 G) (ltX11 hN) lkX11_45 rfl dX11_feed_46 ?_
    refine go_iload C 5 rfl dX11_feed_49 ?_
    refine go_callV (as := [.int a5]) C hR (shX8 G) (ltX8 hN) cwX11_192 (Nat.le_trans (by decide) hd) (by decide) rfl rfl (Nat.le_of_ble_eq_true rfl) dX11_feed_51 (spX8_put (Nat.le_refl _) hN hw) (fun v_ τ_ hw => ?_)
    obtain ⟨rfl, hw⟩ := hw
    obtain ⟨σ_12, rfl⟩ : ∃ z, z = τ_ := ⟨_, rfl⟩
    refine go_aload_n C 0 rfl rfl dX11_feed_54 ?_
    refine go_get (v := .ref (G.2.2.1 42)) C (shX11 G) (ltX11 hN) lkX11_45 rfl dX11_feed_55 ?_
    refine go_get (v := .int (gI σ_12 42 1)) C (shX8 G) (ltX8 hN) lkX11_196 rfl dX11_feed_58 ?_
    exact go_iret C hr ⟨_, rfl, hw⟩ dX11_feed_61
  · replace hw := hw.2 hc
    refine go_iconst (v := (-1)) C rfl dX11_feed_10 ?_
    exact go_iret C hr ⟨_, rfl, hw⟩ dX11_feed_11
-- CradleNames.end(I)I
set_option maxRecDepth 20000 in
set_option maxHeartbeats 4000000 in
theorem spX11_end {l : Launch} {G : GT} {d : Nat}  (hd : 2 ≤ d)  (hN : 75 ≤ G.2.2.2.2.2)  {a1 : Int32} {σ : St} {post : Int32 → St → Prop} (hw : wpX11_end  a1 σ post) : Sp l G d yX11_end cX11_end 2 (some .int) [.ref (G.2.2.1 0), .int a1] σ (fun v τ => ∃ r : Int32, v = some (.int r) ∧ post r τ) := by
  refine Sp.of (by decide) (Nat.le_of_ble_eq_true rfl) fun X C hr hR hnl => ?_
  show Go X G 0 [(0, .ref (G.2.2.1 0)), (1, .int a1)] [] σ
  have hw : wpX11_within a1 0 (gI σ 42 1) σ (fun r_1 σ_2 =>
  ((¬ r_1 = 0 →
    ∀ σ_3 : St, σ_3 = sI σ_2 42 1 a1 →
    post a1 σ_3) ∧
  (r_1 = 0 →
    post (-1) σ_2))) := hw
  refine go_iload_n C 1 rfl rfl dX11_end_0 ?_
  refine go_iconst (v := 0) C rfl dX11_end_1 ?_
  refine go_aload_n C 0 rfl rfl dX11_end_2 ?_
  refine go_get (v := .ref (G.2.2.1 42)) C (shX11 G) (ltX11 hN) lkX11_45 rfl dX11_end_3 ?_
  refine go_get (v := .int (gI σ 42 1)) C (shX8 G) (ltX8 hN) lkX11_196 rfl dX11_end_6 ?_
  refine go_callS (as := [.int a1, .int 0, .int (gI σ 42 1)]) C hR cwX11_105 (Nat.le_trans (by decide) hd) (by decide) rfl rfl (Nat.le_of_ble_eq_true rfl) dX11_end_9 (spX11_within (Nat.le_refl _) hN hw) (fun v_ τ_ hw => ?_)
  obtain ⟨r_1, rfl, hw⟩ := hw
  obtain ⟨σ_2, rfl⟩ : ∃ z, z = τ_ := ⟨_, rfl⟩
  refine go_if_ne C 17 rfl dX11_end_12 (fun hc => ?_) (fun hc => ?_)
  · replace hw := hw.1 hc
    refine go_aload_n C 0 rfl rfl dX11_end_17 ?_
    refine go_get (v := .ref (G.2.2.1 42)) C (shX11 G) (ltX11 hN) lkX11_45 rfl dX11_end_18 ?_
    refine go_iload_n C 1 rfl rfl dX11_end_21 ?_
    refine go_puti C (shX8 G) (ltX8 hN) lpX11_196 (show 1 < 11 by decide) (pxX8_1 G _ _) dX11_end_22 (go_nm fun σ_3 eσ_3 => ?_)
    replace hw := hw σ_3 eσ_3
    refine go_iload_n C 1 rfl rfl dX11_end_25 ?_
    exact go_iret C hr ⟨_, rfl, hw⟩ dX11_end_26
  · replace hw := hw.2 hc
    refine go_iconst (v := (-1)) C rfl dX11_end_15 ?_
    exact go_iret C hr ⟨_, rfl, hw⟩ dX11_end_16
-- CradleNames.taste()I
set_option maxRecDepth 20000 in
set_option maxHeartbeats 4000000 in
theorem spX11_taste {l : Launch} {G : GT} {d : Nat}  (hd : 61 ≤ d)  (hN : 75 ≤ G.2.2.2.2.2)   {σ : St} {post : Int32 → St → Prop} (hw : wpX11_taste   σ post) : Sp l G d yX11_taste cX11_taste 1 (some .int) [.ref (G.2.2.1 0)] σ (fun v τ => ∃ r : Int32, v = some (.int r) ∧ post r τ) := by
  refine Sp.of (by decide) (Nat.le_of_ble_eq_true rfl) fun X C hr hR hnl => ?_
  show Go X G 0 [(0, .ref (G.2.2.1 0))] [] σ
  have hw : ((6 ≤ (gI σ 0 5) →
    post (-1) σ) ∧
  (¬ 6 ≤ (gI σ 0 5) →
    vp_in (gI σ 0 5) 6 ∧ (
    wpX8_read ((gI σ 0 5).toNatClampNeg) σ (fun r_2 σ_3 =>
    ((¬ r_2 = 0 →
      ∀ σ_4 : St, σ_4 = sI σ_3 0 5 ((gI σ_3 0 5) + 1) →
      post ((gI σ_4 0 5) - 1) σ_4) ∧
    (r_2 = 0 →
      post (-1) σ_3)))))) := hw
  refine go_aload_n C 0 rfl rfl dX11_taste_0 ?_
  refine go_get (v := .int (gI σ 0 5)) C (shX11 G) (ltX11 hN) lkX11_199 rfl dX11_taste_1 ?_
  refine go_bipush (v := 6) C rfl dX11_taste_4 ?_
  refine go_icmp_ge C 28 rfl dX11_taste_6 (fun hc => ?_) (fun hc => ?_)
  · replace hw := hw.1 hc
    refine go_iconst (v := (-1)) C rfl dX11_taste_28 ?_
    exact go_iret C hr ⟨_, rfl, hw⟩ dX11_taste_29
  · replace hw := hw.2 hc
    refine go_aload_n C 0 rfl rfl dX11_taste_9 ?_
    refine go_get (v := .ref (G.2.2.1 42)) C (shX11 G) (ltX11 hN) lkX11_45 rfl dX11_taste_10 ?_
    refine go_aload_n C 0 rfl rfl dX11_taste_13 ?_
    refine go_get (v := .ref (G.2.2.1 29)) C (shX11 G) (ltX11 hN) lkX11_35 rfl dX11_taste_14 ?_
    refine go_aload_n C 0 rfl rfl dX11_taste_17 ?_
    refine go_get (v := .int (gI σ 0 5)) C (shX11 G) (ltX11 hN) lkX11_199 rfl dX11_taste_18 ?_
    have ht_1 := vp_in_lt hw.1
    refine go_tald C hN hw.1 dX11_taste_21 ?_
    replace hw := hw.2
    refine go_callV (as := [.ref (G.2.2.1 (30 + 2 * (gI σ 0 5).toNatClampNeg))]) C hR (shX8 G) (ltX8 hN) cwX11_202 (Nat.le_trans (by decide) hd) (by decide) rfl rfl (Nat.le_of_ble_eq_true rfl) dX11_taste_22 (spX8_read (Nat.le_refl _) hN ht_1 hw) (fun v_ τ_ hw => ?_)
    obtain ⟨r_2, rfl, hw⟩ := hw
    obtain ⟨σ_3, rfl⟩ : ∃ z, z = τ_ := ⟨_, rfl⟩
    refine go_if_ne C 30 rfl dX11_taste_25 (fun hc => ?_) (fun hc => ?_)
    · replace hw := hw.1 hc
      refine go_aload_n C 0 rfl rfl dX11_taste_30 ?_
      refine go_dup C rfl dX11_taste_31 ?_
      refine go_get (v := .int (gI σ_3 0 5)) C (shX11 G) (ltX11 hN) lkX11_199 rfl dX11_taste_32 ?_
      refine go_iconst (v := 1) C rfl dX11_taste_35 ?_
      refine go_iadd C dX11_taste_36 ?_
      refine go_puti C (shX11 G) (ltX11 hN) lpX11_199 (show 5 < 13 by decide) (pxX11_5 G _ _) dX11_taste_37 (go_nm fun σ_4 eσ_4 => ?_)
      replace hw := hw σ_4 eσ_4
      refine go_aload_n C 0 rfl rfl dX11_taste_40 ?_
      refine go_get (v := .int (gI σ_4 0 5)) C (shX11 G) (ltX11 hN) lkX11_199 rfl dX11_taste_41 ?_
      refine go_iconst (v := 1) C rfl dX11_taste_44 ?_
      refine go_isub C dX11_taste_45 ?_
      exact go_iret C hr ⟨_, rfl, hw⟩ dX11_taste_46
    · replace hw := hw.2 hc
      refine go_iconst (v := (-1)) C rfl dX11_taste_28 ?_
      exact go_iret C hr ⟨_, rfl, hw⟩ dX11_taste_29
-- CradleNames.fault(I)I
set_option maxRecDepth 20000 in
set_option maxHeartbeats 4000000 in
theorem spX11_fault {l : Launch} {G : GT} {d : Nat}  (hd : 1 ≤ d)  (hN : 75 ≤ G.2.2.2.2.2)  {a1 : Int32} {σ : St} {post : Int32 → St → Prop} (hw : wpX11_fault  a1 σ post) : Sp l G d yX11_fault cX11_fault 2 (some .int) [.ref (G.2.2.1 0), .int a1] σ (fun v τ => ∃ r : Int32, v = some (.int r) ∧ post r τ) := by
  refine Sp.of (by decide) (Nat.le_of_ble_eq_true rfl) fun X C hr hR hnl => ?_
  show Go X G 0 [(0, .ref (G.2.2.1 0)), (1, .int a1)] [] σ
  have hw : ((¬ a1 = 0 →
    ((¬ a1 = 1 →
      post (-1) σ) ∧
    (a1 = 1 →
      post (gI σ 42 3) σ))) ∧
  (a1 = 0 →
    post (gI σ 42 2) σ)) := hw
  refine go_iload_n C 1 rfl rfl dX11_fault_0 ?_
  refine go_if_ne C 12 rfl dX11_fault_1 (fun hc => ?_) (fun hc => ?_)
  · replace hw := hw.1 hc
    refine go_iload_n C 1 rfl rfl dX11_fault_12 ?_
    refine go_iconst (v := 1) C rfl dX11_fault_13 ?_
    refine go_icmp_ne C 27 rfl dX11_fault_14 (fun hc => ?_) (fun hc => ?_)
    · replace hw := hw.1 hc
      refine go_iconst (v := (-1)) C rfl dX11_fault_27 ?_
      exact go_iret C hr ⟨_, rfl, hw⟩ dX11_fault_28
    · replace hw := hw.2 hc
      refine go_aload_n C 0 rfl rfl dX11_fault_17 ?_
      refine go_get (v := .ref (G.2.2.1 42)) C (shX11 G) (ltX11 hN) lkX11_45 rfl dX11_fault_18 ?_
      refine go_get (v := .int (gI σ 42 3)) C (shX8 G) (ltX8 hN) lkX11_209 rfl dX11_fault_21 ?_
      refine go_goto C 28 rfl dX11_fault_24 ?_
      exact go_iret C hr ⟨_, rfl, hw⟩ dX11_fault_28
  · replace hw := hw.2 hc
    refine go_aload_n C 0 rfl rfl dX11_fault_4 ?_
    refine go_get (v := .ref (G.2.2.1 42)) C (shX11 G) (ltX11 hN) lkX11_45 rfl dX11_fault_5 ?_
    refine go_get (v := .int (gI σ 42 2)) C (shX8 G) (ltX8 hN) lkX11_206 rfl dX11_fault_8 ?_
    exact go_iret C hr ⟨_, rfl, hw⟩ dX11_fault_11
-- CradleNames.by(II)Z
set_option maxRecDepth 20000 in
set_option maxHeartbeats 4000000 in
theorem spX11_by {l : Launch} {G : GT} {d : Nat}  (hd : 2 ≤ d)  (hN : 75 ≤ G.2.2.2.2.2)  {a1 : Int32} {a2 : Int32} {σ : St} {post : Int32 → St → Prop} (hw : wpX11_by  a1 a2 σ post) : Sp l G d yX11_by cX11_by 3 (some .boolean) [.ref (G.2.2.1 0), .int a1, .int a2] σ (fun v τ => ∃ r : Int32, v = some (.int r) ∧ post r τ) := by
  refine Sp.of (by decide) (Nat.le_of_ble_eq_true rfl) fun X C hr hR hnl => ?_
  show Go X G 0 [(0, .ref (G.2.2.1 0)), (1, .int a1), (2, .int a2)] [] σ
  have hw : wpX11_within a1 0 1 σ (fun r_1 σ_2 =>
  ((r_1 = 0 →
    post 0 σ_2) ∧
  (¬ r_1 = 0 →
    wpX11_within a2 (-1) ((gI σ_2 0 5) - 1) σ_2 (fun r_3 σ_4 =>
    ((¬ r_3 = 0 →
      vp_in a1 2 ∧ (
      ∀ σ_5 : St, σ_5 = sI σ_4 13 a1.toNatClampNeg a2 →
      post 1 σ_5)) ∧
    (r_3 = 0 →
      post 0 σ_4)))))) := hw
  refine go_iload_n C 1 rfl rfl dX11_by_0 ?_
  refine go_iconst (v := 0) C rfl dX11_by_1 ?_
  refine go_iconst (v := 1) C rfl dX11_by_2 ?_
  refine go_callS (as := [.int a1, .int 0, .int 1]) C hR cwX11_105 (Nat.le_trans (by decide) hd) (by decide) rfl rfl (Nat.le_of_ble_eq_true rfl) dX11_by_3 (spX11_within (Nat.le_refl _) hN hw) (fun v_ τ_ hw => ?_)
  obtain ⟨r_1, rfl, hw⟩ := hw
  obtain ⟨σ_2, rfl⟩ : ∃ z, z = τ_ := ⟨_, rfl⟩
  refine go_if_eq C 23 rfl dX11_by_6 (fun hc => ?_) (fun hc => ?_)
  · replace hw := hw.1 hc
    refine go_iconst (v := 0) C rfl dX11_by_23 ?_
    exact go_zret C hr rfl ⟨_, rfl, hw⟩ dX11_by_24
  · replace hw := hw.2 hc
    refine go_iload_n C 2 rfl rfl dX11_by_9 ?_
    refine go_iconst (v := (-1)) C rfl dX11_by_10 ?_
    refine go_aload_n C 0 rfl rfl dX11_by_11 ?_
    refine go_get (v := .int (gI σ_2 0 5)) C (shX11 G) (ltX11 hN) lkX11_199 rfl dX11_by_12 ?_
    refine go_iconst (v := 1) C rfl dX11_by_15 ?_
    refine go_isub C dX11_by_16 ?_
    refine go_callS (as := [.int a2, .int (-1), .int ((gI σ_2 0 5) - 1)]) C hR cwX11_105 (Nat.le_trans (by decide) hd) (by decide) rfl rfl (Nat.le_of_ble_eq_true rfl) dX11_by_17 (spX11_within (Nat.le_refl _) hN hw) (fun v_ τ_ hw => ?_)
    obtain ⟨r_3, rfl, hw⟩ := hw
    obtain ⟨σ_4, rfl⟩ : ∃ z, z = τ_ := ⟨_, rfl⟩
    refine go_if_ne C 25 rfl dX11_by_20 (fun hc => ?_) (fun hc => ?_)
    · replace hw := hw.1 hc
      refine go_aload_n C 0 rfl rfl dX11_by_25 ?_
      refine go_get (v := .ref (G.2.2.1 9)) C (shX11 G) (ltX11 hN) lkX11_19 rfl dX11_by_26 ?_
      refine go_get (v := .ref (G.2.2.1 13)) C (shX4 G) (ltX4 hN) lkX11_212 rfl dX11_by_29 ?_
      refine go_iload_n C 1 rfl rfl dX11_by_32 ?_
      refine go_iload_n C 2 rfl rfl dX11_by_33 ?_
      refine go_iast C (saX4_heldNow G) (laX4_heldNow hN) hw.1 dX11_by_34 (go_nm fun σ_5 eσ_5 => ?_)
      replace hw := hw.2 σ_5 eσ_5
      refine go_iconst (v := 1) C rfl dX11_by_35 ?_
      exact go_zret C hr rfl ⟨_, rfl, hw⟩ dX11_by_36
    · replace hw := hw.2 hc
      refine go_iconst (v := 0) C rfl dX11_by_23 ?_
      exact go_zret C hr rfl ⟨_, rfl, hw⟩ dX11_by_24
-- CradleNames.years(I)I
set_option maxRecDepth 20000 in
set_option maxHeartbeats 4000000 in
theorem gbX11_years_28 {X : XT} {G : GT} {l : Launch} {d : Nat}  {post : Int32 → St → Prop} (C : Cx X G cX11_years RX11) (hr : Rt X G (some .int) (fun v τ => ∃ r : Int32, v = some (.int r) ∧ post r τ)) (hR : Rm X l d) (hnl : X.2.2.2.2.2.2.2.2.2.2.1 = 4)  (hd : 7 ≤ d) (hN : 75 ≤ G.2.2.2.2.2)   
    : ∀ (n : Nat) (v1 : Int32) (v2 : Int32) (σ : St), wbX11_years_28   post n v1 v2 σ → Go X G 28 [(0, .ref (G.2.2.1 0)), (1, .int v1), (2, .int v2)] [] σ := by
  intro n
  induction n with
  | zero => intro v1 v2 σ hw; exact hw.elim
  | succ n ih =>
    intro v1 v2 σ hw
    have hw : ((v1 ≤ v2 →
      wpX0_open 0 (gI σ 9 0) σ (fun σ_2 =>
      post (gI σ_2 9 0) σ_2)) ∧
    (¬ v1 ≤ v2 →
      wpX1_pass 0 (gI σ 9 0) (-1) σ (fun r_3 σ_4 =>
      wpX4_closeYear r_3 σ_4 (fun σ_6 =>
      ∀ v2_7 : Int32, v2_7 = v2 + 1 →
      wbX11_years_28 post n v1 v2_7 σ_6)))) := hw
    refine go_iload_n C 2 rfl rfl dX11_years_28 ?_
    refine go_iload_n C 1 rfl rfl dX11_years_29 ?_
    refine go_icmp_ge C 67 rfl dX11_years_30 (fun hc => ?_) (fun hc => ?_)
    · replace hw := hw.1 hc
      refine go_aload_n C 0 rfl rfl dX11_years_67 ?_
      refine go_get (v := .ref (G.2.2.1 (21 + 4 * 0))) C (shX11 G) (ltX11 hN) lkX11_26 rfl dX11_years_68 ?_
      refine go_aload_n C 0 rfl rfl dX11_years_71 ?_
      refine go_get (v := .ref (G.2.2.1 9)) C (shX11 G) (ltX11 hN) lkX11_19 rfl dX11_years_72 ?_
      refine go_get (v := .int (gI σ 9 0)) C (shX4 G) (ltX4 hN) lkX11_120 rfl dX11_years_75 ?_
      refine go_callV (as := [.int (gI σ 9 0)]) C hR (shX0 G (show 0 < 2 by decide)) (ltX0 hN (show 0 < 2 by decide)) cwX11_222 (Nat.le_trans (by decide) hd) (by decide) rfl rfl (Nat.le_of_ble_eq_true rfl) dX11_years_78 (spX0_open (Nat.le_refl _) hN (show 0 < 2 by decide) hw) (fun v_ τ_ hw => ?_)
      obtain ⟨rfl, hw⟩ := hw
      obtain ⟨σ_2, rfl⟩ : ∃ z, z = τ_ := ⟨_, rfl⟩
      refine go_aload_n C 0 rfl rfl dX11_years_81 ?_
      refine go_get (v := .ref (G.2.2.1 9)) C (shX11 G) (ltX11 hN) lkX11_19 rfl dX11_years_82 ?_
      refine go_get (v := .int (gI σ_2 9 0)) C (shX4 G) (ltX4 hN) lkX11_120 rfl dX11_years_85 ?_
      exact go_iret C hr ⟨_, rfl, hw⟩ dX11_years_88
    · replace hw := hw.2 hc
      refine go_aload_n C 0 rfl rfl dX11_years_33 ?_
      refine go_get (v := .ref (G.2.2.1 51)) C (shX11 G) (ltX11 hN) lkX11_63 rfl dX11_years_34 ?_
      refine go_aload_n C 0 rfl rfl dX11_years_37 ?_
      refine go_get (v := .ref (G.2.2.1 (21 + 4 * 0))) C (shX11 G) (ltX11 hN) lkX11_26 rfl dX11_years_38 ?_
      refine go_aload_n C 0 rfl rfl dX11_years_41 ?_
      refine go_get (v := .ref (G.2.2.1 9)) C (shX11 G) (ltX11 hN) lkX11_19 rfl dX11_years_42 ?_
      refine go_get (v := .int (gI σ 9 0)) C (shX4 G) (ltX4 hN) lkX11_120 rfl dX11_years_45 ?_
      refine go_iconst (v := (-1)) C rfl dX11_years_48 ?_
      refine go_callV (as := [.ref (G.2.2.1 (21 + 4 * 0)), .int (gI σ 9 0), .int (-1)]) C hR (shX1 G) (ltX1 hN) cwX11_215 (Nat.le_trans (by decide) hd) (by decide) rfl rfl (Nat.le_of_ble_eq_true rfl) dX11_years_49 (spX1_pass (Nat.le_refl _) hN (show 0 < 2 by decide) hw) (fun v_ τ_ hw => ?_)
      obtain ⟨r_3, rfl, hw⟩ := hw
      obtain ⟨σ_4, rfl⟩ : ∃ z, z = τ_ := ⟨_, rfl⟩
      refine go_istore_n (lv2 := [(3, .int r_3), (0, .ref (G.2.2.1 0)), (1, .int v1), (2, .int v2)]) C rfl (by rw [hnl]; decide) rfl dX11_years_52 ?_
      refine go_aload_n C 1 rfl rfl dX11_years_53 ?_
      refine go_get (v := .ref (G.2.2.1 9)) C (shX11 G) (ltX11 hN) lkX11_19 rfl dX11_years_54 ?_
      refine go_iload_n C 0 rfl rfl dX11_years_57 ?_
      refine go_callV (as := [.int r_3]) C hR (shX4 G) (ltX4 hN) cwX11_219 (Nat.le_trans (by decide) hd) (by decide) rfl rfl (Nat.le_of_ble_eq_true rfl) dX11_years_58 (spX4_closeYear (Nat.le_refl _) hN hw) (fun v_ τ_ hw => ?_)
      obtain ⟨rfl, hw⟩ := hw
      obtain ⟨σ_6, rfl⟩ : ∃ z, z = τ_ := ⟨_, rfl⟩
      obtain ⟨v2_7, ev2_7⟩ : ∃ z : Int32, z = v2 + 1 := ⟨_, rfl⟩
      replace hw := hw v2_7 ev2_7
      refine go_iinc (v := v2_7) (lv2 := [(2, .int v2_7), (3, .int r_3), (0, .ref (G.2.2.1 0)), (1, .int v1)]) C 3 rfl (by rw [ev2_7]; rfl) (by rw [hnl]; decide) rfl dX11_years_61 ?_
      refine go_goto C 28 rfl dX11_years_64 ?_
      refine go_sub [2, 3, 0] rfl ?_
      exact ih _ _ _ hw
set_option maxRecDepth 20000 in
set_option maxHeartbeats 4000000 in
theorem spX11_years {l : Launch} {G : GT} {d : Nat}  (hd : 7 ≤ d)  (hN : 75 ≤ G.2.2.2.2.2)  {a1 : Int32} {σ : St} {post : Int32 → St → Prop} (hw : wpX11_years  a1 σ post) : Sp l G d yX11_years cX11_years 4 (some .int) [.ref (G.2.2.1 0), .int a1] σ (fun v τ => ∃ r : Int32, v = some (.int r) ∧ post r τ) := by
  refine Sp.of (by decide) (Nat.le_of_ble_eq_true rfl) fun X C hr hR hnl => ?_
  show Go X G 0 [(0, .ref (G.2.2.1 0)), (1, .int a1)] [] σ
  have hw : wpX11_within a1 1 20 σ (fun r_1 σ_2 =>
  ((r_1 = 0 →
    post (-1) σ_2) ∧
  (¬ r_1 = 0 →
    ((((gI σ_2 9 0) + a1) ≤ 61 →
      ∃ m_28, wbX11_years_28 post m_28 a1 0 σ_2) ∧
    (¬ ((gI σ_2 9 0) + a1) ≤ 61 →
      post (-1) σ_2))))) := hw
  refine go_iload_n C 1 rfl rfl dX11_years_0 ?_
  refine go_iconst (v := 1) C rfl dX11_years_1 ?_
  refine go_bipush (v := 20) C rfl dX11_years_2 ?_
  refine go_callS (as := [.int a1, .int 1, .int 20]) C hR cwX11_105 (Nat.le_trans (by decide) hd) (by decide) rfl rfl (Nat.le_of_ble_eq_true rfl) dX11_years_4 (spX11_within (Nat.le_refl _) hN hw) (fun v_ τ_ hw => ?_)
  obtain ⟨r_1, rfl, hw⟩ := hw
  obtain ⟨σ_2, rfl⟩ : ∃ z, z = τ_ := ⟨_, rfl⟩
  refine go_if_eq C 24 rfl dX11_years_7 (fun hc => ?_) (fun hc => ?_)
  · replace hw := hw.1 hc
    refine go_iconst (v := (-1)) C rfl dX11_years_24 ?_
    exact go_iret C hr ⟨_, rfl, hw⟩ dX11_years_25
  · replace hw := hw.2 hc
    refine go_aload_n C 0 rfl rfl dX11_years_10 ?_
    refine go_get (v := .ref (G.2.2.1 9)) C (shX11 G) (ltX11 hN) lkX11_19 rfl dX11_years_11 ?_
    refine go_get (v := .int (gI σ_2 9 0)) C (shX4 G) (ltX4 hN) lkX11_120 rfl dX11_years_14 ?_
    refine go_iload_n C 1 rfl rfl dX11_years_17 ?_
    refine go_iadd C dX11_years_18 ?_
    refine go_bipush (v := 61) C rfl dX11_years_19 ?_
    refine go_icmp_le C 26 rfl dX11_years_21 (fun hc => ?_) (fun hc => ?_)
    · replace hw := hw.1 hc
      refine go_iconst (v := 0) C rfl dX11_years_26 ?_
      refine go_istore_n (lv2 := [(2, .int 0), (0, .ref (G.2.2.1 0)), (1, .int a1)]) C rfl (by rw [hnl]; decide) rfl dX11_years_27 ?_
      refine go_sub [1, 2, 0] rfl ?_
      obtain ⟨n_0, hw⟩ := hw
      exact (gbX11_years_28 C hr hR hnl hd hN) n_0 _ _ _ hw
    · replace hw := hw.2 hc
      refine go_iconst (v := (-1)) C rfl dX11_years_24 ?_
      exact go_iret C hr ⟨_, rfl, hw⟩ dX11_years_25
-- CradleNames.isOrAll(II)Z
set_option maxRecDepth 20000 in
set_option maxHeartbeats 4000000 in
theorem spX11_isOrAll {l : Launch} {G : GT} {d : Nat}  (hd : 1 ≤ d)  (hN : 75 ≤ G.2.2.2.2.2)  {a1 : Int32} {a2 : Int32} {σ : St} {post : Int32 → St → Prop} (hw : wpX11_isOrAll  a1 a2 σ post) : Sp l G d yX11_isOrAll cX11_isOrAll 2 (some .boolean) [.int a1, .int a2] σ (fun v τ => ∃ r : Int32, v = some (.int r) ∧ post r τ) := by
  refine Sp.of (by decide) (Nat.le_of_ble_eq_true rfl) fun X C hr hR hnl => ?_
  show Go X G 0 [(0, .int a1), (1, .int a2)] [] σ
  have hw : ((a1 = (-1) →
    post 1 σ) ∧
  (¬ a1 = (-1) →
    ((¬ a1 = a2 →
      post 0 σ) ∧
    (a1 = a2 →
      post 1 σ)))) := hw
  refine go_iload_n C 0 rfl rfl dX11_isOrAll_0 ?_
  refine go_iconst (v := (-1)) C rfl dX11_isOrAll_1 ?_
  refine go_icmp_eq C 10 rfl dX11_isOrAll_2 (fun hc => ?_) (fun hc => ?_)
  · replace hw := hw.1 hc
    refine go_iconst (v := 1) C rfl dX11_isOrAll_10 ?_
    refine go_goto C 15 rfl dX11_isOrAll_11 ?_
    exact go_zret C hr rfl ⟨_, rfl, hw⟩ dX11_isOrAll_15
  · replace hw := hw.2 hc
    refine go_iload_n C 0 rfl rfl dX11_isOrAll_5 ?_
    refine go_iload_n C 1 rfl rfl dX11_isOrAll_6 ?_
    refine go_icmp_ne C 14 rfl dX11_isOrAll_7 (fun hc => ?_) (fun hc => ?_)
    · replace hw := hw.1 hc
      refine go_iconst (v := 0) C rfl dX11_isOrAll_14 ?_
      exact go_zret C hr rfl ⟨_, rfl, hw⟩ dX11_isOrAll_15
    · replace hw := hw.2 hc
      refine go_iconst (v := 1) C rfl dX11_isOrAll_10 ?_
      refine go_goto C 15 rfl dX11_isOrAll_11 ?_
      exact go_zret C hr rfl ⟨_, rfl, hw⟩ dX11_isOrAll_15
-- CradleNames.given(IIIII)I
set_option maxRecDepth 20000 in
set_option maxHeartbeats 4000000 in
theorem gbX11_given_128 {X : XT} {G : GT} {l : Launch} {d : Nat}  {post : Int32 → St → Prop} (C : Cx X G cX11_given RX11) (hr : Rt X G (some .int) (fun v τ => ∃ r : Int32, v = some (.int r) ∧ post r τ)) (hR : Rm X l d) (hnl : X.2.2.2.2.2.2.2.2.2.2.1 = 10)  (hd : 2 ≤ d) (hN : 75 ≤ G.2.2.2.2.2)  {K74 : Int32 → Int32 → Int32 → Int32 → Int32 → Int32 → Int32 → St → Prop} (hK74 : ∀ (v1 : Int32) (v2 : Int32) (v3 : Int32) (v4 : Int32) (v5 : Int32) (v6 : Int32) (v7 : Int32) (σ : St), K74 v1 v2 v3 v4 v5 v6 v7 σ → Go X G 74 [(0, .ref (G.2.2.1 0)), (1, .int v1), (2, .int v2), (3, .int v3), (4, .int v4), (5, .int v5), (6, .int v6), (7, .int v7)] [] σ)
    : ∀ (n : Nat) (v1 : Int32) (v2 : Int32) (v3 : Int32) (v4 : Int32) (v5 : Int32) (v6 : Int32) (v7 : Int32) (v8 : Int32) (v9 : Int32) (σ : St), wbX11_given_128  K74 post n v1 v2 v3 v4 v5 v6 v7 v8 v9 σ → Go X G 128 [(0, .ref (G.2.2.1 0)), (1, .int v1), (2, .int v2), (3, .int v3), (4, .int v4), (5, .int v5), (6, .int v6), (7, .int v7), (8, .int v8), (9, .int v9)] [] σ := by
  intro n
  induction n with
  | zero => intro v1 v2 v3 v4 v5 v6 v7 v8 v9 σ hw; exact hw.elim
  | succ n ih =>
    intro v1 v2 v3 v4 v5 v6 v7 v8 v9 σ hw
    have hw : (((gI σ 1 0) ≤ v9 →
      ∀ v7_1 : Int32, v7_1 = v7 + 1 →
      K74 v1 v2 v3 v4 v5 v6 v7_1 σ) ∧
    (¬ (gI σ 1 0) ≤ v9 →
      ((v8 = 0 →
        ∀ v7_2 : Int32, v7_2 = v7 + 1 →
        K74 v1 v2 v3 v4 v5 v6 v7_2 σ) ∧
      (¬ v8 = 0 →
        wpX11_isOrAll v5 v9 σ (fun r_3 σ_4 =>
        ((r_3 = 0 →
          ∀ v9_5 : Int32, v9_5 = v9 + 1 →
          wbX11_given_128 K74 post n v1 v2 v3 v4 v5 v6 v7 v8 v9_5 σ_4) ∧
        (¬ r_3 = 0 →
          ((0 ≤ v1 →
            wpX0_inRow 0 v1 v7 v9 σ_4 (fun r_6 σ_7 =>
            ∀ v6_8 : Int32, v6_8 = (v6 + r_6) →
            ∀ v9_9 : Int32, v9_9 = v9 + 1 →
            wbX11_given_128 K74 post n v1 v2 v3 v4 v5 v6_8 v7 v8 v9_9 σ_7)) ∧
          (¬ 0 ≤ v1 →
            wpX4_toldCell v1 v7 v9 σ_4 (fun r_10 σ_11 =>
            vp_in r_10 7680 ∧ (
            ∀ v6_12 : Int32, v6_12 = (v6 + (gI σ_11 10 r_10.toNatClampNeg)) →
            ∀ v9_13 : Int32, v9_13 = v9 + 1 →
            wbX11_given_128 K74 post n v1 v2 v3 v4 v5 v6_12 v7 v8 v9_13 σ_11))))))))))) := hw
    refine go_iload C 9 rfl dX11_given_128 ?_
    refine go_aload_n C 0 rfl rfl dX11_given_130 ?_
    refine go_get (v := .ref (G.2.2.1 1)) C (shX11 G) (ltX11 hN) lkX11_10 rfl dX11_given_131 ?_
    refine go_get (v := .int (gI σ 1 0)) C (shX5 G) (ltX5 hN) lkX11_109 rfl dX11_given_134 ?_
    refine go_icmp_ge C 201 rfl dX11_given_137 (fun hc => ?_) (fun hc => ?_)
    · replace hw := hw.1 hc
      obtain ⟨v7_1, ev7_1⟩ : ∃ z : Int32, z = v7 + 1 := ⟨_, rfl⟩
      replace hw := hw v7_1 ev7_1
      refine go_iinc (v := v7_1) (lv2 := [(7, .int v7_1), (0, .ref (G.2.2.1 0)), (1, .int v1), (2, .int v2), (3, .int v3), (4, .int v4), (5, .int v5), (6, .int v6), (8, .int v8), (9, .int v9)]) C 7 rfl (by rw [ev7_1]; rfl) (by rw [hnl]; decide) rfl dX11_given_201 ?_
      refine go_goto C 74 rfl dX11_given_204 ?_
      refine go_sub [1, 2, 3, 4, 5, 6, 7, 0] rfl ?_
      exact hK74 _ _ _ _ _ _ _ _ hw
    · replace hw := hw.2 hc
      refine go_iload C 8 rfl dX11_given_140 ?_
      refine go_if_eq C 201 rfl dX11_given_142 (fun hc => ?_) (fun hc => ?_)
      · replace hw := hw.1 hc
        obtain ⟨v7_2, ev7_2⟩ : ∃ z : Int32, z = v7 + 1 := ⟨_, rfl⟩
        replace hw := hw v7_2 ev7_2
        refine go_iinc (v := v7_2) (lv2 := [(7, .int v7_2), (0, .ref (G.2.2.1 0)), (1, .int v1), (2, .int v2), (3, .int v3), (4, .int v4), (5, .int v5), (6, .int v6), (8, .int v8), (9, .int v9)]) C 7 rfl (by rw [ev7_2]; rfl) (by rw [hnl]; decide) rfl dX11_given_201 ?_
        refine go_goto C 74 rfl dX11_given_204 ?_
        refine go_sub [1, 2, 3, 4, 5, 6, 7, 0] rfl ?_
        exact hK74 _ _ _ _ _ _ _ _ hw
      · replace hw := hw.2 hc
        refine go_iload C 5 rfl dX11_given_145 ?_
        refine go_iload C 9 rfl dX11_given_147 ?_
        refine go_callS (as := [.int v5, .int v9]) C hR cwX11_228 (Nat.le_trans (by decide) hd) (by decide) rfl rfl (Nat.le_of_ble_eq_true rfl) dX11_given_149 (spX11_isOrAll (Nat.le_refl _) hN hw) (fun v_ τ_ hw => ?_)
        obtain ⟨r_3, rfl, hw⟩ := hw
        obtain ⟨σ_4, rfl⟩ : ∃ z, z = τ_ := ⟨_, rfl⟩
        refine go_if_eq C 195 rfl dX11_given_152 (fun hc => ?_) (fun hc => ?_)
        · replace hw := hw.1 hc
          obtain ⟨v9_5, ev9_5⟩ : ∃ z : Int32, z = v9 + 1 := ⟨_, rfl⟩
          replace hw := hw v9_5 ev9_5
          refine go_iinc (v := v9_5) (lv2 := [(9, .int v9_5), (0, .ref (G.2.2.1 0)), (1, .int v1), (2, .int v2), (3, .int v3), (4, .int v4), (5, .int v5), (6, .int v6), (7, .int v7), (8, .int v8)]) C 9 rfl (by rw [ev9_5]; rfl) (by rw [hnl]; decide) rfl dX11_given_195 ?_
          refine go_goto C 128 rfl dX11_given_198 ?_
          refine go_sub [1, 2, 3, 4, 5, 6, 7, 8, 9, 0] rfl ?_
          exact ih _ _ _ _ _ _ _ _ _ _ hw
        · replace hw := hw.2 hc
          refine go_iload C 6 rfl dX11_given_155 ?_
          refine go_iload_n C 1 rfl rfl dX11_given_157 ?_
          refine go_if_ge C 180 rfl dX11_given_158 (fun hc => ?_) (fun hc => ?_)
          · replace hw := hw.1 hc
            refine go_aload_n C 0 rfl rfl dX11_given_180 ?_
            refine go_get (v := .ref (G.2.2.1 (21 + 4 * 0))) C (shX11 G) (ltX11 hN) lkX11_26 rfl dX11_given_181 ?_
            refine go_iload_n C 1 rfl rfl dX11_given_184 ?_
            refine go_iload C 7 rfl dX11_given_185 ?_
            refine go_iload C 9 rfl dX11_given_187 ?_
            refine go_callV (as := [.int v1, .int v7, .int v9]) C hR (shX0 G (show 0 < 2 by decide)) (ltX0 hN (show 0 < 2 by decide)) cwX11_237 (Nat.le_trans (by decide) hd) (by decide) rfl rfl (Nat.le_of_ble_eq_true rfl) dX11_given_189 (spX0_inRow (Nat.le_refl _) hN (show 0 < 2 by decide) hw) (fun v_ τ_ hw => ?_)
            obtain ⟨r_6, rfl, hw⟩ := hw
            obtain ⟨σ_7, rfl⟩ : ∃ z, z = τ_ := ⟨_, rfl⟩
            refine go_iadd C dX11_given_192 ?_
            refine go_topi (fun v6_8 ev6_8 => ?_)
            replace hw := hw v6_8 ev6_8
            refine go_istore (lv2 := [(6, .int v6_8), (0, .ref (G.2.2.1 0)), (1, .int v1), (2, .int v2), (3, .int v3), (4, .int v4), (5, .int v5), (7, .int v7), (8, .int v8), (9, .int v9)]) C (by rw [hnl]; decide) rfl dX11_given_193 ?_
            obtain ⟨v9_9, ev9_9⟩ : ∃ z : Int32, z = v9 + 1 := ⟨_, rfl⟩
            replace hw := hw v9_9 ev9_9
            refine go_iinc (v := v9_9) (lv2 := [(9, .int v9_9), (6, .int v6_8), (0, .ref (G.2.2.1 0)), (1, .int v1), (2, .int v2), (3, .int v3), (4, .int v4), (5, .int v5), (7, .int v7), (8, .int v8)]) C 9 rfl (by rw [ev9_9]; rfl) (by rw [hnl]; decide) rfl dX11_given_195 ?_
            refine go_goto C 128 rfl dX11_given_198 ?_
            refine go_sub [2, 3, 4, 5, 6, 7, 1, 8, 9, 0] rfl ?_
            exact ih _ _ _ _ _ _ _ _ _ _ hw
          · replace hw := hw.2 hc
            refine go_aload_n C 0 rfl rfl dX11_given_161 ?_
            refine go_get (v := .ref (G.2.2.1 9)) C (shX11 G) (ltX11 hN) lkX11_19 rfl dX11_given_162 ?_
            refine go_get (v := .ref (G.2.2.1 10)) C (shX4 G) (ltX4 hN) lkX11_163 rfl dX11_given_165 ?_
            refine go_iload_n C 1 rfl rfl dX11_given_168 ?_
            refine go_iload C 7 rfl dX11_given_169 ?_
            refine go_iload C 9 rfl dX11_given_171 ?_
            refine go_callS (as := [.int v1, .int v7, .int v9]) C hR cwX11_160 (Nat.le_trans (by decide) hd) (by decide) rfl rfl (Nat.le_of_ble_eq_true rfl) dX11_given_173 (spX4_toldCell (Nat.le_refl _) hN hw) (fun v_ τ_ hw => ?_)
            obtain ⟨r_10, rfl, hw⟩ := hw
            obtain ⟨σ_11, rfl⟩ : ∃ z, z = τ_ := ⟨_, rfl⟩
            refine go_iald C (saX4_told G) (laX4_told hN) hw.1 dX11_given_176 ?_
            replace hw := hw.2
            refine go_goto C 192 rfl dX11_given_177 ?_
            refine go_iadd C dX11_given_192 ?_
            refine go_topi (fun v6_12 ev6_12 => ?_)
            replace hw := hw v6_12 ev6_12
            refine go_istore (lv2 := [(6, .int v6_12), (0, .ref (G.2.2.1 0)), (1, .int v1), (2, .int v2), (3, .int v3), (4, .int v4), (5, .int v5), (7, .int v7), (8, .int v8), (9, .int v9)]) C (by rw [hnl]; decide) rfl dX11_given_193 ?_
            obtain ⟨v9_13, ev9_13⟩ : ∃ z : Int32, z = v9 + 1 := ⟨_, rfl⟩
            replace hw := hw v9_13 ev9_13
            refine go_iinc (v := v9_13) (lv2 := [(9, .int v9_13), (6, .int v6_12), (0, .ref (G.2.2.1 0)), (1, .int v1), (2, .int v2), (3, .int v3), (4, .int v4), (5, .int v5), (7, .int v7), (8, .int v8)]) C 9 rfl (by rw [ev9_13]; rfl) (by rw [hnl]; decide) rfl dX11_given_195 ?_
            refine go_goto C 128 rfl dX11_given_198 ?_
            refine go_sub [2, 3, 4, 5, 6, 7, 1, 8, 9, 0] rfl ?_
            exact ih _ _ _ _ _ _ _ _ _ _ hw
set_option maxRecDepth 20000 in
set_option maxHeartbeats 4000000 in
theorem gbX11_given_74 {X : XT} {G : GT} {l : Launch} {d : Nat}  {post : Int32 → St → Prop} (C : Cx X G cX11_given RX11) (hr : Rt X G (some .int) (fun v τ => ∃ r : Int32, v = some (.int r) ∧ post r τ)) (hR : Rm X l d) (hnl : X.2.2.2.2.2.2.2.2.2.2.1 = 10)  (hd : 2 ≤ d) (hN : 75 ≤ G.2.2.2.2.2)   
    : ∀ (n : Nat) (v1 : Int32) (v2 : Int32) (v3 : Int32) (v4 : Int32) (v5 : Int32) (v6 : Int32) (v7 : Int32) (σ : St), wbX11_given_74   post n v1 v2 v3 v4 v5 v6 v7 σ → Go X G 74 [(0, .ref (G.2.2.1 0)), (1, .int v1), (2, .int v2), (3, .int v3), (4, .int v4), (5, .int v5), (6, .int v6), (7, .int v7)] [] σ := by
  intro n
  induction n with
  | zero => intro v1 v2 v3 v4 v5 v6 v7 σ hw; exact hw.elim
  | succ n ih =>
    intro v1 v2 v3 v4 v5 v6 v7 σ hw
    have hw : ((12 ≤ v7 →
      post v6 σ) ∧
    (¬ 12 ≤ v7 →
      wpX4_placeOf v7 σ (fun r_1 σ_2 =>
      wpX11_isOrAll v2 r_1 σ_2 (fun r_3 σ_4 =>
      ((r_3 = 0 →
        ∃ m_128, wbX11_given_128 (wbX11_given_74 post n) post m_128 v1 v2 v3 v4 v5 v6 v7 0 0 σ_4) ∧
      (¬ r_3 = 0 →
        wpX4_standingOf v7 σ_4 (fun r_5 σ_6 =>
        wpX11_isOrAll v3 r_5 σ_6 (fun r_7 σ_8 =>
        ((r_7 = 0 →
          ∃ m_128, wbX11_given_128 (wbX11_given_74 post n) post m_128 v1 v2 v3 v4 v5 v6 v7 0 0 σ_8) ∧
        (¬ r_7 = 0 →
          wpX4_sexOf v7 σ_8 (fun r_9 σ_10 =>
          wpX11_isOrAll v4 r_9 σ_10 (fun r_11 σ_12 =>
          ((r_11 = 0 →
            ∃ m_128, wbX11_given_128 (wbX11_given_74 post n) post m_128 v1 v2 v3 v4 v5 v6 v7 0 0 σ_12) ∧
          (¬ r_11 = 0 →
            ∃ m_128, wbX11_given_128 (wbX11_given_74 post n) post m_128 v1 v2 v3 v4 v5 v6 v7 1 0 σ_12)))))))))))))) := hw
    refine go_iload C 7 rfl dX11_given_74 ?_
    refine go_bipush (v := 12) C rfl dX11_given_76 ?_
    refine go_icmp_ge C 207 rfl dX11_given_78 (fun hc => ?_) (fun hc => ?_)
    · replace hw := hw.1 hc
      refine go_iload C 6 rfl dX11_given_207 ?_
      exact go_iret C hr ⟨_, rfl, hw⟩ dX11_given_209
    · replace hw := hw.2 hc
      refine go_iload_n C 2 rfl rfl dX11_given_81 ?_
      refine go_iload C 7 rfl dX11_given_82 ?_
      refine go_callS (as := [.int v7]) C hR cwX11_225 (Nat.le_trans (by decide) hd) (by decide) rfl rfl (Nat.le_of_ble_eq_true rfl) dX11_given_84 (spX4_placeOf (Nat.le_refl _) hN hw) (fun v_ τ_ hw => ?_)
      obtain ⟨r_1, rfl, hw⟩ := hw
      obtain ⟨σ_2, rfl⟩ : ∃ z, z = τ_ := ⟨_, rfl⟩
      refine go_callS (as := [.int v2, .int r_1]) C hR cwX11_228 (Nat.le_trans (by decide) hd) (by decide) rfl rfl (Nat.le_of_ble_eq_true rfl) dX11_given_87 (spX11_isOrAll (Nat.le_refl _) hN hw) (fun v_ τ_ hw => ?_)
      obtain ⟨r_3, rfl, hw⟩ := hw
      obtain ⟨σ_4, rfl⟩ : ∃ z, z = τ_ := ⟨_, rfl⟩
      refine go_if_eq C 122 rfl dX11_given_90 (fun hc => ?_) (fun hc => ?_)
      · replace hw := hw.1 hc
        refine go_iconst (v := 0) C rfl dX11_given_122 ?_
        refine go_istore (lv2 := [(8, .int 0), (0, .ref (G.2.2.1 0)), (1, .int v1), (2, .int v2), (3, .int v3), (4, .int v4), (5, .int v5), (6, .int v6), (7, .int v7)]) C (by rw [hnl]; decide) rfl dX11_given_123 ?_
        refine go_iconst (v := 0) C rfl dX11_given_125 ?_
        refine go_istore (lv2 := [(9, .int 0), (8, .int 0), (0, .ref (G.2.2.1 0)), (1, .int v1), (2, .int v2), (3, .int v3), (4, .int v4), (5, .int v5), (6, .int v6), (7, .int v7)]) C (by rw [hnl]; decide) rfl dX11_given_126 ?_
        refine go_sub [2, 3, 4, 5, 6, 7, 8, 9, 1, 0] rfl ?_
        obtain ⟨n_0, hw⟩ := hw
        exact (gbX11_given_128 C hr hR hnl hd hN ih) n_0 _ _ _ _ _ _ _ _ _ _ hw
      · replace hw := hw.2 hc
        refine go_iload_n C 3 rfl rfl dX11_given_93 ?_
        refine go_iload C 7 rfl dX11_given_94 ?_
        refine go_callS (as := [.int v7]) C hR cwX11_231 (Nat.le_trans (by decide) hd) (by decide) rfl rfl (Nat.le_of_ble_eq_true rfl) dX11_given_96 (spX4_standingOf (Nat.le_refl _) hN hw) (fun v_ τ_ hw => ?_)
        obtain ⟨r_5, rfl, hw⟩ := hw
        obtain ⟨σ_6, rfl⟩ : ∃ z, z = τ_ := ⟨_, rfl⟩
        refine go_callS (as := [.int v3, .int r_5]) C hR cwX11_228 (Nat.le_trans (by decide) hd) (by decide) rfl rfl (Nat.le_of_ble_eq_true rfl) dX11_given_99 (spX11_isOrAll (Nat.le_refl _) hN hw) (fun v_ τ_ hw => ?_)
        obtain ⟨r_7, rfl, hw⟩ := hw
        obtain ⟨σ_8, rfl⟩ : ∃ z, z = τ_ := ⟨_, rfl⟩
        refine go_if_eq C 122 rfl dX11_given_102 (fun hc => ?_) (fun hc => ?_)
        · replace hw := hw.1 hc
          refine go_iconst (v := 0) C rfl dX11_given_122 ?_
          refine go_istore (lv2 := [(8, .int 0), (0, .ref (G.2.2.1 0)), (1, .int v1), (2, .int v2), (3, .int v3), (4, .int v4), (5, .int v5), (6, .int v6), (7, .int v7)]) C (by rw [hnl]; decide) rfl dX11_given_123 ?_
          refine go_iconst (v := 0) C rfl dX11_given_125 ?_
          refine go_istore (lv2 := [(9, .int 0), (8, .int 0), (0, .ref (G.2.2.1 0)), (1, .int v1), (2, .int v2), (3, .int v3), (4, .int v4), (5, .int v5), (6, .int v6), (7, .int v7)]) C (by rw [hnl]; decide) rfl dX11_given_126 ?_
          refine go_sub [2, 3, 4, 5, 6, 7, 8, 9, 1, 0] rfl ?_
          obtain ⟨n_0, hw⟩ := hw
          exact (gbX11_given_128 C hr hR hnl hd hN ih) n_0 _ _ _ _ _ _ _ _ _ _ hw
        · replace hw := hw.2 hc
          refine go_iload C 4 rfl dX11_given_105 ?_
          refine go_iload C 7 rfl dX11_given_107 ?_
          refine go_callS (as := [.int v7]) C hR cwX11_234 (Nat.le_trans (by decide) hd) (by decide) rfl rfl (Nat.le_of_ble_eq_true rfl) dX11_given_109 (spX4_sexOf (Nat.le_refl _) hN hw) (fun v_ τ_ hw => ?_)
          obtain ⟨r_9, rfl, hw⟩ := hw
          obtain ⟨σ_10, rfl⟩ : ∃ z, z = τ_ := ⟨_, rfl⟩
          refine go_callS (as := [.int v4, .int r_9]) C hR cwX11_228 (Nat.le_trans (by decide) hd) (by decide) rfl rfl (Nat.le_of_ble_eq_true rfl) dX11_given_112 (spX11_isOrAll (Nat.le_refl _) hN hw) (fun v_ τ_ hw => ?_)
          obtain ⟨r_11, rfl, hw⟩ := hw
          obtain ⟨σ_12, rfl⟩ : ∃ z, z = τ_ := ⟨_, rfl⟩
          refine go_if_eq C 122 rfl dX11_given_115 (fun hc => ?_) (fun hc => ?_)
          · replace hw := hw.1 hc
            refine go_iconst (v := 0) C rfl dX11_given_122 ?_
            refine go_istore (lv2 := [(8, .int 0), (0, .ref (G.2.2.1 0)), (1, .int v1), (2, .int v2), (3, .int v3), (4, .int v4), (5, .int v5), (6, .int v6), (7, .int v7)]) C (by rw [hnl]; decide) rfl dX11_given_123 ?_
            refine go_iconst (v := 0) C rfl dX11_given_125 ?_
            refine go_istore (lv2 := [(9, .int 0), (8, .int 0), (0, .ref (G.2.2.1 0)), (1, .int v1), (2, .int v2), (3, .int v3), (4, .int v4), (5, .int v5), (6, .int v6), (7, .int v7)]) C (by rw [hnl]; decide) rfl dX11_given_126 ?_
            refine go_sub [2, 3, 4, 5, 6, 7, 8, 9, 1, 0] rfl ?_
            obtain ⟨n_0, hw⟩ := hw
            exact (gbX11_given_128 C hr hR hnl hd hN ih) n_0 _ _ _ _ _ _ _ _ _ _ hw
          · replace hw := hw.2 hc
            refine go_iconst (v := 1) C rfl dX11_given_118 ?_
            refine go_goto C 123 rfl dX11_given_119 ?_
            refine go_istore (lv2 := [(8, .int 1), (0, .ref (G.2.2.1 0)), (1, .int v1), (2, .int v2), (3, .int v3), (4, .int v4), (5, .int v5), (6, .int v6), (7, .int v7)]) C (by rw [hnl]; decide) rfl dX11_given_123 ?_
            refine go_iconst (v := 0) C rfl dX11_given_125 ?_
            refine go_istore (lv2 := [(9, .int 0), (8, .int 1), (0, .ref (G.2.2.1 0)), (1, .int v1), (2, .int v2), (3, .int v3), (4, .int v4), (5, .int v5), (6, .int v6), (7, .int v7)]) C (by rw [hnl]; decide) rfl dX11_given_126 ?_
            refine go_sub [2, 3, 4, 5, 6, 7, 8, 9, 1, 0] rfl ?_
            obtain ⟨n_0, hw⟩ := hw
            exact (gbX11_given_128 C hr hR hnl hd hN ih) n_0 _ _ _ _ _ _ _ _ _ _ hw
set_option maxRecDepth 20000 in
set_option maxHeartbeats 4000000 in
theorem spX11_given {l : Launch} {G : GT} {d : Nat}  (hd : 2 ≤ d)  (hN : 75 ≤ G.2.2.2.2.2)  {a1 : Int32} {a2 : Int32} {a3 : Int32} {a4 : Int32} {a5 : Int32} {σ : St} {post : Int32 → St → Prop} (hw : wpX11_given  a1 a2 a3 a4 a5 σ post) : Sp l G d yX11_given cX11_given 10 (some .int) [.ref (G.2.2.1 0), .int a1, .int a2, .int a3, .int a4, .int a5] σ (fun v τ => ∃ r : Int32, v = some (.int r) ∧ post r τ) := by
  refine Sp.of (by decide) (Nat.le_of_ble_eq_true rfl) fun X C hr hR hnl => ?_
  show Go X G 0 [(0, .ref (G.2.2.1 0)), (1, .int a1), (2, .int a2), (3, .int a3), (4, .int a4), (5, .int a5)] [] σ
  have hw : wpX11_within a1 (-40) ((gI σ 9 0) - 1) σ (fun r_1 σ_2 =>
  ((r_1 = 0 →
    post (-1) σ_2) ∧
  (¬ r_1 = 0 →
    wpX11_within a5 (-1) ((gI σ_2 1 0) - 1) σ_2 (fun r_3 σ_4 =>
    ((¬ r_3 = 0 →
      wpX11_within a2 (-1) 2 σ_4 (fun r_5 σ_6 =>
      ((r_5 = 0 →
        post (-1) σ_6) ∧
      (¬ r_5 = 0 →
        wpX11_within a3 (-1) 1 σ_6 (fun r_7 σ_8 =>
        ((r_7 = 0 →
          post (-1) σ_8) ∧
        (¬ r_7 = 0 →
          wpX11_within a4 (-1) 1 σ_8 (fun r_9 σ_10 =>
          ((¬ r_9 = 0 →
            ∃ m_74, wbX11_given_74 post m_74 a1 a2 a3 a4 a5 0 0 σ_10) ∧
          (r_9 = 0 →
            post (-1) σ_10)))))))))) ∧
    (r_3 = 0 →
      post (-1) σ_4)))))) := hw
  refine go_iload_n C 1 rfl rfl dX11_given_0 ?_
  refine go_bipush (v := (-40)) C rfl dX11_given_1 ?_
  refine go_aload_n C 0 rfl rfl dX11_given_3 ?_
  refine go_get (v := .ref (G.2.2.1 9)) C (shX11 G) (ltX11 hN) lkX11_19 rfl dX11_given_4 ?_
  refine go_get (v := .int (gI σ 9 0)) C (shX4 G) (ltX4 hN) lkX11_120 rfl dX11_given_7 ?_
  refine go_iconst (v := 1) C rfl dX11_given_10 ?_
  refine go_isub C dX11_given_11 ?_
  refine go_callS (as := [.int a1, .int (-40), .int ((gI σ 9 0) - 1)]) C hR cwX11_105 (Nat.le_trans (by decide) hd) (by decide) rfl rfl (Nat.le_of_ble_eq_true rfl) dX11_given_12 (spX11_within (Nat.le_refl _) hN hw) (fun v_ τ_ hw => ?_)
  obtain ⟨r_1, rfl, hw⟩ := hw
  obtain ⟨σ_2, rfl⟩ : ∃ z, z = τ_ := ⟨_, rfl⟩
  refine go_if_eq C 36 rfl dX11_given_15 (fun hc => ?_) (fun hc => ?_)
  · replace hw := hw.1 hc
    refine go_iconst (v := (-1)) C rfl dX11_given_36 ?_
    exact go_iret C hr ⟨_, rfl, hw⟩ dX11_given_37
  · replace hw := hw.2 hc
    refine go_iload C 5 rfl dX11_given_18 ?_
    refine go_iconst (v := (-1)) C rfl dX11_given_20 ?_
    refine go_aload_n C 0 rfl rfl dX11_given_21 ?_
    refine go_get (v := .ref (G.2.2.1 1)) C (shX11 G) (ltX11 hN) lkX11_10 rfl dX11_given_22 ?_
    refine go_get (v := .int (gI σ_2 1 0)) C (shX5 G) (ltX5 hN) lkX11_109 rfl dX11_given_25 ?_
    refine go_iconst (v := 1) C rfl dX11_given_28 ?_
    refine go_isub C dX11_given_29 ?_
    refine go_callS (as := [.int a5, .int (-1), .int ((gI σ_2 1 0) - 1)]) C hR cwX11_105 (Nat.le_trans (by decide) hd) (by decide) rfl rfl (Nat.le_of_ble_eq_true rfl) dX11_given_30 (spX11_within (Nat.le_refl _) hN hw) (fun v_ τ_ hw => ?_)
    obtain ⟨r_3, rfl, hw⟩ := hw
    obtain ⟨σ_4, rfl⟩ : ∃ z, z = τ_ := ⟨_, rfl⟩
    refine go_if_ne C 38 rfl dX11_given_33 (fun hc => ?_) (fun hc => ?_)
    · replace hw := hw.1 hc
      refine go_iload_n C 2 rfl rfl dX11_given_38 ?_
      refine go_iconst (v := (-1)) C rfl dX11_given_39 ?_
      refine go_iconst (v := 2) C rfl dX11_given_40 ?_
      refine go_callS (as := [.int a2, .int (-1), .int 2]) C hR cwX11_105 (Nat.le_trans (by decide) hd) (by decide) rfl rfl (Nat.le_of_ble_eq_true rfl) dX11_given_41 (spX11_within (Nat.le_refl _) hN hw) (fun v_ τ_ hw => ?_)
      obtain ⟨r_5, rfl, hw⟩ := hw
      obtain ⟨σ_6, rfl⟩ : ∃ z, z = τ_ := ⟨_, rfl⟩
      refine go_if_eq C 66 rfl dX11_given_44 (fun hc => ?_) (fun hc => ?_)
      · replace hw := hw.1 hc
        refine go_iconst (v := (-1)) C rfl dX11_given_66 ?_
        exact go_iret C hr ⟨_, rfl, hw⟩ dX11_given_67
      · replace hw := hw.2 hc
        refine go_iload_n C 3 rfl rfl dX11_given_47 ?_
        refine go_iconst (v := (-1)) C rfl dX11_given_48 ?_
        refine go_iconst (v := 1) C rfl dX11_given_49 ?_
        refine go_callS (as := [.int a3, .int (-1), .int 1]) C hR cwX11_105 (Nat.le_trans (by decide) hd) (by decide) rfl rfl (Nat.le_of_ble_eq_true rfl) dX11_given_50 (spX11_within (Nat.le_refl _) hN hw) (fun v_ τ_ hw => ?_)
        obtain ⟨r_7, rfl, hw⟩ := hw
        obtain ⟨σ_8, rfl⟩ : ∃ z, z = τ_ := ⟨_, rfl⟩
        refine go_if_eq C 66 rfl dX11_given_53 (fun hc => ?_) (fun hc => ?_)
        · replace hw := hw.1 hc
          refine go_iconst (v := (-1)) C rfl dX11_given_66 ?_
          exact go_iret C hr ⟨_, rfl, hw⟩ dX11_given_67
        · replace hw := hw.2 hc
          refine go_iload C 4 rfl dX11_given_56 ?_
          refine go_iconst (v := (-1)) C rfl dX11_given_58 ?_
          refine go_iconst (v := 1) C rfl dX11_given_59 ?_
          refine go_callS (as := [.int a4, .int (-1), .int 1]) C hR cwX11_105 (Nat.le_trans (by decide) hd) (by decide) rfl rfl (Nat.le_of_ble_eq_true rfl) dX11_given_60 (spX11_within (Nat.le_refl _) hN hw) (fun v_ τ_ hw => ?_)
          obtain ⟨r_9, rfl, hw⟩ := hw
          obtain ⟨σ_10, rfl⟩ : ∃ z, z = τ_ := ⟨_, rfl⟩
          refine go_if_ne C 68 rfl dX11_given_63 (fun hc => ?_) (fun hc => ?_)
          · replace hw := hw.1 hc
            refine go_iconst (v := 0) C rfl dX11_given_68 ?_
            refine go_istore (lv2 := [(6, .int 0), (0, .ref (G.2.2.1 0)), (1, .int a1), (2, .int a2), (3, .int a3), (4, .int a4), (5, .int a5)]) C (by rw [hnl]; decide) rfl dX11_given_69 ?_
            refine go_iconst (v := 0) C rfl dX11_given_71 ?_
            refine go_istore (lv2 := [(7, .int 0), (6, .int 0), (0, .ref (G.2.2.1 0)), (1, .int a1), (2, .int a2), (3, .int a3), (4, .int a4), (5, .int a5)]) C (by rw [hnl]; decide) rfl dX11_given_72 ?_
            refine go_sub [2, 3, 4, 5, 6, 7, 1, 0] rfl ?_
            obtain ⟨n_0, hw⟩ := hw
            exact (gbX11_given_74 C hr hR hnl hd hN) n_0 _ _ _ _ _ _ _ _ hw
          · replace hw := hw.2 hc
            refine go_iconst (v := (-1)) C rfl dX11_given_66 ?_
            exact go_iret C hr ⟨_, rfl, hw⟩ dX11_given_67
    · replace hw := hw.2 hc
      refine go_iconst (v := (-1)) C rfl dX11_given_36 ?_
      exact go_iret C hr ⟨_, rfl, hw⟩ dX11_given_37
